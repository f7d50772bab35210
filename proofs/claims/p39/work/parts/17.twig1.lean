/-! T.<init> -/
theorem dTP_init_0 : decode (mB TP_init) 0 = .ok (.aload_n 0, 1) := by decide +kernel
theorem dTP_init_1 : decode (mB TP_init) 1 = .ok (.invokespecial 1, 3) := by decide +kernel
theorem dTP_init_4 : decode (mB TP_init) 4 = .ok (.aload_n 0, 1) := by decide +kernel
theorem dTP_init_5 : decode (mB TP_init) 5 = .ok (.new 7, 3) := by decide +kernel
theorem dTP_init_8 : decode (mB TP_init) 8 = .ok (.dup, 1) := by decide +kernel
theorem dTP_init_9 : decode (mB TP_init) 9 = .ok (.invokespecial 9, 3) := by decide +kernel
theorem dTP_init_12 : decode (mB TP_init) 12 = .ok (.putfield 10, 3) := by decide +kernel
theorem dTP_init_15 : decode (mB TP_init) 15 = .ok (.aload_n 0, 1) := by decide +kernel
theorem dTP_init_16 : decode (mB TP_init) 16 = .ok (.new 16, 3) := by decide +kernel
theorem dTP_init_19 : decode (mB TP_init) 19 = .ok (.dup, 1) := by decide +kernel
theorem dTP_init_20 : decode (mB TP_init) 20 = .ok (.aload_n 0, 1) := by decide +kernel
theorem dTP_init_21 : decode (mB TP_init) 21 = .ok (.getfield 10, 3) := by decide +kernel
theorem dTP_init_24 : decode (mB TP_init) 24 = .ok (.invokespecial 18, 3) := by decide +kernel
theorem dTP_init_27 : decode (mB TP_init) 27 = .ok (.putfield 21, 3) := by decide +kernel
theorem dTP_init_30 : decode (mB TP_init) 30 = .ok (.aload_n 0, 1) := by decide +kernel
theorem dTP_init_31 : decode (mB TP_init) 31 = .ok (.new 16, 3) := by decide +kernel
theorem dTP_init_34 : decode (mB TP_init) 34 = .ok (.dup, 1) := by decide +kernel
theorem dTP_init_35 : decode (mB TP_init) 35 = .ok (.aload_n 0, 1) := by decide +kernel
theorem dTP_init_36 : decode (mB TP_init) 36 = .ok (.getfield 10, 3) := by decide +kernel
theorem dTP_init_39 : decode (mB TP_init) 39 = .ok (.invokespecial 18, 3) := by decide +kernel
theorem dTP_init_42 : decode (mB TP_init) 42 = .ok (.putfield 25, 3) := by decide +kernel
theorem dTP_init_45 : decode (mB TP_init) 45 = .ok (.aload_n 0, 1) := by decide +kernel
theorem dTP_init_46 : decode (mB TP_init) 46 = .ok (.bipush 40, 2) := by decide +kernel
theorem dTP_init_48 : decode (mB TP_init) 48 = .ok (.anewarray 28, 3) := by decide +kernel
theorem dTP_init_51 : decode (mB TP_init) 51 = .ok (.putfield 30, 3) := by decide +kernel
theorem dTP_init_54 : decode (mB TP_init) 54 = .ok (.aload_n 0, 1) := by decide +kernel
theorem dTP_init_55 : decode (mB TP_init) 55 = .ok (.bipush 40, 2) := by decide +kernel
theorem dTP_init_57 : decode (mB TP_init) 57 = .ok (.anewarray 34, 3) := by decide +kernel
theorem dTP_init_60 : decode (mB TP_init) 60 = .ok (.putfield 36, 3) := by decide +kernel
theorem dTP_init_63 : decode (mB TP_init) 63 = .ok (.aload_n 0, 1) := by decide +kernel
theorem dTP_init_64 : decode (mB TP_init) 64 = .ok (.new 40, 3) := by decide +kernel
theorem dTP_init_67 : decode (mB TP_init) 67 = .ok (.dup, 1) := by decide +kernel
theorem dTP_init_68 : decode (mB TP_init) 68 = .ok (.aload_n 0, 1) := by decide +kernel
theorem dTP_init_69 : decode (mB TP_init) 69 = .ok (.getfield 10, 3) := by decide +kernel
theorem dTP_init_72 : decode (mB TP_init) 72 = .ok (.invokespecial 42, 3) := by decide +kernel
theorem dTP_init_75 : decode (mB TP_init) 75 = .ok (.putfield 43, 3) := by decide +kernel
theorem dTP_init_78 : decode (mB TP_init) 78 = .ok (.aload_n 0, 1) := by decide +kernel
theorem dTP_init_79 : decode (mB TP_init) 79 = .ok (.new 47, 3) := by decide +kernel
theorem dTP_init_82 : decode (mB TP_init) 82 = .ok (.dup, 1) := by decide +kernel
theorem dTP_init_83 : decode (mB TP_init) 83 = .ok (.aload_n 0, 1) := by decide +kernel
theorem dTP_init_84 : decode (mB TP_init) 84 = .ok (.getfield 10, 3) := by decide +kernel
theorem dTP_init_87 : decode (mB TP_init) 87 = .ok (.aload_n 0, 1) := by decide +kernel
theorem dTP_init_88 : decode (mB TP_init) 88 = .ok (.getfield 43, 3) := by decide +kernel
theorem dTP_init_91 : decode (mB TP_init) 91 = .ok (.invokespecial 49, 3) := by decide +kernel
theorem dTP_init_94 : decode (mB TP_init) 94 = .ok (.putfield 52, 3) := by decide +kernel
theorem dTP_init_97 : decode (mB TP_init) 97 = .ok (.aload_n 0, 1) := by decide +kernel
theorem dTP_init_98 : decode (mB TP_init) 98 = .ok (.new 56, 3) := by decide +kernel
theorem dTP_init_101 : decode (mB TP_init) 101 = .ok (.dup, 1) := by decide +kernel
theorem dTP_init_102 : decode (mB TP_init) 102 = .ok (.aload_n 0, 1) := by decide +kernel
theorem dTP_init_103 : decode (mB TP_init) 103 = .ok (.getfield 10, 3) := by decide +kernel
theorem dTP_init_106 : decode (mB TP_init) 106 = .ok (.aload_n 0, 1) := by decide +kernel
theorem dTP_init_107 : decode (mB TP_init) 107 = .ok (.getfield 25, 3) := by decide +kernel
theorem dTP_init_110 : decode (mB TP_init) 110 = .ok (.aload_n 0, 1) := by decide +kernel
theorem dTP_init_111 : decode (mB TP_init) 111 = .ok (.getfield 52, 3) := by decide +kernel
theorem dTP_init_114 : decode (mB TP_init) 114 = .ok (.invokespecial 58, 3) := by decide +kernel
theorem dTP_init_117 : decode (mB TP_init) 117 = .ok (.putfield 61, 3) := by decide +kernel
theorem dTP_init_120 : decode (mB TP_init) 120 = .ok (.aload_n 0, 1) := by decide +kernel
theorem dTP_init_121 : decode (mB TP_init) 121 = .ok (.new 65, 3) := by decide +kernel
theorem dTP_init_124 : decode (mB TP_init) 124 = .ok (.dup, 1) := by decide +kernel
theorem dTP_init_125 : decode (mB TP_init) 125 = .ok (.aload_n 0, 1) := by decide +kernel
theorem dTP_init_126 : decode (mB TP_init) 126 = .ok (.getfield 10, 3) := by decide +kernel
theorem dTP_init_129 : decode (mB TP_init) 129 = .ok (.aload_n 0, 1) := by decide +kernel
theorem dTP_init_130 : decode (mB TP_init) 130 = .ok (.getfield 25, 3) := by decide +kernel
theorem dTP_init_133 : decode (mB TP_init) 133 = .ok (.invokespecial 67, 3) := by decide +kernel
theorem dTP_init_136 : decode (mB TP_init) 136 = .ok (.putfield 70, 3) := by decide +kernel
theorem dTP_init_139 : decode (mB TP_init) 139 = .ok (.aload_n 0, 1) := by decide +kernel
theorem dTP_init_140 : decode (mB TP_init) 140 = .ok (.new 74, 3) := by decide +kernel
theorem dTP_init_143 : decode (mB TP_init) 143 = .ok (.dup, 1) := by decide +kernel
theorem dTP_init_144 : decode (mB TP_init) 144 = .ok (.invokespecial 76, 3) := by decide +kernel
theorem dTP_init_147 : decode (mB TP_init) 147 = .ok (.putfield 77, 3) := by decide +kernel
theorem dTP_init_150 : decode (mB TP_init) 150 = .ok (.return_, 1) := by decide +kernel
def w_TP_init (o : Nat) (h : tpH) (R : tpH → Prop) : Prop :=
  ∀ a1 h2, a1 = hZ h → h2 = nC h 5 0 3 → (w_Ma_init a1 h2 (fun h5 => hT h5 o = 13 ∧ (∀ h7, h7 = sR h5 o 0 (some a1) → (∀ a9 h10, a9 = hZ h7 → h10 = nC h7 1 0 10 → (hT h10 o = 13 ∧ (w_Bu_init a9 (hR h10 o 0) h10 (fun h14 => hT h14 o = 13 ∧ (∀ h16, h16 = sR h14 o 1 (some a9) → (∀ a18 h19, a18 = hZ h16 → h19 = nC h16 1 0 10 → (hT h19 o = 13 ∧ (w_Bu_init a18 (hR h19 o 0) h19 (fun h23 => hT h23 o = 13 ∧ (∀ h25, h25 = sR h23 o 2 (some a18) → (∀ a27 h28, a27 = hZ h25 → h28 = nC h25 21 40 40 → (hT h28 o = 13 ∧ (∀ h32, h32 = sR h28 o 3 (some a27) → (∀ a34 h35, a34 = hZ h32 → h35 = nC h32 19 40 40 → (hT h35 o = 13 ∧ (∀ h39, h39 = sR h35 o 5 (some a34) → (∀ a41 h42, a41 = hZ h39 → h42 = nC h39 4 0 9 → (hT h42 o = 13 ∧ (w_Li_init a41 (hR h42 o 0) h42 (fun h46 => hT h46 o = 13 ∧ (∀ h48, h48 = sR h46 o 7 (some a41) → (∀ a50 h51, a50 = hZ h48 → h51 = nC h48 6 0 9 → (hT h51 o = 13 ∧ (w_Mt_init a50 (hR h51 o 0) (hR h51 o 7) h51 (fun h55 => hT h55 o = 13 ∧ (∀ h57, h57 = sR h55 o 8 (some a50) → (∀ a59 h60, a59 = hZ h57 → h60 = nC h57 2 0 7 → (hT h60 o = 13 ∧ (w_Fi_init a59 (hR h60 o 0) (hR h60 o 2) (hR h60 o 8) h60 (fun h64 => hT h64 o = 13 ∧ (∀ h66, h66 = sR h64 o 9 (some a59) → (∀ a68 h69, a68 = hZ h66 → h69 = nC h66 7 0 12 → (hT h69 o = 13 ∧ (w_Mg_init a68 (hR h69 o 0) (hR h69 o 2) h69 (fun h73 => hT h73 o = 13 ∧ (∀ h75, h75 = sR h73 o 11 (some a68) → (∀ a77 h78, a77 = hZ h75 → h78 = nC h75 3 0 7 → (w_Hi_init a77 h78 (fun h81 => hT h81 o = 13 ∧ (∀ h83, h83 = sR h81 o 12 (some a77) → (R h83))))))))))))))))))))))))))))))))))))))))))))
theorem s_TP_init {o : Nat} {h : tpH} {R : tpH → Prop} (hw : w_TP_init o h R) : tpC TP_init 3 [vR (some o)] h (tpOv R (fun _ _ => False)) := by
  refine tpC_of mi_TP_init.2.2.2.1 rfl rfl (Nat.le_of_ble_eq_true rfl) ?_
  show tpR TP_init 3 h _ _ 0 [some (vR (some o))] [] h
  unfold w_TP_init at hw
  refine tq_aload_n dTP_init_0 rfl rfl ?_
  refine tq_obj oTP_1 (Nat.le_of_ble_eq_true rfl) (Nat.le_of_ble_eq_true rfl) dTP_init_1 ?_
  refine tq_aload_n dTP_init_4 rfl rfl ?_
  refine tq_new (ci := 4) cTP_7 ti_4 rfl dTP_init_5 (fun a1 h2 e3 e4 => ?_)
  have hw := hw a1 h2 e3 e4
  refine tq_dup dTP_init_8 rfl ?_
  refine te_init mi_Ma_init (dc := 2) (as := []) (rest := [vR (some a1), vR (some o)]) (Or.inr ⟨"TwigPatch", by decide +kernel⟩) (Nat.le_of_ble_eq_true rfl) (Nat.le_of_ble_eq_true rfl) rfl rfl rfl (Nat.le_of_ble_eq_true rfl) dTP_init_9 (s_Ma_init hw) (fun _ _ hx => hx) (tk_v fun h5 hw => ?_)
  obtain ⟨f6, hw⟩ := hw
  refine te_putr dTP_init_12 pTP_10 rfl rfl rfl f6 (fun h7 e8 => ?_)
  have hw := hw h7 e8
  refine tq_aload_n dTP_init_15 rfl rfl ?_
  refine tq_new (ci := 0) cTP_16 ti_0 rfl dTP_init_16 (fun a9 h10 e11 e12 => ?_)
  have hw := hw a9 h10 e11 e12
  refine tq_dup dTP_init_19 rfl ?_
  refine tq_aload_n dTP_init_20 rfl rfl ?_
  obtain ⟨f13, hw⟩ := hw
  refine te_getr dTP_init_21 fTP_10 rfl rfl f13 ?_
  refine te_init mi_Bu_init (dc := 2) (as := [vR (hR h10 o 0)]) (rest := [vR (some a9), vR (some o)]) (Or.inl kTP_18) (Nat.le_of_ble_eq_true rfl) (Nat.le_of_ble_eq_true rfl) rfl rfl rfl (Nat.le_of_ble_eq_true rfl) dTP_init_24 (s_Bu_init hw) (fun _ _ hx => hx) (tk_v fun h14 hw => ?_)
  obtain ⟨f15, hw⟩ := hw
  refine te_putr dTP_init_27 pTP_21 rfl rfl rfl f15 (fun h16 e17 => ?_)
  have hw := hw h16 e17
  refine tq_aload_n dTP_init_30 rfl rfl ?_
  refine tq_new (ci := 0) cTP_16 ti_0 rfl dTP_init_31 (fun a18 h19 e20 e21 => ?_)
  have hw := hw a18 h19 e20 e21
  refine tq_dup dTP_init_34 rfl ?_
  refine tq_aload_n dTP_init_35 rfl rfl ?_
  obtain ⟨f22, hw⟩ := hw
  refine te_getr dTP_init_36 fTP_10 rfl rfl f22 ?_
  refine te_init mi_Bu_init (dc := 2) (as := [vR (hR h19 o 0)]) (rest := [vR (some a18), vR (some o)]) (Or.inl kTP_18) (Nat.le_of_ble_eq_true rfl) (Nat.le_of_ble_eq_true rfl) rfl rfl rfl (Nat.le_of_ble_eq_true rfl) dTP_init_39 (s_Bu_init hw) (fun _ _ hx => hx) (tk_v fun h23 hw => ?_)
  obtain ⟨f24, hw⟩ := hw
  refine te_putr dTP_init_42 pTP_25 rfl rfl rfl f24 (fun h25 e26 => ?_)
  have hw := hw h25 e26
  refine tq_aload_n dTP_init_45 rfl rfl ?_
  refine tq_bipush (v := (40 : Int32)) dTP_init_46 tnb_40 ?_
  refine tq_anew tpQ0_Tr cTP_28 (by decide) (N := 40) dTP_init_48 (by decide) (by decide) (Nat.le_of_ble_eq_true rfl) (fun a27 h28 e29 e30 => ?_)
  have hw := hw a27 h28 e29 e30
  obtain ⟨f31, hw⟩ := hw
  refine te_putr dTP_init_51 pTP_30 rfl rfl rfl f31 (fun h32 e33 => ?_)
  have hw := hw h32 e33
  refine tq_aload_n dTP_init_54 rfl rfl ?_
  refine tq_bipush (v := (40 : Int32)) dTP_init_55 tnb_40 ?_
  refine tq_anew tpQ0_Sc cTP_34 (by decide) (N := 40) dTP_init_57 (by decide) (by decide) (Nat.le_of_ble_eq_true rfl) (fun a34 h35 e36 e37 => ?_)
  have hw := hw a34 h35 e36 e37
  obtain ⟨f38, hw⟩ := hw
  refine te_putr dTP_init_60 pTP_36 rfl rfl rfl f38 (fun h39 e40 => ?_)
  have hw := hw h39 e40
  refine tq_aload_n dTP_init_63 rfl rfl ?_
  refine tq_new (ci := 3) cTP_40 ti_3 rfl dTP_init_64 (fun a41 h42 e43 e44 => ?_)
  have hw := hw a41 h42 e43 e44
  refine tq_dup dTP_init_67 rfl ?_
  refine tq_aload_n dTP_init_68 rfl rfl ?_
  obtain ⟨f45, hw⟩ := hw
  refine te_getr dTP_init_69 fTP_10 rfl rfl f45 ?_
  refine te_init mi_Li_init (dc := 2) (as := [vR (hR h42 o 0)]) (rest := [vR (some a41), vR (some o)]) (Or.inl kTP_42) (Nat.le_of_ble_eq_true rfl) (Nat.le_of_ble_eq_true rfl) rfl rfl rfl (Nat.le_of_ble_eq_true rfl) dTP_init_72 (s_Li_init hw) (fun _ _ hx => hx) (tk_v fun h46 hw => ?_)
  obtain ⟨f47, hw⟩ := hw
  refine te_putr dTP_init_75 pTP_43 rfl rfl rfl f47 (fun h48 e49 => ?_)
  have hw := hw h48 e49
  refine tq_aload_n dTP_init_78 rfl rfl ?_
  refine tq_new (ci := 5) cTP_47 ti_5 rfl dTP_init_79 (fun a50 h51 e52 e53 => ?_)
  have hw := hw a50 h51 e52 e53
  refine tq_dup dTP_init_82 rfl ?_
  refine tq_aload_n dTP_init_83 rfl rfl ?_
  obtain ⟨f54, hw⟩ := hw
  refine te_getr dTP_init_84 fTP_10 rfl rfl f54 ?_
  refine tq_aload_n dTP_init_87 rfl rfl ?_
  refine te_getr dTP_init_88 fTP_43 rfl rfl f54 ?_
  refine te_init mi_Mt_init (dc := 2) (as := [vR (hR h51 o 0), vR (hR h51 o 7)]) (rest := [vR (some a50), vR (some o)]) (Or.inl kTP_49) (Nat.le_of_ble_eq_true rfl) (Nat.le_of_ble_eq_true rfl) rfl rfl rfl (Nat.le_of_ble_eq_true rfl) dTP_init_91 (s_Mt_init hw) (fun _ _ hx => hx) (tk_v fun h55 hw => ?_)
  obtain ⟨f56, hw⟩ := hw
  refine te_putr dTP_init_94 pTP_52 rfl rfl rfl f56 (fun h57 e58 => ?_)
  have hw := hw h57 e58
  refine tq_aload_n dTP_init_97 rfl rfl ?_
  refine tq_new (ci := 1) cTP_56 ti_1 rfl dTP_init_98 (fun a59 h60 e61 e62 => ?_)
  have hw := hw a59 h60 e61 e62
  refine tq_dup dTP_init_101 rfl ?_
  refine tq_aload_n dTP_init_102 rfl rfl ?_
  obtain ⟨f63, hw⟩ := hw
  refine te_getr dTP_init_103 fTP_10 rfl rfl f63 ?_
  refine tq_aload_n dTP_init_106 rfl rfl ?_
  refine te_getr dTP_init_107 fTP_25 rfl rfl f63 ?_
  refine tq_aload_n dTP_init_110 rfl rfl ?_
  refine te_getr dTP_init_111 fTP_52 rfl rfl f63 ?_
  refine te_init mi_Fi_init (dc := 2) (as := [vR (hR h60 o 0), vR (hR h60 o 2), vR (hR h60 o 8)]) (rest := [vR (some a59), vR (some o)]) (Or.inl kTP_58) (Nat.le_of_ble_eq_true rfl) (Nat.le_of_ble_eq_true rfl) rfl rfl rfl (Nat.le_of_ble_eq_true rfl) dTP_init_114 (s_Fi_init hw) (fun _ _ hx => hx) (tk_v fun h64 hw => ?_)
  obtain ⟨f65, hw⟩ := hw
  refine te_putr dTP_init_117 pTP_61 rfl rfl rfl f65 (fun h66 e67 => ?_)
  have hw := hw h66 e67
  refine tq_aload_n dTP_init_120 rfl rfl ?_
  refine tq_new (ci := 6) cTP_65 ti_6 rfl dTP_init_121 (fun a68 h69 e70 e71 => ?_)
  have hw := hw a68 h69 e70 e71
  refine tq_dup dTP_init_124 rfl ?_
  refine tq_aload_n dTP_init_125 rfl rfl ?_
  obtain ⟨f72, hw⟩ := hw
  refine te_getr dTP_init_126 fTP_10 rfl rfl f72 ?_
  refine tq_aload_n dTP_init_129 rfl rfl ?_
  refine te_getr dTP_init_130 fTP_25 rfl rfl f72 ?_
  refine te_init mi_Mg_init (dc := 2) (as := [vR (hR h69 o 0), vR (hR h69 o 2)]) (rest := [vR (some a68), vR (some o)]) (Or.inl kTP_67) (Nat.le_of_ble_eq_true rfl) (Nat.le_of_ble_eq_true rfl) rfl rfl rfl (Nat.le_of_ble_eq_true rfl) dTP_init_133 (s_Mg_init hw) (fun _ _ hx => hx) (tk_v fun h73 hw => ?_)
  obtain ⟨f74, hw⟩ := hw
  refine te_putr dTP_init_136 pTP_70 rfl rfl rfl f74 (fun h75 e76 => ?_)
  have hw := hw h75 e76
  refine tq_aload_n dTP_init_139 rfl rfl ?_
  refine tq_new (ci := 2) cTP_74 ti_2 rfl dTP_init_140 (fun a77 h78 e79 e80 => ?_)
  have hw := hw a77 h78 e79 e80
  refine tq_dup dTP_init_143 rfl ?_
  refine te_init mi_Hi_init (dc := 2) (as := []) (rest := [vR (some a77), vR (some o)]) (Or.inr ⟨"TwigPatch", by decide +kernel⟩) (Nat.le_of_ble_eq_true rfl) (Nat.le_of_ble_eq_true rfl) rfl rfl rfl (Nat.le_of_ble_eq_true rfl) dTP_init_144 (s_Hi_init hw) (fun _ _ hx => hx) (tk_v fun h81 hw => ?_)
  obtain ⟨f82, hw⟩ := hw
  refine te_putr dTP_init_147 pTP_77 rfl rfl rfl f82 (fun h83 e84 => ?_)
  have hw := hw h83 e84
  exact tq_vret rfl dTP_init_150 hw
/-! T.needKind -/
theorem dTP_needKind_0 : decode (mB TP_needKind) 0 = .ok (.iload_n 1, 1) := by decide +kernel
theorem dTP_needKind_1 : decode (mB TP_needKind) 1 = .ok (.ifCond .lt 9, 3) := by decide +kernel
theorem dTP_needKind_4 : decode (mB TP_needKind) 4 = .ok (.iload_n 1, 1) := by decide +kernel
theorem dTP_needKind_5 : decode (mB TP_needKind) 5 = .ok (.bipush 6, 2) := by decide +kernel
theorem dTP_needKind_7 : decode (mB TP_needKind) 7 = .ok (.if_icmp .lt 14, 3) := by decide +kernel
theorem dTP_needKind_10 : decode (mB TP_needKind) 10 = .ok (.new 214, 3) := by decide +kernel
theorem dTP_needKind_13 : decode (mB TP_needKind) 13 = .ok (.dup, 1) := by decide +kernel
theorem dTP_needKind_14 : decode (mB TP_needKind) 14 = .ok (.ldc_w 424, 3) := by decide +kernel
theorem dTP_needKind_17 : decode (mB TP_needKind) 17 = .ok (.invokespecial 218, 3) := by decide +kernel
theorem dTP_needKind_20 : decode (mB TP_needKind) 20 = .ok (.athrow, 1) := by decide +kernel
theorem dTP_needKind_21 : decode (mB TP_needKind) 21 = .ok (.return_, 1) := by decide +kernel
def w_TP_needKind (o : Nat) (x1 : Int32) (h : tpH) (X : String → tpH → Prop) (R : tpH → Prop) : Prop :=
  (x1 < 0 → (X "java/lang/IllegalArgumentException" (nC h 0 0 6))) ∧ (¬ x1 < 0 → ((x1 < (6 : Int32) → (R h)) ∧ (¬ x1 < (6 : Int32) → (X "java/lang/IllegalArgumentException" (nC h 0 0 6)))))
theorem s_TP_needKind {o : Nat} {x1 : Int32} {h : tpH} {R : tpH → Prop} {X : String → tpH → Prop} (hw : w_TP_needKind o x1 h X R) : tpC TP_needKind 6 [vR (some o), vI x1] h (tpOv R X) := by
  refine tpC_of mv_TP_needKind.2.2.2.1 rfl rfl (Nat.le_of_ble_eq_true rfl) ?_
  show tpR TP_needKind 6 h _ _ 0 [some (vR (some o)), some (vI x1)] [] h
  unfold w_TP_needKind at hw
  refine tq_iload_n dTP_needKind_0 rfl rfl ?_
  refine tq_iflt (tgt := 10) dTP_needKind_1 (by decide) (fun c1 => ?_) (fun c1 => ?_)
  · have hw := hw.1 c1
    exact tq_thr thTP_218 cTP_214 (tx := "the kind is out of range") (by decide +kernel) (Nat.le_of_ble_eq_true rfl) (Nat.le_of_ble_eq_true rfl) rfl ⟨⟨dTP_needKind_10, dTP_needKind_13⟩, Or.inr ⟨dTP_needKind_14, dTP_needKind_17, dTP_needKind_20⟩⟩ hw
  · have hw := hw.2 c1
    refine tq_iload_n dTP_needKind_4 rfl rfl ?_
    refine tq_bipush (v := (6 : Int32)) dTP_needKind_5 tnb_6 ?_
    refine tq_icmplt (tgt := 21) dTP_needKind_7 (by decide) (fun c2 => ?_) (fun c2 => ?_)
    · have hw := hw.1 c2
      exact tq_vret rfl dTP_needKind_21 hw
    · have hw := hw.2 c2
      exact tq_thr thTP_218 cTP_214 (tx := "the kind is out of range") (by decide +kernel) (Nat.le_of_ble_eq_true rfl) (Nat.le_of_ble_eq_true rfl) rfl ⟨⟨dTP_needKind_10, dTP_needKind_13⟩, Or.inr ⟨dTP_needKind_14, dTP_needKind_17, dTP_needKind_20⟩⟩ hw
/-! T.needValue -/
theorem dTP_needValue_0 : decode (mB TP_needValue) 0 = .ok (.iload_n 1, 1) := by decide +kernel
theorem dTP_needValue_1 : decode (mB TP_needValue) 1 = .ok (.ifCond .lt 9, 3) := by decide +kernel
theorem dTP_needValue_4 : decode (mB TP_needValue) 4 = .ok (.iload_n 1, 1) := by decide +kernel
theorem dTP_needValue_5 : decode (mB TP_needValue) 5 = .ok (.bipush 100, 2) := by decide +kernel
theorem dTP_needValue_7 : decode (mB TP_needValue) 7 = .ok (.if_icmp .lt 14, 3) := by decide +kernel
theorem dTP_needValue_10 : decode (mB TP_needValue) 10 = .ok (.new 214, 3) := by decide +kernel
theorem dTP_needValue_13 : decode (mB TP_needValue) 13 = .ok (.dup, 1) := by decide +kernel
theorem dTP_needValue_14 : decode (mB TP_needValue) 14 = .ok (.ldc_w 426, 3) := by decide +kernel
theorem dTP_needValue_17 : decode (mB TP_needValue) 17 = .ok (.invokespecial 218, 3) := by decide +kernel
theorem dTP_needValue_20 : decode (mB TP_needValue) 20 = .ok (.athrow, 1) := by decide +kernel
theorem dTP_needValue_21 : decode (mB TP_needValue) 21 = .ok (.return_, 1) := by decide +kernel
def w_TP_needValue (o : Nat) (x1 : Int32) (h : tpH) (X : String → tpH → Prop) (R : tpH → Prop) : Prop :=
  (x1 < 0 → (X "java/lang/IllegalArgumentException" (nC h 0 0 6))) ∧ (¬ x1 < 0 → ((x1 < (100 : Int32) → (R h)) ∧ (¬ x1 < (100 : Int32) → (X "java/lang/IllegalArgumentException" (nC h 0 0 6)))))
theorem s_TP_needValue {o : Nat} {x1 : Int32} {h : tpH} {R : tpH → Prop} {X : String → tpH → Prop} (hw : w_TP_needValue o x1 h X R) : tpC TP_needValue 6 [vR (some o), vI x1] h (tpOv R X) := by
  refine tpC_of mv_TP_needValue.2.2.2.1 rfl rfl (Nat.le_of_ble_eq_true rfl) ?_
  show tpR TP_needValue 6 h _ _ 0 [some (vR (some o)), some (vI x1)] [] h
  unfold w_TP_needValue at hw
  refine tq_iload_n dTP_needValue_0 rfl rfl ?_
  refine tq_iflt (tgt := 10) dTP_needValue_1 (by decide) (fun c1 => ?_) (fun c1 => ?_)
  · have hw := hw.1 c1
    exact tq_thr thTP_218 cTP_214 (tx := "the value is out of range") (by decide +kernel) (Nat.le_of_ble_eq_true rfl) (Nat.le_of_ble_eq_true rfl) rfl ⟨⟨dTP_needValue_10, dTP_needValue_13⟩, Or.inr ⟨dTP_needValue_14, dTP_needValue_17, dTP_needValue_20⟩⟩ hw
  · have hw := hw.2 c1
    refine tq_iload_n dTP_needValue_4 rfl rfl ?_
    refine tq_bipush (v := (100 : Int32)) dTP_needValue_5 tnb_100 ?_
    refine tq_icmplt (tgt := 21) dTP_needValue_7 (by decide) (fun c2 => ?_) (fun c2 => ?_)
    · have hw := hw.1 c2
      exact tq_vret rfl dTP_needValue_21 hw
    · have hw := hw.2 c2
      exact tq_thr thTP_218 cTP_214 (tx := "the value is out of range") (by decide +kernel) (Nat.le_of_ble_eq_true rfl) (Nat.le_of_ble_eq_true rfl) rfl ⟨⟨dTP_needValue_10, dTP_needValue_13⟩, Or.inr ⟨dTP_needValue_14, dTP_needValue_17, dTP_needValue_20⟩⟩ hw
/-! T.needLooks -/
theorem dTP_needLooks_0 : decode (mB TP_needLooks) 0 = .ok (.aload_n 0, 1) := by decide +kernel
theorem dTP_needLooks_1 : decode (mB TP_needLooks) 1 = .ok (.iload_n 1, 1) := by decide +kernel
theorem dTP_needLooks_2 : decode (mB TP_needLooks) 2 = .ok (.invokevirtual 367, 3) := by decide +kernel
theorem dTP_needLooks_5 : decode (mB TP_needLooks) 5 = .ok (.aload_n 0, 1) := by decide +kernel
theorem dTP_needLooks_6 : decode (mB TP_needLooks) 6 = .ok (.iload_n 2, 1) := by decide +kernel
theorem dTP_needLooks_7 : decode (mB TP_needLooks) 7 = .ok (.invokevirtual 132, 3) := by decide +kernel
theorem dTP_needLooks_10 : decode (mB TP_needLooks) 10 = .ok (.iload_n 3, 1) := by decide +kernel
theorem dTP_needLooks_11 : decode (mB TP_needLooks) 11 = .ok (.iconst (-1), 1) := by decide +kernel
theorem dTP_needLooks_12 : decode (mB TP_needLooks) 12 = .ok (.if_icmp .eq 24, 3) := by decide +kernel
theorem dTP_needLooks_15 : decode (mB TP_needLooks) 15 = .ok (.iload_n 3, 1) := by decide +kernel
theorem dTP_needLooks_16 : decode (mB TP_needLooks) 16 = .ok (.ifCond .lt 9, 3) := by decide +kernel
theorem dTP_needLooks_19 : decode (mB TP_needLooks) 19 = .ok (.iload_n 3, 1) := by decide +kernel
theorem dTP_needLooks_20 : decode (mB TP_needLooks) 20 = .ok (.bipush 100, 2) := by decide +kernel
theorem dTP_needLooks_22 : decode (mB TP_needLooks) 22 = .ok (.if_icmp .lt 14, 3) := by decide +kernel
theorem dTP_needLooks_25 : decode (mB TP_needLooks) 25 = .ok (.new 214, 3) := by decide +kernel
theorem dTP_needLooks_28 : decode (mB TP_needLooks) 28 = .ok (.dup, 1) := by decide +kernel
theorem dTP_needLooks_29 : decode (mB TP_needLooks) 29 = .ok (.ldc_w 428, 3) := by decide +kernel
theorem dTP_needLooks_32 : decode (mB TP_needLooks) 32 = .ok (.invokespecial 218, 3) := by decide +kernel
theorem dTP_needLooks_35 : decode (mB TP_needLooks) 35 = .ok (.athrow, 1) := by decide +kernel
theorem dTP_needLooks_36 : decode (mB TP_needLooks) 36 = .ok (.return_, 1) := by decide +kernel
def w_TP_needLooks (o : Nat) (x1 : Int32) (x2 : Int32) (x3 : Int32) (h : tpH) (X : String → tpH → Prop) (R : tpH → Prop) : Prop :=
  hT h o = 13 ∧ (w_TP_needKind o x1 h X (fun h2 => hT h2 o = 13 ∧ (w_TP_needValue o x2 h2 X (fun h4 => (x3 = (-1 : Int32) → (R h4)) ∧ (¬ x3 = (-1 : Int32) → ((x3 < 0 → (X "java/lang/IllegalArgumentException" (nC h4 0 0 6))) ∧ (¬ x3 < 0 → ((x3 < (100 : Int32) → (R h4)) ∧ (¬ x3 < (100 : Int32) → (X "java/lang/IllegalArgumentException" (nC h4 0 0 6)))))))))))
theorem s_TP_needLooks {o : Nat} {x1 : Int32} {x2 : Int32} {x3 : Int32} {h : tpH} {R : tpH → Prop} {X : String → tpH → Prop} (hw : w_TP_needLooks o x1 x2 x3 h X R) : tpC TP_needLooks 7 [vR (some o), vI x1, vI x2, vI x3] h (tpOv R X) := by
  refine tpC_of mv_TP_needLooks.2.2.2.1 rfl rfl (Nat.le_of_ble_eq_true rfl) ?_
  show tpR TP_needLooks 7 h _ _ 0 [some (vR (some o)), some (vI x1), some (vI x2), some (vI x3)] [] h
  unfold w_TP_needLooks at hw
  refine tq_aload_n dTP_needLooks_0 rfl rfl ?_
  refine tq_iload_n dTP_needLooks_1 rfl rfl ?_
  obtain ⟨f1, hw⟩ := hw
  refine te_callV mv_TP_needKind (ci := 12) (dc := 6) (as := [vI x1]) (rest := []) kTP_367 rfl (Nat.le_of_ble_eq_true rfl) (Nat.le_of_ble_eq_true rfl) rfl rfl rfl f1 (Nat.le_of_ble_eq_true rfl) dTP_needLooks_2 (s_TP_needKind hw) (fun _ _ hx => tpXx.out rfl hx) (tk_v fun h2 hw => ?_)
  refine tq_aload_n dTP_needLooks_5 rfl rfl ?_
  refine tq_iload_n dTP_needLooks_6 rfl rfl ?_
  obtain ⟨f3, hw⟩ := hw
  refine te_callV mv_TP_needValue (ci := 12) (dc := 6) (as := [vI x2]) (rest := []) kTP_132 rfl (Nat.le_of_ble_eq_true rfl) (Nat.le_of_ble_eq_true rfl) rfl rfl rfl f3 (Nat.le_of_ble_eq_true rfl) dTP_needLooks_7 (s_TP_needValue hw) (fun _ _ hx => tpXx.out rfl hx) (tk_v fun h4 hw => ?_)
  refine tq_iload_n dTP_needLooks_10 rfl rfl ?_
  refine tq_iconst (v := (-1 : Int32)) dTP_needLooks_11 tni_m1 ?_
  refine tq_icmpeq (tgt := 36) dTP_needLooks_12 (by decide) (fun c5 => ?_) (fun c5 => ?_)
  · have hw := hw.1 c5
    exact tq_vret rfl dTP_needLooks_36 hw
  · have hw := hw.2 c5
    refine tq_iload_n dTP_needLooks_15 rfl rfl ?_
    refine tq_iflt (tgt := 25) dTP_needLooks_16 (by decide) (fun c6 => ?_) (fun c6 => ?_)
    · have hw := hw.1 c6
      exact tq_thr thTP_218 cTP_214 (tx := "the identity is out of range") (by decide +kernel) (Nat.le_of_ble_eq_true rfl) (Nat.le_of_ble_eq_true rfl) rfl ⟨⟨dTP_needLooks_25, dTP_needLooks_28⟩, Or.inr ⟨dTP_needLooks_29, dTP_needLooks_32, dTP_needLooks_35⟩⟩ hw
    · have hw := hw.2 c6
      refine tq_iload_n dTP_needLooks_19 rfl rfl ?_
      refine tq_bipush (v := (100 : Int32)) dTP_needLooks_20 tnb_100 ?_
      refine tq_icmplt (tgt := 36) dTP_needLooks_22 (by decide) (fun c7 => ?_) (fun c7 => ?_)
      · have hw := hw.1 c7
        exact tq_vret rfl dTP_needLooks_36 hw
      · have hw := hw.2 c7
        exact tq_thr thTP_218 cTP_214 (tx := "the identity is out of range") (by decide +kernel) (Nat.le_of_ble_eq_true rfl) (Nat.le_of_ble_eq_true rfl) rfl ⟨⟨dTP_needLooks_25, dTP_needLooks_28⟩, Or.inr ⟨dTP_needLooks_29, dTP_needLooks_32, dTP_needLooks_35⟩⟩ hw
/-! T.needFreeMark -/
theorem dTP_needFreeMark_0 : decode (mB TP_needFreeMark) 0 = .ok (.aload_n 0, 1) := by decide +kernel
theorem dTP_needFreeMark_1 : decode (mB TP_needFreeMark) 1 = .ok (.getfield 10, 3) := by decide +kernel
theorem dTP_needFreeMark_4 : decode (mB TP_needFreeMark) 4 = .ok (.getfield 405, 3) := by decide +kernel
theorem dTP_needFreeMark_7 : decode (mB TP_needFreeMark) 7 = .ok (.sipush 300, 3) := by decide +kernel
theorem dTP_needFreeMark_10 : decode (mB TP_needFreeMark) 10 = .ok (.if_icmp .lt 14, 3) := by decide +kernel
theorem dTP_needFreeMark_13 : decode (mB TP_needFreeMark) 13 = .ok (.new 116, 3) := by decide +kernel
theorem dTP_needFreeMark_16 : decode (mB TP_needFreeMark) 16 = .ok (.dup, 1) := by decide +kernel
theorem dTP_needFreeMark_17 : decode (mB TP_needFreeMark) 17 = .ok (.ldc_w 430, 3) := by decide +kernel
theorem dTP_needFreeMark_20 : decode (mB TP_needFreeMark) 20 = .ok (.invokespecial 120, 3) := by decide +kernel
theorem dTP_needFreeMark_23 : decode (mB TP_needFreeMark) 23 = .ok (.athrow, 1) := by decide +kernel
theorem dTP_needFreeMark_24 : decode (mB TP_needFreeMark) 24 = .ok (.return_, 1) := by decide +kernel
def w_TP_needFreeMark (o : Nat) (h : tpH) (X : String → tpH → Prop) (R : tpH → Prop) : Prop :=
  hT h o = 13 ∧ (∃ a2, (hR h o 0) = some a2 ∧ hT h a2 = 5 ∧ (((hI h a2 2) < (300 : Int32) → (R h)) ∧ (¬ (hI h a2 2) < (300 : Int32) → (X "java/lang/IllegalStateException" (nC h 0 0 6)))))
theorem s_TP_needFreeMark {o : Nat} {h : tpH} {R : tpH → Prop} {X : String → tpH → Prop} (hw : w_TP_needFreeMark o h X R) : tpC TP_needFreeMark 6 [vR (some o)] h (tpOv R X) := by
  refine tpC_of mv_TP_needFreeMark.2.2.2.1 rfl rfl (Nat.le_of_ble_eq_true rfl) ?_
  show tpR TP_needFreeMark 6 h _ _ 0 [some (vR (some o))] [] h
  unfold w_TP_needFreeMark at hw
  refine tq_aload_n dTP_needFreeMark_0 rfl rfl ?_
  obtain ⟨f1, hw⟩ := hw
  refine te_getr dTP_needFreeMark_1 fTP_10 rfl rfl f1 ?_
  obtain ⟨a2, e3, f4, hw⟩ := hw
  refine te_geti dTP_needFreeMark_4 fTP_405 rfl e3 f4 ?_
  refine tq_sipush (v := (300 : Int32)) dTP_needFreeMark_7 tns_300 ?_
  refine tq_icmplt (tgt := 24) dTP_needFreeMark_10 (by decide) (fun c5 => ?_) (fun c5 => ?_)
  · have hw := hw.1 c5
    exact tq_vret rfl dTP_needFreeMark_24 hw
  · have hw := hw.2 c5
    exact tq_thr thTP_120 cTP_116 (tx := "there are no more marks") (by decide +kernel) (Nat.le_of_ble_eq_true rfl) (Nat.le_of_ble_eq_true rfl) rfl ⟨⟨dTP_needFreeMark_13, dTP_needFreeMark_16⟩, Or.inr ⟨dTP_needFreeMark_17, dTP_needFreeMark_20, dTP_needFreeMark_23⟩⟩ hw
/-! T.begin -/
theorem dTP_begin_0 : decode (mB TP_begin) 0 = .ok (.aload_n 0, 1) := by decide +kernel
theorem dTP_begin_1 : decode (mB TP_begin) 1 = .ok (.iload_n 1, 1) := by decide +kernel
theorem dTP_begin_2 : decode (mB TP_begin) 2 = .ok (.iload_n 2, 1) := by decide +kernel
theorem dTP_begin_3 : decode (mB TP_begin) 3 = .ok (.iload_n 3, 1) := by decide +kernel
theorem dTP_begin_4 : decode (mB TP_begin) 4 = .ok (.invokevirtual 81, 3) := by decide +kernel
theorem dTP_begin_7 : decode (mB TP_begin) 7 = .ok (.aload_n 0, 1) := by decide +kernel
theorem dTP_begin_8 : decode (mB TP_begin) 8 = .ok (.invokevirtual 85, 3) := by decide +kernel
theorem dTP_begin_11 : decode (mB TP_begin) 11 = .ok (.aload_n 0, 1) := by decide +kernel
theorem dTP_begin_12 : decode (mB TP_begin) 12 = .ok (.getfield 10, 3) := by decide +kernel
theorem dTP_begin_15 : decode (mB TP_begin) 15 = .ok (.iload_n 1, 1) := by decide +kernel
theorem dTP_begin_16 : decode (mB TP_begin) 16 = .ok (.iload_n 3, 1) := by decide +kernel
theorem dTP_begin_17 : decode (mB TP_begin) 17 = .ok (.invokevirtual 88, 3) := by decide +kernel
theorem dTP_begin_20 : decode (mB TP_begin) 20 = .ok (.istore 4, 2) := by decide +kernel
theorem dTP_begin_22 : decode (mB TP_begin) 22 = .ok (.aload_n 0, 1) := by decide +kernel
theorem dTP_begin_23 : decode (mB TP_begin) 23 = .ok (.getfield 21, 3) := by decide +kernel
theorem dTP_begin_26 : decode (mB TP_begin) 26 = .ok (.iload 4, 2) := by decide +kernel
theorem dTP_begin_28 : decode (mB TP_begin) 28 = .ok (.iload_n 2, 1) := by decide +kernel
theorem dTP_begin_29 : decode (mB TP_begin) 29 = .ok (.invokevirtual 92, 3) := by decide +kernel
theorem dTP_begin_32 : decode (mB TP_begin) 32 = .ok (.iload 4, 2) := by decide +kernel
theorem dTP_begin_34 : decode (mB TP_begin) 34 = .ok (.ireturn, 1) := by decide +kernel
def w_TP_begin (o : Nat) (x1 : Int32) (x2 : Int32) (x3 : Int32) (h : tpH) (X : String → tpH → Prop) (R : Int32 → tpH → Prop) : Prop :=
  hT h o = 13 ∧ (w_TP_needLooks o x1 x2 x3 h X (fun h2 => hT h2 o = 13 ∧ (w_TP_needFreeMark o h2 X (fun h4 => hT h4 o = 13 ∧ (∃ a6, (hR h4 o 0) = some a6 ∧ hT h4 a6 = 5 ∧ (w_Ma_make a6 x1 x3 h4 (fun v10 h9 => hT h9 o = 13 ∧ (∃ a12, (hR h9 o 1) = some a12 ∧ hT h9 a12 = 1 ∧ (w_Bu_plant a12 v10 x2 h9 (fun h15 => R v10 h15))))))))))
theorem s_TP_begin {o : Nat} {x1 : Int32} {x2 : Int32} {x3 : Int32} {h : tpH} {R : Int32 → tpH → Prop} {X : String → tpH → Prop} (hw : w_TP_begin o x1 x2 x3 h X R) : tpC TP_begin 8 [vR (some o), vI x1, vI x2, vI x3] h (tpOi R X) := by
  refine tpC_of mv_TP_begin.2.2.2.1 rfl rfl (Nat.le_of_ble_eq_true rfl) ?_
  show tpR TP_begin 8 h _ _ 0 [some (vR (some o)), some (vI x1), some (vI x2), some (vI x3), none] [] h
  unfold w_TP_begin at hw
  refine tq_aload_n dTP_begin_0 rfl rfl ?_
  refine tq_iload_n dTP_begin_1 rfl rfl ?_
  refine tq_iload_n dTP_begin_2 rfl rfl ?_
  refine tq_iload_n dTP_begin_3 rfl rfl ?_
  obtain ⟨f1, hw⟩ := hw
  refine te_callV mv_TP_needLooks (ci := 12) (dc := 7) (as := [vI x1, vI x2, vI x3]) (rest := []) kTP_81 rfl (Nat.le_of_ble_eq_true rfl) (Nat.le_of_ble_eq_true rfl) rfl rfl rfl f1 (Nat.le_of_ble_eq_true rfl) dTP_begin_4 (s_TP_needLooks hw) (fun _ _ hx => tpXx.out rfl hx) (tk_v fun h2 hw => ?_)
  refine tq_aload_n dTP_begin_7 rfl rfl ?_
  obtain ⟨f3, hw⟩ := hw
  refine te_callV mv_TP_needFreeMark (ci := 12) (dc := 6) (as := []) (rest := []) kTP_85 rfl (Nat.le_of_ble_eq_true rfl) (Nat.le_of_ble_eq_true rfl) rfl rfl rfl f3 (Nat.le_of_ble_eq_true rfl) dTP_begin_8 (s_TP_needFreeMark hw) (fun _ _ hx => tpXx.out rfl hx) (tk_v fun h4 hw => ?_)
  refine tq_aload_n dTP_begin_11 rfl rfl ?_
  obtain ⟨f5, hw⟩ := hw
  refine te_getr dTP_begin_12 fTP_10 rfl rfl f5 ?_
  refine tq_iload_n dTP_begin_15 rfl rfl ?_
  refine tq_iload_n dTP_begin_16 rfl rfl ?_
  obtain ⟨a6, e7, f8, hw⟩ := hw
  refine te_callV mv_Ma_make (ci := 4) (dc := 1) (as := [vI x1, vI x3]) (rest := []) kTP_88 rfl (Nat.le_of_ble_eq_true rfl) (Nat.le_of_ble_eq_true rfl) rfl rfl e7 f8 (Nat.le_of_ble_eq_true rfl) dTP_begin_17 (s_Ma_make hw) (fun _ _ hx => False.elim hx) (tk_i fun v10 h9 hw => ?_)
  refine tq_istore (ls' := [some (vR (some o)), some (vI x1), some (vI x2), some (vI x3), some (vI v10)]) dTP_begin_20 (Nat.le_of_ble_eq_true rfl) rfl ?_
  refine tq_aload_n dTP_begin_22 rfl rfl ?_
  obtain ⟨f11, hw⟩ := hw
  refine te_getr dTP_begin_23 fTP_21 rfl rfl f11 ?_
  refine tq_iload dTP_begin_26 rfl ?_
  refine tq_iload_n dTP_begin_28 rfl rfl ?_
  obtain ⟨a12, e13, f14, hw⟩ := hw
  refine te_callV mv_Bu_plant (ci := 0) (dc := 2) (as := [vI v10, vI x2]) (rest := []) kTP_92 rfl (Nat.le_of_ble_eq_true rfl) (Nat.le_of_ble_eq_true rfl) rfl rfl e13 f14 (Nat.le_of_ble_eq_true rfl) dTP_begin_29 (s_Bu_plant hw) (fun _ _ hx => False.elim hx) (tk_v fun h15 hw => ?_)
  refine tq_iload dTP_begin_32 rfl ?_
  exact tq_iret rfl rfl dTP_begin_34 hw
/-! T.needTree -/
theorem dTP_needTree_0 : decode (mB TP_needTree) 0 = .ok (.iload_n 1, 1) := by decide +kernel
theorem dTP_needTree_1 : decode (mB TP_needTree) 1 = .ok (.ifCond .lt 29, 3) := by decide +kernel
theorem dTP_needTree_4 : decode (mB TP_needTree) 4 = .ok (.iload_n 1, 1) := by decide +kernel
theorem dTP_needTree_5 : decode (mB TP_needTree) 5 = .ok (.aload_n 0, 1) := by decide +kernel
theorem dTP_needTree_6 : decode (mB TP_needTree) 6 = .ok (.getfield 277, 3) := by decide +kernel
theorem dTP_needTree_9 : decode (mB TP_needTree) 9 = .ok (.if_icmp .ge 21, 3) := by decide +kernel
theorem dTP_needTree_12 : decode (mB TP_needTree) 12 = .ok (.iload_n 1, 1) := by decide +kernel
theorem dTP_needTree_13 : decode (mB TP_needTree) 13 = .ok (.aload_n 0, 1) := by decide +kernel
theorem dTP_needTree_14 : decode (mB TP_needTree) 14 = .ok (.getfield 30, 3) := by decide +kernel
theorem dTP_needTree_17 : decode (mB TP_needTree) 17 = .ok (.arraylength, 1) := by decide +kernel
theorem dTP_needTree_18 : decode (mB TP_needTree) 18 = .ok (.if_icmp .ge 12, 3) := by decide +kernel
theorem dTP_needTree_21 : decode (mB TP_needTree) 21 = .ok (.aload_n 0, 1) := by decide +kernel
theorem dTP_needTree_22 : decode (mB TP_needTree) 22 = .ok (.getfield 30, 3) := by decide +kernel
theorem dTP_needTree_25 : decode (mB TP_needTree) 25 = .ok (.iload_n 1, 1) := by decide +kernel
theorem dTP_needTree_26 : decode (mB TP_needTree) 26 = .ok (.aaload, 1) := by decide +kernel
theorem dTP_needTree_27 : decode (mB TP_needTree) 27 = .ok (.goto 4, 3) := by decide +kernel
theorem dTP_needTree_30 : decode (mB TP_needTree) 30 = .ok (.aconst_null, 1) := by decide +kernel
theorem dTP_needTree_31 : decode (mB TP_needTree) 31 = .ok (.astore_n 2, 1) := by decide +kernel
theorem dTP_needTree_32 : decode (mB TP_needTree) 32 = .ok (.aload_n 2, 1) := by decide +kernel
theorem dTP_needTree_33 : decode (mB TP_needTree) 33 = .ok (.ifnonnull 14, 3) := by decide +kernel
theorem dTP_needTree_36 : decode (mB TP_needTree) 36 = .ok (.new 280, 3) := by decide +kernel
theorem dTP_needTree_39 : decode (mB TP_needTree) 39 = .ok (.dup, 1) := by decide +kernel
theorem dTP_needTree_40 : decode (mB TP_needTree) 40 = .ok (.ldc_w 385, 3) := by decide +kernel
theorem dTP_needTree_43 : decode (mB TP_needTree) 43 = .ok (.invokespecial 284, 3) := by decide +kernel
theorem dTP_needTree_46 : decode (mB TP_needTree) 46 = .ok (.athrow, 1) := by decide +kernel
theorem dTP_needTree_47 : decode (mB TP_needTree) 47 = .ok (.aload_n 2, 1) := by decide +kernel
theorem dTP_needTree_48 : decode (mB TP_needTree) 48 = .ok (.areturn, 1) := by decide +kernel
def w_TP_needTree_31 (R : Option Nat → tpH → Prop) (X : String → tpH → Prop) (t0 : Option Nat) (h : tpH) : Prop :=
  (¬ t0 = none → (R t0 h)) ∧ (t0 = none → (X "java/lang/IndexOutOfBoundsException" (nC h 0 0 6)))
def w_TP_needTree (o : Nat) (x1 : Int32) (h : tpH) (X : String → tpH → Prop) (R : Option Nat → tpH → Prop) : Prop :=
  (x1 < 0 → (w_TP_needTree_31 R X none h)) ∧ (¬ x1 < 0 → (hT h o = 13 ∧ (((hI h o 4) ≤ x1 → (w_TP_needTree_31 R X none h)) ∧ (¬ (hI h o 4) ≤ x1 → (∃ a4, (hR h o 3) = some a4 ∧ hT h a4 = 21 ∧ (((Int32.ofNat (hL h a4)) ≤ x1 → (w_TP_needTree_31 R X none h)) ∧ (¬ (Int32.ofNat (hL h a4)) ≤ x1 → (vp_in x1 (hL h a4) ∧ (w_TP_needTree_31 R X (hR h a4 x1.toNatClampNeg) h)))))))))
theorem s_TP_needTree_31 {h0 : tpH} {av : List tpV} {R : Option Nat → tpH → Prop} {X : String → tpH → Prop} : ∀ (t0 : Option Nat) (h : tpH), w_TP_needTree_31 R X t0 h → tpR TP_needTree 6 h0 av (tpOr R X) 31 [none, none, none] [vR t0] h := by
  intro t0 h hw
  unfold w_TP_needTree_31 at hw
  refine tq_astore_n (ls' := [none, none, some (vR t0)]) dTP_needTree_31 rfl (Nat.le_of_ble_eq_true rfl) rfl ?_
  refine tq_aload_n dTP_needTree_32 rfl rfl ?_
  refine tq_ifnonnull (tgt := 47) dTP_needTree_33 (by decide) (fun c1 => ?_) (fun c1 => ?_)
  · have hw := hw.1 c1
    refine tq_aload_n dTP_needTree_47 rfl rfl ?_
    exact tq_aret rfl rfl dTP_needTree_48 hw
  · have hw := hw.2 c1
    exact tq_thr thTP_284 cTP_280 (tx := "there is no such tree") (by decide +kernel) (Nat.le_of_ble_eq_true rfl) (Nat.le_of_ble_eq_true rfl) rfl ⟨⟨dTP_needTree_36, dTP_needTree_39⟩, Or.inr ⟨dTP_needTree_40, dTP_needTree_43, dTP_needTree_46⟩⟩ hw
theorem s_TP_needTree {o : Nat} {x1 : Int32} {h : tpH} {R : Option Nat → tpH → Prop} {X : String → tpH → Prop} (hw : w_TP_needTree o x1 h X R) : tpC TP_needTree 6 [vR (some o), vI x1] h (tpOr R X) := by
  refine tpC_of mv_TP_needTree.2.2.2.1 rfl rfl (Nat.le_of_ble_eq_true rfl) ?_
  show tpR TP_needTree 6 h _ _ 0 [some (vR (some o)), some (vI x1), none] [] h
  unfold w_TP_needTree at hw
  refine tq_iload_n dTP_needTree_0 rfl rfl ?_
  refine tq_iflt (tgt := 30) dTP_needTree_1 (by decide) (fun c1 => ?_) (fun c1 => ?_)
  · have hw := hw.1 c1
    refine tq_null dTP_needTree_30 ?_
    refine tpR.fo (ls' := [none, none, none]) ?_ (trivial)
    exact s_TP_needTree_31 _ _ hw
  · have hw := hw.2 c1
    refine tq_iload_n dTP_needTree_4 rfl rfl ?_
    refine tq_aload_n dTP_needTree_5 rfl rfl ?_
    obtain ⟨f2, hw⟩ := hw
    refine te_geti dTP_needTree_6 fTP_277 rfl rfl f2 ?_
    refine tq_icmpge (tgt := 30) dTP_needTree_9 (by decide) (fun c3 => ?_) (fun c3 => ?_)
    · have hw := hw.1 c3
      refine tq_null dTP_needTree_30 ?_
      refine tpR.fo (ls' := [none, none, none]) ?_ (trivial)
      exact s_TP_needTree_31 _ _ hw
    · have hw := hw.2 c3
      refine tq_iload_n dTP_needTree_12 rfl rfl ?_
      refine tq_aload_n dTP_needTree_13 rfl rfl ?_
      refine te_getr dTP_needTree_14 fTP_30 rfl rfl f2 ?_
      obtain ⟨a4, e5, f6, hw⟩ := hw
      refine te_alen dTP_needTree_17 e5 (by rw [f6]; decide) ?_
      refine tq_icmpge (tgt := 30) dTP_needTree_18 (by decide) (fun c7 => ?_) (fun c7 => ?_)
      · have hw := hw.1 c7
        refine tq_null dTP_needTree_30 ?_
        refine tpR.fo (ls' := [none, none, none]) ?_ (trivial)
        exact s_TP_needTree_31 _ _ hw
      · have hw := hw.2 c7
        refine tq_aload_n dTP_needTree_21 rfl rfl ?_
        refine te_getr dTP_needTree_22 fTP_30 rfl rfl f2 ?_
        refine tq_iload_n dTP_needTree_25 rfl rfl ?_
        obtain ⟨f8, hw⟩ := hw
        refine te_aald tpQ_Tr dTP_needTree_26 e5 f6 f8 ?_
        refine tq_goto (tgt := 31) dTP_needTree_27 (by decide) ?_
        refine tpR.fo (ls' := [none, none, none]) ?_ (trivial)
        exact s_TP_needTree_31 _ _ hw
/-! T.copy -/
theorem dTP_copy_0 : decode (mB TP_copy) 0 = .ok (.aload_n 0, 1) := by decide +kernel
theorem dTP_copy_1 : decode (mB TP_copy) 1 = .ok (.iload_n 1, 1) := by decide +kernel
theorem dTP_copy_2 : decode (mB TP_copy) 2 = .ok (.invokevirtual 96, 3) := by decide +kernel
theorem dTP_copy_5 : decode (mB TP_copy) 5 = .ok (.astore_n 2, 1) := by decide +kernel
theorem dTP_copy_6 : decode (mB TP_copy) 6 = .ok (.aload_n 0, 1) := by decide +kernel
theorem dTP_copy_7 : decode (mB TP_copy) 7 = .ok (.getfield 21, 3) := by decide +kernel
theorem dTP_copy_10 : decode (mB TP_copy) 10 = .ok (.aload_n 2, 1) := by decide +kernel
theorem dTP_copy_11 : decode (mB TP_copy) 11 = .ok (.invokevirtual 100, 3) := by decide +kernel
theorem dTP_copy_14 : decode (mB TP_copy) 14 = .ok (.aload_n 2, 1) := by decide +kernel
theorem dTP_copy_15 : decode (mB TP_copy) 15 = .ok (.getfield 104, 3) := by decide +kernel
theorem dTP_copy_18 : decode (mB TP_copy) 18 = .ok (.ireturn, 1) := by decide +kernel
def w_TP_copy (o : Nat) (x1 : Int32) (h : tpH) (X : String → tpH → Prop) (R : Int32 → tpH → Prop) : Prop :=
  hT h o = 13 ∧ (w_TP_needTree o x1 h X (fun v3 h2 => hT h2 o = 13 ∧ (∃ a5, (hR h2 o 1) = some a5 ∧ hT h2 a5 = 1 ∧ (w_Bu_takeOver a5 v3 h2 (fun h8 => ∃ a9, v3 = some a9 ∧ hT h8 a9 = 12 ∧ (R (hI h8 a9 0) h8))))))
theorem s_TP_copy {o : Nat} {x1 : Int32} {h : tpH} {R : Int32 → tpH → Prop} {X : String → tpH → Prop} (hw : w_TP_copy o x1 h X R) : tpC TP_copy 7 [vR (some o), vI x1] h (tpOi R X) := by
  refine tpC_of mv_TP_copy.2.2.2.1 rfl rfl (Nat.le_of_ble_eq_true rfl) ?_
  show tpR TP_copy 7 h _ _ 0 [some (vR (some o)), some (vI x1), none] [] h
  unfold w_TP_copy at hw
  refine tq_aload_n dTP_copy_0 rfl rfl ?_
  refine tq_iload_n dTP_copy_1 rfl rfl ?_
  obtain ⟨f1, hw⟩ := hw
  refine te_callV mv_TP_needTree (ci := 12) (dc := 6) (as := [vI x1]) (rest := []) kTP_96 rfl (Nat.le_of_ble_eq_true rfl) (Nat.le_of_ble_eq_true rfl) rfl rfl rfl f1 (Nat.le_of_ble_eq_true rfl) dTP_copy_2 (s_TP_needTree hw) (fun _ _ hx => tpXx.out rfl hx) (tk_r fun v3 h2 hw => ?_)
  refine tq_astore_n (ls' := [some (vR (some o)), some (vI x1), some (vR v3)]) dTP_copy_5 rfl (Nat.le_of_ble_eq_true rfl) rfl ?_
  refine tq_aload_n dTP_copy_6 rfl rfl ?_
  obtain ⟨f4, hw⟩ := hw
  refine te_getr dTP_copy_7 fTP_21 rfl rfl f4 ?_
  refine tq_aload_n dTP_copy_10 rfl rfl ?_
  obtain ⟨a5, e6, f7, hw⟩ := hw
  refine te_callV mv_Bu_takeOver (ci := 0) (dc := 3) (as := [vR v3]) (rest := []) kTP_100 rfl (Nat.le_of_ble_eq_true rfl) (Nat.le_of_ble_eq_true rfl) rfl rfl e6 f7 (Nat.le_of_ble_eq_true rfl) dTP_copy_11 (s_Bu_takeOver hw) (fun _ _ hx => False.elim hx) (tk_v fun h8 hw => ?_)
  refine tq_aload_n dTP_copy_14 rfl rfl ?_
  obtain ⟨a9, e10, f11, hw⟩ := hw
  refine te_geti dTP_copy_15 fTP_104 rfl e10 f11 ?_
  exact tq_iret rfl rfl dTP_copy_18 hw
/-! T.needDrafted -/
theorem dTP_needDrafted_0 : decode (mB TP_needDrafted) 0 = .ok (.aload_n 0, 1) := by decide +kernel
theorem dTP_needDrafted_1 : decode (mB TP_needDrafted) 1 = .ok (.getfield 21, 3) := by decide +kernel
theorem dTP_needDrafted_4 : decode (mB TP_needDrafted) 4 = .ok (.iload_n 1, 1) := by decide +kernel
theorem dTP_needDrafted_5 : decode (mB TP_needDrafted) 5 = .ok (.invokevirtual 412, 3) := by decide +kernel
theorem dTP_needDrafted_8 : decode (mB TP_needDrafted) 8 = .ok (.ifCond .ne 14, 3) := by decide +kernel
theorem dTP_needDrafted_11 : decode (mB TP_needDrafted) 11 = .ok (.new 280, 3) := by decide +kernel
theorem dTP_needDrafted_14 : decode (mB TP_needDrafted) 14 = .ok (.dup, 1) := by decide +kernel
theorem dTP_needDrafted_15 : decode (mB TP_needDrafted) 15 = .ok (.ldc_w 413, 3) := by decide +kernel
theorem dTP_needDrafted_18 : decode (mB TP_needDrafted) 18 = .ok (.invokespecial 284, 3) := by decide +kernel
theorem dTP_needDrafted_21 : decode (mB TP_needDrafted) 21 = .ok (.athrow, 1) := by decide +kernel
theorem dTP_needDrafted_22 : decode (mB TP_needDrafted) 22 = .ok (.return_, 1) := by decide +kernel
def w_TP_needDrafted (o : Nat) (x1 : Int32) (h : tpH) (X : String → tpH → Prop) (R : tpH → Prop) : Prop :=
  hT h o = 13 ∧ (∃ a2, (hR h o 1) = some a2 ∧ hT h a2 = 1 ∧ (w_Bu_has a2 x1 h (fun v6 h5 => (¬ v6 = 0 → (R h5)) ∧ (v6 = 0 → (X "java/lang/IndexOutOfBoundsException" (nC h5 0 0 6))))))
theorem s_TP_needDrafted {o : Nat} {x1 : Int32} {h : tpH} {R : tpH → Prop} {X : String → tpH → Prop} (hw : w_TP_needDrafted o x1 h X R) : tpC TP_needDrafted 6 [vR (some o), vI x1] h (tpOv R X) := by
  refine tpC_of mv_TP_needDrafted.2.2.2.1 rfl rfl (Nat.le_of_ble_eq_true rfl) ?_
  show tpR TP_needDrafted 6 h _ _ 0 [some (vR (some o)), some (vI x1)] [] h
  unfold w_TP_needDrafted at hw
  refine tq_aload_n dTP_needDrafted_0 rfl rfl ?_
  obtain ⟨f1, hw⟩ := hw
  refine te_getr dTP_needDrafted_1 fTP_21 rfl rfl f1 ?_
  refine tq_iload_n dTP_needDrafted_4 rfl rfl ?_
  obtain ⟨a2, e3, f4, hw⟩ := hw
  refine te_callV mv_Bu_has (ci := 0) (dc := 1) (as := [vI x1]) (rest := []) kTP_412 rfl (Nat.le_of_ble_eq_true rfl) (Nat.le_of_ble_eq_true rfl) rfl rfl e3 f4 (Nat.le_of_ble_eq_true rfl) dTP_needDrafted_5 (s_Bu_has hw) (fun _ _ hx => False.elim hx) (tk_i fun v6 h5 hw => ?_)
  refine tq_ifne (tgt := 22) dTP_needDrafted_8 (by decide) (fun c7 => ?_) (fun c7 => ?_)
  · have hw := hw.1 c7
    exact tq_vret rfl dTP_needDrafted_22 hw
  · have hw := hw.2 c7
    exact tq_thr thTP_284 cTP_280 (tx := "the draft does not have the mark") (by decide +kernel) (Nat.le_of_ble_eq_true rfl) (Nat.le_of_ble_eq_true rfl) rfl ⟨⟨dTP_needDrafted_11, dTP_needDrafted_14⟩, Or.inr ⟨dTP_needDrafted_15, dTP_needDrafted_18, dTP_needDrafted_21⟩⟩ hw
/-! T.needPlace -/
theorem dTP_needPlace_0 : decode (mB TP_needPlace) 0 = .ok (.aload_n 0, 1) := by decide +kernel
theorem dTP_needPlace_1 : decode (mB TP_needPlace) 1 = .ok (.getfield 10, 3) := by decide +kernel
theorem dTP_needPlace_4 : decode (mB TP_needPlace) 4 = .ok (.iload_n 1, 1) := by decide +kernel
theorem dTP_needPlace_5 : decode (mB TP_needPlace) 5 = .ok (.invokevirtual 415, 3) := by decide +kernel
theorem dTP_needPlace_8 : decode (mB TP_needPlace) 8 = .ok (.ifCond .eq 4, 3) := by decide +kernel
theorem dTP_needPlace_11 : decode (mB TP_needPlace) 11 = .ok (.return_, 1) := by decide +kernel
theorem dTP_needPlace_12 : decode (mB TP_needPlace) 12 = .ok (.aload_n 0, 1) := by decide +kernel
theorem dTP_needPlace_13 : decode (mB TP_needPlace) 13 = .ok (.getfield 21, 3) := by decide +kernel
theorem dTP_needPlace_16 : decode (mB TP_needPlace) 16 = .ok (.iload_n 1, 1) := by decide +kernel
theorem dTP_needPlace_17 : decode (mB TP_needPlace) 17 = .ok (.invokevirtual 418, 3) := by decide +kernel
theorem dTP_needPlace_20 : decode (mB TP_needPlace) 20 = .ok (.aload_n 0, 1) := by decide +kernel
theorem dTP_needPlace_21 : decode (mB TP_needPlace) 21 = .ok (.getfield 21, 3) := by decide +kernel
theorem dTP_needPlace_24 : decode (mB TP_needPlace) 24 = .ok (.iload_n 3, 1) := by decide +kernel
theorem dTP_needPlace_25 : decode (mB TP_needPlace) 25 = .ok (.iload_n 1, 1) := by decide +kernel
theorem dTP_needPlace_26 : decode (mB TP_needPlace) 26 = .ok (.invokevirtual 421, 3) := by decide +kernel
theorem dTP_needPlace_29 : decode (mB TP_needPlace) 29 = .ok (.ifCond .eq 7, 3) := by decide +kernel
theorem dTP_needPlace_32 : decode (mB TP_needPlace) 32 = .ok (.iconst 1, 1) := by decide +kernel
theorem dTP_needPlace_33 : decode (mB TP_needPlace) 33 = .ok (.goto 4, 3) := by decide +kernel
theorem dTP_needPlace_36 : decode (mB TP_needPlace) 36 = .ok (.iconst 0, 1) := by decide +kernel
theorem dTP_needPlace_37 : decode (mB TP_needPlace) 37 = .ok (.isub, 1) := by decide +kernel
theorem dTP_needPlace_38 : decode (mB TP_needPlace) 38 = .ok (.istore 4, 2) := by decide +kernel
theorem dTP_needPlace_40 : decode (mB TP_needPlace) 40 = .ok (.iload_n 2, 1) := by decide +kernel
theorem dTP_needPlace_41 : decode (mB TP_needPlace) 41 = .ok (.ifCond .lt 9, 3) := by decide +kernel
theorem dTP_needPlace_44 : decode (mB TP_needPlace) 44 = .ok (.iload_n 2, 1) := by decide +kernel
theorem dTP_needPlace_45 : decode (mB TP_needPlace) 45 = .ok (.iload 4, 2) := by decide +kernel
theorem dTP_needPlace_47 : decode (mB TP_needPlace) 47 = .ok (.if_icmp .le 14, 3) := by decide +kernel
theorem dTP_needPlace_50 : decode (mB TP_needPlace) 50 = .ok (.new 280, 3) := by decide +kernel
theorem dTP_needPlace_53 : decode (mB TP_needPlace) 53 = .ok (.dup, 1) := by decide +kernel
theorem dTP_needPlace_54 : decode (mB TP_needPlace) 54 = .ok (.ldc_w 282, 3) := by decide +kernel
theorem dTP_needPlace_57 : decode (mB TP_needPlace) 57 = .ok (.invokespecial 284, 3) := by decide +kernel
theorem dTP_needPlace_60 : decode (mB TP_needPlace) 60 = .ok (.athrow, 1) := by decide +kernel
theorem dTP_needPlace_61 : decode (mB TP_needPlace) 61 = .ok (.return_, 1) := by decide +kernel
def w_TP_needPlace_37 (R : tpH → Prop) (X : String → tpH → Prop) (x2 : Int32) (t0 : Int32) (t1 : Int32) (h : tpH) : Prop :=
  (x2 < 0 → (X "java/lang/IndexOutOfBoundsException" (nC h 0 0 6))) ∧ (¬ x2 < 0 → ((x2 ≤ (t1 - t0) → (R h)) ∧ (¬ x2 ≤ (t1 - t0) → (X "java/lang/IndexOutOfBoundsException" (nC h 0 0 6)))))
def w_TP_needPlace (o : Nat) (x1 : Int32) (x2 : Int32) (x3 : Int32) (h : tpH) (X : String → tpH → Prop) (R : tpH → Prop) : Prop :=
  hT h o = 13 ∧ (∃ a2, (hR h o 0) = some a2 ∧ hT h a2 = 5 ∧ (w_Ma_isLoose a2 x1 h (fun v6 h5 => (v6 = 0 → (hT h5 o = 13 ∧ (∃ a9, (hR h5 o 1) = some a9 ∧ hT h5 a9 = 1 ∧ (w_Bu_countChildren a9 x1 h5 (fun v13 h12 => hT h12 o = 13 ∧ (∃ a15, (hR h12 o 1) = some a15 ∧ hT h12 a15 = 1 ∧ (w_Bu_isChild a15 x3 x1 h12 (fun v19 h18 => (v19 = 0 → (w_TP_needPlace_37 R X x2 (0 : Int32) v13 h18)) ∧ (¬ v19 = 0 → (w_TP_needPlace_37 R X x2 (1 : Int32) v13 h18)))))))))) ∧ (¬ v6 = 0 → (R h5)))))
theorem s_TP_needPlace_37 {h0 : tpH} {av : List tpV} {R : tpH → Prop} {X : String → tpH → Prop} : ∀ (x2 : Int32) (t0 : Int32) (t1 : Int32) (h : tpH), w_TP_needPlace_37 R X x2 t0 t1 h → tpR TP_needPlace 6 h0 av (tpOv R X) 37 [none, none, some (vI x2), none, none] [vI t0, vI t1] h := by
  intro x2 t0 t1 h hw
  unfold w_TP_needPlace_37 at hw
  refine tq_isub dTP_needPlace_37 ?_
  refine tq_istore (ls' := [none, none, some (vI x2), none, some (vI (t1 - t0))]) dTP_needPlace_38 (Nat.le_of_ble_eq_true rfl) rfl ?_
  refine tq_iload_n dTP_needPlace_40 rfl rfl ?_
  refine tq_iflt (tgt := 50) dTP_needPlace_41 (by decide) (fun c1 => ?_) (fun c1 => ?_)
  · have hw := hw.1 c1
    exact tq_thr thTP_284 cTP_280 (tx := "there is no such place") (by decide +kernel) (Nat.le_of_ble_eq_true rfl) (Nat.le_of_ble_eq_true rfl) rfl ⟨⟨dTP_needPlace_50, dTP_needPlace_53⟩, Or.inr ⟨dTP_needPlace_54, dTP_needPlace_57, dTP_needPlace_60⟩⟩ hw
  · have hw := hw.2 c1
    refine tq_iload_n dTP_needPlace_44 rfl rfl ?_
    refine tq_iload dTP_needPlace_45 rfl ?_
    refine tq_icmple (tgt := 61) dTP_needPlace_47 (by decide) (fun c2 => ?_) (fun c2 => ?_)
    · have hw := hw.1 c2
      exact tq_vret rfl dTP_needPlace_61 hw
    · have hw := hw.2 c2
      exact tq_thr thTP_284 cTP_280 (tx := "there is no such place") (by decide +kernel) (Nat.le_of_ble_eq_true rfl) (Nat.le_of_ble_eq_true rfl) rfl ⟨⟨dTP_needPlace_50, dTP_needPlace_53⟩, Or.inr ⟨dTP_needPlace_54, dTP_needPlace_57, dTP_needPlace_60⟩⟩ hw
theorem s_TP_needPlace {o : Nat} {x1 : Int32} {x2 : Int32} {x3 : Int32} {h : tpH} {R : tpH → Prop} {X : String → tpH → Prop} (hw : w_TP_needPlace o x1 x2 x3 h X R) : tpC TP_needPlace 6 [vR (some o), vI x1, vI x2, vI x3] h (tpOv R X) := by
  refine tpC_of mv_TP_needPlace.2.2.2.1 rfl rfl (Nat.le_of_ble_eq_true rfl) ?_
  show tpR TP_needPlace 6 h _ _ 0 [some (vR (some o)), some (vI x1), some (vI x2), some (vI x3), none] [] h
  unfold w_TP_needPlace at hw
  refine tq_aload_n dTP_needPlace_0 rfl rfl ?_
  obtain ⟨f1, hw⟩ := hw
  refine te_getr dTP_needPlace_1 fTP_10 rfl rfl f1 ?_
  refine tq_iload_n dTP_needPlace_4 rfl rfl ?_
  obtain ⟨a2, e3, f4, hw⟩ := hw
  refine te_callV mv_Ma_isLoose (ci := 4) (dc := 1) (as := [vI x1]) (rest := []) kTP_415 rfl (Nat.le_of_ble_eq_true rfl) (Nat.le_of_ble_eq_true rfl) rfl rfl e3 f4 (Nat.le_of_ble_eq_true rfl) dTP_needPlace_5 (s_Ma_isLoose hw) (fun _ _ hx => False.elim hx) (tk_i fun v6 h5 hw => ?_)
  refine tq_ifeq (tgt := 12) dTP_needPlace_8 (by decide) (fun c7 => ?_) (fun c7 => ?_)
  · have hw := hw.1 c7
    refine tq_aload_n dTP_needPlace_12 rfl rfl ?_
    obtain ⟨f8, hw⟩ := hw
    refine te_getr dTP_needPlace_13 fTP_21 rfl rfl f8 ?_
    refine tq_iload_n dTP_needPlace_16 rfl rfl ?_
    obtain ⟨a9, e10, f11, hw⟩ := hw
    refine te_callV mv_Bu_countChildren (ci := 0) (dc := 1) (as := [vI x1]) (rest := []) kTP_418 rfl (Nat.le_of_ble_eq_true rfl) (Nat.le_of_ble_eq_true rfl) rfl rfl e10 f11 (Nat.le_of_ble_eq_true rfl) dTP_needPlace_17 (s_Bu_countChildren hw) (fun _ _ hx => False.elim hx) (tk_i fun v13 h12 hw => ?_)
    refine tq_aload_n dTP_needPlace_20 rfl rfl ?_
    obtain ⟨f14, hw⟩ := hw
    refine te_getr dTP_needPlace_21 fTP_21 rfl rfl f14 ?_
    refine tq_iload_n dTP_needPlace_24 rfl rfl ?_
    refine tq_iload_n dTP_needPlace_25 rfl rfl ?_
    obtain ⟨a15, e16, f17, hw⟩ := hw
    refine te_callV mv_Bu_isChild (ci := 0) (dc := 1) (as := [vI x3, vI x1]) (rest := [vI v13]) kTP_421 rfl (Nat.le_of_ble_eq_true rfl) (Nat.le_of_ble_eq_true rfl) rfl rfl e16 f17 (Nat.le_of_ble_eq_true rfl) dTP_needPlace_26 (s_Bu_isChild hw) (fun _ _ hx => False.elim hx) (tk_i fun v19 h18 hw => ?_)
    refine tq_ifeq (tgt := 36) dTP_needPlace_29 (by decide) (fun c20 => ?_) (fun c20 => ?_)
    · have hw := hw.1 c20
      refine tq_iconst (v := (0 : Int32)) dTP_needPlace_36 tni_0 ?_
      refine tpR.fo (ls' := [none, none, some (vI x2), none, none]) ?_ (And.intro rfl trivial)
      exact s_TP_needPlace_37 _ _ _ _ hw
    · have hw := hw.2 c20
      refine tq_iconst (v := (1 : Int32)) dTP_needPlace_32 tni_1 ?_
      refine tq_goto (tgt := 37) dTP_needPlace_33 (by decide) ?_
      refine tpR.fo (ls' := [none, none, some (vI x2), none, none]) ?_ (And.intro rfl trivial)
      exact s_TP_needPlace_37 _ _ _ _ hw
  · have hw := hw.2 c7
    exact tq_vret rfl dTP_needPlace_11 hw
/-! T.node -/
theorem dTP_node_0 : decode (mB TP_node) 0 = .ok (.aload_n 0, 1) := by decide +kernel
theorem dTP_node_1 : decode (mB TP_node) 1 = .ok (.iload_n 1, 1) := by decide +kernel
theorem dTP_node_2 : decode (mB TP_node) 2 = .ok (.invokevirtual 108, 3) := by decide +kernel
theorem dTP_node_5 : decode (mB TP_node) 5 = .ok (.aload_n 0, 1) := by decide +kernel
theorem dTP_node_6 : decode (mB TP_node) 6 = .ok (.iload_n 1, 1) := by decide +kernel
theorem dTP_node_7 : decode (mB TP_node) 7 = .ok (.iload_n 2, 1) := by decide +kernel
theorem dTP_node_8 : decode (mB TP_node) 8 = .ok (.iconst (-1), 1) := by decide +kernel
theorem dTP_node_9 : decode (mB TP_node) 9 = .ok (.invokevirtual 112, 3) := by decide +kernel
theorem dTP_node_12 : decode (mB TP_node) 12 = .ok (.aload_n 0, 1) := by decide +kernel
theorem dTP_node_13 : decode (mB TP_node) 13 = .ok (.iload_n 3, 1) := by decide +kernel
theorem dTP_node_14 : decode (mB TP_node) 14 = .ok (.iload 4, 2) := by decide +kernel
theorem dTP_node_16 : decode (mB TP_node) 16 = .ok (.iload 5, 2) := by decide +kernel
theorem dTP_node_18 : decode (mB TP_node) 18 = .ok (.invokevirtual 81, 3) := by decide +kernel
theorem dTP_node_21 : decode (mB TP_node) 21 = .ok (.aload_n 0, 1) := by decide +kernel
theorem dTP_node_22 : decode (mB TP_node) 22 = .ok (.getfield 21, 3) := by decide +kernel
theorem dTP_node_25 : decode (mB TP_node) 25 = .ok (.getfield 115, 3) := by decide +kernel
theorem dTP_node_28 : decode (mB TP_node) 28 = .ok (.bipush 24, 2) := by decide +kernel
theorem dTP_node_30 : decode (mB TP_node) 30 = .ok (.if_icmp .lt 13, 3) := by decide +kernel
theorem dTP_node_33 : decode (mB TP_node) 33 = .ok (.new 116, 3) := by decide +kernel
theorem dTP_node_36 : decode (mB TP_node) 36 = .ok (.dup, 1) := by decide +kernel
theorem dTP_node_37 : decode (mB TP_node) 37 = .ok (.ldc 118, 2) := by decide +kernel
theorem dTP_node_39 : decode (mB TP_node) 39 = .ok (.invokespecial 120, 3) := by decide +kernel
theorem dTP_node_42 : decode (mB TP_node) 42 = .ok (.athrow, 1) := by decide +kernel
theorem dTP_node_43 : decode (mB TP_node) 43 = .ok (.aload_n 0, 1) := by decide +kernel
theorem dTP_node_44 : decode (mB TP_node) 44 = .ok (.invokevirtual 85, 3) := by decide +kernel
theorem dTP_node_47 : decode (mB TP_node) 47 = .ok (.aload_n 0, 1) := by decide +kernel
theorem dTP_node_48 : decode (mB TP_node) 48 = .ok (.getfield 10, 3) := by decide +kernel
theorem dTP_node_51 : decode (mB TP_node) 51 = .ok (.iload_n 3, 1) := by decide +kernel
theorem dTP_node_52 : decode (mB TP_node) 52 = .ok (.iload 5, 2) := by decide +kernel
theorem dTP_node_54 : decode (mB TP_node) 54 = .ok (.invokevirtual 88, 3) := by decide +kernel
theorem dTP_node_57 : decode (mB TP_node) 57 = .ok (.istore 6, 2) := by decide +kernel
theorem dTP_node_59 : decode (mB TP_node) 59 = .ok (.aload_n 0, 1) := by decide +kernel
theorem dTP_node_60 : decode (mB TP_node) 60 = .ok (.getfield 21, 3) := by decide +kernel
theorem dTP_node_63 : decode (mB TP_node) 63 = .ok (.iload 6, 2) := by decide +kernel
theorem dTP_node_65 : decode (mB TP_node) 65 = .ok (.iload 4, 2) := by decide +kernel
theorem dTP_node_67 : decode (mB TP_node) 67 = .ok (.invokevirtual 123, 3) := by decide +kernel
theorem dTP_node_70 : decode (mB TP_node) 70 = .ok (.aload_n 0, 1) := by decide +kernel
theorem dTP_node_71 : decode (mB TP_node) 71 = .ok (.getfield 21, 3) := by decide +kernel
theorem dTP_node_74 : decode (mB TP_node) 74 = .ok (.iload 6, 2) := by decide +kernel
theorem dTP_node_76 : decode (mB TP_node) 76 = .ok (.iload_n 1, 1) := by decide +kernel
theorem dTP_node_77 : decode (mB TP_node) 77 = .ok (.aload_n 0, 1) := by decide +kernel
theorem dTP_node_78 : decode (mB TP_node) 78 = .ok (.getfield 21, 3) := by decide +kernel
theorem dTP_node_81 : decode (mB TP_node) 81 = .ok (.iload_n 1, 1) := by decide +kernel
theorem dTP_node_82 : decode (mB TP_node) 82 = .ok (.iload_n 2, 1) := by decide +kernel
theorem dTP_node_83 : decode (mB TP_node) 83 = .ok (.invokevirtual 126, 3) := by decide +kernel
theorem dTP_node_86 : decode (mB TP_node) 86 = .ok (.invokevirtual 129, 3) := by decide +kernel
theorem dTP_node_89 : decode (mB TP_node) 89 = .ok (.iload 6, 2) := by decide +kernel
theorem dTP_node_91 : decode (mB TP_node) 91 = .ok (.ireturn, 1) := by decide +kernel
def w_TP_node (o : Nat) (x1 : Int32) (x2 : Int32) (x3 : Int32) (x4 : Int32) (x5 : Int32) (h : tpH) (X : String → tpH → Prop) (R : Int32 → tpH → Prop) : Prop :=
  hT h o = 13 ∧ (w_TP_needDrafted o x1 h X (fun h2 => hT h2 o = 13 ∧ (w_TP_needPlace o x1 x2 (-1 : Int32) h2 X (fun h4 => hT h4 o = 13 ∧ (w_TP_needLooks o x3 x4 x5 h4 X (fun h6 => hT h6 o = 13 ∧ (∃ a8, (hR h6 o 1) = some a8 ∧ hT h6 a8 = 1 ∧ (((hI h6 a8 9) < (24 : Int32) → (w_TP_needFreeMark o h6 X (fun h12 => hT h12 o = 13 ∧ (∃ a14, (hR h12 o 0) = some a14 ∧ hT h12 a14 = 5 ∧ (w_Ma_make a14 x3 x5 h12 (fun v18 h17 => hT h17 o = 13 ∧ (∃ a20, (hR h17 o 1) = some a20 ∧ hT h17 a20 = 1 ∧ (w_Bu_sprout a20 v18 x4 h17 (fun h23 => hT h23 o = 13 ∧ (∃ a25, (hR h23 o 1) = some a25 ∧ hT h23 a25 = 1 ∧ (w_Bu_childAhead a25 x1 x2 h23 (fun v29 h28 => hT h28 a25 = 1 ∧ (w_Bu_hang a25 v18 x1 v29 h28 (fun h31 => R v18 h31)))))))))))))) ∧ (¬ (hI h6 a8 9) < (24 : Int32) → (X "java/lang/IllegalStateException" (nC h6 0 0 6)))))))))))
theorem s_TP_node {o : Nat} {x1 : Int32} {x2 : Int32} {x3 : Int32} {x4 : Int32} {x5 : Int32} {h : tpH} {R : Int32 → tpH → Prop} {X : String → tpH → Prop} (hw : w_TP_node o x1 x2 x3 x4 x5 h X R) : tpC TP_node 8 [vR (some o), vI x1, vI x2, vI x3, vI x4, vI x5] h (tpOi R X) := by
  refine tpC_of mv_TP_node.2.2.2.1 rfl rfl (Nat.le_of_ble_eq_true rfl) ?_
  show tpR TP_node 8 h _ _ 0 [some (vR (some o)), some (vI x1), some (vI x2), some (vI x3), some (vI x4), some (vI x5), none] [] h
  unfold w_TP_node at hw
  refine tq_aload_n dTP_node_0 rfl rfl ?_
  refine tq_iload_n dTP_node_1 rfl rfl ?_
  obtain ⟨f1, hw⟩ := hw
  refine te_callV mv_TP_needDrafted (ci := 12) (dc := 6) (as := [vI x1]) (rest := []) kTP_108 rfl (Nat.le_of_ble_eq_true rfl) (Nat.le_of_ble_eq_true rfl) rfl rfl rfl f1 (Nat.le_of_ble_eq_true rfl) dTP_node_2 (s_TP_needDrafted hw) (fun _ _ hx => tpXx.out rfl hx) (tk_v fun h2 hw => ?_)
  refine tq_aload_n dTP_node_5 rfl rfl ?_
  refine tq_iload_n dTP_node_6 rfl rfl ?_
  refine tq_iload_n dTP_node_7 rfl rfl ?_
  refine tq_iconst (v := (-1 : Int32)) dTP_node_8 tni_m1 ?_
  obtain ⟨f3, hw⟩ := hw
  refine te_callV mv_TP_needPlace (ci := 12) (dc := 6) (as := [vI x1, vI x2, vI (-1 : Int32)]) (rest := []) kTP_112 rfl (Nat.le_of_ble_eq_true rfl) (Nat.le_of_ble_eq_true rfl) rfl rfl rfl f3 (Nat.le_of_ble_eq_true rfl) dTP_node_9 (s_TP_needPlace hw) (fun _ _ hx => tpXx.out rfl hx) (tk_v fun h4 hw => ?_)
  refine tq_aload_n dTP_node_12 rfl rfl ?_
  refine tq_iload_n dTP_node_13 rfl rfl ?_
  refine tq_iload dTP_node_14 rfl ?_
  refine tq_iload dTP_node_16 rfl ?_
  obtain ⟨f5, hw⟩ := hw
  refine te_callV mv_TP_needLooks (ci := 12) (dc := 7) (as := [vI x3, vI x4, vI x5]) (rest := []) kTP_81 rfl (Nat.le_of_ble_eq_true rfl) (Nat.le_of_ble_eq_true rfl) rfl rfl rfl f5 (Nat.le_of_ble_eq_true rfl) dTP_node_18 (s_TP_needLooks hw) (fun _ _ hx => tpXx.out rfl hx) (tk_v fun h6 hw => ?_)
  refine tq_aload_n dTP_node_21 rfl rfl ?_
  obtain ⟨f7, hw⟩ := hw
  refine te_getr dTP_node_22 fTP_21 rfl rfl f7 ?_
  obtain ⟨a8, e9, f10, hw⟩ := hw
  refine te_geti dTP_node_25 fTP_115 rfl e9 f10 ?_
  refine tq_bipush (v := (24 : Int32)) dTP_node_28 tnb_24 ?_
  refine tq_icmplt (tgt := 43) dTP_node_30 (by decide) (fun c11 => ?_) (fun c11 => ?_)
  · have hw := hw.1 c11
    refine tq_aload_n dTP_node_43 rfl rfl ?_
    refine te_callV mv_TP_needFreeMark (ci := 12) (dc := 6) (as := []) (rest := []) kTP_85 rfl (Nat.le_of_ble_eq_true rfl) (Nat.le_of_ble_eq_true rfl) rfl rfl rfl f7 (Nat.le_of_ble_eq_true rfl) dTP_node_44 (s_TP_needFreeMark hw) (fun _ _ hx => tpXx.out rfl hx) (tk_v fun h12 hw => ?_)
    refine tq_aload_n dTP_node_47 rfl rfl ?_
    obtain ⟨f13, hw⟩ := hw
    refine te_getr dTP_node_48 fTP_10 rfl rfl f13 ?_
    refine tq_iload_n dTP_node_51 rfl rfl ?_
    refine tq_iload dTP_node_52 rfl ?_
    obtain ⟨a14, e15, f16, hw⟩ := hw
    refine te_callV mv_Ma_make (ci := 4) (dc := 1) (as := [vI x3, vI x5]) (rest := []) kTP_88 rfl (Nat.le_of_ble_eq_true rfl) (Nat.le_of_ble_eq_true rfl) rfl rfl e15 f16 (Nat.le_of_ble_eq_true rfl) dTP_node_54 (s_Ma_make hw) (fun _ _ hx => False.elim hx) (tk_i fun v18 h17 hw => ?_)
    refine tq_istore (ls' := [some (vR (some o)), some (vI x1), some (vI x2), some (vI x3), some (vI x4), some (vI x5), some (vI v18)]) dTP_node_57 (Nat.le_of_ble_eq_true rfl) rfl ?_
    refine tq_aload_n dTP_node_59 rfl rfl ?_
    obtain ⟨f19, hw⟩ := hw
    refine te_getr dTP_node_60 fTP_21 rfl rfl f19 ?_
    refine tq_iload dTP_node_63 rfl ?_
    refine tq_iload dTP_node_65 rfl ?_
    obtain ⟨a20, e21, f22, hw⟩ := hw
    refine te_callV mv_Bu_sprout (ci := 0) (dc := 1) (as := [vI v18, vI x4]) (rest := []) kTP_123 rfl (Nat.le_of_ble_eq_true rfl) (Nat.le_of_ble_eq_true rfl) rfl rfl e21 f22 (Nat.le_of_ble_eq_true rfl) dTP_node_67 (s_Bu_sprout hw) (fun _ _ hx => False.elim hx) (tk_v fun h23 hw => ?_)
    refine tq_aload_n dTP_node_70 rfl rfl ?_
    obtain ⟨f24, hw⟩ := hw
    refine te_getr dTP_node_71 fTP_21 rfl rfl f24 ?_
    refine tq_iload dTP_node_74 rfl ?_
    refine tq_iload_n dTP_node_76 rfl rfl ?_
    refine tq_aload_n dTP_node_77 rfl rfl ?_
    refine te_getr dTP_node_78 fTP_21 rfl rfl f24 ?_
    refine tq_iload_n dTP_node_81 rfl rfl ?_
    refine tq_iload_n dTP_node_82 rfl rfl ?_
    obtain ⟨a25, e26, f27, hw⟩ := hw
    refine te_callV mv_Bu_childAhead (ci := 0) (dc := 1) (as := [vI x1, vI x2]) (rest := [vI x1, vI v18, vR (hR h23 o 1)]) kTP_126 rfl (Nat.le_of_ble_eq_true rfl) (Nat.le_of_ble_eq_true rfl) rfl rfl e26 f27 (Nat.le_of_ble_eq_true rfl) dTP_node_83 (s_Bu_childAhead hw) (fun _ _ hx => False.elim hx) (tk_i fun v29 h28 hw => ?_)
    obtain ⟨f30, hw⟩ := hw
    refine te_callV mv_Bu_hang (ci := 0) (dc := 2) (as := [vI v18, vI x1, vI v29]) (rest := []) kTP_129 rfl (Nat.le_of_ble_eq_true rfl) (Nat.le_of_ble_eq_true rfl) rfl rfl e26 f30 (Nat.le_of_ble_eq_true rfl) dTP_node_86 (s_Bu_hang hw) (fun _ _ hx => False.elim hx) (tk_v fun h31 hw => ?_)
    refine tq_iload dTP_node_89 rfl ?_
    exact tq_iret rfl rfl dTP_node_91 hw
  · have hw := hw.2 c11
    exact tq_thr thTP_120 cTP_116 (tx := "the draft is full") (by decide +kernel) (Nat.le_of_ble_eq_true rfl) (Nat.le_of_ble_eq_true rfl) rfl ⟨⟨dTP_node_33, dTP_node_36⟩, Or.inl ⟨dTP_node_37, dTP_node_39, dTP_node_42⟩⟩ hw
/-! T.set -/
theorem dTP_set_0 : decode (mB TP_set) 0 = .ok (.aload_n 0, 1) := by decide +kernel
theorem dTP_set_1 : decode (mB TP_set) 1 = .ok (.iload_n 1, 1) := by decide +kernel
theorem dTP_set_2 : decode (mB TP_set) 2 = .ok (.invokevirtual 108, 3) := by decide +kernel
theorem dTP_set_5 : decode (mB TP_set) 5 = .ok (.aload_n 0, 1) := by decide +kernel
theorem dTP_set_6 : decode (mB TP_set) 6 = .ok (.iload_n 2, 1) := by decide +kernel
theorem dTP_set_7 : decode (mB TP_set) 7 = .ok (.invokevirtual 132, 3) := by decide +kernel
theorem dTP_set_10 : decode (mB TP_set) 10 = .ok (.aload_n 0, 1) := by decide +kernel
theorem dTP_set_11 : decode (mB TP_set) 11 = .ok (.getfield 21, 3) := by decide +kernel
theorem dTP_set_14 : decode (mB TP_set) 14 = .ok (.iload_n 1, 1) := by decide +kernel
theorem dTP_set_15 : decode (mB TP_set) 15 = .ok (.invokevirtual 135, 3) := by decide +kernel
theorem dTP_set_18 : decode (mB TP_set) 18 = .ok (.istore_n 3, 1) := by decide +kernel
theorem dTP_set_19 : decode (mB TP_set) 19 = .ok (.aload_n 0, 1) := by decide +kernel
theorem dTP_set_20 : decode (mB TP_set) 20 = .ok (.getfield 21, 3) := by decide +kernel
theorem dTP_set_23 : decode (mB TP_set) 23 = .ok (.iload_n 1, 1) := by decide +kernel
theorem dTP_set_24 : decode (mB TP_set) 24 = .ok (.iload_n 2, 1) := by decide +kernel
theorem dTP_set_25 : decode (mB TP_set) 25 = .ok (.invokevirtual 139, 3) := by decide +kernel
theorem dTP_set_28 : decode (mB TP_set) 28 = .ok (.iload_n 3, 1) := by decide +kernel
theorem dTP_set_29 : decode (mB TP_set) 29 = .ok (.ireturn, 1) := by decide +kernel
def w_TP_set (o : Nat) (x1 : Int32) (x2 : Int32) (h : tpH) (X : String → tpH → Prop) (R : Int32 → tpH → Prop) : Prop :=
  hT h o = 13 ∧ (w_TP_needDrafted o x1 h X (fun h2 => hT h2 o = 13 ∧ (w_TP_needValue o x2 h2 X (fun h4 => hT h4 o = 13 ∧ (∃ a6, (hR h4 o 1) = some a6 ∧ hT h4 a6 = 1 ∧ (w_Bu_worthOf a6 x1 h4 (fun v10 h9 => hT h9 o = 13 ∧ (∃ a12, (hR h9 o 1) = some a12 ∧ hT h9 a12 = 1 ∧ (w_Bu_give a12 x1 x2 h9 (fun h15 => R v10 h15))))))))))
theorem s_TP_set {o : Nat} {x1 : Int32} {x2 : Int32} {h : tpH} {R : Int32 → tpH → Prop} {X : String → tpH → Prop} (hw : w_TP_set o x1 x2 h X R) : tpC TP_set 7 [vR (some o), vI x1, vI x2] h (tpOi R X) := by
  refine tpC_of mv_TP_set.2.2.2.1 rfl rfl (Nat.le_of_ble_eq_true rfl) ?_
  show tpR TP_set 7 h _ _ 0 [some (vR (some o)), some (vI x1), some (vI x2), none] [] h
  unfold w_TP_set at hw
  refine tq_aload_n dTP_set_0 rfl rfl ?_
  refine tq_iload_n dTP_set_1 rfl rfl ?_
  obtain ⟨f1, hw⟩ := hw
  refine te_callV mv_TP_needDrafted (ci := 12) (dc := 6) (as := [vI x1]) (rest := []) kTP_108 rfl (Nat.le_of_ble_eq_true rfl) (Nat.le_of_ble_eq_true rfl) rfl rfl rfl f1 (Nat.le_of_ble_eq_true rfl) dTP_set_2 (s_TP_needDrafted hw) (fun _ _ hx => tpXx.out rfl hx) (tk_v fun h2 hw => ?_)
  refine tq_aload_n dTP_set_5 rfl rfl ?_
  refine tq_iload_n dTP_set_6 rfl rfl ?_
  obtain ⟨f3, hw⟩ := hw
  refine te_callV mv_TP_needValue (ci := 12) (dc := 6) (as := [vI x2]) (rest := []) kTP_132 rfl (Nat.le_of_ble_eq_true rfl) (Nat.le_of_ble_eq_true rfl) rfl rfl rfl f3 (Nat.le_of_ble_eq_true rfl) dTP_set_7 (s_TP_needValue hw) (fun _ _ hx => tpXx.out rfl hx) (tk_v fun h4 hw => ?_)
  refine tq_aload_n dTP_set_10 rfl rfl ?_
  obtain ⟨f5, hw⟩ := hw
  refine te_getr dTP_set_11 fTP_21 rfl rfl f5 ?_
  refine tq_iload_n dTP_set_14 rfl rfl ?_
  obtain ⟨a6, e7, f8, hw⟩ := hw
  refine te_callV mv_Bu_worthOf (ci := 0) (dc := 1) (as := [vI x1]) (rest := []) kTP_135 rfl (Nat.le_of_ble_eq_true rfl) (Nat.le_of_ble_eq_true rfl) rfl rfl e7 f8 (Nat.le_of_ble_eq_true rfl) dTP_set_15 (s_Bu_worthOf hw) (fun _ _ hx => False.elim hx) (tk_i fun v10 h9 hw => ?_)
  refine tq_istore_n (ls' := [some (vR (some o)), some (vI x1), some (vI x2), some (vI v10)]) dTP_set_18 rfl (Nat.le_of_ble_eq_true rfl) rfl ?_
  refine tq_aload_n dTP_set_19 rfl rfl ?_
  obtain ⟨f11, hw⟩ := hw
  refine te_getr dTP_set_20 fTP_21 rfl rfl f11 ?_
  refine tq_iload_n dTP_set_23 rfl rfl ?_
  refine tq_iload_n dTP_set_24 rfl rfl ?_
  obtain ⟨a12, e13, f14, hw⟩ := hw
  refine te_callV mv_Bu_give (ci := 0) (dc := 1) (as := [vI x1, vI x2]) (rest := []) kTP_139 rfl (Nat.le_of_ble_eq_true rfl) (Nat.le_of_ble_eq_true rfl) rfl rfl e13 f14 (Nat.le_of_ble_eq_true rfl) dTP_set_25 (s_Bu_give hw) (fun _ _ hx => False.elim hx) (tk_v fun h15 hw => ?_)
  refine tq_iload_n dTP_set_28 rfl rfl ?_
  exact tq_iret rfl rfl dTP_set_29 hw
/-! T.move -/
theorem dTP_move_0 : decode (mB TP_move) 0 = .ok (.aload_n 0, 1) := by decide +kernel
theorem dTP_move_1 : decode (mB TP_move) 1 = .ok (.iload_n 1, 1) := by decide +kernel
theorem dTP_move_2 : decode (mB TP_move) 2 = .ok (.invokevirtual 108, 3) := by decide +kernel
theorem dTP_move_5 : decode (mB TP_move) 5 = .ok (.aload_n 0, 1) := by decide +kernel
theorem dTP_move_6 : decode (mB TP_move) 6 = .ok (.iload_n 2, 1) := by decide +kernel
theorem dTP_move_7 : decode (mB TP_move) 7 = .ok (.invokevirtual 108, 3) := by decide +kernel
theorem dTP_move_10 : decode (mB TP_move) 10 = .ok (.aload_n 0, 1) := by decide +kernel
theorem dTP_move_11 : decode (mB TP_move) 11 = .ok (.iload_n 2, 1) := by decide +kernel
theorem dTP_move_12 : decode (mB TP_move) 12 = .ok (.iload_n 3, 1) := by decide +kernel
theorem dTP_move_13 : decode (mB TP_move) 13 = .ok (.iload_n 1, 1) := by decide +kernel
theorem dTP_move_14 : decode (mB TP_move) 14 = .ok (.invokevirtual 112, 3) := by decide +kernel
theorem dTP_move_17 : decode (mB TP_move) 17 = .ok (.aload_n 0, 1) := by decide +kernel
theorem dTP_move_18 : decode (mB TP_move) 18 = .ok (.getfield 21, 3) := by decide +kernel
theorem dTP_move_21 : decode (mB TP_move) 21 = .ok (.iload_n 2, 1) := by decide +kernel
theorem dTP_move_22 : decode (mB TP_move) 22 = .ok (.iload_n 1, 1) := by decide +kernel
theorem dTP_move_23 : decode (mB TP_move) 23 = .ok (.invokevirtual 142, 3) := by decide +kernel
theorem dTP_move_26 : decode (mB TP_move) 26 = .ok (.ifCond .eq 13, 3) := by decide +kernel
theorem dTP_move_29 : decode (mB TP_move) 29 = .ok (.new 116, 3) := by decide +kernel
theorem dTP_move_32 : decode (mB TP_move) 32 = .ok (.dup, 1) := by decide +kernel
theorem dTP_move_33 : decode (mB TP_move) 33 = .ok (.ldc 146, 2) := by decide +kernel
theorem dTP_move_35 : decode (mB TP_move) 35 = .ok (.invokespecial 120, 3) := by decide +kernel
theorem dTP_move_38 : decode (mB TP_move) 38 = .ok (.athrow, 1) := by decide +kernel
theorem dTP_move_39 : decode (mB TP_move) 39 = .ok (.aload_n 0, 1) := by decide +kernel
theorem dTP_move_40 : decode (mB TP_move) 40 = .ok (.getfield 21, 3) := by decide +kernel
theorem dTP_move_43 : decode (mB TP_move) 43 = .ok (.iload_n 1, 1) := by decide +kernel
theorem dTP_move_44 : decode (mB TP_move) 44 = .ok (.invokevirtual 148, 3) := by decide +kernel
theorem dTP_move_47 : decode (mB TP_move) 47 = .ok (.istore 4, 2) := by decide +kernel
theorem dTP_move_49 : decode (mB TP_move) 49 = .ok (.aload_n 0, 1) := by decide +kernel
theorem dTP_move_50 : decode (mB TP_move) 50 = .ok (.getfield 21, 3) := by decide +kernel
theorem dTP_move_53 : decode (mB TP_move) 53 = .ok (.iload_n 1, 1) := by decide +kernel
theorem dTP_move_54 : decode (mB TP_move) 54 = .ok (.invokevirtual 151, 3) := by decide +kernel
theorem dTP_move_57 : decode (mB TP_move) 57 = .ok (.aload_n 0, 1) := by decide +kernel
theorem dTP_move_58 : decode (mB TP_move) 58 = .ok (.getfield 21, 3) := by decide +kernel
theorem dTP_move_61 : decode (mB TP_move) 61 = .ok (.iload_n 1, 1) := by decide +kernel
theorem dTP_move_62 : decode (mB TP_move) 62 = .ok (.iload_n 2, 1) := by decide +kernel
theorem dTP_move_63 : decode (mB TP_move) 63 = .ok (.aload_n 0, 1) := by decide +kernel
theorem dTP_move_64 : decode (mB TP_move) 64 = .ok (.getfield 21, 3) := by decide +kernel
theorem dTP_move_67 : decode (mB TP_move) 67 = .ok (.iload_n 2, 1) := by decide +kernel
theorem dTP_move_68 : decode (mB TP_move) 68 = .ok (.iload_n 3, 1) := by decide +kernel
theorem dTP_move_69 : decode (mB TP_move) 69 = .ok (.invokevirtual 126, 3) := by decide +kernel
theorem dTP_move_72 : decode (mB TP_move) 72 = .ok (.invokevirtual 129, 3) := by decide +kernel
theorem dTP_move_75 : decode (mB TP_move) 75 = .ok (.iload 4, 2) := by decide +kernel
theorem dTP_move_77 : decode (mB TP_move) 77 = .ok (.ireturn, 1) := by decide +kernel
def w_TP_move (o : Nat) (x1 : Int32) (x2 : Int32) (x3 : Int32) (h : tpH) (X : String → tpH → Prop) (R : Int32 → tpH → Prop) : Prop :=
  hT h o = 13 ∧ (w_TP_needDrafted o x1 h X (fun h2 => hT h2 o = 13 ∧ (w_TP_needDrafted o x2 h2 X (fun h4 => hT h4 o = 13 ∧ (w_TP_needPlace o x2 x3 x1 h4 X (fun h6 => hT h6 o = 13 ∧ (∃ a8, (hR h6 o 1) = some a8 ∧ hT h6 a8 = 1 ∧ (w_Bu_isWithin a8 x2 x1 h6 (fun v12 h11 => (v12 = 0 → (hT h11 o = 13 ∧ (∃ a15, (hR h11 o 1) = some a15 ∧ hT h11 a15 = 1 ∧ (w_Bu_upOf a15 x1 h11 (fun v19 h18 => hT h18 o = 13 ∧ (∃ a21, (hR h18 o 1) = some a21 ∧ hT h18 a21 = 1 ∧ (w_Bu_cut a21 x1 h18 (fun h24 => hT h24 o = 13 ∧ (∃ a26, (hR h24 o 1) = some a26 ∧ hT h24 a26 = 1 ∧ (w_Bu_childAhead a26 x2 x3 h24 (fun v30 h29 => hT h29 a26 = 1 ∧ (w_Bu_hang a26 x1 x2 v30 h29 (fun h32 => R v19 h32))))))))))))) ∧ (¬ v12 = 0 → (X "java/lang/IllegalStateException" (nC h11 0 0 6))))))))))))
theorem s_TP_move {o : Nat} {x1 : Int32} {x2 : Int32} {x3 : Int32} {h : tpH} {R : Int32 → tpH → Prop} {X : String → tpH → Prop} (hw : w_TP_move o x1 x2 x3 h X R) : tpC TP_move 7 [vR (some o), vI x1, vI x2, vI x3] h (tpOi R X) := by
  refine tpC_of mv_TP_move.2.2.2.1 rfl rfl (Nat.le_of_ble_eq_true rfl) ?_
  show tpR TP_move 7 h _ _ 0 [some (vR (some o)), some (vI x1), some (vI x2), some (vI x3), none] [] h
  unfold w_TP_move at hw
  refine tq_aload_n dTP_move_0 rfl rfl ?_
  refine tq_iload_n dTP_move_1 rfl rfl ?_
  obtain ⟨f1, hw⟩ := hw
  refine te_callV mv_TP_needDrafted (ci := 12) (dc := 6) (as := [vI x1]) (rest := []) kTP_108 rfl (Nat.le_of_ble_eq_true rfl) (Nat.le_of_ble_eq_true rfl) rfl rfl rfl f1 (Nat.le_of_ble_eq_true rfl) dTP_move_2 (s_TP_needDrafted hw) (fun _ _ hx => tpXx.out rfl hx) (tk_v fun h2 hw => ?_)
  refine tq_aload_n dTP_move_5 rfl rfl ?_
  refine tq_iload_n dTP_move_6 rfl rfl ?_
  obtain ⟨f3, hw⟩ := hw
  refine te_callV mv_TP_needDrafted (ci := 12) (dc := 6) (as := [vI x2]) (rest := []) kTP_108 rfl (Nat.le_of_ble_eq_true rfl) (Nat.le_of_ble_eq_true rfl) rfl rfl rfl f3 (Nat.le_of_ble_eq_true rfl) dTP_move_7 (s_TP_needDrafted hw) (fun _ _ hx => tpXx.out rfl hx) (tk_v fun h4 hw => ?_)
  refine tq_aload_n dTP_move_10 rfl rfl ?_
  refine tq_iload_n dTP_move_11 rfl rfl ?_
  refine tq_iload_n dTP_move_12 rfl rfl ?_
  refine tq_iload_n dTP_move_13 rfl rfl ?_
  obtain ⟨f5, hw⟩ := hw
  refine te_callV mv_TP_needPlace (ci := 12) (dc := 6) (as := [vI x2, vI x3, vI x1]) (rest := []) kTP_112 rfl (Nat.le_of_ble_eq_true rfl) (Nat.le_of_ble_eq_true rfl) rfl rfl rfl f5 (Nat.le_of_ble_eq_true rfl) dTP_move_14 (s_TP_needPlace hw) (fun _ _ hx => tpXx.out rfl hx) (tk_v fun h6 hw => ?_)
  refine tq_aload_n dTP_move_17 rfl rfl ?_
  obtain ⟨f7, hw⟩ := hw
  refine te_getr dTP_move_18 fTP_21 rfl rfl f7 ?_
  refine tq_iload_n dTP_move_21 rfl rfl ?_
  refine tq_iload_n dTP_move_22 rfl rfl ?_
  obtain ⟨a8, e9, f10, hw⟩ := hw
  refine te_callV mv_Bu_isWithin (ci := 0) (dc := 1) (as := [vI x2, vI x1]) (rest := []) kTP_142 rfl (Nat.le_of_ble_eq_true rfl) (Nat.le_of_ble_eq_true rfl) rfl rfl e9 f10 (Nat.le_of_ble_eq_true rfl) dTP_move_23 (s_Bu_isWithin hw) (fun _ _ hx => False.elim hx) (tk_i fun v12 h11 hw => ?_)
  refine tq_ifeq (tgt := 39) dTP_move_26 (by decide) (fun c13 => ?_) (fun c13 => ?_)
  · have hw := hw.1 c13
    refine tq_aload_n dTP_move_39 rfl rfl ?_
    obtain ⟨f14, hw⟩ := hw
    refine te_getr dTP_move_40 fTP_21 rfl rfl f14 ?_
    refine tq_iload_n dTP_move_43 rfl rfl ?_
    obtain ⟨a15, e16, f17, hw⟩ := hw
    refine te_callV mv_Bu_upOf (ci := 0) (dc := 1) (as := [vI x1]) (rest := []) kTP_148 rfl (Nat.le_of_ble_eq_true rfl) (Nat.le_of_ble_eq_true rfl) rfl rfl e16 f17 (Nat.le_of_ble_eq_true rfl) dTP_move_44 (s_Bu_upOf hw) (fun _ _ hx => False.elim hx) (tk_i fun v19 h18 hw => ?_)
    refine tq_istore (ls' := [some (vR (some o)), some (vI x1), some (vI x2), some (vI x3), some (vI v19)]) dTP_move_47 (Nat.le_of_ble_eq_true rfl) rfl ?_
    refine tq_aload_n dTP_move_49 rfl rfl ?_
    obtain ⟨f20, hw⟩ := hw
    refine te_getr dTP_move_50 fTP_21 rfl rfl f20 ?_
    refine tq_iload_n dTP_move_53 rfl rfl ?_
    obtain ⟨a21, e22, f23, hw⟩ := hw
    refine te_callV mv_Bu_cut (ci := 0) (dc := 2) (as := [vI x1]) (rest := []) kTP_151 rfl (Nat.le_of_ble_eq_true rfl) (Nat.le_of_ble_eq_true rfl) rfl rfl e22 f23 (Nat.le_of_ble_eq_true rfl) dTP_move_54 (s_Bu_cut hw) (fun _ _ hx => False.elim hx) (tk_v fun h24 hw => ?_)
    refine tq_aload_n dTP_move_57 rfl rfl ?_
    obtain ⟨f25, hw⟩ := hw
    refine te_getr dTP_move_58 fTP_21 rfl rfl f25 ?_
    refine tq_iload_n dTP_move_61 rfl rfl ?_
    refine tq_iload_n dTP_move_62 rfl rfl ?_
    refine tq_aload_n dTP_move_63 rfl rfl ?_
    refine te_getr dTP_move_64 fTP_21 rfl rfl f25 ?_
    refine tq_iload_n dTP_move_67 rfl rfl ?_
    refine tq_iload_n dTP_move_68 rfl rfl ?_
    obtain ⟨a26, e27, f28, hw⟩ := hw
    refine te_callV mv_Bu_childAhead (ci := 0) (dc := 1) (as := [vI x2, vI x3]) (rest := [vI x2, vI x1, vR (hR h24 o 1)]) kTP_126 rfl (Nat.le_of_ble_eq_true rfl) (Nat.le_of_ble_eq_true rfl) rfl rfl e27 f28 (Nat.le_of_ble_eq_true rfl) dTP_move_69 (s_Bu_childAhead hw) (fun _ _ hx => False.elim hx) (tk_i fun v30 h29 hw => ?_)
    obtain ⟨f31, hw⟩ := hw
    refine te_callV mv_Bu_hang (ci := 0) (dc := 2) (as := [vI x1, vI x2, vI v30]) (rest := []) kTP_129 rfl (Nat.le_of_ble_eq_true rfl) (Nat.le_of_ble_eq_true rfl) rfl rfl e27 f31 (Nat.le_of_ble_eq_true rfl) dTP_move_72 (s_Bu_hang hw) (fun _ _ hx => False.elim hx) (tk_v fun h32 hw => ?_)
    refine tq_iload dTP_move_75 rfl ?_
    exact tq_iret rfl rfl dTP_move_77 hw
  · have hw := hw.2 c13
    exact tq_thr thTP_120 cTP_116 (tx := "a node can't go below itself") (by decide +kernel) (Nat.le_of_ble_eq_true rfl) (Nat.le_of_ble_eq_true rfl) rfl ⟨⟨dTP_move_29, dTP_move_32⟩, Or.inl ⟨dTP_move_33, dTP_move_35, dTP_move_38⟩⟩ hw
/-! T.drop -/
theorem dTP_drop_0 : decode (mB TP_drop) 0 = .ok (.aload_n 0, 1) := by decide +kernel
theorem dTP_drop_1 : decode (mB TP_drop) 1 = .ok (.iload_n 1, 1) := by decide +kernel
theorem dTP_drop_2 : decode (mB TP_drop) 2 = .ok (.invokevirtual 108, 3) := by decide +kernel
theorem dTP_drop_5 : decode (mB TP_drop) 5 = .ok (.iload_n 1, 1) := by decide +kernel
theorem dTP_drop_6 : decode (mB TP_drop) 6 = .ok (.aload_n 0, 1) := by decide +kernel
theorem dTP_drop_7 : decode (mB TP_drop) 7 = .ok (.getfield 21, 3) := by decide +kernel
theorem dTP_drop_10 : decode (mB TP_drop) 10 = .ok (.getfield 154, 3) := by decide +kernel
theorem dTP_drop_13 : decode (mB TP_drop) 13 = .ok (.if_icmp .ne 13, 3) := by decide +kernel
theorem dTP_drop_16 : decode (mB TP_drop) 16 = .ok (.new 116, 3) := by decide +kernel
theorem dTP_drop_19 : decode (mB TP_drop) 19 = .ok (.dup, 1) := by decide +kernel
theorem dTP_drop_20 : decode (mB TP_drop) 20 = .ok (.ldc 157, 2) := by decide +kernel
theorem dTP_drop_22 : decode (mB TP_drop) 22 = .ok (.invokespecial 120, 3) := by decide +kernel
theorem dTP_drop_25 : decode (mB TP_drop) 25 = .ok (.athrow, 1) := by decide +kernel
theorem dTP_drop_26 : decode (mB TP_drop) 26 = .ok (.aload_n 0, 1) := by decide +kernel
theorem dTP_drop_27 : decode (mB TP_drop) 27 = .ok (.getfield 21, 3) := by decide +kernel
theorem dTP_drop_30 : decode (mB TP_drop) 30 = .ok (.iload_n 1, 1) := by decide +kernel
theorem dTP_drop_31 : decode (mB TP_drop) 31 = .ok (.invokevirtual 159, 3) := by decide +kernel
theorem dTP_drop_34 : decode (mB TP_drop) 34 = .ok (.ireturn, 1) := by decide +kernel
def w_TP_drop (o : Nat) (x1 : Int32) (h : tpH) (X : String → tpH → Prop) (R : Int32 → tpH → Prop) : Prop :=
  hT h o = 13 ∧ (w_TP_needDrafted o x1 h X (fun h2 => hT h2 o = 13 ∧ (∃ a4, (hR h2 o 1) = some a4 ∧ hT h2 a4 = 1 ∧ ((¬ x1 = (hI h2 a4 8) → (w_Bu_erase a4 x1 h2 (fun v9 h8 => R v9 h8))) ∧ (x1 = (hI h2 a4 8) → (X "java/lang/IllegalStateException" (nC h2 0 0 6)))))))
theorem s_TP_drop {o : Nat} {x1 : Int32} {h : tpH} {R : Int32 → tpH → Prop} {X : String → tpH → Prop} (hw : w_TP_drop o x1 h X R) : tpC TP_drop 7 [vR (some o), vI x1] h (tpOi R X) := by
  refine tpC_of mv_TP_drop.2.2.2.1 rfl rfl (Nat.le_of_ble_eq_true rfl) ?_
  show tpR TP_drop 7 h _ _ 0 [some (vR (some o)), some (vI x1)] [] h
  unfold w_TP_drop at hw
  refine tq_aload_n dTP_drop_0 rfl rfl ?_
  refine tq_iload_n dTP_drop_1 rfl rfl ?_
  obtain ⟨f1, hw⟩ := hw
  refine te_callV mv_TP_needDrafted (ci := 12) (dc := 6) (as := [vI x1]) (rest := []) kTP_108 rfl (Nat.le_of_ble_eq_true rfl) (Nat.le_of_ble_eq_true rfl) rfl rfl rfl f1 (Nat.le_of_ble_eq_true rfl) dTP_drop_2 (s_TP_needDrafted hw) (fun _ _ hx => tpXx.out rfl hx) (tk_v fun h2 hw => ?_)
  refine tq_iload_n dTP_drop_5 rfl rfl ?_
  refine tq_aload_n dTP_drop_6 rfl rfl ?_
  obtain ⟨f3, hw⟩ := hw
  refine te_getr dTP_drop_7 fTP_21 rfl rfl f3 ?_
  obtain ⟨a4, e5, f6, hw⟩ := hw
  refine te_geti dTP_drop_10 fTP_154 rfl e5 f6 ?_
  refine tq_icmpne (tgt := 26) dTP_drop_13 (by decide) (fun c7 => ?_) (fun c7 => ?_)
  · have hw := hw.1 c7
    refine tq_aload_n dTP_drop_26 rfl rfl ?_
    refine te_getr dTP_drop_27 fTP_21 rfl rfl f3 ?_
    refine tq_iload_n dTP_drop_30 rfl rfl ?_
    refine te_callV mv_Bu_erase (ci := 0) (dc := 3) (as := [vI x1]) (rest := []) kTP_159 rfl (Nat.le_of_ble_eq_true rfl) (Nat.le_of_ble_eq_true rfl) rfl rfl e5 f6 (Nat.le_of_ble_eq_true rfl) dTP_drop_31 (s_Bu_erase hw) (fun _ _ hx => False.elim hx) (tk_i fun v9 h8 hw => ?_)
    exact tq_iret rfl rfl dTP_drop_34 hw
  · have hw := hw.2 c7
    exact tq_thr thTP_120 cTP_116 (tx := "the root stays") (by decide +kernel) (Nat.le_of_ble_eq_true rfl) (Nat.le_of_ble_eq_true rfl) rfl ⟨⟨dTP_drop_16, dTP_drop_19⟩, Or.inl ⟨dTP_drop_20, dTP_drop_22, dTP_drop_25⟩⟩ hw
/-! T.needRoomForTree -/
theorem dTP_needRoomForTree_0 : decode (mB TP_needRoomForTree) 0 = .ok (.aload_n 0, 1) := by decide +kernel
theorem dTP_needRoomForTree_1 : decode (mB TP_needRoomForTree) 1 = .ok (.getfield 277, 3) := by decide +kernel
theorem dTP_needRoomForTree_4 : decode (mB TP_needRoomForTree) 4 = .ok (.bipush 40, 2) := by decide +kernel
theorem dTP_needRoomForTree_6 : decode (mB TP_needRoomForTree) 6 = .ok (.if_icmp .lt 14, 3) := by decide +kernel
theorem dTP_needRoomForTree_9 : decode (mB TP_needRoomForTree) 9 = .ok (.new 116, 3) := by decide +kernel
theorem dTP_needRoomForTree_12 : decode (mB TP_needRoomForTree) 12 = .ok (.dup, 1) := by decide +kernel
theorem dTP_needRoomForTree_13 : decode (mB TP_needRoomForTree) 13 = .ok (.ldc_w 432, 3) := by decide +kernel
theorem dTP_needRoomForTree_16 : decode (mB TP_needRoomForTree) 16 = .ok (.invokespecial 120, 3) := by decide +kernel
theorem dTP_needRoomForTree_19 : decode (mB TP_needRoomForTree) 19 = .ok (.athrow, 1) := by decide +kernel
theorem dTP_needRoomForTree_20 : decode (mB TP_needRoomForTree) 20 = .ok (.return_, 1) := by decide +kernel
def w_TP_needRoomForTree (o : Nat) (h : tpH) (X : String → tpH → Prop) (R : tpH → Prop) : Prop :=
  hT h o = 13 ∧ (((hI h o 4) < (40 : Int32) → (R h)) ∧ (¬ (hI h o 4) < (40 : Int32) → (X "java/lang/IllegalStateException" (nC h 0 0 6))))
theorem s_TP_needRoomForTree {o : Nat} {h : tpH} {R : tpH → Prop} {X : String → tpH → Prop} (hw : w_TP_needRoomForTree o h X R) : tpC TP_needRoomForTree 6 [vR (some o)] h (tpOv R X) := by
  refine tpC_of mv_TP_needRoomForTree.2.2.2.1 rfl rfl (Nat.le_of_ble_eq_true rfl) ?_
  show tpR TP_needRoomForTree 6 h _ _ 0 [some (vR (some o))] [] h
  unfold w_TP_needRoomForTree at hw
  refine tq_aload_n dTP_needRoomForTree_0 rfl rfl ?_
  obtain ⟨f1, hw⟩ := hw
  refine te_geti dTP_needRoomForTree_1 fTP_277 rfl rfl f1 ?_
  refine tq_bipush (v := (40 : Int32)) dTP_needRoomForTree_4 tnb_40 ?_
  refine tq_icmplt (tgt := 20) dTP_needRoomForTree_6 (by decide) (fun c2 => ?_) (fun c2 => ?_)
  · have hw := hw.1 c2
    exact tq_vret rfl dTP_needRoomForTree_20 hw
  · have hw := hw.2 c2
    exact tq_thr thTP_120 cTP_116 (tx := "there are as many trees as there may be") (by decide +kernel) (Nat.le_of_ble_eq_true rfl) (Nat.le_of_ble_eq_true rfl) rfl ⟨⟨dTP_needRoomForTree_9, dTP_needRoomForTree_12⟩, Or.inr ⟨dTP_needRoomForTree_13, dTP_needRoomForTree_16, dTP_needRoomForTree_19⟩⟩ hw
/-! T.keepTree -/
theorem dTP_keepTree_0 : decode (mB TP_keepTree) 0 = .ok (.aload_n 0, 1) := by decide +kernel
theorem dTP_keepTree_1 : decode (mB TP_keepTree) 1 = .ok (.getfield 277, 3) := by decide +kernel
theorem dTP_keepTree_4 : decode (mB TP_keepTree) 4 = .ok (.aload_n 0, 1) := by decide +kernel
theorem dTP_keepTree_5 : decode (mB TP_keepTree) 5 = .ok (.getfield 30, 3) := by decide +kernel
theorem dTP_keepTree_8 : decode (mB TP_keepTree) 8 = .ok (.arraylength, 1) := by decide +kernel
theorem dTP_keepTree_9 : decode (mB TP_keepTree) 9 = .ok (.if_icmp .lt 5, 3) := by decide +kernel
theorem dTP_keepTree_12 : decode (mB TP_keepTree) 12 = .ok (.iconst (-1), 1) := by decide +kernel
theorem dTP_keepTree_13 : decode (mB TP_keepTree) 13 = .ok (.ireturn, 1) := by decide +kernel
theorem dTP_keepTree_14 : decode (mB TP_keepTree) 14 = .ok (.aload_n 0, 1) := by decide +kernel
theorem dTP_keepTree_15 : decode (mB TP_keepTree) 15 = .ok (.getfield 30, 3) := by decide +kernel
theorem dTP_keepTree_18 : decode (mB TP_keepTree) 18 = .ok (.aload_n 0, 1) := by decide +kernel
theorem dTP_keepTree_19 : decode (mB TP_keepTree) 19 = .ok (.getfield 277, 3) := by decide +kernel
theorem dTP_keepTree_22 : decode (mB TP_keepTree) 22 = .ok (.aload_n 1, 1) := by decide +kernel
theorem dTP_keepTree_23 : decode (mB TP_keepTree) 23 = .ok (.aastore, 1) := by decide +kernel
theorem dTP_keepTree_24 : decode (mB TP_keepTree) 24 = .ok (.aload_n 0, 1) := by decide +kernel
theorem dTP_keepTree_25 : decode (mB TP_keepTree) 25 = .ok (.dup, 1) := by decide +kernel
theorem dTP_keepTree_26 : decode (mB TP_keepTree) 26 = .ok (.getfield 277, 3) := by decide +kernel
theorem dTP_keepTree_29 : decode (mB TP_keepTree) 29 = .ok (.iconst 1, 1) := by decide +kernel
theorem dTP_keepTree_30 : decode (mB TP_keepTree) 30 = .ok (.iadd, 1) := by decide +kernel
theorem dTP_keepTree_31 : decode (mB TP_keepTree) 31 = .ok (.putfield 277, 3) := by decide +kernel
theorem dTP_keepTree_34 : decode (mB TP_keepTree) 34 = .ok (.aload_n 0, 1) := by decide +kernel
theorem dTP_keepTree_35 : decode (mB TP_keepTree) 35 = .ok (.getfield 277, 3) := by decide +kernel
theorem dTP_keepTree_38 : decode (mB TP_keepTree) 38 = .ok (.iconst 1, 1) := by decide +kernel
theorem dTP_keepTree_39 : decode (mB TP_keepTree) 39 = .ok (.isub, 1) := by decide +kernel
theorem dTP_keepTree_40 : decode (mB TP_keepTree) 40 = .ok (.ireturn, 1) := by decide +kernel
def w_TP_keepTree (o : Nat) (x1 : Option Nat) (h : tpH) (R : Int32 → tpH → Prop) : Prop :=
  hT h o = 13 ∧ (∃ a2, (hR h o 3) = some a2 ∧ hT h a2 = 21 ∧ (((hI h o 4) < (Int32.ofNat (hL h a2)) → (vp_in (hI h o 4) (hL h a2) ∧ (∃ a7, x1 = some a7 ∧ hT h a7 = 12 ∧ (∀ h10, h10 = sR h a2 (hI h o 4).toNatClampNeg (some a7) → (∀ h12, h12 = sI h10 o 4 ((hI h10 o 4) + (1 : Int32)) → (R ((hI h12 o 4) - (1 : Int32)) h12)))))) ∧ (¬ (hI h o 4) < (Int32.ofNat (hL h a2)) → (R (-1 : Int32) h))))
theorem s_TP_keepTree {o : Nat} {x1 : Option Nat} {h : tpH} {R : Int32 → tpH → Prop} (hw : w_TP_keepTree o x1 h R) : tpC TP_keepTree 0 [vR (some o), vR x1] h (tpOi R (fun _ _ => False)) := by
  refine tpC_of mv_TP_keepTree.2.2.2.1 rfl rfl (Nat.le_of_ble_eq_true rfl) ?_
  show tpR TP_keepTree 0 h _ _ 0 [some (vR (some o)), some (vR x1)] [] h
  unfold w_TP_keepTree at hw
  refine tq_aload_n dTP_keepTree_0 rfl rfl ?_
  obtain ⟨f1, hw⟩ := hw
  refine te_geti dTP_keepTree_1 fTP_277 rfl rfl f1 ?_
  refine tq_aload_n dTP_keepTree_4 rfl rfl ?_
  refine te_getr dTP_keepTree_5 fTP_30 rfl rfl f1 ?_
  obtain ⟨a2, e3, f4, hw⟩ := hw
  refine te_alen dTP_keepTree_8 e3 (by rw [f4]; decide) ?_
  refine tq_icmplt (tgt := 14) dTP_keepTree_9 (by decide) (fun c5 => ?_) (fun c5 => ?_)
  · have hw := hw.1 c5
    refine tq_aload_n dTP_keepTree_14 rfl rfl ?_
    refine te_getr dTP_keepTree_15 fTP_30 rfl rfl f1 ?_
    refine tq_aload_n dTP_keepTree_18 rfl rfl ?_
    refine te_geti dTP_keepTree_19 fTP_277 rfl rfl f1 ?_
    refine tq_aload_n dTP_keepTree_22 rfl rfl ?_
    obtain ⟨f6, hw⟩ := hw
    obtain ⟨a7, e8, f9, hw⟩ := hw
    refine te_aast tpQ_Tr dTP_keepTree_23 e3 f4 f6 e8 f9 (fun h10 e11 => ?_)
    have hw := hw h10 e11
    refine tq_aload_n dTP_keepTree_24 rfl rfl ?_
    refine tq_dup dTP_keepTree_25 rfl ?_
    refine te_geti dTP_keepTree_26 fTP_277 rfl rfl (by rw [e11]; exact f1) ?_
    refine tq_iconst (v := (1 : Int32)) dTP_keepTree_29 tni_1 ?_
    refine tq_iadd dTP_keepTree_30 ?_
    refine te_puti dTP_keepTree_31 pTP_277 rfl rfl rfl (by rw [e11]; exact f1) ⟨rfl, rfl⟩ (fun h12 e13 => ?_)
    have hw := hw h12 e13
    refine tq_aload_n dTP_keepTree_34 rfl rfl ?_
    refine te_geti dTP_keepTree_35 fTP_277 rfl rfl (by rw [e13]; exact (by rw [e11]; exact f1)) ?_
    refine tq_iconst (v := (1 : Int32)) dTP_keepTree_38 tni_1 ?_
    refine tq_isub dTP_keepTree_39 ?_
    exact tq_iret rfl rfl dTP_keepTree_40 hw
  · have hw := hw.2 c5
    refine tq_iconst (v := (-1 : Int32)) dTP_keepTree_12 tni_m1 ?_
    exact tq_iret rfl rfl dTP_keepTree_13 hw
/-! T.seal -/
theorem dTP_seal_0 : decode (mB TP_seal) 0 = .ok (.aload_n 0, 1) := by decide +kernel
theorem dTP_seal_1 : decode (mB TP_seal) 1 = .ok (.getfield 21, 3) := by decide +kernel
theorem dTP_seal_4 : decode (mB TP_seal) 4 = .ok (.getfield 154, 3) := by decide +kernel
theorem dTP_seal_7 : decode (mB TP_seal) 7 = .ok (.iconst (-1), 1) := by decide +kernel
theorem dTP_seal_8 : decode (mB TP_seal) 8 = .ok (.if_icmp .ne 13, 3) := by decide +kernel
theorem dTP_seal_11 : decode (mB TP_seal) 11 = .ok (.new 116, 3) := by decide +kernel
theorem dTP_seal_14 : decode (mB TP_seal) 14 = .ok (.dup, 1) := by decide +kernel
theorem dTP_seal_15 : decode (mB TP_seal) 15 = .ok (.ldc 162, 2) := by decide +kernel
theorem dTP_seal_17 : decode (mB TP_seal) 17 = .ok (.invokespecial 120, 3) := by decide +kernel
theorem dTP_seal_20 : decode (mB TP_seal) 20 = .ok (.athrow, 1) := by decide +kernel
theorem dTP_seal_21 : decode (mB TP_seal) 21 = .ok (.aload_n 0, 1) := by decide +kernel
theorem dTP_seal_22 : decode (mB TP_seal) 22 = .ok (.invokevirtual 164, 3) := by decide +kernel
theorem dTP_seal_25 : decode (mB TP_seal) 25 = .ok (.aload_n 0, 1) := by decide +kernel
theorem dTP_seal_26 : decode (mB TP_seal) 26 = .ok (.aload_n 0, 1) := by decide +kernel
theorem dTP_seal_27 : decode (mB TP_seal) 27 = .ok (.getfield 21, 3) := by decide +kernel
theorem dTP_seal_30 : decode (mB TP_seal) 30 = .ok (.invokevirtual 167, 3) := by decide +kernel
theorem dTP_seal_33 : decode (mB TP_seal) 33 = .ok (.invokevirtual 171, 3) := by decide +kernel
theorem dTP_seal_36 : decode (mB TP_seal) 36 = .ok (.ireturn, 1) := by decide +kernel
def w_TP_seal (o : Nat) (h : tpH) (X : String → tpH → Prop) (R : Int32 → tpH → Prop) : Prop :=
  hT h o = 13 ∧ (∃ a2, (hR h o 1) = some a2 ∧ hT h a2 = 1 ∧ ((¬ (hI h a2 8) = (-1 : Int32) → (w_TP_needRoomForTree o h X (fun h6 => hT h6 o = 13 ∧ (∃ a8, (hR h6 o 1) = some a8 ∧ hT h6 a8 = 1 ∧ (w_Bu_freeze a8 h6 (fun v12 h11 => hT h11 o = 13 ∧ (w_TP_keepTree o v12 h11 (fun v15 h14 => R v15 h14)))))))) ∧ ((hI h a2 8) = (-1 : Int32) → (X "java/lang/IllegalStateException" (nC h 0 0 6)))))
theorem s_TP_seal {o : Nat} {h : tpH} {R : Int32 → tpH → Prop} {X : String → tpH → Prop} (hw : w_TP_seal o h X R) : tpC TP_seal 7 [vR (some o)] h (tpOi R X) := by
  refine tpC_of mv_TP_seal.2.2.2.1 rfl rfl (Nat.le_of_ble_eq_true rfl) ?_
  show tpR TP_seal 7 h _ _ 0 [some (vR (some o))] [] h
  unfold w_TP_seal at hw
  refine tq_aload_n dTP_seal_0 rfl rfl ?_
  obtain ⟨f1, hw⟩ := hw
  refine te_getr dTP_seal_1 fTP_21 rfl rfl f1 ?_
  obtain ⟨a2, e3, f4, hw⟩ := hw
  refine te_geti dTP_seal_4 fTP_154 rfl e3 f4 ?_
  refine tq_iconst (v := (-1 : Int32)) dTP_seal_7 tni_m1 ?_
  refine tq_icmpne (tgt := 21) dTP_seal_8 (by decide) (fun c5 => ?_) (fun c5 => ?_)
  · have hw := hw.1 c5
    refine tq_aload_n dTP_seal_21 rfl rfl ?_
    refine te_callV mv_TP_needRoomForTree (ci := 12) (dc := 6) (as := []) (rest := []) kTP_164 rfl (Nat.le_of_ble_eq_true rfl) (Nat.le_of_ble_eq_true rfl) rfl rfl rfl f1 (Nat.le_of_ble_eq_true rfl) dTP_seal_22 (s_TP_needRoomForTree hw) (fun _ _ hx => tpXx.out rfl hx) (tk_v fun h6 hw => ?_)
    refine tq_aload_n dTP_seal_25 rfl rfl ?_
    refine tq_aload_n dTP_seal_26 rfl rfl ?_
    obtain ⟨f7, hw⟩ := hw
    refine te_getr dTP_seal_27 fTP_21 rfl rfl f7 ?_
    obtain ⟨a8, e9, f10, hw⟩ := hw
    refine te_callV mv_Bu_freeze (ci := 0) (dc := 3) (as := []) (rest := [vR (some o)]) kTP_167 rfl (Nat.le_of_ble_eq_true rfl) (Nat.le_of_ble_eq_true rfl) rfl rfl e9 f10 (Nat.le_of_ble_eq_true rfl) dTP_seal_30 (s_Bu_freeze hw) (fun _ _ hx => False.elim hx) (tk_r fun v12 h11 hw => ?_)
    obtain ⟨f13, hw⟩ := hw
    refine te_callV mv_TP_keepTree (ci := 12) (dc := 0) (as := [vR v12]) (rest := []) kTP_171 rfl (Nat.le_of_ble_eq_true rfl) (Nat.le_of_ble_eq_true rfl) rfl rfl rfl f13 (Nat.le_of_ble_eq_true rfl) dTP_seal_33 (s_TP_keepTree hw) (fun _ _ hx => False.elim hx) (tk_i fun v15 h14 hw => ?_)
    exact tq_iret rfl rfl dTP_seal_36 hw
  · have hw := hw.2 c5
    exact tq_thr thTP_120 cTP_116 (tx := "there is no draft") (by decide +kernel) (Nat.le_of_ble_eq_true rfl) (Nat.le_of_ble_eq_true rfl) rfl ⟨⟨dTP_seal_11, dTP_seal_14⟩, Or.inl ⟨dTP_seal_15, dTP_seal_17, dTP_seal_20⟩⟩ hw
/-! T.setPolicy -/
theorem dTP_setPolicy_0 : decode (mB TP_setPolicy) 0 = .ok (.iload_n 1, 1) := by decide +kernel
theorem dTP_setPolicy_1 : decode (mB TP_setPolicy) 1 = .ok (.ifCond .eq 18, 3) := by decide +kernel
theorem dTP_setPolicy_4 : decode (mB TP_setPolicy) 4 = .ok (.iload_n 1, 1) := by decide +kernel
theorem dTP_setPolicy_5 : decode (mB TP_setPolicy) 5 = .ok (.iconst 1, 1) := by decide +kernel
theorem dTP_setPolicy_6 : decode (mB TP_setPolicy) 6 = .ok (.if_icmp .eq 13, 3) := by decide +kernel
theorem dTP_setPolicy_9 : decode (mB TP_setPolicy) 9 = .ok (.iload_n 1, 1) := by decide +kernel
theorem dTP_setPolicy_10 : decode (mB TP_setPolicy) 10 = .ok (.iconst 2, 1) := by decide +kernel
theorem dTP_setPolicy_11 : decode (mB TP_setPolicy) 11 = .ok (.if_icmp .eq 8, 3) := by decide +kernel
theorem dTP_setPolicy_14 : decode (mB TP_setPolicy) 14 = .ok (.iload_n 1, 1) := by decide +kernel
theorem dTP_setPolicy_15 : decode (mB TP_setPolicy) 15 = .ok (.iconst 5, 1) := by decide +kernel
theorem dTP_setPolicy_16 : decode (mB TP_setPolicy) 16 = .ok (.if_icmp .ne 7, 3) := by decide +kernel
theorem dTP_setPolicy_19 : decode (mB TP_setPolicy) 19 = .ok (.iconst 1, 1) := by decide +kernel
theorem dTP_setPolicy_20 : decode (mB TP_setPolicy) 20 = .ok (.goto 4, 3) := by decide +kernel
theorem dTP_setPolicy_23 : decode (mB TP_setPolicy) 23 = .ok (.iconst 0, 1) := by decide +kernel
theorem dTP_setPolicy_24 : decode (mB TP_setPolicy) 24 = .ok (.istore_n 3, 1) := by decide +kernel
theorem dTP_setPolicy_25 : decode (mB TP_setPolicy) 25 = .ok (.iload_n 3, 1) := by decide +kernel
theorem dTP_setPolicy_26 : decode (mB TP_setPolicy) 26 = .ok (.ifCond .eq 12, 3) := by decide +kernel
theorem dTP_setPolicy_29 : decode (mB TP_setPolicy) 29 = .ok (.iload_n 2, 1) := by decide +kernel
theorem dTP_setPolicy_30 : decode (mB TP_setPolicy) 30 = .ok (.ifCond .lt 8, 3) := by decide +kernel
theorem dTP_setPolicy_33 : decode (mB TP_setPolicy) 33 = .ok (.iload_n 2, 1) := by decide +kernel
theorem dTP_setPolicy_34 : decode (mB TP_setPolicy) 34 = .ok (.iconst 2, 1) := by decide +kernel
theorem dTP_setPolicy_35 : decode (mB TP_setPolicy) 35 = .ok (.if_icmp .le 13, 3) := by decide +kernel
theorem dTP_setPolicy_38 : decode (mB TP_setPolicy) 38 = .ok (.new 214, 3) := by decide +kernel
theorem dTP_setPolicy_41 : decode (mB TP_setPolicy) 41 = .ok (.dup, 1) := by decide +kernel
theorem dTP_setPolicy_42 : decode (mB TP_setPolicy) 42 = .ok (.ldc 216, 2) := by decide +kernel
theorem dTP_setPolicy_44 : decode (mB TP_setPolicy) 44 = .ok (.invokespecial 218, 3) := by decide +kernel
theorem dTP_setPolicy_47 : decode (mB TP_setPolicy) 47 = .ok (.athrow, 1) := by decide +kernel
theorem dTP_setPolicy_48 : decode (mB TP_setPolicy) 48 = .ok (.aload_n 0, 1) := by decide +kernel
theorem dTP_setPolicy_49 : decode (mB TP_setPolicy) 49 = .ok (.getfield 70, 3) := by decide +kernel
theorem dTP_setPolicy_52 : decode (mB TP_setPolicy) 52 = .ok (.getfield 219, 3) := by decide +kernel
theorem dTP_setPolicy_55 : decode (mB TP_setPolicy) 55 = .ok (.iload_n 1, 1) := by decide +kernel
theorem dTP_setPolicy_56 : decode (mB TP_setPolicy) 56 = .ok (.invokevirtual 223, 3) := by decide +kernel
theorem dTP_setPolicy_59 : decode (mB TP_setPolicy) 59 = .ok (.istore 4, 2) := by decide +kernel
theorem dTP_setPolicy_61 : decode (mB TP_setPolicy) 61 = .ok (.aload_n 0, 1) := by decide +kernel
theorem dTP_setPolicy_62 : decode (mB TP_setPolicy) 62 = .ok (.getfield 70, 3) := by decide +kernel
theorem dTP_setPolicy_65 : decode (mB TP_setPolicy) 65 = .ok (.getfield 219, 3) := by decide +kernel
theorem dTP_setPolicy_68 : decode (mB TP_setPolicy) 68 = .ok (.iload_n 1, 1) := by decide +kernel
theorem dTP_setPolicy_69 : decode (mB TP_setPolicy) 69 = .ok (.iload_n 2, 1) := by decide +kernel
theorem dTP_setPolicy_70 : decode (mB TP_setPolicy) 70 = .ok (.invokevirtual 228, 3) := by decide +kernel
theorem dTP_setPolicy_73 : decode (mB TP_setPolicy) 73 = .ok (.iload 4, 2) := by decide +kernel
theorem dTP_setPolicy_75 : decode (mB TP_setPolicy) 75 = .ok (.ireturn, 1) := by decide +kernel
def w_TP_setPolicy_24 (R : Int32 → tpH → Prop) (X : String → tpH → Prop) (o : Nat) (x1 : Int32) (x2 : Int32) (t0 : Int32) (h : tpH) : Prop :=
  (t0 = 0 → (X "java/lang/IllegalArgumentException" (nC h 0 0 6))) ∧ (¬ t0 = 0 → ((x2 < 0 → (X "java/lang/IllegalArgumentException" (nC h 0 0 6))) ∧ (¬ x2 < 0 → ((x2 ≤ (2 : Int32) → (hT h o = 13 ∧ (∃ a5, (hR h o 11) = some a5 ∧ hT h a5 = 7 ∧ (∃ a8, (hR h a5 2) = some a8 ∧ hT h a8 = 8 ∧ (w_Ro_at a8 x1 h (fun v12 h11 => hT h11 o = 13 ∧ (∃ a14, (hR h11 o 11) = some a14 ∧ hT h11 a14 = 7 ∧ (∃ a17, (hR h11 a14 2) = some a17 ∧ hT h11 a17 = 8 ∧ (w_Ro_put a17 x1 x2 h11 (fun h20 => R v12 h20)))))))))) ∧ (¬ x2 ≤ (2 : Int32) → (X "java/lang/IllegalArgumentException" (nC h 0 0 6)))))))
def w_TP_setPolicy (o : Nat) (x1 : Int32) (x2 : Int32) (h : tpH) (X : String → tpH → Prop) (R : Int32 → tpH → Prop) : Prop :=
  (x1 = 0 → (w_TP_setPolicy_24 R X o x1 x2 (1 : Int32) h)) ∧ (¬ x1 = 0 → ((x1 = (1 : Int32) → (w_TP_setPolicy_24 R X o x1 x2 (1 : Int32) h)) ∧ (¬ x1 = (1 : Int32) → ((x1 = (2 : Int32) → (w_TP_setPolicy_24 R X o x1 x2 (1 : Int32) h)) ∧ (¬ x1 = (2 : Int32) → ((¬ x1 = (5 : Int32) → (w_TP_setPolicy_24 R X o x1 x2 (0 : Int32) h)) ∧ (x1 = (5 : Int32) → (w_TP_setPolicy_24 R X o x1 x2 (1 : Int32) h))))))))
theorem s_TP_setPolicy_24 {h0 : tpH} {av : List tpV} {R : Int32 → tpH → Prop} {X : String → tpH → Prop} : ∀ (o : Nat) (x1 : Int32) (x2 : Int32) (t0 : Int32) (h : tpH), w_TP_setPolicy_24 R X o x1 x2 t0 h → tpR TP_setPolicy 6 h0 av (tpOi R X) 24 [some (vR (some o)), some (vI x1), some (vI x2), none, none] [vI t0] h := by
  intro o x1 x2 t0 h hw
  unfold w_TP_setPolicy_24 at hw
  refine tq_istore_n (ls' := [some (vR (some o)), some (vI x1), some (vI x2), some (vI t0), none]) dTP_setPolicy_24 rfl (Nat.le_of_ble_eq_true rfl) rfl ?_
  refine tq_iload_n dTP_setPolicy_25 rfl rfl ?_
  refine tq_ifeq (tgt := 38) dTP_setPolicy_26 (by decide) (fun c1 => ?_) (fun c1 => ?_)
  · have hw := hw.1 c1
    exact tq_thr thTP_218 cTP_214 (tx := "no such conflict or policy") (by decide +kernel) (Nat.le_of_ble_eq_true rfl) (Nat.le_of_ble_eq_true rfl) rfl ⟨⟨dTP_setPolicy_38, dTP_setPolicy_41⟩, Or.inl ⟨dTP_setPolicy_42, dTP_setPolicy_44, dTP_setPolicy_47⟩⟩ hw
  · have hw := hw.2 c1
    refine tq_iload_n dTP_setPolicy_29 rfl rfl ?_
    refine tq_iflt (tgt := 38) dTP_setPolicy_30 (by decide) (fun c2 => ?_) (fun c2 => ?_)
    · have hw := hw.1 c2
      exact tq_thr thTP_218 cTP_214 (tx := "no such conflict or policy") (by decide +kernel) (Nat.le_of_ble_eq_true rfl) (Nat.le_of_ble_eq_true rfl) rfl ⟨⟨dTP_setPolicy_38, dTP_setPolicy_41⟩, Or.inl ⟨dTP_setPolicy_42, dTP_setPolicy_44, dTP_setPolicy_47⟩⟩ hw
    · have hw := hw.2 c2
      refine tq_iload_n dTP_setPolicy_33 rfl rfl ?_
      refine tq_iconst (v := (2 : Int32)) dTP_setPolicy_34 tni_2 ?_
      refine tq_icmple (tgt := 48) dTP_setPolicy_35 (by decide) (fun c3 => ?_) (fun c3 => ?_)
      · have hw := hw.1 c3
        refine tq_aload_n dTP_setPolicy_48 rfl rfl ?_
        obtain ⟨f4, hw⟩ := hw
        refine te_getr dTP_setPolicy_49 fTP_70 rfl rfl f4 ?_
        obtain ⟨a5, e6, f7, hw⟩ := hw
        refine te_getr dTP_setPolicy_52 fTP_219 rfl e6 f7 ?_
        refine tq_iload_n dTP_setPolicy_55 rfl rfl ?_
        obtain ⟨a8, e9, f10, hw⟩ := hw
        refine te_callV mv_Ro_at (ci := 7) (dc := 0) (as := [vI x1]) (rest := []) kTP_223 rfl (Nat.le_of_ble_eq_true rfl) (Nat.le_of_ble_eq_true rfl) rfl rfl e9 f10 (Nat.le_of_ble_eq_true rfl) dTP_setPolicy_56 (s_Ro_at hw) (fun _ _ hx => False.elim hx) (tk_i fun v12 h11 hw => ?_)
        refine tq_istore (ls' := [some (vR (some o)), some (vI x1), some (vI x2), some (vI t0), some (vI v12)]) dTP_setPolicy_59 (Nat.le_of_ble_eq_true rfl) rfl ?_
        refine tq_aload_n dTP_setPolicy_61 rfl rfl ?_
        obtain ⟨f13, hw⟩ := hw
        refine te_getr dTP_setPolicy_62 fTP_70 rfl rfl f13 ?_
        obtain ⟨a14, e15, f16, hw⟩ := hw
        refine te_getr dTP_setPolicy_65 fTP_219 rfl e15 f16 ?_
        refine tq_iload_n dTP_setPolicy_68 rfl rfl ?_
        refine tq_iload_n dTP_setPolicy_69 rfl rfl ?_
        obtain ⟨a17, e18, f19, hw⟩ := hw
        refine te_callV mv_Ro_put (ci := 7) (dc := 0) (as := [vI x1, vI x2]) (rest := []) kTP_228 rfl (Nat.le_of_ble_eq_true rfl) (Nat.le_of_ble_eq_true rfl) rfl rfl e18 f19 (Nat.le_of_ble_eq_true rfl) dTP_setPolicy_70 (s_Ro_put hw) (fun _ _ hx => False.elim hx) (tk_v fun h20 hw => ?_)
        refine tq_iload dTP_setPolicy_73 rfl ?_
        exact tq_iret rfl rfl dTP_setPolicy_75 hw
      · have hw := hw.2 c3
        exact tq_thr thTP_218 cTP_214 (tx := "no such conflict or policy") (by decide +kernel) (Nat.le_of_ble_eq_true rfl) (Nat.le_of_ble_eq_true rfl) rfl ⟨⟨dTP_setPolicy_38, dTP_setPolicy_41⟩, Or.inl ⟨dTP_setPolicy_42, dTP_setPolicy_44, dTP_setPolicy_47⟩⟩ hw
theorem s_TP_setPolicy {o : Nat} {x1 : Int32} {x2 : Int32} {h : tpH} {R : Int32 → tpH → Prop} {X : String → tpH → Prop} (hw : w_TP_setPolicy o x1 x2 h X R) : tpC TP_setPolicy 6 [vR (some o), vI x1, vI x2] h (tpOi R X) := by
  refine tpC_of mv_TP_setPolicy.2.2.2.1 rfl rfl (Nat.le_of_ble_eq_true rfl) ?_
  show tpR TP_setPolicy 6 h _ _ 0 [some (vR (some o)), some (vI x1), some (vI x2), none, none] [] h
  unfold w_TP_setPolicy at hw
  refine tq_iload_n dTP_setPolicy_0 rfl rfl ?_
  refine tq_ifeq (tgt := 19) dTP_setPolicy_1 (by decide) (fun c1 => ?_) (fun c1 => ?_)
  · have hw := hw.1 c1
    refine tq_iconst (v := (1 : Int32)) dTP_setPolicy_19 tni_1 ?_
    refine tq_goto (tgt := 24) dTP_setPolicy_20 (by decide) ?_
    refine tpR.fo (ls' := [some (vR (some o)), some (vI x1), some (vI x2), none, none]) ?_ (And.intro rfl (And.intro rfl (And.intro rfl trivial)))
    exact s_TP_setPolicy_24 _ _ _ _ _ hw
  · have hw := hw.2 c1
    refine tq_iload_n dTP_setPolicy_4 rfl rfl ?_
    refine tq_iconst (v := (1 : Int32)) dTP_setPolicy_5 tni_1 ?_
    refine tq_icmpeq (tgt := 19) dTP_setPolicy_6 (by decide) (fun c2 => ?_) (fun c2 => ?_)
    · have hw := hw.1 c2
      refine tq_iconst (v := (1 : Int32)) dTP_setPolicy_19 tni_1 ?_
      refine tq_goto (tgt := 24) dTP_setPolicy_20 (by decide) ?_
      refine tpR.fo (ls' := [some (vR (some o)), some (vI x1), some (vI x2), none, none]) ?_ (And.intro rfl (And.intro rfl (And.intro rfl trivial)))
      exact s_TP_setPolicy_24 _ _ _ _ _ hw
    · have hw := hw.2 c2
      refine tq_iload_n dTP_setPolicy_9 rfl rfl ?_
      refine tq_iconst (v := (2 : Int32)) dTP_setPolicy_10 tni_2 ?_
      refine tq_icmpeq (tgt := 19) dTP_setPolicy_11 (by decide) (fun c3 => ?_) (fun c3 => ?_)
      · have hw := hw.1 c3
        refine tq_iconst (v := (1 : Int32)) dTP_setPolicy_19 tni_1 ?_
        refine tq_goto (tgt := 24) dTP_setPolicy_20 (by decide) ?_
        refine tpR.fo (ls' := [some (vR (some o)), some (vI x1), some (vI x2), none, none]) ?_ (And.intro rfl (And.intro rfl (And.intro rfl trivial)))
        exact s_TP_setPolicy_24 _ _ _ _ _ hw
      · have hw := hw.2 c3
        refine tq_iload_n dTP_setPolicy_14 rfl rfl ?_
        refine tq_iconst (v := (5 : Int32)) dTP_setPolicy_15 tni_5 ?_
        refine tq_icmpne (tgt := 23) dTP_setPolicy_16 (by decide) (fun c4 => ?_) (fun c4 => ?_)
        · have hw := hw.1 c4
          refine tq_iconst (v := (0 : Int32)) dTP_setPolicy_23 tni_0 ?_
          refine tpR.fo (ls' := [some (vR (some o)), some (vI x1), some (vI x2), none, none]) ?_ (And.intro rfl (And.intro rfl (And.intro rfl trivial)))
          exact s_TP_setPolicy_24 _ _ _ _ _ hw
        · have hw := hw.2 c4
          refine tq_iconst (v := (1 : Int32)) dTP_setPolicy_19 tni_1 ?_
          refine tq_goto (tgt := 24) dTP_setPolicy_20 (by decide) ?_
          refine tpR.fo (ls' := [some (vR (some o)), some (vI x1), some (vI x2), none, none]) ?_ (And.intro rfl (And.intro rfl (And.intro rfl trivial)))
          exact s_TP_setPolicy_24 _ _ _ _ _ hw
/-! T.needSameRoots -/
theorem dTP_needSameRoots_0 : decode (mB TP_needSameRoots) 0 = .ok (.aload_n 1, 1) := by decide +kernel
theorem dTP_needSameRoots_1 : decode (mB TP_needSameRoots) 1 = .ok (.iconst 0, 1) := by decide +kernel
theorem dTP_needSameRoots_2 : decode (mB TP_needSameRoots) 2 = .ok (.invokevirtual 285, 3) := by decide +kernel
theorem dTP_needSameRoots_5 : decode (mB TP_needSameRoots) 5 = .ok (.istore 4, 2) := by decide +kernel
theorem dTP_needSameRoots_7 : decode (mB TP_needSameRoots) 7 = .ok (.aload_n 2, 1) := by decide +kernel
theorem dTP_needSameRoots_8 : decode (mB TP_needSameRoots) 8 = .ok (.iconst 0, 1) := by decide +kernel
theorem dTP_needSameRoots_9 : decode (mB TP_needSameRoots) 9 = .ok (.invokevirtual 285, 3) := by decide +kernel
theorem dTP_needSameRoots_12 : decode (mB TP_needSameRoots) 12 = .ok (.iload 4, 2) := by decide +kernel
theorem dTP_needSameRoots_14 : decode (mB TP_needSameRoots) 14 = .ok (.if_icmp .ne 13, 3) := by decide +kernel
theorem dTP_needSameRoots_17 : decode (mB TP_needSameRoots) 17 = .ok (.aload_n 3, 1) := by decide +kernel
theorem dTP_needSameRoots_18 : decode (mB TP_needSameRoots) 18 = .ok (.iconst 0, 1) := by decide +kernel
theorem dTP_needSameRoots_19 : decode (mB TP_needSameRoots) 19 = .ok (.invokevirtual 285, 3) := by decide +kernel
theorem dTP_needSameRoots_22 : decode (mB TP_needSameRoots) 22 = .ok (.iload 4, 2) := by decide +kernel
theorem dTP_needSameRoots_24 : decode (mB TP_needSameRoots) 24 = .ok (.if_icmp .eq 14, 3) := by decide +kernel
theorem dTP_needSameRoots_27 : decode (mB TP_needSameRoots) 27 = .ok (.new 116, 3) := by decide +kernel
theorem dTP_needSameRoots_30 : decode (mB TP_needSameRoots) 30 = .ok (.dup, 1) := by decide +kernel
theorem dTP_needSameRoots_31 : decode (mB TP_needSameRoots) 31 = .ok (.ldc_w 443, 3) := by decide +kernel
theorem dTP_needSameRoots_34 : decode (mB TP_needSameRoots) 34 = .ok (.invokespecial 120, 3) := by decide +kernel
theorem dTP_needSameRoots_37 : decode (mB TP_needSameRoots) 37 = .ok (.athrow, 1) := by decide +kernel
theorem dTP_needSameRoots_38 : decode (mB TP_needSameRoots) 38 = .ok (.return_, 1) := by decide +kernel
def w_TP_needSameRoots (o : Nat) (x1 : Option Nat) (x2 : Option Nat) (x3 : Option Nat) (h : tpH) (X : String → tpH → Prop) (R : tpH → Prop) : Prop :=
  ∃ a1, x1 = some a1 ∧ hT h a1 = 12 ∧ (w_Tr_markOf a1 (0 : Int32) h (fun v5 h4 => ∃ a6, x2 = some a6 ∧ hT h4 a6 = 12 ∧ (w_Tr_markOf a6 (0 : Int32) h4 (fun v10 h9 => (¬ v10 = v5 → (X "java/lang/IllegalStateException" (nC h9 0 0 6))) ∧ (v10 = v5 → (∃ a12, x3 = some a12 ∧ hT h9 a12 = 12 ∧ (w_Tr_markOf a12 (0 : Int32) h9 (fun v16 h15 => (v16 = v5 → (R h15)) ∧ (¬ v16 = v5 → (X "java/lang/IllegalStateException" (nC h15 0 0 6)))))))))))
theorem s_TP_needSameRoots {o : Nat} {x1 : Option Nat} {x2 : Option Nat} {x3 : Option Nat} {h : tpH} {R : tpH → Prop} {X : String → tpH → Prop} (hw : w_TP_needSameRoots o x1 x2 x3 h X R) : tpC TP_needSameRoots 6 [vR (some o), vR x1, vR x2, vR x3] h (tpOv R X) := by
  refine tpC_of mv_TP_needSameRoots.2.2.2.1 rfl rfl (Nat.le_of_ble_eq_true rfl) ?_
  show tpR TP_needSameRoots 6 h _ _ 0 [some (vR (some o)), some (vR x1), some (vR x2), some (vR x3), none] [] h
  unfold w_TP_needSameRoots at hw
  refine tq_aload_n dTP_needSameRoots_0 rfl rfl ?_
  refine tq_iconst (v := (0 : Int32)) dTP_needSameRoots_1 tni_0 ?_
  obtain ⟨a1, e2, f3, hw⟩ := hw
  refine te_callV mv_Tr_markOf (ci := 11) (dc := 1) (as := [vI (0 : Int32)]) (rest := []) kTP_285 rfl (Nat.le_of_ble_eq_true rfl) (Nat.le_of_ble_eq_true rfl) rfl rfl e2 f3 (Nat.le_of_ble_eq_true rfl) dTP_needSameRoots_2 (s_Tr_markOf hw) (fun _ _ hx => False.elim hx) (tk_i fun v5 h4 hw => ?_)
  refine tq_istore (ls' := [some (vR (some o)), some (vR x1), some (vR x2), some (vR x3), some (vI v5)]) dTP_needSameRoots_5 (Nat.le_of_ble_eq_true rfl) rfl ?_
  refine tq_aload_n dTP_needSameRoots_7 rfl rfl ?_
  refine tq_iconst (v := (0 : Int32)) dTP_needSameRoots_8 tni_0 ?_
  obtain ⟨a6, e7, f8, hw⟩ := hw
  refine te_callV mv_Tr_markOf (ci := 11) (dc := 1) (as := [vI (0 : Int32)]) (rest := []) kTP_285 rfl (Nat.le_of_ble_eq_true rfl) (Nat.le_of_ble_eq_true rfl) rfl rfl e7 f8 (Nat.le_of_ble_eq_true rfl) dTP_needSameRoots_9 (s_Tr_markOf hw) (fun _ _ hx => False.elim hx) (tk_i fun v10 h9 hw => ?_)
  refine tq_iload dTP_needSameRoots_12 rfl ?_
  refine tq_icmpne (tgt := 27) dTP_needSameRoots_14 (by decide) (fun c11 => ?_) (fun c11 => ?_)
  · have hw := hw.1 c11
    exact tq_thr thTP_120 cTP_116 (tx := "the marks of the roots are unlike") (by decide +kernel) (Nat.le_of_ble_eq_true rfl) (Nat.le_of_ble_eq_true rfl) rfl ⟨⟨dTP_needSameRoots_27, dTP_needSameRoots_30⟩, Or.inr ⟨dTP_needSameRoots_31, dTP_needSameRoots_34, dTP_needSameRoots_37⟩⟩ hw
  · have hw := hw.2 c11
    refine tq_aload_n dTP_needSameRoots_17 rfl rfl ?_
    refine tq_iconst (v := (0 : Int32)) dTP_needSameRoots_18 tni_0 ?_
    obtain ⟨a12, e13, f14, hw⟩ := hw
    refine te_callV mv_Tr_markOf (ci := 11) (dc := 1) (as := [vI (0 : Int32)]) (rest := []) kTP_285 rfl (Nat.le_of_ble_eq_true rfl) (Nat.le_of_ble_eq_true rfl) rfl rfl e13 f14 (Nat.le_of_ble_eq_true rfl) dTP_needSameRoots_19 (s_Tr_markOf hw) (fun _ _ hx => False.elim hx) (tk_i fun v16 h15 hw => ?_)
    refine tq_iload dTP_needSameRoots_22 rfl ?_
    refine tq_icmpeq (tgt := 38) dTP_needSameRoots_24 (by decide) (fun c17 => ?_) (fun c17 => ?_)
    · have hw := hw.1 c17
      exact tq_vret rfl dTP_needSameRoots_38 hw
    · have hw := hw.2 c17
      exact tq_thr thTP_120 cTP_116 (tx := "the marks of the roots are unlike") (by decide +kernel) (Nat.le_of_ble_eq_true rfl) (Nat.le_of_ble_eq_true rfl) rfl ⟨⟨dTP_needSameRoots_27, dTP_needSameRoots_30⟩, Or.inr ⟨dTP_needSameRoots_31, dTP_needSameRoots_34, dTP_needSameRoots_37⟩⟩ hw
/-! T.merge -/
theorem dTP_merge_0 : decode (mB TP_merge) 0 = .ok (.aload_n 0, 1) := by decide +kernel
theorem dTP_merge_1 : decode (mB TP_merge) 1 = .ok (.iload_n 1, 1) := by decide +kernel
theorem dTP_merge_2 : decode (mB TP_merge) 2 = .ok (.invokevirtual 96, 3) := by decide +kernel
theorem dTP_merge_5 : decode (mB TP_merge) 5 = .ok (.astore 4, 2) := by decide +kernel
theorem dTP_merge_7 : decode (mB TP_merge) 7 = .ok (.aload_n 0, 1) := by decide +kernel
theorem dTP_merge_8 : decode (mB TP_merge) 8 = .ok (.iload_n 2, 1) := by decide +kernel
theorem dTP_merge_9 : decode (mB TP_merge) 9 = .ok (.invokevirtual 96, 3) := by decide +kernel
theorem dTP_merge_12 : decode (mB TP_merge) 12 = .ok (.astore 5, 2) := by decide +kernel
theorem dTP_merge_14 : decode (mB TP_merge) 14 = .ok (.aload_n 0, 1) := by decide +kernel
theorem dTP_merge_15 : decode (mB TP_merge) 15 = .ok (.iload_n 3, 1) := by decide +kernel
theorem dTP_merge_16 : decode (mB TP_merge) 16 = .ok (.invokevirtual 96, 3) := by decide +kernel
theorem dTP_merge_19 : decode (mB TP_merge) 19 = .ok (.astore 6, 2) := by decide +kernel
theorem dTP_merge_21 : decode (mB TP_merge) 21 = .ok (.aload_n 0, 1) := by decide +kernel
theorem dTP_merge_22 : decode (mB TP_merge) 22 = .ok (.aload 4, 2) := by decide +kernel
theorem dTP_merge_24 : decode (mB TP_merge) 24 = .ok (.aload 5, 2) := by decide +kernel
theorem dTP_merge_26 : decode (mB TP_merge) 26 = .ok (.aload 6, 2) := by decide +kernel
theorem dTP_merge_28 : decode (mB TP_merge) 28 = .ok (.invokevirtual 231, 3) := by decide +kernel
theorem dTP_merge_31 : decode (mB TP_merge) 31 = .ok (.aload_n 0, 1) := by decide +kernel
theorem dTP_merge_32 : decode (mB TP_merge) 32 = .ok (.invokevirtual 164, 3) := by decide +kernel
theorem dTP_merge_35 : decode (mB TP_merge) 35 = .ok (.aload_n 0, 1) := by decide +kernel
theorem dTP_merge_36 : decode (mB TP_merge) 36 = .ok (.aload_n 0, 1) := by decide +kernel
theorem dTP_merge_37 : decode (mB TP_merge) 37 = .ok (.getfield 70, 3) := by decide +kernel
theorem dTP_merge_40 : decode (mB TP_merge) 40 = .ok (.aload 4, 2) := by decide +kernel
theorem dTP_merge_42 : decode (mB TP_merge) 42 = .ok (.aload 5, 2) := by decide +kernel
theorem dTP_merge_44 : decode (mB TP_merge) 44 = .ok (.aload 6, 2) := by decide +kernel
theorem dTP_merge_46 : decode (mB TP_merge) 46 = .ok (.invokevirtual 235, 3) := by decide +kernel
theorem dTP_merge_49 : decode (mB TP_merge) 49 = .ok (.invokevirtual 171, 3) := by decide +kernel
theorem dTP_merge_52 : decode (mB TP_merge) 52 = .ok (.ireturn, 1) := by decide +kernel
def w_TP_merge (o : Nat) (x1 : Int32) (x2 : Int32) (x3 : Int32) (h : tpH) (X : String → tpH → Prop) (R : Int32 → tpH → Prop) : Prop :=
  hT h o = 13 ∧ (w_TP_needTree o x1 h X (fun v3 h2 => hT h2 o = 13 ∧ (w_TP_needTree o x2 h2 X (fun v6 h5 => hT h5 o = 13 ∧ (w_TP_needTree o x3 h5 X (fun v9 h8 => hT h8 o = 13 ∧ (w_TP_needSameRoots o v3 v6 v9 h8 X (fun h11 => hT h11 o = 13 ∧ (w_TP_needRoomForTree o h11 X (fun h13 => hT h13 o = 13 ∧ (∃ a15, (hR h13 o 11) = some a15 ∧ hT h13 a15 = 7 ∧ (w_Mg_mergeTrees a15 v3 v6 v9 h13 (fun v19 h18 => hT h18 o = 13 ∧ (w_TP_keepTree o v19 h18 (fun v22 h21 => R v22 h21)))))))))))))))
theorem s_TP_merge {o : Nat} {x1 : Int32} {x2 : Int32} {x3 : Int32} {h : tpH} {R : Int32 → tpH → Prop} {X : String → tpH → Prop} (hw : w_TP_merge o x1 x2 x3 h X R) : tpC TP_merge 9 [vR (some o), vI x1, vI x2, vI x3] h (tpOi R X) := by
  refine tpC_of mv_TP_merge.2.2.2.1 rfl rfl (Nat.le_of_ble_eq_true rfl) ?_
  show tpR TP_merge 9 h _ _ 0 [some (vR (some o)), some (vI x1), some (vI x2), some (vI x3), none, none, none] [] h
  unfold w_TP_merge at hw
  refine tq_aload_n dTP_merge_0 rfl rfl ?_
  refine tq_iload_n dTP_merge_1 rfl rfl ?_
  obtain ⟨f1, hw⟩ := hw
  refine te_callV mv_TP_needTree (ci := 12) (dc := 6) (as := [vI x1]) (rest := []) kTP_96 rfl (Nat.le_of_ble_eq_true rfl) (Nat.le_of_ble_eq_true rfl) rfl rfl rfl f1 (Nat.le_of_ble_eq_true rfl) dTP_merge_2 (s_TP_needTree hw) (fun _ _ hx => tpXx.out rfl hx) (tk_r fun v3 h2 hw => ?_)
  refine tq_astore (ls' := [some (vR (some o)), some (vI x1), some (vI x2), some (vI x3), some (vR v3), none, none]) dTP_merge_5 (Nat.le_of_ble_eq_true rfl) rfl ?_
  refine tq_aload_n dTP_merge_7 rfl rfl ?_
  refine tq_iload_n dTP_merge_8 rfl rfl ?_
  obtain ⟨f4, hw⟩ := hw
  refine te_callV mv_TP_needTree (ci := 12) (dc := 6) (as := [vI x2]) (rest := []) kTP_96 rfl (Nat.le_of_ble_eq_true rfl) (Nat.le_of_ble_eq_true rfl) rfl rfl rfl f4 (Nat.le_of_ble_eq_true rfl) dTP_merge_9 (s_TP_needTree hw) (fun _ _ hx => tpXx.out rfl hx) (tk_r fun v6 h5 hw => ?_)
  refine tq_astore (ls' := [some (vR (some o)), some (vI x1), some (vI x2), some (vI x3), some (vR v3), some (vR v6), none]) dTP_merge_12 (Nat.le_of_ble_eq_true rfl) rfl ?_
  refine tq_aload_n dTP_merge_14 rfl rfl ?_
  refine tq_iload_n dTP_merge_15 rfl rfl ?_
  obtain ⟨f7, hw⟩ := hw
  refine te_callV mv_TP_needTree (ci := 12) (dc := 6) (as := [vI x3]) (rest := []) kTP_96 rfl (Nat.le_of_ble_eq_true rfl) (Nat.le_of_ble_eq_true rfl) rfl rfl rfl f7 (Nat.le_of_ble_eq_true rfl) dTP_merge_16 (s_TP_needTree hw) (fun _ _ hx => tpXx.out rfl hx) (tk_r fun v9 h8 hw => ?_)
  refine tq_astore (ls' := [some (vR (some o)), some (vI x1), some (vI x2), some (vI x3), some (vR v3), some (vR v6), some (vR v9)]) dTP_merge_19 (Nat.le_of_ble_eq_true rfl) rfl ?_
  refine tq_aload_n dTP_merge_21 rfl rfl ?_
  refine tq_aload dTP_merge_22 rfl ?_
  refine tq_aload dTP_merge_24 rfl ?_
  refine tq_aload dTP_merge_26 rfl ?_
  obtain ⟨f10, hw⟩ := hw
  refine te_callV mv_TP_needSameRoots (ci := 12) (dc := 6) (as := [vR v3, vR v6, vR v9]) (rest := []) kTP_231 rfl (Nat.le_of_ble_eq_true rfl) (Nat.le_of_ble_eq_true rfl) rfl rfl rfl f10 (Nat.le_of_ble_eq_true rfl) dTP_merge_28 (s_TP_needSameRoots hw) (fun _ _ hx => tpXx.out rfl hx) (tk_v fun h11 hw => ?_)
  refine tq_aload_n dTP_merge_31 rfl rfl ?_
  obtain ⟨f12, hw⟩ := hw
  refine te_callV mv_TP_needRoomForTree (ci := 12) (dc := 6) (as := []) (rest := []) kTP_164 rfl (Nat.le_of_ble_eq_true rfl) (Nat.le_of_ble_eq_true rfl) rfl rfl rfl f12 (Nat.le_of_ble_eq_true rfl) dTP_merge_32 (s_TP_needRoomForTree hw) (fun _ _ hx => tpXx.out rfl hx) (tk_v fun h13 hw => ?_)
  refine tq_aload_n dTP_merge_35 rfl rfl ?_
  refine tq_aload_n dTP_merge_36 rfl rfl ?_
  obtain ⟨f14, hw⟩ := hw
  refine te_getr dTP_merge_37 fTP_70 rfl rfl f14 ?_
  refine tq_aload dTP_merge_40 rfl ?_
  refine tq_aload dTP_merge_42 rfl ?_
  refine tq_aload dTP_merge_44 rfl ?_
  obtain ⟨a15, e16, f17, hw⟩ := hw
  refine te_callV mv_Mg_mergeTrees (ci := 6) (dc := 8) (as := [vR v3, vR v6, vR v9]) (rest := [vR (some o)]) kTP_235 rfl (Nat.le_of_ble_eq_true rfl) (Nat.le_of_ble_eq_true rfl) rfl rfl e16 f17 (Nat.le_of_ble_eq_true rfl) dTP_merge_46 (s_Mg_mergeTrees hw) (fun _ _ hx => False.elim hx) (tk_r fun v19 h18 hw => ?_)
  obtain ⟨f20, hw⟩ := hw
  refine te_callV mv_TP_keepTree (ci := 12) (dc := 0) (as := [vR v19]) (rest := []) kTP_171 rfl (Nat.le_of_ble_eq_true rfl) (Nat.le_of_ble_eq_true rfl) rfl rfl rfl f20 (Nat.le_of_ble_eq_true rfl) dTP_merge_49 (s_TP_keepTree hw) (fun _ _ hx => False.elim hx) (tk_i fun v22 h21 hw => ?_)
  exact tq_iret rfl rfl dTP_merge_52 hw
/-! T.trees -/
theorem dTP_trees_0 : decode (mB TP_trees) 0 = .ok (.aload_n 0, 1) := by decide +kernel
theorem dTP_trees_1 : decode (mB TP_trees) 1 = .ok (.getfield 277, 3) := by decide +kernel
theorem dTP_trees_4 : decode (mB TP_trees) 4 = .ok (.ireturn, 1) := by decide +kernel
def w_TP_trees (o : Nat) (h : tpH) (R : Int32 → tpH → Prop) : Prop :=
  hT h o = 13 ∧ (R (hI h o 4) h)
theorem s_TP_trees {o : Nat} {h : tpH} {R : Int32 → tpH → Prop} (hw : w_TP_trees o h R) : tpC TP_trees 0 [vR (some o)] h (tpOi R (fun _ _ => False)) := by
  refine tpC_of mv_TP_trees.2.2.2.1 rfl rfl (Nat.le_of_ble_eq_true rfl) ?_
  show tpR TP_trees 0 h _ _ 0 [some (vR (some o))] [] h
  unfold w_TP_trees at hw
  refine tq_aload_n dTP_trees_0 rfl rfl ?_
  obtain ⟨f1, hw⟩ := hw
  refine te_geti dTP_trees_1 fTP_277 rfl rfl f1 ?_
  exact tq_iret rfl rfl dTP_trees_4 hw
/-! T.size -/
theorem dTP_size_0 : decode (mB TP_size) 0 = .ok (.aload_n 0, 1) := by decide +kernel
theorem dTP_size_1 : decode (mB TP_size) 1 = .ok (.iload_n 1, 1) := by decide +kernel
theorem dTP_size_2 : decode (mB TP_size) 2 = .ok (.invokevirtual 96, 3) := by decide +kernel
theorem dTP_size_5 : decode (mB TP_size) 5 = .ok (.getfield 104, 3) := by decide +kernel
theorem dTP_size_8 : decode (mB TP_size) 8 = .ok (.ireturn, 1) := by decide +kernel
def w_TP_size (o : Nat) (x1 : Int32) (h : tpH) (X : String → tpH → Prop) (R : Int32 → tpH → Prop) : Prop :=
  hT h o = 13 ∧ (w_TP_needTree o x1 h X (fun v3 h2 => ∃ a4, v3 = some a4 ∧ hT h2 a4 = 12 ∧ (R (hI h2 a4 0) h2)))
theorem s_TP_size {o : Nat} {x1 : Int32} {h : tpH} {R : Int32 → tpH → Prop} {X : String → tpH → Prop} (hw : w_TP_size o x1 h X R) : tpC TP_size 7 [vR (some o), vI x1] h (tpOi R X) := by
  refine tpC_of mv_TP_size.2.2.2.1 rfl rfl (Nat.le_of_ble_eq_true rfl) ?_
  show tpR TP_size 7 h _ _ 0 [some (vR (some o)), some (vI x1)] [] h
  unfold w_TP_size at hw
  refine tq_aload_n dTP_size_0 rfl rfl ?_
  refine tq_iload_n dTP_size_1 rfl rfl ?_
  obtain ⟨f1, hw⟩ := hw
  refine te_callV mv_TP_needTree (ci := 12) (dc := 6) (as := [vI x1]) (rest := []) kTP_96 rfl (Nat.le_of_ble_eq_true rfl) (Nat.le_of_ble_eq_true rfl) rfl rfl rfl f1 (Nat.le_of_ble_eq_true rfl) dTP_size_2 (s_TP_needTree hw) (fun _ _ hx => tpXx.out rfl hx) (tk_r fun v3 h2 hw => ?_)
  obtain ⟨a4, e5, f6, hw⟩ := hw
  refine te_geti dTP_size_5 fTP_104 rfl e5 f6 ?_
  exact tq_iret rfl rfl dTP_size_8 hw
/-! T.markAt -/
theorem dTP_markAt_0 : decode (mB TP_markAt) 0 = .ok (.aload_n 0, 1) := by decide +kernel
theorem dTP_markAt_1 : decode (mB TP_markAt) 1 = .ok (.iload_n 1, 1) := by decide +kernel
theorem dTP_markAt_2 : decode (mB TP_markAt) 2 = .ok (.invokevirtual 96, 3) := by decide +kernel
theorem dTP_markAt_5 : decode (mB TP_markAt) 5 = .ok (.astore_n 3, 1) := by decide +kernel
theorem dTP_markAt_6 : decode (mB TP_markAt) 6 = .ok (.iload_n 2, 1) := by decide +kernel
theorem dTP_markAt_7 : decode (mB TP_markAt) 7 = .ok (.ifCond .lt 11, 3) := by decide +kernel
theorem dTP_markAt_10 : decode (mB TP_markAt) 10 = .ok (.iload_n 2, 1) := by decide +kernel
theorem dTP_markAt_11 : decode (mB TP_markAt) 11 = .ok (.aload_n 3, 1) := by decide +kernel
theorem dTP_markAt_12 : decode (mB TP_markAt) 12 = .ok (.getfield 104, 3) := by decide +kernel
theorem dTP_markAt_15 : decode (mB TP_markAt) 15 = .ok (.if_icmp .lt 14, 3) := by decide +kernel
theorem dTP_markAt_18 : decode (mB TP_markAt) 18 = .ok (.new 280, 3) := by decide +kernel
theorem dTP_markAt_21 : decode (mB TP_markAt) 21 = .ok (.dup, 1) := by decide +kernel
theorem dTP_markAt_22 : decode (mB TP_markAt) 22 = .ok (.ldc_w 282, 3) := by decide +kernel
theorem dTP_markAt_25 : decode (mB TP_markAt) 25 = .ok (.invokespecial 284, 3) := by decide +kernel
theorem dTP_markAt_28 : decode (mB TP_markAt) 28 = .ok (.athrow, 1) := by decide +kernel
theorem dTP_markAt_29 : decode (mB TP_markAt) 29 = .ok (.aload_n 3, 1) := by decide +kernel
theorem dTP_markAt_30 : decode (mB TP_markAt) 30 = .ok (.iload_n 2, 1) := by decide +kernel
theorem dTP_markAt_31 : decode (mB TP_markAt) 31 = .ok (.invokevirtual 285, 3) := by decide +kernel
theorem dTP_markAt_34 : decode (mB TP_markAt) 34 = .ok (.ireturn, 1) := by decide +kernel
def w_TP_markAt (o : Nat) (x1 : Int32) (x2 : Int32) (h : tpH) (X : String → tpH → Prop) (R : Int32 → tpH → Prop) : Prop :=
  hT h o = 13 ∧ (w_TP_needTree o x1 h X (fun v3 h2 => (x2 < 0 → (X "java/lang/IndexOutOfBoundsException" (nC h2 0 0 6))) ∧ (¬ x2 < 0 → (∃ a5, v3 = some a5 ∧ hT h2 a5 = 12 ∧ ((x2 < (hI h2 a5 0) → (w_Tr_markOf a5 x2 h2 (fun v10 h9 => R v10 h9))) ∧ (¬ x2 < (hI h2 a5 0) → (X "java/lang/IndexOutOfBoundsException" (nC h2 0 0 6))))))))
theorem s_TP_markAt {o : Nat} {x1 : Int32} {x2 : Int32} {h : tpH} {R : Int32 → tpH → Prop} {X : String → tpH → Prop} (hw : w_TP_markAt o x1 x2 h X R) : tpC TP_markAt 7 [vR (some o), vI x1, vI x2] h (tpOi R X) := by
  refine tpC_of mv_TP_markAt.2.2.2.1 rfl rfl (Nat.le_of_ble_eq_true rfl) ?_
  show tpR TP_markAt 7 h _ _ 0 [some (vR (some o)), some (vI x1), some (vI x2), none] [] h
  unfold w_TP_markAt at hw
  refine tq_aload_n dTP_markAt_0 rfl rfl ?_
  refine tq_iload_n dTP_markAt_1 rfl rfl ?_
  obtain ⟨f1, hw⟩ := hw
  refine te_callV mv_TP_needTree (ci := 12) (dc := 6) (as := [vI x1]) (rest := []) kTP_96 rfl (Nat.le_of_ble_eq_true rfl) (Nat.le_of_ble_eq_true rfl) rfl rfl rfl f1 (Nat.le_of_ble_eq_true rfl) dTP_markAt_2 (s_TP_needTree hw) (fun _ _ hx => tpXx.out rfl hx) (tk_r fun v3 h2 hw => ?_)
  refine tq_astore_n (ls' := [some (vR (some o)), some (vI x1), some (vI x2), some (vR v3)]) dTP_markAt_5 rfl (Nat.le_of_ble_eq_true rfl) rfl ?_
  refine tq_iload_n dTP_markAt_6 rfl rfl ?_
  refine tq_iflt (tgt := 18) dTP_markAt_7 (by decide) (fun c4 => ?_) (fun c4 => ?_)
  · have hw := hw.1 c4
    exact tq_thr thTP_284 cTP_280 (tx := "there is no such place") (by decide +kernel) (Nat.le_of_ble_eq_true rfl) (Nat.le_of_ble_eq_true rfl) rfl ⟨⟨dTP_markAt_18, dTP_markAt_21⟩, Or.inr ⟨dTP_markAt_22, dTP_markAt_25, dTP_markAt_28⟩⟩ hw
  · have hw := hw.2 c4
    refine tq_iload_n dTP_markAt_10 rfl rfl ?_
    refine tq_aload_n dTP_markAt_11 rfl rfl ?_
    obtain ⟨a5, e6, f7, hw⟩ := hw
    refine te_geti dTP_markAt_12 fTP_104 rfl e6 f7 ?_
    refine tq_icmplt (tgt := 29) dTP_markAt_15 (by decide) (fun c8 => ?_) (fun c8 => ?_)
    · have hw := hw.1 c8
      refine tq_aload_n dTP_markAt_29 rfl rfl ?_
      refine tq_iload_n dTP_markAt_30 rfl rfl ?_
      refine te_callV mv_Tr_markOf (ci := 11) (dc := 1) (as := [vI x2]) (rest := []) kTP_285 rfl (Nat.le_of_ble_eq_true rfl) (Nat.le_of_ble_eq_true rfl) rfl rfl e6 f7 (Nat.le_of_ble_eq_true rfl) dTP_markAt_31 (s_Tr_markOf hw) (fun _ _ hx => False.elim hx) (tk_i fun v10 h9 hw => ?_)
      exact tq_iret rfl rfl dTP_markAt_34 hw
    · have hw := hw.2 c8
      exact tq_thr thTP_284 cTP_280 (tx := "there is no such place") (by decide +kernel) (Nat.le_of_ble_eq_true rfl) (Nat.le_of_ble_eq_true rfl) rfl ⟨⟨dTP_markAt_18, dTP_markAt_21⟩, Or.inr ⟨dTP_markAt_22, dTP_markAt_25, dTP_markAt_28⟩⟩ hw
/-! T.needMade -/
theorem dTP_needMade_0 : decode (mB TP_needMade) 0 = .ok (.iload_n 1, 1) := by decide +kernel
theorem dTP_needMade_1 : decode (mB TP_needMade) 1 = .ok (.ifCond .lt 14, 3) := by decide +kernel
theorem dTP_needMade_4 : decode (mB TP_needMade) 4 = .ok (.iload_n 1, 1) := by decide +kernel
theorem dTP_needMade_5 : decode (mB TP_needMade) 5 = .ok (.aload_n 0, 1) := by decide +kernel
theorem dTP_needMade_6 : decode (mB TP_needMade) 6 = .ok (.getfield 10, 3) := by decide +kernel
theorem dTP_needMade_9 : decode (mB TP_needMade) 9 = .ok (.getfield 405, 3) := by decide +kernel
theorem dTP_needMade_12 : decode (mB TP_needMade) 12 = .ok (.if_icmp .lt 14, 3) := by decide +kernel
theorem dTP_needMade_15 : decode (mB TP_needMade) 15 = .ok (.new 280, 3) := by decide +kernel
theorem dTP_needMade_18 : decode (mB TP_needMade) 18 = .ok (.dup, 1) := by decide +kernel
theorem dTP_needMade_19 : decode (mB TP_needMade) 19 = .ok (.ldc_w 408, 3) := by decide +kernel
theorem dTP_needMade_22 : decode (mB TP_needMade) 22 = .ok (.invokespecial 284, 3) := by decide +kernel
theorem dTP_needMade_25 : decode (mB TP_needMade) 25 = .ok (.athrow, 1) := by decide +kernel
theorem dTP_needMade_26 : decode (mB TP_needMade) 26 = .ok (.return_, 1) := by decide +kernel
def w_TP_needMade (o : Nat) (x1 : Int32) (h : tpH) (X : String → tpH → Prop) (R : tpH → Prop) : Prop :=
  (x1 < 0 → (X "java/lang/IndexOutOfBoundsException" (nC h 0 0 6))) ∧ (¬ x1 < 0 → (hT h o = 13 ∧ (∃ a3, (hR h o 0) = some a3 ∧ hT h a3 = 5 ∧ ((x1 < (hI h a3 2) → (R h)) ∧ (¬ x1 < (hI h a3 2) → (X "java/lang/IndexOutOfBoundsException" (nC h 0 0 6)))))))
theorem s_TP_needMade {o : Nat} {x1 : Int32} {h : tpH} {R : tpH → Prop} {X : String → tpH → Prop} (hw : w_TP_needMade o x1 h X R) : tpC TP_needMade 6 [vR (some o), vI x1] h (tpOv R X) := by
  refine tpC_of mv_TP_needMade.2.2.2.1 rfl rfl (Nat.le_of_ble_eq_true rfl) ?_
  show tpR TP_needMade 6 h _ _ 0 [some (vR (some o)), some (vI x1)] [] h
  unfold w_TP_needMade at hw
  refine tq_iload_n dTP_needMade_0 rfl rfl ?_
  refine tq_iflt (tgt := 15) dTP_needMade_1 (by decide) (fun c1 => ?_) (fun c1 => ?_)
  · have hw := hw.1 c1
    exact tq_thr thTP_284 cTP_280 (tx := "there is no such mark") (by decide +kernel) (Nat.le_of_ble_eq_true rfl) (Nat.le_of_ble_eq_true rfl) rfl ⟨⟨dTP_needMade_15, dTP_needMade_18⟩, Or.inr ⟨dTP_needMade_19, dTP_needMade_22, dTP_needMade_25⟩⟩ hw
  · have hw := hw.2 c1
    refine tq_iload_n dTP_needMade_4 rfl rfl ?_
    refine tq_aload_n dTP_needMade_5 rfl rfl ?_
    obtain ⟨f2, hw⟩ := hw
    refine te_getr dTP_needMade_6 fTP_10 rfl rfl f2 ?_
    obtain ⟨a3, e4, f5, hw⟩ := hw
    refine te_geti dTP_needMade_9 fTP_405 rfl e4 f5 ?_
    refine tq_icmplt (tgt := 26) dTP_needMade_12 (by decide) (fun c6 => ?_) (fun c6 => ?_)
    · have hw := hw.1 c6
      exact tq_vret rfl dTP_needMade_26 hw
    · have hw := hw.2 c6
      exact tq_thr thTP_284 cTP_280 (tx := "there is no such mark") (by decide +kernel) (Nat.le_of_ble_eq_true rfl) (Nat.le_of_ble_eq_true rfl) rfl ⟨⟨dTP_needMade_15, dTP_needMade_18⟩, Or.inr ⟨dTP_needMade_19, dTP_needMade_22, dTP_needMade_25⟩⟩ hw
/-! T.value -/
theorem dTP_value_0 : decode (mB TP_value) 0 = .ok (.aload_n 0, 1) := by decide +kernel
theorem dTP_value_1 : decode (mB TP_value) 1 = .ok (.iload_n 1, 1) := by decide +kernel
theorem dTP_value_2 : decode (mB TP_value) 2 = .ok (.invokevirtual 96, 3) := by decide +kernel
theorem dTP_value_5 : decode (mB TP_value) 5 = .ok (.astore_n 3, 1) := by decide +kernel
theorem dTP_value_6 : decode (mB TP_value) 6 = .ok (.aload_n 0, 1) := by decide +kernel
theorem dTP_value_7 : decode (mB TP_value) 7 = .ok (.iload_n 2, 1) := by decide +kernel
theorem dTP_value_8 : decode (mB TP_value) 8 = .ok (.invokevirtual 288, 3) := by decide +kernel
theorem dTP_value_11 : decode (mB TP_value) 11 = .ok (.aload_n 3, 1) := by decide +kernel
theorem dTP_value_12 : decode (mB TP_value) 12 = .ok (.iload_n 2, 1) := by decide +kernel
theorem dTP_value_13 : decode (mB TP_value) 13 = .ok (.invokevirtual 291, 3) := by decide +kernel
theorem dTP_value_16 : decode (mB TP_value) 16 = .ok (.ireturn, 1) := by decide +kernel
def w_TP_value (o : Nat) (x1 : Int32) (x2 : Int32) (h : tpH) (X : String → tpH → Prop) (R : Int32 → tpH → Prop) : Prop :=
  hT h o = 13 ∧ (w_TP_needTree o x1 h X (fun v3 h2 => hT h2 o = 13 ∧ (w_TP_needMade o x2 h2 X (fun h5 => ∃ a6, v3 = some a6 ∧ hT h5 a6 = 12 ∧ (w_Tr_worthOfMark a6 x2 h5 (fun v10 h9 => R v10 h9))))))
theorem s_TP_value {o : Nat} {x1 : Int32} {x2 : Int32} {h : tpH} {R : Int32 → tpH → Prop} {X : String → tpH → Prop} (hw : w_TP_value o x1 x2 h X R) : tpC TP_value 7 [vR (some o), vI x1, vI x2] h (tpOi R X) := by
  refine tpC_of mv_TP_value.2.2.2.1 rfl rfl (Nat.le_of_ble_eq_true rfl) ?_
  show tpR TP_value 7 h _ _ 0 [some (vR (some o)), some (vI x1), some (vI x2), none] [] h
  unfold w_TP_value at hw
  refine tq_aload_n dTP_value_0 rfl rfl ?_
  refine tq_iload_n dTP_value_1 rfl rfl ?_
  obtain ⟨f1, hw⟩ := hw
  refine te_callV mv_TP_needTree (ci := 12) (dc := 6) (as := [vI x1]) (rest := []) kTP_96 rfl (Nat.le_of_ble_eq_true rfl) (Nat.le_of_ble_eq_true rfl) rfl rfl rfl f1 (Nat.le_of_ble_eq_true rfl) dTP_value_2 (s_TP_needTree hw) (fun _ _ hx => tpXx.out rfl hx) (tk_r fun v3 h2 hw => ?_)
  refine tq_astore_n (ls' := [some (vR (some o)), some (vI x1), some (vI x2), some (vR v3)]) dTP_value_5 rfl (Nat.le_of_ble_eq_true rfl) rfl ?_
  refine tq_aload_n dTP_value_6 rfl rfl ?_
  refine tq_iload_n dTP_value_7 rfl rfl ?_
  obtain ⟨f4, hw⟩ := hw
  refine te_callV mv_TP_needMade (ci := 12) (dc := 6) (as := [vI x2]) (rest := []) kTP_288 rfl (Nat.le_of_ble_eq_true rfl) (Nat.le_of_ble_eq_true rfl) rfl rfl rfl f4 (Nat.le_of_ble_eq_true rfl) dTP_value_8 (s_TP_needMade hw) (fun _ _ hx => tpXx.out rfl hx) (tk_v fun h5 hw => ?_)
  refine tq_aload_n dTP_value_11 rfl rfl ?_
  refine tq_iload_n dTP_value_12 rfl rfl ?_
  obtain ⟨a6, e7, f8, hw⟩ := hw
  refine te_callV mv_Tr_worthOfMark (ci := 11) (dc := 1) (as := [vI x2]) (rest := []) kTP_291 rfl (Nat.le_of_ble_eq_true rfl) (Nat.le_of_ble_eq_true rfl) rfl rfl e7 f8 (Nat.le_of_ble_eq_true rfl) dTP_value_13 (s_Tr_worthOfMark hw) (fun _ _ hx => False.elim hx) (tk_i fun v10 h9 hw => ?_)
  exact tq_iret rfl rfl dTP_value_16 hw
/-! T.parent -/
theorem dTP_parent_0 : decode (mB TP_parent) 0 = .ok (.aload_n 0, 1) := by decide +kernel
theorem dTP_parent_1 : decode (mB TP_parent) 1 = .ok (.iload_n 1, 1) := by decide +kernel
theorem dTP_parent_2 : decode (mB TP_parent) 2 = .ok (.invokevirtual 96, 3) := by decide +kernel
theorem dTP_parent_5 : decode (mB TP_parent) 5 = .ok (.astore_n 3, 1) := by decide +kernel
theorem dTP_parent_6 : decode (mB TP_parent) 6 = .ok (.aload_n 0, 1) := by decide +kernel
theorem dTP_parent_7 : decode (mB TP_parent) 7 = .ok (.iload_n 2, 1) := by decide +kernel
theorem dTP_parent_8 : decode (mB TP_parent) 8 = .ok (.invokevirtual 288, 3) := by decide +kernel
theorem dTP_parent_11 : decode (mB TP_parent) 11 = .ok (.aload_n 3, 1) := by decide +kernel
theorem dTP_parent_12 : decode (mB TP_parent) 12 = .ok (.iload_n 2, 1) := by decide +kernel
theorem dTP_parent_13 : decode (mB TP_parent) 13 = .ok (.invokevirtual 294, 3) := by decide +kernel
theorem dTP_parent_16 : decode (mB TP_parent) 16 = .ok (.ireturn, 1) := by decide +kernel
def w_TP_parent (o : Nat) (x1 : Int32) (x2 : Int32) (h : tpH) (X : String → tpH → Prop) (R : Int32 → tpH → Prop) : Prop :=
  hT h o = 13 ∧ (w_TP_needTree o x1 h X (fun v3 h2 => hT h2 o = 13 ∧ (w_TP_needMade o x2 h2 X (fun h5 => ∃ a6, v3 = some a6 ∧ hT h5 a6 = 12 ∧ (w_Tr_parentOfMark a6 x2 h5 (fun v10 h9 => R v10 h9))))))
theorem s_TP_parent {o : Nat} {x1 : Int32} {x2 : Int32} {h : tpH} {R : Int32 → tpH → Prop} {X : String → tpH → Prop} (hw : w_TP_parent o x1 x2 h X R) : tpC TP_parent 7 [vR (some o), vI x1, vI x2] h (tpOi R X) := by
  refine tpC_of mv_TP_parent.2.2.2.1 rfl rfl (Nat.le_of_ble_eq_true rfl) ?_
  show tpR TP_parent 7 h _ _ 0 [some (vR (some o)), some (vI x1), some (vI x2), none] [] h
  unfold w_TP_parent at hw
  refine tq_aload_n dTP_parent_0 rfl rfl ?_
  refine tq_iload_n dTP_parent_1 rfl rfl ?_
  obtain ⟨f1, hw⟩ := hw
  refine te_callV mv_TP_needTree (ci := 12) (dc := 6) (as := [vI x1]) (rest := []) kTP_96 rfl (Nat.le_of_ble_eq_true rfl) (Nat.le_of_ble_eq_true rfl) rfl rfl rfl f1 (Nat.le_of_ble_eq_true rfl) dTP_parent_2 (s_TP_needTree hw) (fun _ _ hx => tpXx.out rfl hx) (tk_r fun v3 h2 hw => ?_)
  refine tq_astore_n (ls' := [some (vR (some o)), some (vI x1), some (vI x2), some (vR v3)]) dTP_parent_5 rfl (Nat.le_of_ble_eq_true rfl) rfl ?_
  refine tq_aload_n dTP_parent_6 rfl rfl ?_
  refine tq_iload_n dTP_parent_7 rfl rfl ?_
  obtain ⟨f4, hw⟩ := hw
  refine te_callV mv_TP_needMade (ci := 12) (dc := 6) (as := [vI x2]) (rest := []) kTP_288 rfl (Nat.le_of_ble_eq_true rfl) (Nat.le_of_ble_eq_true rfl) rfl rfl rfl f4 (Nat.le_of_ble_eq_true rfl) dTP_parent_8 (s_TP_needMade hw) (fun _ _ hx => tpXx.out rfl hx) (tk_v fun h5 hw => ?_)
  refine tq_aload_n dTP_parent_11 rfl rfl ?_
  refine tq_iload_n dTP_parent_12 rfl rfl ?_
  obtain ⟨a6, e7, f8, hw⟩ := hw
  refine te_callV mv_Tr_parentOfMark (ci := 11) (dc := 1) (as := [vI x2]) (rest := []) kTP_294 rfl (Nat.le_of_ble_eq_true rfl) (Nat.le_of_ble_eq_true rfl) rfl rfl e7 f8 (Nat.le_of_ble_eq_true rfl) dTP_parent_13 (s_Tr_parentOfMark hw) (fun _ _ hx => False.elim hx) (tk_i fun v10 h9 hw => ?_)
  exact tq_iret rfl rfl dTP_parent_16 hw
/-! T.conflicts -/
theorem dTP_conflicts_0 : decode (mB TP_conflicts) 0 = .ok (.aload_n 0, 1) := by decide +kernel
theorem dTP_conflicts_1 : decode (mB TP_conflicts) 1 = .ok (.getfield 70, 3) := by decide +kernel
theorem dTP_conflicts_4 : decode (mB TP_conflicts) 4 = .ok (.getfield 344, 3) := by decide +kernel
theorem dTP_conflicts_7 : decode (mB TP_conflicts) 7 = .ok (.getfield 347, 3) := by decide +kernel
theorem dTP_conflicts_10 : decode (mB TP_conflicts) 10 = .ok (.ireturn, 1) := by decide +kernel
def w_TP_conflicts (o : Nat) (h : tpH) (R : Int32 → tpH → Prop) : Prop :=
  hT h o = 13 ∧ (∃ a2, (hR h o 11) = some a2 ∧ hT h a2 = 7 ∧ (∃ a5, (hR h a2 10) = some a5 ∧ hT h a5 = 8 ∧ (R (hI h a5 1) h)))
theorem s_TP_conflicts {o : Nat} {h : tpH} {R : Int32 → tpH → Prop} (hw : w_TP_conflicts o h R) : tpC TP_conflicts 0 [vR (some o)] h (tpOi R (fun _ _ => False)) := by
  refine tpC_of mv_TP_conflicts.2.2.2.1 rfl rfl (Nat.le_of_ble_eq_true rfl) ?_
  show tpR TP_conflicts 0 h _ _ 0 [some (vR (some o))] [] h
  unfold w_TP_conflicts at hw
  refine tq_aload_n dTP_conflicts_0 rfl rfl ?_
  obtain ⟨f1, hw⟩ := hw
  refine te_getr dTP_conflicts_1 fTP_70 rfl rfl f1 ?_
  obtain ⟨a2, e3, f4, hw⟩ := hw
  refine te_getr dTP_conflicts_4 fTP_344 rfl e3 f4 ?_
  obtain ⟨a5, e6, f7, hw⟩ := hw
  refine te_geti dTP_conflicts_7 fTP_347 rfl e6 f7 ?_
  exact tq_iret rfl rfl dTP_conflicts_10 hw
/-! T.needConflict -/
theorem dTP_needConflict_0 : decode (mB TP_needConflict) 0 = .ok (.iload_n 1, 1) := by decide +kernel
theorem dTP_needConflict_1 : decode (mB TP_needConflict) 1 = .ok (.ifCond .lt 17, 3) := by decide +kernel
theorem dTP_needConflict_4 : decode (mB TP_needConflict) 4 = .ok (.iload_n 1, 1) := by decide +kernel
theorem dTP_needConflict_5 : decode (mB TP_needConflict) 5 = .ok (.aload_n 0, 1) := by decide +kernel
theorem dTP_needConflict_6 : decode (mB TP_needConflict) 6 = .ok (.getfield 70, 3) := by decide +kernel
theorem dTP_needConflict_9 : decode (mB TP_needConflict) 9 = .ok (.getfield 344, 3) := by decide +kernel
theorem dTP_needConflict_12 : decode (mB TP_needConflict) 12 = .ok (.getfield 347, 3) := by decide +kernel
theorem dTP_needConflict_15 : decode (mB TP_needConflict) 15 = .ok (.if_icmp .lt 14, 3) := by decide +kernel
theorem dTP_needConflict_18 : decode (mB TP_needConflict) 18 = .ok (.new 280, 3) := by decide +kernel
theorem dTP_needConflict_21 : decode (mB TP_needConflict) 21 = .ok (.dup, 1) := by decide +kernel
theorem dTP_needConflict_22 : decode (mB TP_needConflict) 22 = .ok (.ldc_w 403, 3) := by decide +kernel
theorem dTP_needConflict_25 : decode (mB TP_needConflict) 25 = .ok (.invokespecial 284, 3) := by decide +kernel
theorem dTP_needConflict_28 : decode (mB TP_needConflict) 28 = .ok (.athrow, 1) := by decide +kernel
theorem dTP_needConflict_29 : decode (mB TP_needConflict) 29 = .ok (.return_, 1) := by decide +kernel
def w_TP_needConflict (o : Nat) (x1 : Int32) (h : tpH) (X : String → tpH → Prop) (R : tpH → Prop) : Prop :=
  (x1 < 0 → (X "java/lang/IndexOutOfBoundsException" (nC h 0 0 6))) ∧ (¬ x1 < 0 → (hT h o = 13 ∧ (∃ a3, (hR h o 11) = some a3 ∧ hT h a3 = 7 ∧ (∃ a6, (hR h a3 10) = some a6 ∧ hT h a6 = 8 ∧ ((x1 < (hI h a6 1) → (R h)) ∧ (¬ x1 < (hI h a6 1) → (X "java/lang/IndexOutOfBoundsException" (nC h 0 0 6))))))))
theorem s_TP_needConflict {o : Nat} {x1 : Int32} {h : tpH} {R : tpH → Prop} {X : String → tpH → Prop} (hw : w_TP_needConflict o x1 h X R) : tpC TP_needConflict 6 [vR (some o), vI x1] h (tpOv R X) := by
  refine tpC_of mv_TP_needConflict.2.2.2.1 rfl rfl (Nat.le_of_ble_eq_true rfl) ?_
  show tpR TP_needConflict 6 h _ _ 0 [some (vR (some o)), some (vI x1)] [] h
  unfold w_TP_needConflict at hw
  refine tq_iload_n dTP_needConflict_0 rfl rfl ?_
  refine tq_iflt (tgt := 18) dTP_needConflict_1 (by decide) (fun c1 => ?_) (fun c1 => ?_)
  · have hw := hw.1 c1
    exact tq_thr thTP_284 cTP_280 (tx := "there is no such conflict") (by decide +kernel) (Nat.le_of_ble_eq_true rfl) (Nat.le_of_ble_eq_true rfl) rfl ⟨⟨dTP_needConflict_18, dTP_needConflict_21⟩, Or.inr ⟨dTP_needConflict_22, dTP_needConflict_25, dTP_needConflict_28⟩⟩ hw
  · have hw := hw.2 c1
    refine tq_iload_n dTP_needConflict_4 rfl rfl ?_
    refine tq_aload_n dTP_needConflict_5 rfl rfl ?_
    obtain ⟨f2, hw⟩ := hw
    refine te_getr dTP_needConflict_6 fTP_70 rfl rfl f2 ?_
    obtain ⟨a3, e4, f5, hw⟩ := hw
    refine te_getr dTP_needConflict_9 fTP_344 rfl e4 f5 ?_
    obtain ⟨a6, e7, f8, hw⟩ := hw
    refine te_geti dTP_needConflict_12 fTP_347 rfl e7 f8 ?_
    refine tq_icmplt (tgt := 29) dTP_needConflict_15 (by decide) (fun c9 => ?_) (fun c9 => ?_)
    · have hw := hw.1 c9
      exact tq_vret rfl dTP_needConflict_29 hw
    · have hw := hw.2 c9
      exact tq_thr thTP_284 cTP_280 (tx := "there is no such conflict") (by decide +kernel) (Nat.le_of_ble_eq_true rfl) (Nat.le_of_ble_eq_true rfl) rfl ⟨⟨dTP_needConflict_18, dTP_needConflict_21⟩, Or.inr ⟨dTP_needConflict_22, dTP_needConflict_25, dTP_needConflict_28⟩⟩ hw
/-! T.conflictKind -/
theorem dTP_conflictKind_0 : decode (mB TP_conflictKind) 0 = .ok (.aload_n 0, 1) := by decide +kernel
theorem dTP_conflictKind_1 : decode (mB TP_conflictKind) 1 = .ok (.iload_n 1, 1) := by decide +kernel
theorem dTP_conflictKind_2 : decode (mB TP_conflictKind) 2 = .ok (.invokevirtual 350, 3) := by decide +kernel
theorem dTP_conflictKind_5 : decode (mB TP_conflictKind) 5 = .ok (.aload_n 0, 1) := by decide +kernel
theorem dTP_conflictKind_6 : decode (mB TP_conflictKind) 6 = .ok (.getfield 70, 3) := by decide +kernel
theorem dTP_conflictKind_9 : decode (mB TP_conflictKind) 9 = .ok (.getfield 344, 3) := by decide +kernel
theorem dTP_conflictKind_12 : decode (mB TP_conflictKind) 12 = .ok (.iload_n 1, 1) := by decide +kernel
theorem dTP_conflictKind_13 : decode (mB TP_conflictKind) 13 = .ok (.invokevirtual 223, 3) := by decide +kernel
theorem dTP_conflictKind_16 : decode (mB TP_conflictKind) 16 = .ok (.ireturn, 1) := by decide +kernel
def w_TP_conflictKind (o : Nat) (x1 : Int32) (h : tpH) (X : String → tpH → Prop) (R : Int32 → tpH → Prop) : Prop :=
  hT h o = 13 ∧ (w_TP_needConflict o x1 h X (fun h2 => hT h2 o = 13 ∧ (∃ a4, (hR h2 o 11) = some a4 ∧ hT h2 a4 = 7 ∧ (∃ a7, (hR h2 a4 10) = some a7 ∧ hT h2 a7 = 8 ∧ (w_Ro_at a7 x1 h2 (fun v11 h10 => R v11 h10))))))
theorem s_TP_conflictKind {o : Nat} {x1 : Int32} {h : tpH} {R : Int32 → tpH → Prop} {X : String → tpH → Prop} (hw : w_TP_conflictKind o x1 h X R) : tpC TP_conflictKind 7 [vR (some o), vI x1] h (tpOi R X) := by
  refine tpC_of mv_TP_conflictKind.2.2.2.1 rfl rfl (Nat.le_of_ble_eq_true rfl) ?_
  show tpR TP_conflictKind 7 h _ _ 0 [some (vR (some o)), some (vI x1)] [] h
  unfold w_TP_conflictKind at hw
  refine tq_aload_n dTP_conflictKind_0 rfl rfl ?_
  refine tq_iload_n dTP_conflictKind_1 rfl rfl ?_
  obtain ⟨f1, hw⟩ := hw
  refine te_callV mv_TP_needConflict (ci := 12) (dc := 6) (as := [vI x1]) (rest := []) kTP_350 rfl (Nat.le_of_ble_eq_true rfl) (Nat.le_of_ble_eq_true rfl) rfl rfl rfl f1 (Nat.le_of_ble_eq_true rfl) dTP_conflictKind_2 (s_TP_needConflict hw) (fun _ _ hx => tpXx.out rfl hx) (tk_v fun h2 hw => ?_)
  refine tq_aload_n dTP_conflictKind_5 rfl rfl ?_
  obtain ⟨f3, hw⟩ := hw
  refine te_getr dTP_conflictKind_6 fTP_70 rfl rfl f3 ?_
  obtain ⟨a4, e5, f6, hw⟩ := hw
  refine te_getr dTP_conflictKind_9 fTP_344 rfl e5 f6 ?_
  refine tq_iload_n dTP_conflictKind_12 rfl rfl ?_
  obtain ⟨a7, e8, f9, hw⟩ := hw
  refine te_callV mv_Ro_at (ci := 7) (dc := 0) (as := [vI x1]) (rest := []) kTP_223 rfl (Nat.le_of_ble_eq_true rfl) (Nat.le_of_ble_eq_true rfl) rfl rfl e8 f9 (Nat.le_of_ble_eq_true rfl) dTP_conflictKind_13 (s_Ro_at hw) (fun _ _ hx => False.elim hx) (tk_i fun v11 h10 hw => ?_)
  exact tq_iret rfl rfl dTP_conflictKind_16 hw
/-! T.conflictMark -/
theorem dTP_conflictMark_0 : decode (mB TP_conflictMark) 0 = .ok (.aload_n 0, 1) := by decide +kernel
theorem dTP_conflictMark_1 : decode (mB TP_conflictMark) 1 = .ok (.iload_n 1, 1) := by decide +kernel
theorem dTP_conflictMark_2 : decode (mB TP_conflictMark) 2 = .ok (.invokevirtual 350, 3) := by decide +kernel
theorem dTP_conflictMark_5 : decode (mB TP_conflictMark) 5 = .ok (.aload_n 0, 1) := by decide +kernel
theorem dTP_conflictMark_6 : decode (mB TP_conflictMark) 6 = .ok (.getfield 70, 3) := by decide +kernel
theorem dTP_conflictMark_9 : decode (mB TP_conflictMark) 9 = .ok (.getfield 353, 3) := by decide +kernel
theorem dTP_conflictMark_12 : decode (mB TP_conflictMark) 12 = .ok (.iload_n 1, 1) := by decide +kernel
theorem dTP_conflictMark_13 : decode (mB TP_conflictMark) 13 = .ok (.invokevirtual 223, 3) := by decide +kernel
theorem dTP_conflictMark_16 : decode (mB TP_conflictMark) 16 = .ok (.ireturn, 1) := by decide +kernel
def w_TP_conflictMark (o : Nat) (x1 : Int32) (h : tpH) (X : String → tpH → Prop) (R : Int32 → tpH → Prop) : Prop :=
  hT h o = 13 ∧ (w_TP_needConflict o x1 h X (fun h2 => hT h2 o = 13 ∧ (∃ a4, (hR h2 o 11) = some a4 ∧ hT h2 a4 = 7 ∧ (∃ a7, (hR h2 a4 11) = some a7 ∧ hT h2 a7 = 8 ∧ (w_Ro_at a7 x1 h2 (fun v11 h10 => R v11 h10))))))
theorem s_TP_conflictMark {o : Nat} {x1 : Int32} {h : tpH} {R : Int32 → tpH → Prop} {X : String → tpH → Prop} (hw : w_TP_conflictMark o x1 h X R) : tpC TP_conflictMark 7 [vR (some o), vI x1] h (tpOi R X) := by
  refine tpC_of mv_TP_conflictMark.2.2.2.1 rfl rfl (Nat.le_of_ble_eq_true rfl) ?_
  show tpR TP_conflictMark 7 h _ _ 0 [some (vR (some o)), some (vI x1)] [] h
  unfold w_TP_conflictMark at hw
  refine tq_aload_n dTP_conflictMark_0 rfl rfl ?_
  refine tq_iload_n dTP_conflictMark_1 rfl rfl ?_
  obtain ⟨f1, hw⟩ := hw
  refine te_callV mv_TP_needConflict (ci := 12) (dc := 6) (as := [vI x1]) (rest := []) kTP_350 rfl (Nat.le_of_ble_eq_true rfl) (Nat.le_of_ble_eq_true rfl) rfl rfl rfl f1 (Nat.le_of_ble_eq_true rfl) dTP_conflictMark_2 (s_TP_needConflict hw) (fun _ _ hx => tpXx.out rfl hx) (tk_v fun h2 hw => ?_)
  refine tq_aload_n dTP_conflictMark_5 rfl rfl ?_
  obtain ⟨f3, hw⟩ := hw
  refine te_getr dTP_conflictMark_6 fTP_70 rfl rfl f3 ?_
  obtain ⟨a4, e5, f6, hw⟩ := hw
  refine te_getr dTP_conflictMark_9 fTP_353 rfl e5 f6 ?_
  refine tq_iload_n dTP_conflictMark_12 rfl rfl ?_
  obtain ⟨a7, e8, f9, hw⟩ := hw
  refine te_callV mv_Ro_at (ci := 7) (dc := 0) (as := [vI x1]) (rest := []) kTP_223 rfl (Nat.le_of_ble_eq_true rfl) (Nat.le_of_ble_eq_true rfl) rfl rfl e8 f9 (Nat.le_of_ble_eq_true rfl) dTP_conflictMark_13 (s_Ro_at hw) (fun _ _ hx => False.elim hx) (tk_i fun v11 h10 hw => ?_)
  exact tq_iret rfl rfl dTP_conflictMark_16 hw
