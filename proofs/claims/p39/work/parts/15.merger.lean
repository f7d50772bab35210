/-! T$Merger.<init> -/
theorem dMg_init_0 : decode (mB Mg_init) 0 = .ok (.aload_n 0, 1) := by decide +kernel
theorem dMg_init_1 : decode (mB Mg_init) 1 = .ok (.invokespecial 3, 3) := by decide +kernel
theorem dMg_init_4 : decode (mB Mg_init) 4 = .ok (.aload_n 0, 1) := by decide +kernel
theorem dMg_init_5 : decode (mB Mg_init) 5 = .ok (.new 9, 3) := by decide +kernel
theorem dMg_init_8 : decode (mB Mg_init) 8 = .ok (.dup, 1) := by decide +kernel
theorem dMg_init_9 : decode (mB Mg_init) 9 = .ok (.bipush 6, 2) := by decide +kernel
theorem dMg_init_11 : decode (mB Mg_init) 11 = .ok (.invokespecial 11, 3) := by decide +kernel
theorem dMg_init_14 : decode (mB Mg_init) 14 = .ok (.putfield 14, 3) := by decide +kernel
theorem dMg_init_17 : decode (mB Mg_init) 17 = .ok (.aload_n 0, 1) := by decide +kernel
theorem dMg_init_18 : decode (mB Mg_init) 18 = .ok (.new 9, 3) := by decide +kernel
theorem dMg_init_21 : decode (mB Mg_init) 21 = .ok (.dup, 1) := by decide +kernel
theorem dMg_init_22 : decode (mB Mg_init) 22 = .ok (.sipush 300, 3) := by decide +kernel
theorem dMg_init_25 : decode (mB Mg_init) 25 = .ok (.invokespecial 11, 3) := by decide +kernel
theorem dMg_init_28 : decode (mB Mg_init) 28 = .ok (.putfield 20, 3) := by decide +kernel
theorem dMg_init_31 : decode (mB Mg_init) 31 = .ok (.aload_n 0, 1) := by decide +kernel
theorem dMg_init_32 : decode (mB Mg_init) 32 = .ok (.new 9, 3) := by decide +kernel
theorem dMg_init_35 : decode (mB Mg_init) 35 = .ok (.dup, 1) := by decide +kernel
theorem dMg_init_36 : decode (mB Mg_init) 36 = .ok (.sipush 300, 3) := by decide +kernel
theorem dMg_init_39 : decode (mB Mg_init) 39 = .ok (.invokespecial 11, 3) := by decide +kernel
theorem dMg_init_42 : decode (mB Mg_init) 42 = .ok (.putfield 23, 3) := by decide +kernel
theorem dMg_init_45 : decode (mB Mg_init) 45 = .ok (.aload_n 0, 1) := by decide +kernel
theorem dMg_init_46 : decode (mB Mg_init) 46 = .ok (.new 9, 3) := by decide +kernel
theorem dMg_init_49 : decode (mB Mg_init) 49 = .ok (.dup, 1) := by decide +kernel
theorem dMg_init_50 : decode (mB Mg_init) 50 = .ok (.sipush 300, 3) := by decide +kernel
theorem dMg_init_53 : decode (mB Mg_init) 53 = .ok (.invokespecial 11, 3) := by decide +kernel
theorem dMg_init_56 : decode (mB Mg_init) 56 = .ok (.putfield 26, 3) := by decide +kernel
theorem dMg_init_59 : decode (mB Mg_init) 59 = .ok (.aload_n 0, 1) := by decide +kernel
theorem dMg_init_60 : decode (mB Mg_init) 60 = .ok (.new 9, 3) := by decide +kernel
theorem dMg_init_63 : decode (mB Mg_init) 63 = .ok (.dup, 1) := by decide +kernel
theorem dMg_init_64 : decode (mB Mg_init) 64 = .ok (.sipush 300, 3) := by decide +kernel
theorem dMg_init_67 : decode (mB Mg_init) 67 = .ok (.invokespecial 11, 3) := by decide +kernel
theorem dMg_init_70 : decode (mB Mg_init) 70 = .ok (.putfield 29, 3) := by decide +kernel
theorem dMg_init_73 : decode (mB Mg_init) 73 = .ok (.aload_n 0, 1) := by decide +kernel
theorem dMg_init_74 : decode (mB Mg_init) 74 = .ok (.new 9, 3) := by decide +kernel
theorem dMg_init_77 : decode (mB Mg_init) 77 = .ok (.dup, 1) := by decide +kernel
theorem dMg_init_78 : decode (mB Mg_init) 78 = .ok (.sipush 300, 3) := by decide +kernel
theorem dMg_init_81 : decode (mB Mg_init) 81 = .ok (.invokespecial 11, 3) := by decide +kernel
theorem dMg_init_84 : decode (mB Mg_init) 84 = .ok (.putfield 32, 3) := by decide +kernel
theorem dMg_init_87 : decode (mB Mg_init) 87 = .ok (.aload_n 0, 1) := by decide +kernel
theorem dMg_init_88 : decode (mB Mg_init) 88 = .ok (.new 9, 3) := by decide +kernel
theorem dMg_init_91 : decode (mB Mg_init) 91 = .ok (.dup, 1) := by decide +kernel
theorem dMg_init_92 : decode (mB Mg_init) 92 = .ok (.sipush 300, 3) := by decide +kernel
theorem dMg_init_95 : decode (mB Mg_init) 95 = .ok (.invokespecial 11, 3) := by decide +kernel
theorem dMg_init_98 : decode (mB Mg_init) 98 = .ok (.putfield 35, 3) := by decide +kernel
theorem dMg_init_101 : decode (mB Mg_init) 101 = .ok (.aload_n 0, 1) := by decide +kernel
theorem dMg_init_102 : decode (mB Mg_init) 102 = .ok (.new 9, 3) := by decide +kernel
theorem dMg_init_105 : decode (mB Mg_init) 105 = .ok (.dup, 1) := by decide +kernel
theorem dMg_init_106 : decode (mB Mg_init) 106 = .ok (.sipush 300, 3) := by decide +kernel
theorem dMg_init_109 : decode (mB Mg_init) 109 = .ok (.invokespecial 11, 3) := by decide +kernel
theorem dMg_init_112 : decode (mB Mg_init) 112 = .ok (.putfield 38, 3) := by decide +kernel
theorem dMg_init_115 : decode (mB Mg_init) 115 = .ok (.aload_n 0, 1) := by decide +kernel
theorem dMg_init_116 : decode (mB Mg_init) 116 = .ok (.new 9, 3) := by decide +kernel
theorem dMg_init_119 : decode (mB Mg_init) 119 = .ok (.dup, 1) := by decide +kernel
theorem dMg_init_120 : decode (mB Mg_init) 120 = .ok (.bipush 32, 2) := by decide +kernel
theorem dMg_init_122 : decode (mB Mg_init) 122 = .ok (.invokespecial 11, 3) := by decide +kernel
theorem dMg_init_125 : decode (mB Mg_init) 125 = .ok (.putfield 41, 3) := by decide +kernel
theorem dMg_init_128 : decode (mB Mg_init) 128 = .ok (.aload_n 0, 1) := by decide +kernel
theorem dMg_init_129 : decode (mB Mg_init) 129 = .ok (.new 9, 3) := by decide +kernel
theorem dMg_init_132 : decode (mB Mg_init) 132 = .ok (.dup, 1) := by decide +kernel
theorem dMg_init_133 : decode (mB Mg_init) 133 = .ok (.bipush 32, 2) := by decide +kernel
theorem dMg_init_135 : decode (mB Mg_init) 135 = .ok (.invokespecial 11, 3) := by decide +kernel
theorem dMg_init_138 : decode (mB Mg_init) 138 = .ok (.putfield 44, 3) := by decide +kernel
theorem dMg_init_141 : decode (mB Mg_init) 141 = .ok (.aload_n 0, 1) := by decide +kernel
theorem dMg_init_142 : decode (mB Mg_init) 142 = .ok (.aload_n 1, 1) := by decide +kernel
theorem dMg_init_143 : decode (mB Mg_init) 143 = .ok (.putfield 47, 3) := by decide +kernel
theorem dMg_init_146 : decode (mB Mg_init) 146 = .ok (.aload_n 0, 1) := by decide +kernel
theorem dMg_init_147 : decode (mB Mg_init) 147 = .ok (.aload_n 2, 1) := by decide +kernel
theorem dMg_init_148 : decode (mB Mg_init) 148 = .ok (.putfield 51, 3) := by decide +kernel
theorem dMg_init_151 : decode (mB Mg_init) 151 = .ok (.return_, 1) := by decide +kernel
def w_Mg_init (o : Nat) (x1 : Option Nat) (x2 : Option Nat) (h : tpH) (R : tpH → Prop) : Prop :=
  ∀ a1 h2, a1 = hZ h → h2 = nC h 8 0 2 → (w_Ro_init a1 (6 : Int32) h2 (fun h5 => hT h5 o = 7 ∧ (∀ h7, h7 = sR h5 o 2 (some a1) → (∀ a9 h10, a9 = hZ h7 → h10 = nC h7 8 0 2 → (w_Ro_init a9 (300 : Int32) h10 (fun h13 => hT h13 o = 7 ∧ (∀ h15, h15 = sR h13 o 3 (some a9) → (∀ a17 h18, a17 = hZ h15 → h18 = nC h15 8 0 2 → (w_Ro_init a17 (300 : Int32) h18 (fun h21 => hT h21 o = 7 ∧ (∀ h23, h23 = sR h21 o 4 (some a17) → (∀ a25 h26, a25 = hZ h23 → h26 = nC h23 8 0 2 → (w_Ro_init a25 (300 : Int32) h26 (fun h29 => hT h29 o = 7 ∧ (∀ h31, h31 = sR h29 o 5 (some a25) → (∀ a33 h34, a33 = hZ h31 → h34 = nC h31 8 0 2 → (w_Ro_init a33 (300 : Int32) h34 (fun h37 => hT h37 o = 7 ∧ (∀ h39, h39 = sR h37 o 6 (some a33) → (∀ a41 h42, a41 = hZ h39 → h42 = nC h39 8 0 2 → (w_Ro_init a41 (300 : Int32) h42 (fun h45 => hT h45 o = 7 ∧ (∀ h47, h47 = sR h45 o 7 (some a41) → (∀ a49 h50, a49 = hZ h47 → h50 = nC h47 8 0 2 → (w_Ro_init a49 (300 : Int32) h50 (fun h53 => hT h53 o = 7 ∧ (∀ h55, h55 = sR h53 o 8 (some a49) → (∀ a57 h58, a57 = hZ h55 → h58 = nC h55 8 0 2 → (w_Ro_init a57 (300 : Int32) h58 (fun h61 => hT h61 o = 7 ∧ (∀ h63, h63 = sR h61 o 9 (some a57) → (∀ a65 h66, a65 = hZ h63 → h66 = nC h63 8 0 2 → (w_Ro_init a65 (32 : Int32) h66 (fun h69 => hT h69 o = 7 ∧ (∀ h71, h71 = sR h69 o 10 (some a65) → (∀ a73 h74, a73 = hZ h71 → h74 = nC h71 8 0 2 → (w_Ro_init a73 (32 : Int32) h74 (fun h77 => hT h77 o = 7 ∧ (∀ h79, h79 = sR h77 o 11 (some a73) → (∀ h81, h81 = sR h79 o 0 x1 → (∀ h83, h83 = sR h81 o 1 x2 → (R h83))))))))))))))))))))))))))))))))))))))))))
theorem s_Mg_init {o : Nat} {x1 : Option Nat} {x2 : Option Nat} {h : tpH} {R : tpH → Prop} (hw : w_Mg_init o x1 x2 h R) : tpC Mg_init 2 [vR (some o), vR x1, vR x2] h (tpOv R (fun _ _ => False)) := by
  refine tpC_of mi_Mg_init.2.2.2.1 rfl rfl (Nat.le_of_ble_eq_true rfl) ?_
  show tpR Mg_init 2 h _ _ 0 [some (vR (some o)), some (vR x1), some (vR x2)] [] h
  unfold w_Mg_init at hw
  refine tq_aload_n dMg_init_0 rfl rfl ?_
  refine tq_obj oMg_3 (Nat.le_of_ble_eq_true rfl) (Nat.le_of_ble_eq_true rfl) dMg_init_1 ?_
  refine tq_aload_n dMg_init_4 rfl rfl ?_
  refine tq_new (ci := 7) cMg_9 ti_7 rfl dMg_init_5 (fun a1 h2 e3 e4 => ?_)
  have hw := hw a1 h2 e3 e4
  refine tq_dup dMg_init_8 rfl ?_
  refine tq_bipush (v := (6 : Int32)) dMg_init_9 tnb_6 ?_
  refine te_init mi_Ro_init (dc := 1) (as := [vI (6 : Int32)]) (rest := [vR (some a1), vR (some o)]) (Or.inl kMg_11) (Nat.le_of_ble_eq_true rfl) (Nat.le_of_ble_eq_true rfl) rfl rfl rfl (Nat.le_of_ble_eq_true rfl) dMg_init_11 (s_Ro_init hw) (fun _ _ hx => hx) (tk_v fun h5 hw => ?_)
  obtain ⟨f6, hw⟩ := hw
  refine te_putr dMg_init_14 pMg_14 rfl rfl rfl f6 (fun h7 e8 => ?_)
  have hw := hw h7 e8
  refine tq_aload_n dMg_init_17 rfl rfl ?_
  refine tq_new (ci := 7) cMg_9 ti_7 rfl dMg_init_18 (fun a9 h10 e11 e12 => ?_)
  have hw := hw a9 h10 e11 e12
  refine tq_dup dMg_init_21 rfl ?_
  refine tq_sipush (v := (300 : Int32)) dMg_init_22 tns_300 ?_
  refine te_init mi_Ro_init (dc := 1) (as := [vI (300 : Int32)]) (rest := [vR (some a9), vR (some o)]) (Or.inl kMg_11) (Nat.le_of_ble_eq_true rfl) (Nat.le_of_ble_eq_true rfl) rfl rfl rfl (Nat.le_of_ble_eq_true rfl) dMg_init_25 (s_Ro_init hw) (fun _ _ hx => hx) (tk_v fun h13 hw => ?_)
  obtain ⟨f14, hw⟩ := hw
  refine te_putr dMg_init_28 pMg_20 rfl rfl rfl f14 (fun h15 e16 => ?_)
  have hw := hw h15 e16
  refine tq_aload_n dMg_init_31 rfl rfl ?_
  refine tq_new (ci := 7) cMg_9 ti_7 rfl dMg_init_32 (fun a17 h18 e19 e20 => ?_)
  have hw := hw a17 h18 e19 e20
  refine tq_dup dMg_init_35 rfl ?_
  refine tq_sipush (v := (300 : Int32)) dMg_init_36 tns_300 ?_
  refine te_init mi_Ro_init (dc := 1) (as := [vI (300 : Int32)]) (rest := [vR (some a17), vR (some o)]) (Or.inl kMg_11) (Nat.le_of_ble_eq_true rfl) (Nat.le_of_ble_eq_true rfl) rfl rfl rfl (Nat.le_of_ble_eq_true rfl) dMg_init_39 (s_Ro_init hw) (fun _ _ hx => hx) (tk_v fun h21 hw => ?_)
  obtain ⟨f22, hw⟩ := hw
  refine te_putr dMg_init_42 pMg_23 rfl rfl rfl f22 (fun h23 e24 => ?_)
  have hw := hw h23 e24
  refine tq_aload_n dMg_init_45 rfl rfl ?_
  refine tq_new (ci := 7) cMg_9 ti_7 rfl dMg_init_46 (fun a25 h26 e27 e28 => ?_)
  have hw := hw a25 h26 e27 e28
  refine tq_dup dMg_init_49 rfl ?_
  refine tq_sipush (v := (300 : Int32)) dMg_init_50 tns_300 ?_
  refine te_init mi_Ro_init (dc := 1) (as := [vI (300 : Int32)]) (rest := [vR (some a25), vR (some o)]) (Or.inl kMg_11) (Nat.le_of_ble_eq_true rfl) (Nat.le_of_ble_eq_true rfl) rfl rfl rfl (Nat.le_of_ble_eq_true rfl) dMg_init_53 (s_Ro_init hw) (fun _ _ hx => hx) (tk_v fun h29 hw => ?_)
  obtain ⟨f30, hw⟩ := hw
  refine te_putr dMg_init_56 pMg_26 rfl rfl rfl f30 (fun h31 e32 => ?_)
  have hw := hw h31 e32
  refine tq_aload_n dMg_init_59 rfl rfl ?_
  refine tq_new (ci := 7) cMg_9 ti_7 rfl dMg_init_60 (fun a33 h34 e35 e36 => ?_)
  have hw := hw a33 h34 e35 e36
  refine tq_dup dMg_init_63 rfl ?_
  refine tq_sipush (v := (300 : Int32)) dMg_init_64 tns_300 ?_
  refine te_init mi_Ro_init (dc := 1) (as := [vI (300 : Int32)]) (rest := [vR (some a33), vR (some o)]) (Or.inl kMg_11) (Nat.le_of_ble_eq_true rfl) (Nat.le_of_ble_eq_true rfl) rfl rfl rfl (Nat.le_of_ble_eq_true rfl) dMg_init_67 (s_Ro_init hw) (fun _ _ hx => hx) (tk_v fun h37 hw => ?_)
  obtain ⟨f38, hw⟩ := hw
  refine te_putr dMg_init_70 pMg_29 rfl rfl rfl f38 (fun h39 e40 => ?_)
  have hw := hw h39 e40
  refine tq_aload_n dMg_init_73 rfl rfl ?_
  refine tq_new (ci := 7) cMg_9 ti_7 rfl dMg_init_74 (fun a41 h42 e43 e44 => ?_)
  have hw := hw a41 h42 e43 e44
  refine tq_dup dMg_init_77 rfl ?_
  refine tq_sipush (v := (300 : Int32)) dMg_init_78 tns_300 ?_
  refine te_init mi_Ro_init (dc := 1) (as := [vI (300 : Int32)]) (rest := [vR (some a41), vR (some o)]) (Or.inl kMg_11) (Nat.le_of_ble_eq_true rfl) (Nat.le_of_ble_eq_true rfl) rfl rfl rfl (Nat.le_of_ble_eq_true rfl) dMg_init_81 (s_Ro_init hw) (fun _ _ hx => hx) (tk_v fun h45 hw => ?_)
  obtain ⟨f46, hw⟩ := hw
  refine te_putr dMg_init_84 pMg_32 rfl rfl rfl f46 (fun h47 e48 => ?_)
  have hw := hw h47 e48
  refine tq_aload_n dMg_init_87 rfl rfl ?_
  refine tq_new (ci := 7) cMg_9 ti_7 rfl dMg_init_88 (fun a49 h50 e51 e52 => ?_)
  have hw := hw a49 h50 e51 e52
  refine tq_dup dMg_init_91 rfl ?_
  refine tq_sipush (v := (300 : Int32)) dMg_init_92 tns_300 ?_
  refine te_init mi_Ro_init (dc := 1) (as := [vI (300 : Int32)]) (rest := [vR (some a49), vR (some o)]) (Or.inl kMg_11) (Nat.le_of_ble_eq_true rfl) (Nat.le_of_ble_eq_true rfl) rfl rfl rfl (Nat.le_of_ble_eq_true rfl) dMg_init_95 (s_Ro_init hw) (fun _ _ hx => hx) (tk_v fun h53 hw => ?_)
  obtain ⟨f54, hw⟩ := hw
  refine te_putr dMg_init_98 pMg_35 rfl rfl rfl f54 (fun h55 e56 => ?_)
  have hw := hw h55 e56
  refine tq_aload_n dMg_init_101 rfl rfl ?_
  refine tq_new (ci := 7) cMg_9 ti_7 rfl dMg_init_102 (fun a57 h58 e59 e60 => ?_)
  have hw := hw a57 h58 e59 e60
  refine tq_dup dMg_init_105 rfl ?_
  refine tq_sipush (v := (300 : Int32)) dMg_init_106 tns_300 ?_
  refine te_init mi_Ro_init (dc := 1) (as := [vI (300 : Int32)]) (rest := [vR (some a57), vR (some o)]) (Or.inl kMg_11) (Nat.le_of_ble_eq_true rfl) (Nat.le_of_ble_eq_true rfl) rfl rfl rfl (Nat.le_of_ble_eq_true rfl) dMg_init_109 (s_Ro_init hw) (fun _ _ hx => hx) (tk_v fun h61 hw => ?_)
  obtain ⟨f62, hw⟩ := hw
  refine te_putr dMg_init_112 pMg_38 rfl rfl rfl f62 (fun h63 e64 => ?_)
  have hw := hw h63 e64
  refine tq_aload_n dMg_init_115 rfl rfl ?_
  refine tq_new (ci := 7) cMg_9 ti_7 rfl dMg_init_116 (fun a65 h66 e67 e68 => ?_)
  have hw := hw a65 h66 e67 e68
  refine tq_dup dMg_init_119 rfl ?_
  refine tq_bipush (v := (32 : Int32)) dMg_init_120 tnb_32 ?_
  refine te_init mi_Ro_init (dc := 1) (as := [vI (32 : Int32)]) (rest := [vR (some a65), vR (some o)]) (Or.inl kMg_11) (Nat.le_of_ble_eq_true rfl) (Nat.le_of_ble_eq_true rfl) rfl rfl rfl (Nat.le_of_ble_eq_true rfl) dMg_init_122 (s_Ro_init hw) (fun _ _ hx => hx) (tk_v fun h69 hw => ?_)
  obtain ⟨f70, hw⟩ := hw
  refine te_putr dMg_init_125 pMg_41 rfl rfl rfl f70 (fun h71 e72 => ?_)
  have hw := hw h71 e72
  refine tq_aload_n dMg_init_128 rfl rfl ?_
  refine tq_new (ci := 7) cMg_9 ti_7 rfl dMg_init_129 (fun a73 h74 e75 e76 => ?_)
  have hw := hw a73 h74 e75 e76
  refine tq_dup dMg_init_132 rfl ?_
  refine tq_bipush (v := (32 : Int32)) dMg_init_133 tnb_32 ?_
  refine te_init mi_Ro_init (dc := 1) (as := [vI (32 : Int32)]) (rest := [vR (some a73), vR (some o)]) (Or.inl kMg_11) (Nat.le_of_ble_eq_true rfl) (Nat.le_of_ble_eq_true rfl) rfl rfl rfl (Nat.le_of_ble_eq_true rfl) dMg_init_135 (s_Ro_init hw) (fun _ _ hx => hx) (tk_v fun h77 hw => ?_)
  obtain ⟨f78, hw⟩ := hw
  refine te_putr dMg_init_138 pMg_44 rfl rfl rfl f78 (fun h79 e80 => ?_)
  have hw := hw h79 e80
  refine tq_aload_n dMg_init_141 rfl rfl ?_
  refine tq_aload_n dMg_init_142 rfl rfl ?_
  refine te_putr dMg_init_143 pMg_47 rfl rfl rfl (by rw [e80]; exact f78) (fun h81 e82 => ?_)
  have hw := hw h81 e82
  refine tq_aload_n dMg_init_146 rfl rfl ?_
  refine tq_aload_n dMg_init_147 rfl rfl ?_
  refine te_putr dMg_init_148 pMg_51 rfl rfl rfl (by rw [e82]; exact (by rw [e80]; exact f78)) (fun h83 e84 => ?_)
  have hw := hw h83 e84
  exact tq_vret rfl dMg_init_151 hw
/-! T$Merger.list -/
theorem dMg_list_0 : decode (mB Mg_list) 0 = .ok (.aload_n 0, 1) := by decide +kernel
theorem dMg_list_1 : decode (mB Mg_list) 1 = .ok (.getfield 41, 3) := by decide +kernel
theorem dMg_list_4 : decode (mB Mg_list) 4 = .ok (.iload_n 1, 1) := by decide +kernel
theorem dMg_list_5 : decode (mB Mg_list) 5 = .ok (.invokevirtual 104, 3) := by decide +kernel
theorem dMg_list_8 : decode (mB Mg_list) 8 = .ok (.aload_n 0, 1) := by decide +kernel
theorem dMg_list_9 : decode (mB Mg_list) 9 = .ok (.getfield 44, 3) := by decide +kernel
theorem dMg_list_12 : decode (mB Mg_list) 12 = .ok (.iload_n 2, 1) := by decide +kernel
theorem dMg_list_13 : decode (mB Mg_list) 13 = .ok (.invokevirtual 104, 3) := by decide +kernel
theorem dMg_list_16 : decode (mB Mg_list) 16 = .ok (.return_, 1) := by decide +kernel
def w_Mg_list (o : Nat) (x1 : Int32) (x2 : Int32) (h : tpH) (R : tpH → Prop) : Prop :=
  hT h o = 7 ∧ (∃ a2, (hR h o 10) = some a2 ∧ hT h a2 = 8 ∧ (w_Ro_push a2 x1 h (fun h5 => hT h5 o = 7 ∧ (∃ a7, (hR h5 o 11) = some a7 ∧ hT h5 a7 = 8 ∧ (w_Ro_push a7 x2 h5 (fun h10 => R h10))))))
theorem s_Mg_list {o : Nat} {x1 : Int32} {x2 : Int32} {h : tpH} {R : tpH → Prop} (hw : w_Mg_list o x1 x2 h R) : tpC Mg_list 5 [vR (some o), vI x1, vI x2] h (tpOv R (fun _ _ => False)) := by
  refine tpC_of mv_Mg_list.2.2.2.1 rfl rfl (Nat.le_of_ble_eq_true rfl) ?_
  show tpR Mg_list 5 h _ _ 0 [some (vR (some o)), some (vI x1), some (vI x2)] [] h
  unfold w_Mg_list at hw
  refine tq_aload_n dMg_list_0 rfl rfl ?_
  obtain ⟨f1, hw⟩ := hw
  refine te_getr dMg_list_1 fMg_41 rfl rfl f1 ?_
  refine tq_iload_n dMg_list_4 rfl rfl ?_
  obtain ⟨a2, e3, f4, hw⟩ := hw
  refine te_callV mv_Ro_push (ci := 7) (dc := 4) (as := [vI x1]) (rest := []) kMg_104 rfl (Nat.le_of_ble_eq_true rfl) (Nat.le_of_ble_eq_true rfl) rfl rfl e3 f4 (Nat.le_of_ble_eq_true rfl) dMg_list_5 (s_Ro_push hw) (fun _ _ hx => False.elim hx) (tk_v fun h5 hw => ?_)
  refine tq_aload_n dMg_list_8 rfl rfl ?_
  obtain ⟨f6, hw⟩ := hw
  refine te_getr dMg_list_9 fMg_44 rfl rfl f6 ?_
  refine tq_iload_n dMg_list_12 rfl rfl ?_
  obtain ⟨a7, e8, f9, hw⟩ := hw
  refine te_callV mv_Ro_push (ci := 7) (dc := 4) (as := [vI x2]) (rest := []) kMg_104 rfl (Nat.le_of_ble_eq_true rfl) (Nat.le_of_ble_eq_true rfl) rfl rfl e8 f9 (Nat.le_of_ble_eq_true rfl) dMg_list_13 (s_Ro_push hw) (fun _ _ hx => False.elim hx) (tk_v fun h10 hw => ?_)
  exact tq_vret rfl dMg_list_16 hw
/-! T$Merger.choose -/
theorem dMg_choose_0 : decode (mB Mg_choose) 0 = .ok (.iload 5, 2) := by decide +kernel
theorem dMg_choose_2 : decode (mB Mg_choose) 2 = .ok (.iload 6, 2) := by decide +kernel
theorem dMg_choose_4 : decode (mB Mg_choose) 4 = .ok (.if_icmp .eq 14, 3) := by decide +kernel
theorem dMg_choose_7 : decode (mB Mg_choose) 7 = .ok (.iload_n 3, 1) := by decide +kernel
theorem dMg_choose_8 : decode (mB Mg_choose) 8 = .ok (.ifCond .eq 13, 3) := by decide +kernel
theorem dMg_choose_11 : decode (mB Mg_choose) 11 = .ok (.iload 6, 2) := by decide +kernel
theorem dMg_choose_13 : decode (mB Mg_choose) 13 = .ok (.iload 4, 2) := by decide +kernel
theorem dMg_choose_15 : decode (mB Mg_choose) 15 = .ok (.if_icmp .ne 6, 3) := by decide +kernel
theorem dMg_choose_18 : decode (mB Mg_choose) 18 = .ok (.iload 5, 2) := by decide +kernel
theorem dMg_choose_20 : decode (mB Mg_choose) 20 = .ok (.ireturn, 1) := by decide +kernel
theorem dMg_choose_21 : decode (mB Mg_choose) 21 = .ok (.iload_n 3, 1) := by decide +kernel
theorem dMg_choose_22 : decode (mB Mg_choose) 22 = .ok (.ifCond .eq 13, 3) := by decide +kernel
theorem dMg_choose_25 : decode (mB Mg_choose) 25 = .ok (.iload 5, 2) := by decide +kernel
theorem dMg_choose_27 : decode (mB Mg_choose) 27 = .ok (.iload 4, 2) := by decide +kernel
theorem dMg_choose_29 : decode (mB Mg_choose) 29 = .ok (.if_icmp .ne 6, 3) := by decide +kernel
theorem dMg_choose_32 : decode (mB Mg_choose) 32 = .ok (.iload 6, 2) := by decide +kernel
theorem dMg_choose_34 : decode (mB Mg_choose) 34 = .ok (.ireturn, 1) := by decide +kernel
theorem dMg_choose_35 : decode (mB Mg_choose) 35 = .ok (.aload_n 0, 1) := by decide +kernel
theorem dMg_choose_36 : decode (mB Mg_choose) 36 = .ok (.iload_n 1, 1) := by decide +kernel
theorem dMg_choose_37 : decode (mB Mg_choose) 37 = .ok (.iload_n 2, 1) := by decide +kernel
theorem dMg_choose_38 : decode (mB Mg_choose) 38 = .ok (.invokevirtual 132, 3) := by decide +kernel
theorem dMg_choose_41 : decode (mB Mg_choose) 41 = .ok (.aload_n 0, 1) := by decide +kernel
theorem dMg_choose_42 : decode (mB Mg_choose) 42 = .ok (.getfield 14, 3) := by decide +kernel
theorem dMg_choose_45 : decode (mB Mg_choose) 45 = .ok (.iload_n 1, 1) := by decide +kernel
theorem dMg_choose_46 : decode (mB Mg_choose) 46 = .ok (.invokevirtual 94, 3) := by decide +kernel
theorem dMg_choose_49 : decode (mB Mg_choose) 49 = .ok (.istore 7, 2) := by decide +kernel
theorem dMg_choose_51 : decode (mB Mg_choose) 51 = .ok (.iload 7, 2) := by decide +kernel
theorem dMg_choose_53 : decode (mB Mg_choose) 53 = .ok (.iconst 2, 1) := by decide +kernel
theorem dMg_choose_54 : decode (mB Mg_choose) 54 = .ok (.if_icmp .ne 6, 3) := by decide +kernel
theorem dMg_choose_57 : decode (mB Mg_choose) 57 = .ok (.iload 6, 2) := by decide +kernel
theorem dMg_choose_59 : decode (mB Mg_choose) 59 = .ok (.ireturn, 1) := by decide +kernel
theorem dMg_choose_60 : decode (mB Mg_choose) 60 = .ok (.iload 7, 2) := by decide +kernel
theorem dMg_choose_62 : decode (mB Mg_choose) 62 = .ok (.iconst 1, 1) := by decide +kernel
theorem dMg_choose_63 : decode (mB Mg_choose) 63 = .ok (.if_icmp .eq 7, 3) := by decide +kernel
theorem dMg_choose_66 : decode (mB Mg_choose) 66 = .ok (.iload_n 3, 1) := by decide +kernel
theorem dMg_choose_67 : decode (mB Mg_choose) 67 = .ok (.ifCond .ne 8, 3) := by decide +kernel
theorem dMg_choose_70 : decode (mB Mg_choose) 70 = .ok (.iload 5, 2) := by decide +kernel
theorem dMg_choose_72 : decode (mB Mg_choose) 72 = .ok (.goto 5, 3) := by decide +kernel
theorem dMg_choose_75 : decode (mB Mg_choose) 75 = .ok (.iload 4, 2) := by decide +kernel
theorem dMg_choose_77 : decode (mB Mg_choose) 77 = .ok (.ireturn, 1) := by decide +kernel
def w_Mg_choose_35 (R : Int32 → tpH → Prop) (o : Nat) (x1 : Int32) (x2 : Int32) (x3 : Int32) (x4 : Int32) (x5 : Int32) (x6 : Int32) (h : tpH) : Prop :=
  hT h o = 7 ∧ (w_Mg_list o x1 x2 h (fun h2 => hT h2 o = 7 ∧ (∃ a4, (hR h2 o 2) = some a4 ∧ hT h2 a4 = 8 ∧ (w_Ro_at a4 x1 h2 (fun v8 h7 => (¬ v8 = (2 : Int32) → ((v8 = (1 : Int32) → (R x5 h7)) ∧ (¬ v8 = (1 : Int32) → ((¬ x3 = 0 → (R x4 h7)) ∧ (x3 = 0 → (R x5 h7)))))) ∧ (v8 = (2 : Int32) → (R x6 h7)))))))
def w_Mg_choose_21 (R : Int32 → tpH → Prop) (o : Nat) (x1 : Int32) (x2 : Int32) (x3 : Int32) (x4 : Int32) (x5 : Int32) (x6 : Int32) (h : tpH) : Prop :=
  (x3 = 0 → (w_Mg_choose_35 R o x1 x2 x3 x4 x5 x6 h)) ∧ (¬ x3 = 0 → ((¬ x5 = x4 → (w_Mg_choose_35 R o x1 x2 x3 x4 x5 x6 h)) ∧ (x5 = x4 → (R x6 h))))
def w_Mg_choose (o : Nat) (x1 : Int32) (x2 : Int32) (x3 : Int32) (x4 : Int32) (x5 : Int32) (x6 : Int32) (h : tpH) (R : Int32 → tpH → Prop) : Prop :=
  (x5 = x6 → (R x5 h)) ∧ (¬ x5 = x6 → ((x3 = 0 → (w_Mg_choose_21 R o x1 x2 x3 x4 x5 x6 h)) ∧ (¬ x3 = 0 → ((¬ x6 = x4 → (w_Mg_choose_21 R o x1 x2 x3 x4 x5 x6 h)) ∧ (x6 = x4 → (R x5 h))))))
theorem s_Mg_choose_35 {h0 : tpH} {av : List tpV} {R : Int32 → tpH → Prop} : ∀ (o : Nat) (x1 : Int32) (x2 : Int32) (x3 : Int32) (x4 : Int32) (x5 : Int32) (x6 : Int32) (h : tpH), w_Mg_choose_35 R o x1 x2 x3 x4 x5 x6 h → tpR Mg_choose 6 h0 av (tpOi R (fun _ _ => False)) 35 [some (vR (some o)), some (vI x1), some (vI x2), some (vI x3), some (vI x4), some (vI x5), some (vI x6), none] [] h := by
  intro o x1 x2 x3 x4 x5 x6 h hw
  unfold w_Mg_choose_35 at hw
  refine tq_aload_n dMg_choose_35 rfl rfl ?_
  refine tq_iload_n dMg_choose_36 rfl rfl ?_
  refine tq_iload_n dMg_choose_37 rfl rfl ?_
  obtain ⟨f1, hw⟩ := hw
  refine te_callV mv_Mg_list (ci := 6) (dc := 5) (as := [vI x1, vI x2]) (rest := []) kMg_132 rfl (Nat.le_of_ble_eq_true rfl) (Nat.le_of_ble_eq_true rfl) rfl rfl rfl f1 (Nat.le_of_ble_eq_true rfl) dMg_choose_38 (s_Mg_list hw) (fun _ _ hx => False.elim hx) (tk_v fun h2 hw => ?_)
  refine tq_aload_n dMg_choose_41 rfl rfl ?_
  obtain ⟨f3, hw⟩ := hw
  refine te_getr dMg_choose_42 fMg_14 rfl rfl f3 ?_
  refine tq_iload_n dMg_choose_45 rfl rfl ?_
  obtain ⟨a4, e5, f6, hw⟩ := hw
  refine te_callV mv_Ro_at (ci := 7) (dc := 0) (as := [vI x1]) (rest := []) kMg_94 rfl (Nat.le_of_ble_eq_true rfl) (Nat.le_of_ble_eq_true rfl) rfl rfl e5 f6 (Nat.le_of_ble_eq_true rfl) dMg_choose_46 (s_Ro_at hw) (fun _ _ hx => False.elim hx) (tk_i fun v8 h7 hw => ?_)
  refine tq_istore (ls' := [some (vR (some o)), some (vI x1), some (vI x2), some (vI x3), some (vI x4), some (vI x5), some (vI x6), some (vI v8)]) dMg_choose_49 (Nat.le_of_ble_eq_true rfl) rfl ?_
  refine tq_iload dMg_choose_51 rfl ?_
  refine tq_iconst (v := (2 : Int32)) dMg_choose_53 tni_2 ?_
  refine tq_icmpne (tgt := 60) dMg_choose_54 (by decide) (fun c9 => ?_) (fun c9 => ?_)
  · have hw := hw.1 c9
    refine tq_iload dMg_choose_60 rfl ?_
    refine tq_iconst (v := (1 : Int32)) dMg_choose_62 tni_1 ?_
    refine tq_icmpeq (tgt := 70) dMg_choose_63 (by decide) (fun c10 => ?_) (fun c10 => ?_)
    · have hw := hw.1 c10
      refine tq_iload dMg_choose_70 rfl ?_
      refine tq_goto (tgt := 77) dMg_choose_72 (by decide) ?_
      exact tq_iret rfl rfl dMg_choose_77 hw
    · have hw := hw.2 c10
      refine tq_iload_n dMg_choose_66 rfl rfl ?_
      refine tq_ifne (tgt := 75) dMg_choose_67 (by decide) (fun c11 => ?_) (fun c11 => ?_)
      · have hw := hw.1 c11
        refine tq_iload dMg_choose_75 rfl ?_
        exact tq_iret rfl rfl dMg_choose_77 hw
      · have hw := hw.2 c11
        refine tq_iload dMg_choose_70 rfl ?_
        refine tq_goto (tgt := 77) dMg_choose_72 (by decide) ?_
        exact tq_iret rfl rfl dMg_choose_77 hw
  · have hw := hw.2 c9
    refine tq_iload dMg_choose_57 rfl ?_
    exact tq_iret rfl rfl dMg_choose_59 hw
theorem s_Mg_choose_21 {h0 : tpH} {av : List tpV} {R : Int32 → tpH → Prop} : ∀ (o : Nat) (x1 : Int32) (x2 : Int32) (x3 : Int32) (x4 : Int32) (x5 : Int32) (x6 : Int32) (h : tpH), w_Mg_choose_21 R o x1 x2 x3 x4 x5 x6 h → tpR Mg_choose 6 h0 av (tpOi R (fun _ _ => False)) 21 [some (vR (some o)), some (vI x1), some (vI x2), some (vI x3), some (vI x4), some (vI x5), some (vI x6), none] [] h := by
  intro o x1 x2 x3 x4 x5 x6 h hw
  unfold w_Mg_choose_21 at hw
  refine tq_iload_n dMg_choose_21 rfl rfl ?_
  refine tq_ifeq (tgt := 35) dMg_choose_22 (by decide) (fun c1 => ?_) (fun c1 => ?_)
  · have hw := hw.1 c1
    refine tpR.fo (ls' := [some (vR (some o)), some (vI x1), some (vI x2), some (vI x3), some (vI x4), some (vI x5), some (vI x6), none]) ?_ (And.intro rfl (And.intro rfl (And.intro rfl (And.intro rfl (And.intro rfl (And.intro rfl (And.intro rfl trivial)))))))
    exact s_Mg_choose_35 _ _ _ _ _ _ _ _ hw
  · have hw := hw.2 c1
    refine tq_iload dMg_choose_25 rfl ?_
    refine tq_iload dMg_choose_27 rfl ?_
    refine tq_icmpne (tgt := 35) dMg_choose_29 (by decide) (fun c2 => ?_) (fun c2 => ?_)
    · have hw := hw.1 c2
      refine tpR.fo (ls' := [some (vR (some o)), some (vI x1), some (vI x2), some (vI x3), some (vI x4), some (vI x5), some (vI x6), none]) ?_ (And.intro rfl (And.intro rfl (And.intro rfl (And.intro rfl (And.intro rfl (And.intro rfl (And.intro rfl trivial)))))))
      exact s_Mg_choose_35 _ _ _ _ _ _ _ _ hw
    · have hw := hw.2 c2
      refine tq_iload dMg_choose_32 rfl ?_
      exact tq_iret rfl rfl dMg_choose_34 hw
theorem s_Mg_choose {o : Nat} {x1 : Int32} {x2 : Int32} {x3 : Int32} {x4 : Int32} {x5 : Int32} {x6 : Int32} {h : tpH} {R : Int32 → tpH → Prop} (hw : w_Mg_choose o x1 x2 x3 x4 x5 x6 h R) : tpC Mg_choose 6 [vR (some o), vI x1, vI x2, vI x3, vI x4, vI x5, vI x6] h (tpOi R (fun _ _ => False)) := by
  refine tpC_of mv_Mg_choose.2.2.2.1 rfl rfl (Nat.le_of_ble_eq_true rfl) ?_
  show tpR Mg_choose 6 h _ _ 0 [some (vR (some o)), some (vI x1), some (vI x2), some (vI x3), some (vI x4), some (vI x5), some (vI x6), none] [] h
  unfold w_Mg_choose at hw
  refine tq_iload dMg_choose_0 rfl ?_
  refine tq_iload dMg_choose_2 rfl ?_
  refine tq_icmpeq (tgt := 18) dMg_choose_4 (by decide) (fun c1 => ?_) (fun c1 => ?_)
  · have hw := hw.1 c1
    refine tq_iload dMg_choose_18 rfl ?_
    exact tq_iret rfl rfl dMg_choose_20 hw
  · have hw := hw.2 c1
    refine tq_iload_n dMg_choose_7 rfl rfl ?_
    refine tq_ifeq (tgt := 21) dMg_choose_8 (by decide) (fun c2 => ?_) (fun c2 => ?_)
    · have hw := hw.1 c2
      refine tpR.fo (ls' := [some (vR (some o)), some (vI x1), some (vI x2), some (vI x3), some (vI x4), some (vI x5), some (vI x6), none]) ?_ (And.intro rfl (And.intro rfl (And.intro rfl (And.intro rfl (And.intro rfl (And.intro rfl (And.intro rfl trivial)))))))
      exact s_Mg_choose_21 _ _ _ _ _ _ _ _ hw
    · have hw := hw.2 c2
      refine tq_iload dMg_choose_11 rfl ?_
      refine tq_iload dMg_choose_13 rfl ?_
      refine tq_icmpne (tgt := 21) dMg_choose_15 (by decide) (fun c3 => ?_) (fun c3 => ?_)
      · have hw := hw.1 c3
        refine tpR.fo (ls' := [some (vR (some o)), some (vI x1), some (vI x2), some (vI x3), some (vI x4), some (vI x5), some (vI x6), none]) ?_ (And.intro rfl (And.intro rfl (And.intro rfl (And.intro rfl (And.intro rfl (And.intro rfl (And.intro rfl trivial)))))))
        exact s_Mg_choose_21 _ _ _ _ _ _ _ _ hw
      · have hw := hw.2 c3
        refine tq_iload dMg_choose_18 rfl ?_
        exact tq_iret rfl rfl dMg_choose_20 hw
/-! T$Merger.letIn -/
theorem dMg_letIn_0 : decode (mB Mg_letIn) 0 = .ok (.aload_n 0, 1) := by decide +kernel
theorem dMg_letIn_1 : decode (mB Mg_letIn) 1 = .ok (.getfield 20, 3) := by decide +kernel
theorem dMg_letIn_4 : decode (mB Mg_letIn) 4 = .ok (.iload_n 1, 1) := by decide +kernel
theorem dMg_letIn_5 : decode (mB Mg_letIn) 5 = .ok (.iconst 1, 1) := by decide +kernel
theorem dMg_letIn_6 : decode (mB Mg_letIn) 6 = .ok (.invokevirtual 129, 3) := by decide +kernel
theorem dMg_letIn_9 : decode (mB Mg_letIn) 9 = .ok (.aload_n 0, 1) := by decide +kernel
theorem dMg_letIn_10 : decode (mB Mg_letIn) 10 = .ok (.getfield 23, 3) := by decide +kernel
theorem dMg_letIn_13 : decode (mB Mg_letIn) 13 = .ok (.iload_n 1, 1) := by decide +kernel
theorem dMg_letIn_14 : decode (mB Mg_letIn) 14 = .ok (.iload_n 2, 1) := by decide +kernel
theorem dMg_letIn_15 : decode (mB Mg_letIn) 15 = .ok (.invokevirtual 129, 3) := by decide +kernel
theorem dMg_letIn_18 : decode (mB Mg_letIn) 18 = .ok (.aload_n 0, 1) := by decide +kernel
theorem dMg_letIn_19 : decode (mB Mg_letIn) 19 = .ok (.getfield 26, 3) := by decide +kernel
theorem dMg_letIn_22 : decode (mB Mg_letIn) 22 = .ok (.iload_n 1, 1) := by decide +kernel
theorem dMg_letIn_23 : decode (mB Mg_letIn) 23 = .ok (.iload_n 3, 1) := by decide +kernel
theorem dMg_letIn_24 : decode (mB Mg_letIn) 24 = .ok (.invokevirtual 129, 3) := by decide +kernel
theorem dMg_letIn_27 : decode (mB Mg_letIn) 27 = .ok (.return_, 1) := by decide +kernel
def w_Mg_letIn (o : Nat) (x1 : Int32) (x2 : Int32) (x3 : Int32) (h : tpH) (R : tpH → Prop) : Prop :=
  hT h o = 7 ∧ (∃ a2, (hR h o 3) = some a2 ∧ hT h a2 = 8 ∧ (w_Ro_put a2 x1 (1 : Int32) h (fun h5 => hT h5 o = 7 ∧ (∃ a7, (hR h5 o 4) = some a7 ∧ hT h5 a7 = 8 ∧ (w_Ro_put a7 x1 x2 h5 (fun h10 => hT h10 o = 7 ∧ (∃ a12, (hR h10 o 5) = some a12 ∧ hT h10 a12 = 8 ∧ (w_Ro_put a12 x1 x3 h10 (fun h15 => R h15)))))))))
theorem s_Mg_letIn {o : Nat} {x1 : Int32} {x2 : Int32} {x3 : Int32} {h : tpH} {R : tpH → Prop} (hw : w_Mg_letIn o x1 x2 x3 h R) : tpC Mg_letIn 1 [vR (some o), vI x1, vI x2, vI x3] h (tpOv R (fun _ _ => False)) := by
  refine tpC_of mv_Mg_letIn.2.2.2.1 rfl rfl (Nat.le_of_ble_eq_true rfl) ?_
  show tpR Mg_letIn 1 h _ _ 0 [some (vR (some o)), some (vI x1), some (vI x2), some (vI x3)] [] h
  unfold w_Mg_letIn at hw
  refine tq_aload_n dMg_letIn_0 rfl rfl ?_
  obtain ⟨f1, hw⟩ := hw
  refine te_getr dMg_letIn_1 fMg_20 rfl rfl f1 ?_
  refine tq_iload_n dMg_letIn_4 rfl rfl ?_
  refine tq_iconst (v := (1 : Int32)) dMg_letIn_5 tni_1 ?_
  obtain ⟨a2, e3, f4, hw⟩ := hw
  refine te_callV mv_Ro_put (ci := 7) (dc := 0) (as := [vI x1, vI (1 : Int32)]) (rest := []) kMg_129 rfl (Nat.le_of_ble_eq_true rfl) (Nat.le_of_ble_eq_true rfl) rfl rfl e3 f4 (Nat.le_of_ble_eq_true rfl) dMg_letIn_6 (s_Ro_put hw) (fun _ _ hx => False.elim hx) (tk_v fun h5 hw => ?_)
  refine tq_aload_n dMg_letIn_9 rfl rfl ?_
  obtain ⟨f6, hw⟩ := hw
  refine te_getr dMg_letIn_10 fMg_23 rfl rfl f6 ?_
  refine tq_iload_n dMg_letIn_13 rfl rfl ?_
  refine tq_iload_n dMg_letIn_14 rfl rfl ?_
  obtain ⟨a7, e8, f9, hw⟩ := hw
  refine te_callV mv_Ro_put (ci := 7) (dc := 0) (as := [vI x1, vI x2]) (rest := []) kMg_129 rfl (Nat.le_of_ble_eq_true rfl) (Nat.le_of_ble_eq_true rfl) rfl rfl e8 f9 (Nat.le_of_ble_eq_true rfl) dMg_letIn_15 (s_Ro_put hw) (fun _ _ hx => False.elim hx) (tk_v fun h10 hw => ?_)
  refine tq_aload_n dMg_letIn_18 rfl rfl ?_
  obtain ⟨f11, hw⟩ := hw
  refine te_getr dMg_letIn_19 fMg_26 rfl rfl f11 ?_
  refine tq_iload_n dMg_letIn_22 rfl rfl ?_
  refine tq_iload_n dMg_letIn_23 rfl rfl ?_
  obtain ⟨a12, e13, f14, hw⟩ := hw
  refine te_callV mv_Ro_put (ci := 7) (dc := 0) (as := [vI x1, vI x3]) (rest := []) kMg_129 rfl (Nat.le_of_ble_eq_true rfl) (Nat.le_of_ble_eq_true rfl) rfl rfl e13 f14 (Nat.le_of_ble_eq_true rfl) dMg_letIn_24 (s_Ro_put hw) (fun _ _ hx => False.elim hx) (tk_v fun h15 hw => ?_)
  exact tq_vret rfl dMg_letIn_27 hw
/-! T$Merger.isTouched -/
theorem dMg_isTouched_0 : decode (mB Mg_isTouched) 0 = .ok (.aload_n 1, 1) := by decide +kernel
theorem dMg_isTouched_1 : decode (mB Mg_isTouched) 1 = .ok (.aload_n 2, 1) := by decide +kernel
theorem dMg_isTouched_2 : decode (mB Mg_isTouched) 2 = .ok (.iload_n 3, 1) := by decide +kernel
theorem dMg_isTouched_3 : decode (mB Mg_isTouched) 3 = .ok (.invokevirtual 139, 3) := by decide +kernel
theorem dMg_isTouched_6 : decode (mB Mg_isTouched) 6 = .ok (.ifCond .ne 5, 3) := by decide +kernel
theorem dMg_isTouched_9 : decode (mB Mg_isTouched) 9 = .ok (.iconst 1, 1) := by decide +kernel
theorem dMg_isTouched_10 : decode (mB Mg_isTouched) 10 = .ok (.ireturn, 1) := by decide +kernel
theorem dMg_isTouched_11 : decode (mB Mg_isTouched) 11 = .ok (.aload_n 2, 1) := by decide +kernel
theorem dMg_isTouched_12 : decode (mB Mg_isTouched) 12 = .ok (.iload_n 3, 1) := by decide +kernel
theorem dMg_isTouched_13 : decode (mB Mg_isTouched) 13 = .ok (.invokevirtual 143, 3) := by decide +kernel
theorem dMg_isTouched_16 : decode (mB Mg_isTouched) 16 = .ok (.istore 4, 2) := by decide +kernel
theorem dMg_isTouched_18 : decode (mB Mg_isTouched) 18 = .ok (.iconst 0, 1) := by decide +kernel
theorem dMg_isTouched_19 : decode (mB Mg_isTouched) 19 = .ok (.istore 5, 2) := by decide +kernel
theorem dMg_isTouched_21 : decode (mB Mg_isTouched) 21 = .ok (.iload 5, 2) := by decide +kernel
theorem dMg_isTouched_23 : decode (mB Mg_isTouched) 23 = .ok (.aload_n 2, 1) := by decide +kernel
theorem dMg_isTouched_24 : decode (mB Mg_isTouched) 24 = .ok (.iload 4, 2) := by decide +kernel
theorem dMg_isTouched_26 : decode (mB Mg_isTouched) 26 = .ok (.invokevirtual 146, 3) := by decide +kernel
theorem dMg_isTouched_29 : decode (mB Mg_isTouched) 29 = .ok (.if_icmp .ge 31, 3) := by decide +kernel
theorem dMg_isTouched_32 : decode (mB Mg_isTouched) 32 = .ok (.aload_n 1, 1) := by decide +kernel
theorem dMg_isTouched_33 : decode (mB Mg_isTouched) 33 = .ok (.aload_n 2, 1) := by decide +kernel
theorem dMg_isTouched_34 : decode (mB Mg_isTouched) 34 = .ok (.aload_n 2, 1) := by decide +kernel
theorem dMg_isTouched_35 : decode (mB Mg_isTouched) 35 = .ok (.iload 4, 2) := by decide +kernel
theorem dMg_isTouched_37 : decode (mB Mg_isTouched) 37 = .ok (.iload 5, 2) := by decide +kernel
theorem dMg_isTouched_39 : decode (mB Mg_isTouched) 39 = .ok (.invokevirtual 149, 3) := by decide +kernel
theorem dMg_isTouched_42 : decode (mB Mg_isTouched) 42 = .ok (.invokevirtual 72, 3) := by decide +kernel
theorem dMg_isTouched_45 : decode (mB Mg_isTouched) 45 = .ok (.iload_n 3, 1) := by decide +kernel
theorem dMg_isTouched_46 : decode (mB Mg_isTouched) 46 = .ok (.invokevirtual 152, 3) := by decide +kernel
theorem dMg_isTouched_49 : decode (mB Mg_isTouched) 49 = .ok (.ifCond .ne 5, 3) := by decide +kernel
theorem dMg_isTouched_52 : decode (mB Mg_isTouched) 52 = .ok (.iconst 1, 1) := by decide +kernel
theorem dMg_isTouched_53 : decode (mB Mg_isTouched) 53 = .ok (.ireturn, 1) := by decide +kernel
theorem dMg_isTouched_54 : decode (mB Mg_isTouched) 54 = .ok (.iinc 5 1, 3) := by decide +kernel
theorem dMg_isTouched_57 : decode (mB Mg_isTouched) 57 = .ok (.goto (-36), 3) := by decide +kernel
theorem dMg_isTouched_60 : decode (mB Mg_isTouched) 60 = .ok (.iconst 0, 1) := by decide +kernel
theorem dMg_isTouched_61 : decode (mB Mg_isTouched) 61 = .ok (.ireturn, 1) := by decide +kernel
def b_Mg_isTouched_21 (R : Int32 → tpH → Prop) (Y : (Option Nat) → (Option Nat) → Int32 → Int32 → Int32 → tpH → Prop) (x1 : Option Nat) (x2 : Option Nat) (x3 : Int32) (x4 : Int32) (x5 : Int32) (h : tpH) : Prop :=
  ∃ a1, x2 = some a1 ∧ hT h a1 = 12 ∧ (w_Tr_kidsOf a1 x4 h (fun v5 h4 => (v5 ≤ x5 → (R (0 : Int32) h4)) ∧ (¬ v5 ≤ x5 → (hT h4 a1 = 12 ∧ (w_Tr_kid a1 x4 x5 h4 (fun v9 h8 => hT h8 a1 = 12 ∧ (w_Tr_markOf a1 v9 h8 (fun v12 h11 => ∃ a13, x1 = some a13 ∧ hT h11 a13 = 12 ∧ (w_Tr_hasUnder a13 v12 x3 h11 (fun v17 h16 => (¬ v17 = 0 → (Y x1 x2 x3 x4 (x5 + (1 : Int32)) h16)) ∧ (v17 = 0 → (R (1 : Int32) h16))))))))))))
def w_Mg_isTouched_21 (R : Int32 → tpH → Prop) : Nat → (Option Nat) → (Option Nat) → Int32 → Int32 → Int32 → tpH → Prop
  | 0 => fun _ _ _ _ _ _ => False
  | n + 1 => b_Mg_isTouched_21 R (w_Mg_isTouched_21 R n)
def w_Mg_isTouched (o : Nat) (x1 : Option Nat) (x2 : Option Nat) (x3 : Int32) (h : tpH) (R : Int32 → tpH → Prop) : Prop :=
  ∃ a1, x1 = some a1 ∧ hT h a1 = 12 ∧ (w_Tr_hasSame a1 x2 x3 h (fun v5 h4 => (¬ v5 = 0 → (∃ a7, x2 = some a7 ∧ hT h4 a7 = 12 ∧ (w_Tr_placeOf a7 x3 h4 (fun v11 h10 => ∃ n, w_Mg_isTouched_21 R n x1 x2 x3 v11 (0 : Int32) h10)))) ∧ (v5 = 0 → (R (1 : Int32) h4))))
theorem s_Mg_isTouched_21 {h0 : tpH} {av : List tpV} {R : Int32 → tpH → Prop} : ∀ (n : Nat) (x1 : Option Nat) (x2 : Option Nat) (x3 : Int32) (x4 : Int32) (x5 : Int32) (h : tpH), w_Mg_isTouched_21 R n x1 x2 x3 x4 x5 h → tpR Mg_isTouched 2 h0 av (tpOi R (fun _ _ => False)) 21 [none, some (vR x1), some (vR x2), some (vI x3), some (vI x4), some (vI x5)] [] h := by
  intro n
  induction n with
  | zero => intro x1 x2 x3 x4 x5 h hw; exact False.elim hw
  | succ n ih =>
    intro x1 x2 x3 x4 x5 h hw
    change b_Mg_isTouched_21 R (w_Mg_isTouched_21 R n) x1 x2 x3 x4 x5 h at hw
    unfold b_Mg_isTouched_21 at hw
    refine tq_iload dMg_isTouched_21 rfl ?_
    refine tq_aload_n dMg_isTouched_23 rfl rfl ?_
    refine tq_iload dMg_isTouched_24 rfl ?_
    obtain ⟨a1, e2, f3, hw⟩ := hw
    refine te_callV mv_Tr_kidsOf (ci := 11) (dc := 1) (as := [vI x4]) (rest := [vI x5]) kMg_146 rfl (Nat.le_of_ble_eq_true rfl) (Nat.le_of_ble_eq_true rfl) rfl rfl e2 f3 (Nat.le_of_ble_eq_true rfl) dMg_isTouched_26 (s_Tr_kidsOf hw) (fun _ _ hx => False.elim hx) (tk_i fun v5 h4 hw => ?_)
    refine tq_icmpge (tgt := 60) dMg_isTouched_29 (by decide) (fun c6 => ?_) (fun c6 => ?_)
    · have hw := hw.1 c6
      refine tq_iconst (v := (0 : Int32)) dMg_isTouched_60 tni_0 ?_
      exact tq_iret rfl (by decide) dMg_isTouched_61 hw
    · have hw := hw.2 c6
      refine tq_aload_n dMg_isTouched_32 rfl rfl ?_
      refine tq_aload_n dMg_isTouched_33 rfl rfl ?_
      refine tq_aload_n dMg_isTouched_34 rfl rfl ?_
      refine tq_iload dMg_isTouched_35 rfl ?_
      refine tq_iload dMg_isTouched_37 rfl ?_
      obtain ⟨f7, hw⟩ := hw
      refine te_callV mv_Tr_kid (ci := 11) (dc := 1) (as := [vI x4, vI x5]) (rest := [vR x2, vR x1]) kMg_149 rfl (Nat.le_of_ble_eq_true rfl) (Nat.le_of_ble_eq_true rfl) rfl rfl e2 f7 (Nat.le_of_ble_eq_true rfl) dMg_isTouched_39 (s_Tr_kid hw) (fun _ _ hx => False.elim hx) (tk_i fun v9 h8 hw => ?_)
      obtain ⟨f10, hw⟩ := hw
      refine te_callV mv_Tr_markOf (ci := 11) (dc := 1) (as := [vI v9]) (rest := [vR x1]) kMg_72 rfl (Nat.le_of_ble_eq_true rfl) (Nat.le_of_ble_eq_true rfl) rfl rfl e2 f10 (Nat.le_of_ble_eq_true rfl) dMg_isTouched_42 (s_Tr_markOf hw) (fun _ _ hx => False.elim hx) (tk_i fun v12 h11 hw => ?_)
      refine tq_iload_n dMg_isTouched_45 rfl rfl ?_
      obtain ⟨a13, e14, f15, hw⟩ := hw
      refine te_callV mv_Tr_hasUnder (ci := 11) (dc := 1) (as := [vI v12, vI x3]) (rest := []) kMg_152 rfl (Nat.le_of_ble_eq_true rfl) (Nat.le_of_ble_eq_true rfl) rfl rfl e14 f15 (Nat.le_of_ble_eq_true rfl) dMg_isTouched_46 (s_Tr_hasUnder hw) (fun _ _ hx => False.elim hx) (tk_i fun v17 h16 hw => ?_)
      refine tq_ifne (tgt := 54) dMg_isTouched_49 (by decide) (fun c18 => ?_) (fun c18 => ?_)
      · have hw := hw.1 c18
        refine tq_inc (k := (1 : Int32)) (ls' := [none, some (vR x1), some (vR x2), some (vI x3), some (vI x4), some (vI (x5 + (1 : Int32)))]) dMg_isTouched_54 rfl tni_1 (Nat.le_of_ble_eq_true rfl) rfl ?_
        refine tq_goto (tgt := 21) dMg_isTouched_57 (by decide) ?_
        refine tpR.fo (ls' := [none, some (vR x1), some (vR x2), some (vI x3), some (vI x4), some (vI (x5 + (1 : Int32)))]) ?_ (And.intro rfl (And.intro rfl (And.intro rfl (And.intro rfl (And.intro rfl trivial)))))
        exact ih _ _ _ _ _ _ hw
      · have hw := hw.2 c18
        refine tq_iconst (v := (1 : Int32)) dMg_isTouched_52 tni_1 ?_
        exact tq_iret rfl (by decide) dMg_isTouched_53 hw
theorem s_Mg_isTouched {o : Nat} {x1 : Option Nat} {x2 : Option Nat} {x3 : Int32} {h : tpH} {R : Int32 → tpH → Prop} (hw : w_Mg_isTouched o x1 x2 x3 h R) : tpC Mg_isTouched 2 [vR (some o), vR x1, vR x2, vI x3] h (tpOi R (fun _ _ => False)) := by
  refine tpC_of mv_Mg_isTouched.2.2.2.1 rfl rfl (Nat.le_of_ble_eq_true rfl) ?_
  show tpR Mg_isTouched 2 h _ _ 0 [some (vR (some o)), some (vR x1), some (vR x2), some (vI x3), none, none] [] h
  unfold w_Mg_isTouched at hw
  refine tq_aload_n dMg_isTouched_0 rfl rfl ?_
  refine tq_aload_n dMg_isTouched_1 rfl rfl ?_
  refine tq_iload_n dMg_isTouched_2 rfl rfl ?_
  obtain ⟨a1, e2, f3, hw⟩ := hw
  refine te_callV mv_Tr_hasSame (ci := 11) (dc := 1) (as := [vR x2, vI x3]) (rest := []) kMg_139 rfl (Nat.le_of_ble_eq_true rfl) (Nat.le_of_ble_eq_true rfl) rfl rfl e2 f3 (Nat.le_of_ble_eq_true rfl) dMg_isTouched_3 (s_Tr_hasSame hw) (fun _ _ hx => False.elim hx) (tk_i fun v5 h4 hw => ?_)
  refine tq_ifne (tgt := 11) dMg_isTouched_6 (by decide) (fun c6 => ?_) (fun c6 => ?_)
  · have hw := hw.1 c6
    refine tq_aload_n dMg_isTouched_11 rfl rfl ?_
    refine tq_iload_n dMg_isTouched_12 rfl rfl ?_
    obtain ⟨a7, e8, f9, hw⟩ := hw
    refine te_callV mv_Tr_placeOf (ci := 11) (dc := 1) (as := [vI x3]) (rest := []) kMg_143 rfl (Nat.le_of_ble_eq_true rfl) (Nat.le_of_ble_eq_true rfl) rfl rfl e8 f9 (Nat.le_of_ble_eq_true rfl) dMg_isTouched_13 (s_Tr_placeOf hw) (fun _ _ hx => False.elim hx) (tk_i fun v11 h10 hw => ?_)
    refine tq_istore (ls' := [some (vR (some o)), some (vR x1), some (vR x2), some (vI x3), some (vI v11), none]) dMg_isTouched_16 (Nat.le_of_ble_eq_true rfl) rfl ?_
    refine tq_iconst (v := (0 : Int32)) dMg_isTouched_18 tni_0 ?_
    refine tq_istore (ls' := [some (vR (some o)), some (vR x1), some (vR x2), some (vI x3), some (vI v11), some (vI (0 : Int32))]) dMg_isTouched_19 (Nat.le_of_ble_eq_true rfl) rfl ?_
    refine tpR.fo (ls' := [none, some (vR x1), some (vR x2), some (vI x3), some (vI v11), some (vI (0 : Int32))]) ?_ (And.intro rfl (And.intro rfl (And.intro rfl (And.intro rfl (And.intro rfl trivial)))))
    obtain ⟨n, hw⟩ := hw
    exact s_Mg_isTouched_21 n _ _ _ _ _ _ hw
  · have hw := hw.2 c6
    refine tq_iconst (v := (1 : Int32)) dMg_isTouched_9 tni_1 ?_
    exact tq_iret rfl (by decide) dMg_isTouched_10 hw
/-! T$Merger.staysWithOne -/
theorem dMg_staysWithOne_0 : decode (mB Mg_staysWithOne) 0 = .ok (.aload_n 1, 1) := by decide +kernel
theorem dMg_staysWithOne_1 : decode (mB Mg_staysWithOne) 1 = .ok (.iload_n 3, 1) := by decide +kernel
theorem dMg_staysWithOne_2 : decode (mB Mg_staysWithOne) 2 = .ok (.invokevirtual 107, 3) := by decide +kernel
theorem dMg_staysWithOne_5 : decode (mB Mg_staysWithOne) 5 = .ok (.ifCond .ne 5, 3) := by decide +kernel
theorem dMg_staysWithOne_8 : decode (mB Mg_staysWithOne) 8 = .ok (.iconst 1, 1) := by decide +kernel
theorem dMg_staysWithOne_9 : decode (mB Mg_staysWithOne) 9 = .ok (.ireturn, 1) := by decide +kernel
theorem dMg_staysWithOne_10 : decode (mB Mg_staysWithOne) 10 = .ok (.aload_n 0, 1) := by decide +kernel
theorem dMg_staysWithOne_11 : decode (mB Mg_staysWithOne) 11 = .ok (.aload_n 1, 1) := by decide +kernel
theorem dMg_staysWithOne_12 : decode (mB Mg_staysWithOne) 12 = .ok (.aload_n 2, 1) := by decide +kernel
theorem dMg_staysWithOne_13 : decode (mB Mg_staysWithOne) 13 = .ok (.iload_n 3, 1) := by decide +kernel
theorem dMg_staysWithOne_14 : decode (mB Mg_staysWithOne) 14 = .ok (.invokevirtual 135, 3) := by decide +kernel
theorem dMg_staysWithOne_17 : decode (mB Mg_staysWithOne) 17 = .ok (.ifCond .ne 5, 3) := by decide +kernel
theorem dMg_staysWithOne_20 : decode (mB Mg_staysWithOne) 20 = .ok (.iconst 0, 1) := by decide +kernel
theorem dMg_staysWithOne_21 : decode (mB Mg_staysWithOne) 21 = .ok (.ireturn, 1) := by decide +kernel
theorem dMg_staysWithOne_22 : decode (mB Mg_staysWithOne) 22 = .ok (.aload_n 0, 1) := by decide +kernel
theorem dMg_staysWithOne_23 : decode (mB Mg_staysWithOne) 23 = .ok (.iconst 0, 1) := by decide +kernel
theorem dMg_staysWithOne_24 : decode (mB Mg_staysWithOne) 24 = .ok (.iload_n 3, 1) := by decide +kernel
theorem dMg_staysWithOne_25 : decode (mB Mg_staysWithOne) 25 = .ok (.invokevirtual 132, 3) := by decide +kernel
theorem dMg_staysWithOne_28 : decode (mB Mg_staysWithOne) 28 = .ok (.aload_n 0, 1) := by decide +kernel
theorem dMg_staysWithOne_29 : decode (mB Mg_staysWithOne) 29 = .ok (.getfield 14, 3) := by decide +kernel
theorem dMg_staysWithOne_32 : decode (mB Mg_staysWithOne) 32 = .ok (.iconst 0, 1) := by decide +kernel
theorem dMg_staysWithOne_33 : decode (mB Mg_staysWithOne) 33 = .ok (.invokevirtual 94, 3) := by decide +kernel
theorem dMg_staysWithOne_36 : decode (mB Mg_staysWithOne) 36 = .ok (.istore 5, 2) := by decide +kernel
theorem dMg_staysWithOne_38 : decode (mB Mg_staysWithOne) 38 = .ok (.iload 5, 2) := by decide +kernel
theorem dMg_staysWithOne_40 : decode (mB Mg_staysWithOne) 40 = .ok (.ifCond .eq 10, 3) := by decide +kernel
theorem dMg_staysWithOne_43 : decode (mB Mg_staysWithOne) 43 = .ok (.iload 5, 2) := by decide +kernel
theorem dMg_staysWithOne_45 : decode (mB Mg_staysWithOne) 45 = .ok (.iload 4, 2) := by decide +kernel
theorem dMg_staysWithOne_47 : decode (mB Mg_staysWithOne) 47 = .ok (.if_icmp .ne 7, 3) := by decide +kernel
theorem dMg_staysWithOne_50 : decode (mB Mg_staysWithOne) 50 = .ok (.iconst 1, 1) := by decide +kernel
theorem dMg_staysWithOne_51 : decode (mB Mg_staysWithOne) 51 = .ok (.goto 4, 3) := by decide +kernel
theorem dMg_staysWithOne_54 : decode (mB Mg_staysWithOne) 54 = .ok (.iconst 0, 1) := by decide +kernel
theorem dMg_staysWithOne_55 : decode (mB Mg_staysWithOne) 55 = .ok (.ireturn, 1) := by decide +kernel
def w_Mg_staysWithOne (o : Nat) (x1 : Option Nat) (x2 : Option Nat) (x3 : Int32) (x4 : Int32) (h : tpH) (R : Int32 → tpH → Prop) : Prop :=
  ∃ a1, x1 = some a1 ∧ hT h a1 = 12 ∧ (w_Tr_holds a1 x3 h (fun v5 h4 => (¬ v5 = 0 → (hT h4 o = 7 ∧ (w_Mg_isTouched o x1 x2 x3 h4 (fun v9 h8 => (¬ v9 = 0 → (hT h8 o = 7 ∧ (w_Mg_list o (0 : Int32) x3 h8 (fun h12 => hT h12 o = 7 ∧ (∃ a14, (hR h12 o 2) = some a14 ∧ hT h12 a14 = 8 ∧ (w_Ro_at a14 (0 : Int32) h12 (fun v18 h17 => (v18 = 0 → (R (1 : Int32) h17)) ∧ (¬ v18 = 0 → ((¬ v18 = x4 → (R (0 : Int32) h17)) ∧ (v18 = x4 → (R (1 : Int32) h17))))))))))) ∧ (v9 = 0 → (R (0 : Int32) h8)))))) ∧ (v5 = 0 → (R (1 : Int32) h4))))
theorem s_Mg_staysWithOne {o : Nat} {x1 : Option Nat} {x2 : Option Nat} {x3 : Int32} {x4 : Int32} {h : tpH} {R : Int32 → tpH → Prop} (hw : w_Mg_staysWithOne o x1 x2 x3 x4 h R) : tpC Mg_staysWithOne 6 [vR (some o), vR x1, vR x2, vI x3, vI x4] h (tpOi R (fun _ _ => False)) := by
  refine tpC_of mv_Mg_staysWithOne.2.2.2.1 rfl rfl (Nat.le_of_ble_eq_true rfl) ?_
  show tpR Mg_staysWithOne 6 h _ _ 0 [some (vR (some o)), some (vR x1), some (vR x2), some (vI x3), some (vI x4), none] [] h
  unfold w_Mg_staysWithOne at hw
  refine tq_aload_n dMg_staysWithOne_0 rfl rfl ?_
  refine tq_iload_n dMg_staysWithOne_1 rfl rfl ?_
  obtain ⟨a1, e2, f3, hw⟩ := hw
  refine te_callV mv_Tr_holds (ci := 11) (dc := 1) (as := [vI x3]) (rest := []) kMg_107 rfl (Nat.le_of_ble_eq_true rfl) (Nat.le_of_ble_eq_true rfl) rfl rfl e2 f3 (Nat.le_of_ble_eq_true rfl) dMg_staysWithOne_2 (s_Tr_holds hw) (fun _ _ hx => False.elim hx) (tk_i fun v5 h4 hw => ?_)
  refine tq_ifne (tgt := 10) dMg_staysWithOne_5 (by decide) (fun c6 => ?_) (fun c6 => ?_)
  · have hw := hw.1 c6
    refine tq_aload_n dMg_staysWithOne_10 rfl rfl ?_
    refine tq_aload_n dMg_staysWithOne_11 rfl rfl ?_
    refine tq_aload_n dMg_staysWithOne_12 rfl rfl ?_
    refine tq_iload_n dMg_staysWithOne_13 rfl rfl ?_
    obtain ⟨f7, hw⟩ := hw
    refine te_callV mv_Mg_isTouched (ci := 6) (dc := 2) (as := [vR x1, vR x2, vI x3]) (rest := []) kMg_135 rfl (Nat.le_of_ble_eq_true rfl) (Nat.le_of_ble_eq_true rfl) rfl rfl rfl f7 (Nat.le_of_ble_eq_true rfl) dMg_staysWithOne_14 (s_Mg_isTouched hw) (fun _ _ hx => False.elim hx) (tk_i fun v9 h8 hw => ?_)
    refine tq_ifne (tgt := 22) dMg_staysWithOne_17 (by decide) (fun c10 => ?_) (fun c10 => ?_)
    · have hw := hw.1 c10
      refine tq_aload_n dMg_staysWithOne_22 rfl rfl ?_
      refine tq_iconst (v := (0 : Int32)) dMg_staysWithOne_23 tni_0 ?_
      refine tq_iload_n dMg_staysWithOne_24 rfl rfl ?_
      obtain ⟨f11, hw⟩ := hw
      refine te_callV mv_Mg_list (ci := 6) (dc := 5) (as := [vI (0 : Int32), vI x3]) (rest := []) kMg_132 rfl (Nat.le_of_ble_eq_true rfl) (Nat.le_of_ble_eq_true rfl) rfl rfl rfl f11 (Nat.le_of_ble_eq_true rfl) dMg_staysWithOne_25 (s_Mg_list hw) (fun _ _ hx => False.elim hx) (tk_v fun h12 hw => ?_)
      refine tq_aload_n dMg_staysWithOne_28 rfl rfl ?_
      obtain ⟨f13, hw⟩ := hw
      refine te_getr dMg_staysWithOne_29 fMg_14 rfl rfl f13 ?_
      refine tq_iconst (v := (0 : Int32)) dMg_staysWithOne_32 tni_0 ?_
      obtain ⟨a14, e15, f16, hw⟩ := hw
      refine te_callV mv_Ro_at (ci := 7) (dc := 0) (as := [vI (0 : Int32)]) (rest := []) kMg_94 rfl (Nat.le_of_ble_eq_true rfl) (Nat.le_of_ble_eq_true rfl) rfl rfl e15 f16 (Nat.le_of_ble_eq_true rfl) dMg_staysWithOne_33 (s_Ro_at hw) (fun _ _ hx => False.elim hx) (tk_i fun v18 h17 hw => ?_)
      refine tq_istore (ls' := [some (vR (some o)), some (vR x1), some (vR x2), some (vI x3), some (vI x4), some (vI v18)]) dMg_staysWithOne_36 (Nat.le_of_ble_eq_true rfl) rfl ?_
      refine tq_iload dMg_staysWithOne_38 rfl ?_
      refine tq_ifeq (tgt := 50) dMg_staysWithOne_40 (by decide) (fun c19 => ?_) (fun c19 => ?_)
      · have hw := hw.1 c19
        refine tq_iconst (v := (1 : Int32)) dMg_staysWithOne_50 tni_1 ?_
        refine tq_goto (tgt := 55) dMg_staysWithOne_51 (by decide) ?_
        exact tq_iret rfl (by decide) dMg_staysWithOne_55 hw
      · have hw := hw.2 c19
        refine tq_iload dMg_staysWithOne_43 rfl ?_
        refine tq_iload dMg_staysWithOne_45 rfl ?_
        refine tq_icmpne (tgt := 54) dMg_staysWithOne_47 (by decide) (fun c20 => ?_) (fun c20 => ?_)
        · have hw := hw.1 c20
          refine tq_iconst (v := (0 : Int32)) dMg_staysWithOne_54 tni_0 ?_
          exact tq_iret rfl (by decide) dMg_staysWithOne_55 hw
        · have hw := hw.2 c20
          refine tq_iconst (v := (1 : Int32)) dMg_staysWithOne_50 tni_1 ?_
          refine tq_goto (tgt := 55) dMg_staysWithOne_51 (by decide) ?_
          exact tq_iret rfl (by decide) dMg_staysWithOne_55 hw
    · have hw := hw.2 c10
      refine tq_iconst (v := (0 : Int32)) dMg_staysWithOne_20 tni_0 ?_
      exact tq_iret rfl (by decide) dMg_staysWithOne_21 hw
  · have hw := hw.2 c6
    refine tq_iconst (v := (1 : Int32)) dMg_staysWithOne_8 tni_1 ?_
    exact tq_iret rfl (by decide) dMg_staysWithOne_9 hw
/-! T$Merger.decide -/
theorem dMg_decide_0 : decode (mB Mg_decide) 0 = .ok (.aload_n 2, 1) := by decide +kernel
theorem dMg_decide_1 : decode (mB Mg_decide) 1 = .ok (.iload 4, 2) := by decide +kernel
theorem dMg_decide_3 : decode (mB Mg_decide) 3 = .ok (.invokevirtual 107, 3) := by decide +kernel
theorem dMg_decide_6 : decode (mB Mg_decide) 6 = .ok (.istore 5, 2) := by decide +kernel
theorem dMg_decide_8 : decode (mB Mg_decide) 8 = .ok (.aload_n 3, 1) := by decide +kernel
theorem dMg_decide_9 : decode (mB Mg_decide) 9 = .ok (.iload 4, 2) := by decide +kernel
theorem dMg_decide_11 : decode (mB Mg_decide) 11 = .ok (.invokevirtual 107, 3) := by decide +kernel
theorem dMg_decide_14 : decode (mB Mg_decide) 14 = .ok (.istore 6, 2) := by decide +kernel
theorem dMg_decide_16 : decode (mB Mg_decide) 16 = .ok (.iload 5, 2) := by decide +kernel
theorem dMg_decide_18 : decode (mB Mg_decide) 18 = .ok (.ifCond .eq 87, 3) := by decide +kernel
theorem dMg_decide_21 : decode (mB Mg_decide) 21 = .ok (.iload 6, 2) := by decide +kernel
theorem dMg_decide_23 : decode (mB Mg_decide) 23 = .ok (.ifCond .eq 82, 3) := by decide +kernel
theorem dMg_decide_26 : decode (mB Mg_decide) 26 = .ok (.aload_n 0, 1) := by decide +kernel
theorem dMg_decide_27 : decode (mB Mg_decide) 27 = .ok (.iconst 1, 1) := by decide +kernel
theorem dMg_decide_28 : decode (mB Mg_decide) 28 = .ok (.iload 4, 2) := by decide +kernel
theorem dMg_decide_30 : decode (mB Mg_decide) 30 = .ok (.aload_n 1, 1) := by decide +kernel
theorem dMg_decide_31 : decode (mB Mg_decide) 31 = .ok (.iload 4, 2) := by decide +kernel
theorem dMg_decide_33 : decode (mB Mg_decide) 33 = .ok (.invokevirtual 107, 3) := by decide +kernel
theorem dMg_decide_36 : decode (mB Mg_decide) 36 = .ok (.aload_n 1, 1) := by decide +kernel
theorem dMg_decide_37 : decode (mB Mg_decide) 37 = .ok (.iload 4, 2) := by decide +kernel
theorem dMg_decide_39 : decode (mB Mg_decide) 39 = .ok (.invokevirtual 111, 3) := by decide +kernel
theorem dMg_decide_42 : decode (mB Mg_decide) 42 = .ok (.aload_n 2, 1) := by decide +kernel
theorem dMg_decide_43 : decode (mB Mg_decide) 43 = .ok (.iload 4, 2) := by decide +kernel
theorem dMg_decide_45 : decode (mB Mg_decide) 45 = .ok (.invokevirtual 111, 3) := by decide +kernel
theorem dMg_decide_48 : decode (mB Mg_decide) 48 = .ok (.aload_n 3, 1) := by decide +kernel
theorem dMg_decide_49 : decode (mB Mg_decide) 49 = .ok (.iload 4, 2) := by decide +kernel
theorem dMg_decide_51 : decode (mB Mg_decide) 51 = .ok (.invokevirtual 111, 3) := by decide +kernel
theorem dMg_decide_54 : decode (mB Mg_decide) 54 = .ok (.invokevirtual 114, 3) := by decide +kernel
theorem dMg_decide_57 : decode (mB Mg_decide) 57 = .ok (.istore 7, 2) := by decide +kernel
theorem dMg_decide_59 : decode (mB Mg_decide) 59 = .ok (.aload_n 0, 1) := by decide +kernel
theorem dMg_decide_60 : decode (mB Mg_decide) 60 = .ok (.iconst 2, 1) := by decide +kernel
theorem dMg_decide_61 : decode (mB Mg_decide) 61 = .ok (.iload 4, 2) := by decide +kernel
theorem dMg_decide_63 : decode (mB Mg_decide) 63 = .ok (.aload_n 1, 1) := by decide +kernel
theorem dMg_decide_64 : decode (mB Mg_decide) 64 = .ok (.iload 4, 2) := by decide +kernel
theorem dMg_decide_66 : decode (mB Mg_decide) 66 = .ok (.invokevirtual 107, 3) := by decide +kernel
theorem dMg_decide_69 : decode (mB Mg_decide) 69 = .ok (.aload_n 1, 1) := by decide +kernel
theorem dMg_decide_70 : decode (mB Mg_decide) 70 = .ok (.iload 4, 2) := by decide +kernel
theorem dMg_decide_72 : decode (mB Mg_decide) 72 = .ok (.invokevirtual 118, 3) := by decide +kernel
theorem dMg_decide_75 : decode (mB Mg_decide) 75 = .ok (.aload_n 2, 1) := by decide +kernel
theorem dMg_decide_76 : decode (mB Mg_decide) 76 = .ok (.iload 4, 2) := by decide +kernel
theorem dMg_decide_78 : decode (mB Mg_decide) 78 = .ok (.invokevirtual 118, 3) := by decide +kernel
theorem dMg_decide_81 : decode (mB Mg_decide) 81 = .ok (.aload_n 3, 1) := by decide +kernel
theorem dMg_decide_82 : decode (mB Mg_decide) 82 = .ok (.iload 4, 2) := by decide +kernel
theorem dMg_decide_84 : decode (mB Mg_decide) 84 = .ok (.invokevirtual 118, 3) := by decide +kernel
theorem dMg_decide_87 : decode (mB Mg_decide) 87 = .ok (.invokevirtual 114, 3) := by decide +kernel
theorem dMg_decide_90 : decode (mB Mg_decide) 90 = .ok (.istore 8, 2) := by decide +kernel
theorem dMg_decide_92 : decode (mB Mg_decide) 92 = .ok (.aload_n 0, 1) := by decide +kernel
theorem dMg_decide_93 : decode (mB Mg_decide) 93 = .ok (.iload 4, 2) := by decide +kernel
theorem dMg_decide_95 : decode (mB Mg_decide) 95 = .ok (.iload 7, 2) := by decide +kernel
theorem dMg_decide_97 : decode (mB Mg_decide) 97 = .ok (.iload 8, 2) := by decide +kernel
theorem dMg_decide_99 : decode (mB Mg_decide) 99 = .ok (.invokevirtual 121, 3) := by decide +kernel
theorem dMg_decide_102 : decode (mB Mg_decide) 102 = .ok (.goto 99, 3) := by decide +kernel
theorem dMg_decide_105 : decode (mB Mg_decide) 105 = .ok (.iload 5, 2) := by decide +kernel
theorem dMg_decide_107 : decode (mB Mg_decide) 107 = .ok (.ifCond .eq 36, 3) := by decide +kernel
theorem dMg_decide_110 : decode (mB Mg_decide) 110 = .ok (.aload_n 0, 1) := by decide +kernel
theorem dMg_decide_111 : decode (mB Mg_decide) 111 = .ok (.aload_n 1, 1) := by decide +kernel
theorem dMg_decide_112 : decode (mB Mg_decide) 112 = .ok (.aload_n 2, 1) := by decide +kernel
theorem dMg_decide_113 : decode (mB Mg_decide) 113 = .ok (.iload 4, 2) := by decide +kernel
theorem dMg_decide_115 : decode (mB Mg_decide) 115 = .ok (.iconst 1, 1) := by decide +kernel
theorem dMg_decide_116 : decode (mB Mg_decide) 116 = .ok (.invokevirtual 125, 3) := by decide +kernel
theorem dMg_decide_119 : decode (mB Mg_decide) 119 = .ok (.ifCond .eq 24, 3) := by decide +kernel
theorem dMg_decide_122 : decode (mB Mg_decide) 122 = .ok (.aload_n 0, 1) := by decide +kernel
theorem dMg_decide_123 : decode (mB Mg_decide) 123 = .ok (.iload 4, 2) := by decide +kernel
theorem dMg_decide_125 : decode (mB Mg_decide) 125 = .ok (.aload_n 2, 1) := by decide +kernel
theorem dMg_decide_126 : decode (mB Mg_decide) 126 = .ok (.iload 4, 2) := by decide +kernel
theorem dMg_decide_128 : decode (mB Mg_decide) 128 = .ok (.invokevirtual 111, 3) := by decide +kernel
theorem dMg_decide_131 : decode (mB Mg_decide) 131 = .ok (.aload_n 2, 1) := by decide +kernel
theorem dMg_decide_132 : decode (mB Mg_decide) 132 = .ok (.iload 4, 2) := by decide +kernel
theorem dMg_decide_134 : decode (mB Mg_decide) 134 = .ok (.invokevirtual 118, 3) := by decide +kernel
theorem dMg_decide_137 : decode (mB Mg_decide) 137 = .ok (.invokevirtual 121, 3) := by decide +kernel
theorem dMg_decide_140 : decode (mB Mg_decide) 140 = .ok (.goto 61, 3) := by decide +kernel
theorem dMg_decide_143 : decode (mB Mg_decide) 143 = .ok (.iload 6, 2) := by decide +kernel
theorem dMg_decide_145 : decode (mB Mg_decide) 145 = .ok (.ifCond .eq 36, 3) := by decide +kernel
theorem dMg_decide_148 : decode (mB Mg_decide) 148 = .ok (.aload_n 0, 1) := by decide +kernel
theorem dMg_decide_149 : decode (mB Mg_decide) 149 = .ok (.aload_n 1, 1) := by decide +kernel
theorem dMg_decide_150 : decode (mB Mg_decide) 150 = .ok (.aload_n 3, 1) := by decide +kernel
theorem dMg_decide_151 : decode (mB Mg_decide) 151 = .ok (.iload 4, 2) := by decide +kernel
theorem dMg_decide_153 : decode (mB Mg_decide) 153 = .ok (.iconst 2, 1) := by decide +kernel
theorem dMg_decide_154 : decode (mB Mg_decide) 154 = .ok (.invokevirtual 125, 3) := by decide +kernel
theorem dMg_decide_157 : decode (mB Mg_decide) 157 = .ok (.ifCond .eq 24, 3) := by decide +kernel
theorem dMg_decide_160 : decode (mB Mg_decide) 160 = .ok (.aload_n 0, 1) := by decide +kernel
theorem dMg_decide_161 : decode (mB Mg_decide) 161 = .ok (.iload 4, 2) := by decide +kernel
theorem dMg_decide_163 : decode (mB Mg_decide) 163 = .ok (.aload_n 3, 1) := by decide +kernel
theorem dMg_decide_164 : decode (mB Mg_decide) 164 = .ok (.iload 4, 2) := by decide +kernel
theorem dMg_decide_166 : decode (mB Mg_decide) 166 = .ok (.invokevirtual 111, 3) := by decide +kernel
theorem dMg_decide_169 : decode (mB Mg_decide) 169 = .ok (.aload_n 3, 1) := by decide +kernel
theorem dMg_decide_170 : decode (mB Mg_decide) 170 = .ok (.iload 4, 2) := by decide +kernel
theorem dMg_decide_172 : decode (mB Mg_decide) 172 = .ok (.invokevirtual 118, 3) := by decide +kernel
theorem dMg_decide_175 : decode (mB Mg_decide) 175 = .ok (.invokevirtual 121, 3) := by decide +kernel
theorem dMg_decide_178 : decode (mB Mg_decide) 178 = .ok (.goto 23, 3) := by decide +kernel
theorem dMg_decide_181 : decode (mB Mg_decide) 181 = .ok (.aload_n 0, 1) := by decide +kernel
theorem dMg_decide_182 : decode (mB Mg_decide) 182 = .ok (.getfield 20, 3) := by decide +kernel
theorem dMg_decide_185 : decode (mB Mg_decide) 185 = .ok (.iload 4, 2) := by decide +kernel
theorem dMg_decide_187 : decode (mB Mg_decide) 187 = .ok (.iconst 0, 1) := by decide +kernel
theorem dMg_decide_188 : decode (mB Mg_decide) 188 = .ok (.invokevirtual 129, 3) := by decide +kernel
theorem dMg_decide_191 : decode (mB Mg_decide) 191 = .ok (.aload_n 0, 1) := by decide +kernel
theorem dMg_decide_192 : decode (mB Mg_decide) 192 = .ok (.getfield 26, 3) := by decide +kernel
theorem dMg_decide_195 : decode (mB Mg_decide) 195 = .ok (.iload 4, 2) := by decide +kernel
theorem dMg_decide_197 : decode (mB Mg_decide) 197 = .ok (.iconst (-1), 1) := by decide +kernel
theorem dMg_decide_198 : decode (mB Mg_decide) 198 = .ok (.invokevirtual 129, 3) := by decide +kernel
theorem dMg_decide_201 : decode (mB Mg_decide) 201 = .ok (.return_, 1) := by decide +kernel
def w_Mg_decide_181 (R : tpH → Prop) (o : Nat) (x4 : Int32) (h : tpH) : Prop :=
  hT h o = 7 ∧ (∃ a2, (hR h o 3) = some a2 ∧ hT h a2 = 8 ∧ (w_Ro_put a2 x4 (0 : Int32) h (fun h5 => hT h5 o = 7 ∧ (∃ a7, (hR h5 o 5) = some a7 ∧ hT h5 a7 = 8 ∧ (w_Ro_put a7 x4 (-1 : Int32) h5 (fun h10 => R h10))))))
def w_Mg_decide_143 (R : tpH → Prop) (o : Nat) (x1 : Option Nat) (x3 : Option Nat) (x4 : Int32) (x6 : Int32) (h : tpH) : Prop :=
  (x6 = 0 → (w_Mg_decide_181 R o x4 h)) ∧ (¬ x6 = 0 → (hT h o = 7 ∧ (w_Mg_staysWithOne o x1 x3 x4 (2 : Int32) h (fun v4 h3 => (v4 = 0 → (w_Mg_decide_181 R o x4 h3)) ∧ (¬ v4 = 0 → (∃ a6, x3 = some a6 ∧ hT h3 a6 = 12 ∧ (w_Tr_worthOfMark a6 x4 h3 (fun v10 h9 => hT h9 a6 = 12 ∧ (w_Tr_parentOfMark a6 x4 h9 (fun v13 h12 => hT h12 o = 7 ∧ (w_Mg_letIn o x4 v10 v13 h12 (fun h15 => R h15))))))))))))
def w_Mg_decide_105 (R : tpH → Prop) (o : Nat) (x1 : Option Nat) (x2 : Option Nat) (x3 : Option Nat) (x4 : Int32) (x5 : Int32) (x6 : Int32) (h : tpH) : Prop :=
  (x5 = 0 → (w_Mg_decide_143 R o x1 x3 x4 x6 h)) ∧ (¬ x5 = 0 → (hT h o = 7 ∧ (w_Mg_staysWithOne o x1 x2 x4 (1 : Int32) h (fun v4 h3 => (v4 = 0 → (w_Mg_decide_143 R o x1 x3 x4 x6 h3)) ∧ (¬ v4 = 0 → (∃ a6, x2 = some a6 ∧ hT h3 a6 = 12 ∧ (w_Tr_worthOfMark a6 x4 h3 (fun v10 h9 => hT h9 a6 = 12 ∧ (w_Tr_parentOfMark a6 x4 h9 (fun v13 h12 => hT h12 o = 7 ∧ (w_Mg_letIn o x4 v10 v13 h12 (fun h15 => R h15))))))))))))
def w_Mg_decide (o : Nat) (x1 : Option Nat) (x2 : Option Nat) (x3 : Option Nat) (x4 : Int32) (h : tpH) (R : tpH → Prop) : Prop :=
  ∃ a1, x2 = some a1 ∧ hT h a1 = 12 ∧ (w_Tr_holds a1 x4 h (fun v5 h4 => ∃ a6, x3 = some a6 ∧ hT h4 a6 = 12 ∧ (w_Tr_holds a6 x4 h4 (fun v10 h9 => (v5 = 0 → (w_Mg_decide_105 R o x1 x2 x3 x4 v5 v10 h9)) ∧ (¬ v5 = 0 → ((v10 = 0 → (w_Mg_decide_105 R o x1 x2 x3 x4 v5 v10 h9)) ∧ (¬ v10 = 0 → (∃ a13, x1 = some a13 ∧ hT h9 a13 = 12 ∧ (w_Tr_holds a13 x4 h9 (fun v17 h16 => hT h16 a13 = 12 ∧ (w_Tr_worthOfMark a13 x4 h16 (fun v20 h19 => hT h19 a1 = 12 ∧ (w_Tr_worthOfMark a1 x4 h19 (fun v23 h22 => hT h22 a6 = 12 ∧ (w_Tr_worthOfMark a6 x4 h22 (fun v26 h25 => hT h25 o = 7 ∧ (w_Mg_choose o (1 : Int32) x4 v17 v20 v23 v26 h25 (fun v29 h28 => hT h28 a13 = 12 ∧ (w_Tr_holds a13 x4 h28 (fun v32 h31 => hT h31 a13 = 12 ∧ (w_Tr_parentOfMark a13 x4 h31 (fun v35 h34 => hT h34 a1 = 12 ∧ (w_Tr_parentOfMark a1 x4 h34 (fun v38 h37 => hT h37 a6 = 12 ∧ (w_Tr_parentOfMark a6 x4 h37 (fun v41 h40 => hT h40 o = 7 ∧ (w_Mg_choose o (2 : Int32) x4 v32 v35 v38 v41 h40 (fun v44 h43 => hT h43 o = 7 ∧ (w_Mg_letIn o x4 v29 v44 h43 (fun h46 => R h46))))))))))))))))))))))))))))))
theorem s_Mg_decide_181 {h0 : tpH} {av : List tpV} {R : tpH → Prop} : ∀ (o : Nat) (x4 : Int32) (h : tpH), w_Mg_decide_181 R o x4 h → tpR Mg_decide 7 h0 av (tpOv R (fun _ _ => False)) 181 [some (vR (some o)), none, none, none, some (vI x4), none, none, none, none] [] h := by
  intro o x4 h hw
  unfold w_Mg_decide_181 at hw
  refine tq_aload_n dMg_decide_181 rfl rfl ?_
  obtain ⟨f1, hw⟩ := hw
  refine te_getr dMg_decide_182 fMg_20 rfl rfl f1 ?_
  refine tq_iload dMg_decide_185 rfl ?_
  refine tq_iconst (v := (0 : Int32)) dMg_decide_187 tni_0 ?_
  obtain ⟨a2, e3, f4, hw⟩ := hw
  refine te_callV mv_Ro_put (ci := 7) (dc := 0) (as := [vI x4, vI (0 : Int32)]) (rest := []) kMg_129 rfl (Nat.le_of_ble_eq_true rfl) (Nat.le_of_ble_eq_true rfl) rfl rfl e3 f4 (Nat.le_of_ble_eq_true rfl) dMg_decide_188 (s_Ro_put hw) (fun _ _ hx => False.elim hx) (tk_v fun h5 hw => ?_)
  refine tq_aload_n dMg_decide_191 rfl rfl ?_
  obtain ⟨f6, hw⟩ := hw
  refine te_getr dMg_decide_192 fMg_26 rfl rfl f6 ?_
  refine tq_iload dMg_decide_195 rfl ?_
  refine tq_iconst (v := (-1 : Int32)) dMg_decide_197 tni_m1 ?_
  obtain ⟨a7, e8, f9, hw⟩ := hw
  refine te_callV mv_Ro_put (ci := 7) (dc := 0) (as := [vI x4, vI (-1 : Int32)]) (rest := []) kMg_129 rfl (Nat.le_of_ble_eq_true rfl) (Nat.le_of_ble_eq_true rfl) rfl rfl e8 f9 (Nat.le_of_ble_eq_true rfl) dMg_decide_198 (s_Ro_put hw) (fun _ _ hx => False.elim hx) (tk_v fun h10 hw => ?_)
  exact tq_vret rfl dMg_decide_201 hw
theorem s_Mg_decide_143 {h0 : tpH} {av : List tpV} {R : tpH → Prop} : ∀ (o : Nat) (x1 : Option Nat) (x3 : Option Nat) (x4 : Int32) (x6 : Int32) (h : tpH), w_Mg_decide_143 R o x1 x3 x4 x6 h → tpR Mg_decide 7 h0 av (tpOv R (fun _ _ => False)) 143 [some (vR (some o)), some (vR x1), none, some (vR x3), some (vI x4), none, some (vI x6), none, none] [] h := by
  intro o x1 x3 x4 x6 h hw
  unfold w_Mg_decide_143 at hw
  refine tq_iload dMg_decide_143 rfl ?_
  refine tq_ifeq (tgt := 181) dMg_decide_145 (by decide) (fun c1 => ?_) (fun c1 => ?_)
  · have hw := hw.1 c1
    refine tpR.fo (ls' := [some (vR (some o)), none, none, none, some (vI x4), none, none, none, none]) ?_ (And.intro rfl (And.intro rfl trivial))
    exact s_Mg_decide_181 _ _ _ hw
  · have hw := hw.2 c1
    refine tq_aload_n dMg_decide_148 rfl rfl ?_
    refine tq_aload_n dMg_decide_149 rfl rfl ?_
    refine tq_aload_n dMg_decide_150 rfl rfl ?_
    refine tq_iload dMg_decide_151 rfl ?_
    refine tq_iconst (v := (2 : Int32)) dMg_decide_153 tni_2 ?_
    obtain ⟨f2, hw⟩ := hw
    refine te_callV mv_Mg_staysWithOne (ci := 6) (dc := 6) (as := [vR x1, vR x3, vI x4, vI (2 : Int32)]) (rest := []) kMg_125 rfl (Nat.le_of_ble_eq_true rfl) (Nat.le_of_ble_eq_true rfl) rfl rfl rfl f2 (Nat.le_of_ble_eq_true rfl) dMg_decide_154 (s_Mg_staysWithOne hw) (fun _ _ hx => False.elim hx) (tk_i fun v4 h3 hw => ?_)
    refine tq_ifeq (tgt := 181) dMg_decide_157 (by decide) (fun c5 => ?_) (fun c5 => ?_)
    · have hw := hw.1 c5
      refine tpR.fo (ls' := [some (vR (some o)), none, none, none, some (vI x4), none, none, none, none]) ?_ (And.intro rfl (And.intro rfl trivial))
      exact s_Mg_decide_181 _ _ _ hw
    · have hw := hw.2 c5
      refine tq_aload_n dMg_decide_160 rfl rfl ?_
      refine tq_iload dMg_decide_161 rfl ?_
      refine tq_aload_n dMg_decide_163 rfl rfl ?_
      refine tq_iload dMg_decide_164 rfl ?_
      obtain ⟨a6, e7, f8, hw⟩ := hw
      refine te_callV mv_Tr_worthOfMark (ci := 11) (dc := 1) (as := [vI x4]) (rest := [vI x4, vR (some o)]) kMg_111 rfl (Nat.le_of_ble_eq_true rfl) (Nat.le_of_ble_eq_true rfl) rfl rfl e7 f8 (Nat.le_of_ble_eq_true rfl) dMg_decide_166 (s_Tr_worthOfMark hw) (fun _ _ hx => False.elim hx) (tk_i fun v10 h9 hw => ?_)
      refine tq_aload_n dMg_decide_169 rfl rfl ?_
      refine tq_iload dMg_decide_170 rfl ?_
      obtain ⟨f11, hw⟩ := hw
      refine te_callV mv_Tr_parentOfMark (ci := 11) (dc := 1) (as := [vI x4]) (rest := [vI v10, vI x4, vR (some o)]) kMg_118 rfl (Nat.le_of_ble_eq_true rfl) (Nat.le_of_ble_eq_true rfl) rfl rfl e7 f11 (Nat.le_of_ble_eq_true rfl) dMg_decide_172 (s_Tr_parentOfMark hw) (fun _ _ hx => False.elim hx) (tk_i fun v13 h12 hw => ?_)
      obtain ⟨f14, hw⟩ := hw
      refine te_callV mv_Mg_letIn (ci := 6) (dc := 1) (as := [vI x4, vI v10, vI v13]) (rest := []) kMg_121 rfl (Nat.le_of_ble_eq_true rfl) (Nat.le_of_ble_eq_true rfl) rfl rfl rfl f14 (Nat.le_of_ble_eq_true rfl) dMg_decide_175 (s_Mg_letIn hw) (fun _ _ hx => False.elim hx) (tk_v fun h15 hw => ?_)
      refine tq_goto (tgt := 201) dMg_decide_178 (by decide) ?_
      exact tq_vret rfl dMg_decide_201 hw
theorem s_Mg_decide_105 {h0 : tpH} {av : List tpV} {R : tpH → Prop} : ∀ (o : Nat) (x1 : Option Nat) (x2 : Option Nat) (x3 : Option Nat) (x4 : Int32) (x5 : Int32) (x6 : Int32) (h : tpH), w_Mg_decide_105 R o x1 x2 x3 x4 x5 x6 h → tpR Mg_decide 7 h0 av (tpOv R (fun _ _ => False)) 105 [some (vR (some o)), some (vR x1), some (vR x2), some (vR x3), some (vI x4), some (vI x5), some (vI x6), none, none] [] h := by
  intro o x1 x2 x3 x4 x5 x6 h hw
  unfold w_Mg_decide_105 at hw
  refine tq_iload dMg_decide_105 rfl ?_
  refine tq_ifeq (tgt := 143) dMg_decide_107 (by decide) (fun c1 => ?_) (fun c1 => ?_)
  · have hw := hw.1 c1
    refine tpR.fo (ls' := [some (vR (some o)), some (vR x1), none, some (vR x3), some (vI x4), none, some (vI x6), none, none]) ?_ (And.intro rfl (And.intro rfl (And.intro rfl (And.intro rfl (And.intro rfl trivial)))))
    exact s_Mg_decide_143 _ _ _ _ _ _ hw
  · have hw := hw.2 c1
    refine tq_aload_n dMg_decide_110 rfl rfl ?_
    refine tq_aload_n dMg_decide_111 rfl rfl ?_
    refine tq_aload_n dMg_decide_112 rfl rfl ?_
    refine tq_iload dMg_decide_113 rfl ?_
    refine tq_iconst (v := (1 : Int32)) dMg_decide_115 tni_1 ?_
    obtain ⟨f2, hw⟩ := hw
    refine te_callV mv_Mg_staysWithOne (ci := 6) (dc := 6) (as := [vR x1, vR x2, vI x4, vI (1 : Int32)]) (rest := []) kMg_125 rfl (Nat.le_of_ble_eq_true rfl) (Nat.le_of_ble_eq_true rfl) rfl rfl rfl f2 (Nat.le_of_ble_eq_true rfl) dMg_decide_116 (s_Mg_staysWithOne hw) (fun _ _ hx => False.elim hx) (tk_i fun v4 h3 hw => ?_)
    refine tq_ifeq (tgt := 143) dMg_decide_119 (by decide) (fun c5 => ?_) (fun c5 => ?_)
    · have hw := hw.1 c5
      refine tpR.fo (ls' := [some (vR (some o)), some (vR x1), none, some (vR x3), some (vI x4), none, some (vI x6), none, none]) ?_ (And.intro rfl (And.intro rfl (And.intro rfl (And.intro rfl (And.intro rfl trivial)))))
      exact s_Mg_decide_143 _ _ _ _ _ _ hw
    · have hw := hw.2 c5
      refine tq_aload_n dMg_decide_122 rfl rfl ?_
      refine tq_iload dMg_decide_123 rfl ?_
      refine tq_aload_n dMg_decide_125 rfl rfl ?_
      refine tq_iload dMg_decide_126 rfl ?_
      obtain ⟨a6, e7, f8, hw⟩ := hw
      refine te_callV mv_Tr_worthOfMark (ci := 11) (dc := 1) (as := [vI x4]) (rest := [vI x4, vR (some o)]) kMg_111 rfl (Nat.le_of_ble_eq_true rfl) (Nat.le_of_ble_eq_true rfl) rfl rfl e7 f8 (Nat.le_of_ble_eq_true rfl) dMg_decide_128 (s_Tr_worthOfMark hw) (fun _ _ hx => False.elim hx) (tk_i fun v10 h9 hw => ?_)
      refine tq_aload_n dMg_decide_131 rfl rfl ?_
      refine tq_iload dMg_decide_132 rfl ?_
      obtain ⟨f11, hw⟩ := hw
      refine te_callV mv_Tr_parentOfMark (ci := 11) (dc := 1) (as := [vI x4]) (rest := [vI v10, vI x4, vR (some o)]) kMg_118 rfl (Nat.le_of_ble_eq_true rfl) (Nat.le_of_ble_eq_true rfl) rfl rfl e7 f11 (Nat.le_of_ble_eq_true rfl) dMg_decide_134 (s_Tr_parentOfMark hw) (fun _ _ hx => False.elim hx) (tk_i fun v13 h12 hw => ?_)
      obtain ⟨f14, hw⟩ := hw
      refine te_callV mv_Mg_letIn (ci := 6) (dc := 1) (as := [vI x4, vI v10, vI v13]) (rest := []) kMg_121 rfl (Nat.le_of_ble_eq_true rfl) (Nat.le_of_ble_eq_true rfl) rfl rfl rfl f14 (Nat.le_of_ble_eq_true rfl) dMg_decide_137 (s_Mg_letIn hw) (fun _ _ hx => False.elim hx) (tk_v fun h15 hw => ?_)
      refine tq_goto (tgt := 201) dMg_decide_140 (by decide) ?_
      exact tq_vret rfl dMg_decide_201 hw
theorem s_Mg_decide {o : Nat} {x1 : Option Nat} {x2 : Option Nat} {x3 : Option Nat} {x4 : Int32} {h : tpH} {R : tpH → Prop} (hw : w_Mg_decide o x1 x2 x3 x4 h R) : tpC Mg_decide 7 [vR (some o), vR x1, vR x2, vR x3, vI x4] h (tpOv R (fun _ _ => False)) := by
  refine tpC_of mv_Mg_decide.2.2.2.1 rfl rfl (Nat.le_of_ble_eq_true rfl) ?_
  show tpR Mg_decide 7 h _ _ 0 [some (vR (some o)), some (vR x1), some (vR x2), some (vR x3), some (vI x4), none, none, none, none] [] h
  unfold w_Mg_decide at hw
  refine tq_aload_n dMg_decide_0 rfl rfl ?_
  refine tq_iload dMg_decide_1 rfl ?_
  obtain ⟨a1, e2, f3, hw⟩ := hw
  refine te_callV mv_Tr_holds (ci := 11) (dc := 1) (as := [vI x4]) (rest := []) kMg_107 rfl (Nat.le_of_ble_eq_true rfl) (Nat.le_of_ble_eq_true rfl) rfl rfl e2 f3 (Nat.le_of_ble_eq_true rfl) dMg_decide_3 (s_Tr_holds hw) (fun _ _ hx => False.elim hx) (tk_i fun v5 h4 hw => ?_)
  refine tq_istore (ls' := [some (vR (some o)), some (vR x1), some (vR x2), some (vR x3), some (vI x4), some (vI v5), none, none, none]) dMg_decide_6 (Nat.le_of_ble_eq_true rfl) rfl ?_
  refine tq_aload_n dMg_decide_8 rfl rfl ?_
  refine tq_iload dMg_decide_9 rfl ?_
  obtain ⟨a6, e7, f8, hw⟩ := hw
  refine te_callV mv_Tr_holds (ci := 11) (dc := 1) (as := [vI x4]) (rest := []) kMg_107 rfl (Nat.le_of_ble_eq_true rfl) (Nat.le_of_ble_eq_true rfl) rfl rfl e7 f8 (Nat.le_of_ble_eq_true rfl) dMg_decide_11 (s_Tr_holds hw) (fun _ _ hx => False.elim hx) (tk_i fun v10 h9 hw => ?_)
  refine tq_istore (ls' := [some (vR (some o)), some (vR x1), some (vR x2), some (vR x3), some (vI x4), some (vI v5), some (vI v10), none, none]) dMg_decide_14 (Nat.le_of_ble_eq_true rfl) rfl ?_
  refine tq_iload dMg_decide_16 rfl ?_
  refine tq_ifeq (tgt := 105) dMg_decide_18 (by decide) (fun c11 => ?_) (fun c11 => ?_)
  · have hw := hw.1 c11
    refine tpR.fo (ls' := [some (vR (some o)), some (vR x1), some (vR x2), some (vR x3), some (vI x4), some (vI v5), some (vI v10), none, none]) ?_ (And.intro rfl (And.intro rfl (And.intro rfl (And.intro rfl (And.intro rfl (And.intro rfl (And.intro rfl trivial)))))))
    exact s_Mg_decide_105 _ _ _ _ _ _ _ _ hw
  · have hw := hw.2 c11
    refine tq_iload dMg_decide_21 rfl ?_
    refine tq_ifeq (tgt := 105) dMg_decide_23 (by decide) (fun c12 => ?_) (fun c12 => ?_)
    · have hw := hw.1 c12
      refine tpR.fo (ls' := [some (vR (some o)), some (vR x1), some (vR x2), some (vR x3), some (vI x4), some (vI v5), some (vI v10), none, none]) ?_ (And.intro rfl (And.intro rfl (And.intro rfl (And.intro rfl (And.intro rfl (And.intro rfl (And.intro rfl trivial)))))))
      exact s_Mg_decide_105 _ _ _ _ _ _ _ _ hw
    · have hw := hw.2 c12
      refine tq_aload_n dMg_decide_26 rfl rfl ?_
      refine tq_iconst (v := (1 : Int32)) dMg_decide_27 tni_1 ?_
      refine tq_iload dMg_decide_28 rfl ?_
      refine tq_aload_n dMg_decide_30 rfl rfl ?_
      refine tq_iload dMg_decide_31 rfl ?_
      obtain ⟨a13, e14, f15, hw⟩ := hw
      refine te_callV mv_Tr_holds (ci := 11) (dc := 1) (as := [vI x4]) (rest := [vI x4, vI (1 : Int32), vR (some o)]) kMg_107 rfl (Nat.le_of_ble_eq_true rfl) (Nat.le_of_ble_eq_true rfl) rfl rfl e14 f15 (Nat.le_of_ble_eq_true rfl) dMg_decide_33 (s_Tr_holds hw) (fun _ _ hx => False.elim hx) (tk_i fun v17 h16 hw => ?_)
      refine tq_aload_n dMg_decide_36 rfl rfl ?_
      refine tq_iload dMg_decide_37 rfl ?_
      obtain ⟨f18, hw⟩ := hw
      refine te_callV mv_Tr_worthOfMark (ci := 11) (dc := 1) (as := [vI x4]) (rest := [vI v17, vI x4, vI (1 : Int32), vR (some o)]) kMg_111 rfl (Nat.le_of_ble_eq_true rfl) (Nat.le_of_ble_eq_true rfl) rfl rfl e14 f18 (Nat.le_of_ble_eq_true rfl) dMg_decide_39 (s_Tr_worthOfMark hw) (fun _ _ hx => False.elim hx) (tk_i fun v20 h19 hw => ?_)
      refine tq_aload_n dMg_decide_42 rfl rfl ?_
      refine tq_iload dMg_decide_43 rfl ?_
      obtain ⟨f21, hw⟩ := hw
      refine te_callV mv_Tr_worthOfMark (ci := 11) (dc := 1) (as := [vI x4]) (rest := [vI v20, vI v17, vI x4, vI (1 : Int32), vR (some o)]) kMg_111 rfl (Nat.le_of_ble_eq_true rfl) (Nat.le_of_ble_eq_true rfl) rfl rfl e2 f21 (Nat.le_of_ble_eq_true rfl) dMg_decide_45 (s_Tr_worthOfMark hw) (fun _ _ hx => False.elim hx) (tk_i fun v23 h22 hw => ?_)
      refine tq_aload_n dMg_decide_48 rfl rfl ?_
      refine tq_iload dMg_decide_49 rfl ?_
      obtain ⟨f24, hw⟩ := hw
      refine te_callV mv_Tr_worthOfMark (ci := 11) (dc := 1) (as := [vI x4]) (rest := [vI v23, vI v20, vI v17, vI x4, vI (1 : Int32), vR (some o)]) kMg_111 rfl (Nat.le_of_ble_eq_true rfl) (Nat.le_of_ble_eq_true rfl) rfl rfl e7 f24 (Nat.le_of_ble_eq_true rfl) dMg_decide_51 (s_Tr_worthOfMark hw) (fun _ _ hx => False.elim hx) (tk_i fun v26 h25 hw => ?_)
      obtain ⟨f27, hw⟩ := hw
      refine te_callV mv_Mg_choose (ci := 6) (dc := 6) (as := [vI (1 : Int32), vI x4, vI v17, vI v20, vI v23, vI v26]) (rest := []) kMg_114 rfl (Nat.le_of_ble_eq_true rfl) (Nat.le_of_ble_eq_true rfl) rfl rfl rfl f27 (Nat.le_of_ble_eq_true rfl) dMg_decide_54 (s_Mg_choose hw) (fun _ _ hx => False.elim hx) (tk_i fun v29 h28 hw => ?_)
      refine tq_istore (ls' := [some (vR (some o)), some (vR x1), some (vR x2), some (vR x3), some (vI x4), some (vI v5), some (vI v10), some (vI v29), none]) dMg_decide_57 (Nat.le_of_ble_eq_true rfl) rfl ?_
      refine tq_aload_n dMg_decide_59 rfl rfl ?_
      refine tq_iconst (v := (2 : Int32)) dMg_decide_60 tni_2 ?_
      refine tq_iload dMg_decide_61 rfl ?_
      refine tq_aload_n dMg_decide_63 rfl rfl ?_
      refine tq_iload dMg_decide_64 rfl ?_
      obtain ⟨f30, hw⟩ := hw
      refine te_callV mv_Tr_holds (ci := 11) (dc := 1) (as := [vI x4]) (rest := [vI x4, vI (2 : Int32), vR (some o)]) kMg_107 rfl (Nat.le_of_ble_eq_true rfl) (Nat.le_of_ble_eq_true rfl) rfl rfl e14 f30 (Nat.le_of_ble_eq_true rfl) dMg_decide_66 (s_Tr_holds hw) (fun _ _ hx => False.elim hx) (tk_i fun v32 h31 hw => ?_)
      refine tq_aload_n dMg_decide_69 rfl rfl ?_
      refine tq_iload dMg_decide_70 rfl ?_
      obtain ⟨f33, hw⟩ := hw
      refine te_callV mv_Tr_parentOfMark (ci := 11) (dc := 1) (as := [vI x4]) (rest := [vI v32, vI x4, vI (2 : Int32), vR (some o)]) kMg_118 rfl (Nat.le_of_ble_eq_true rfl) (Nat.le_of_ble_eq_true rfl) rfl rfl e14 f33 (Nat.le_of_ble_eq_true rfl) dMg_decide_72 (s_Tr_parentOfMark hw) (fun _ _ hx => False.elim hx) (tk_i fun v35 h34 hw => ?_)
      refine tq_aload_n dMg_decide_75 rfl rfl ?_
      refine tq_iload dMg_decide_76 rfl ?_
      obtain ⟨f36, hw⟩ := hw
      refine te_callV mv_Tr_parentOfMark (ci := 11) (dc := 1) (as := [vI x4]) (rest := [vI v35, vI v32, vI x4, vI (2 : Int32), vR (some o)]) kMg_118 rfl (Nat.le_of_ble_eq_true rfl) (Nat.le_of_ble_eq_true rfl) rfl rfl e2 f36 (Nat.le_of_ble_eq_true rfl) dMg_decide_78 (s_Tr_parentOfMark hw) (fun _ _ hx => False.elim hx) (tk_i fun v38 h37 hw => ?_)
      refine tq_aload_n dMg_decide_81 rfl rfl ?_
      refine tq_iload dMg_decide_82 rfl ?_
      obtain ⟨f39, hw⟩ := hw
      refine te_callV mv_Tr_parentOfMark (ci := 11) (dc := 1) (as := [vI x4]) (rest := [vI v38, vI v35, vI v32, vI x4, vI (2 : Int32), vR (some o)]) kMg_118 rfl (Nat.le_of_ble_eq_true rfl) (Nat.le_of_ble_eq_true rfl) rfl rfl e7 f39 (Nat.le_of_ble_eq_true rfl) dMg_decide_84 (s_Tr_parentOfMark hw) (fun _ _ hx => False.elim hx) (tk_i fun v41 h40 hw => ?_)
      obtain ⟨f42, hw⟩ := hw
      refine te_callV mv_Mg_choose (ci := 6) (dc := 6) (as := [vI (2 : Int32), vI x4, vI v32, vI v35, vI v38, vI v41]) (rest := []) kMg_114 rfl (Nat.le_of_ble_eq_true rfl) (Nat.le_of_ble_eq_true rfl) rfl rfl rfl f42 (Nat.le_of_ble_eq_true rfl) dMg_decide_87 (s_Mg_choose hw) (fun _ _ hx => False.elim hx) (tk_i fun v44 h43 hw => ?_)
      refine tq_istore (ls' := [some (vR (some o)), some (vR x1), some (vR x2), some (vR x3), some (vI x4), some (vI v5), some (vI v10), some (vI v29), some (vI v44)]) dMg_decide_90 (Nat.le_of_ble_eq_true rfl) rfl ?_
      refine tq_aload_n dMg_decide_92 rfl rfl ?_
      refine tq_iload dMg_decide_93 rfl ?_
      refine tq_iload dMg_decide_95 rfl ?_
      refine tq_iload dMg_decide_97 rfl ?_
      obtain ⟨f45, hw⟩ := hw
      refine te_callV mv_Mg_letIn (ci := 6) (dc := 1) (as := [vI x4, vI v29, vI v44]) (rest := []) kMg_121 rfl (Nat.le_of_ble_eq_true rfl) (Nat.le_of_ble_eq_true rfl) rfl rfl rfl f45 (Nat.le_of_ble_eq_true rfl) dMg_decide_99 (s_Mg_letIn hw) (fun _ _ hx => False.elim hx) (tk_v fun h46 hw => ?_)
      refine tq_goto (tgt := 201) dMg_decide_102 (by decide) ?_
      exact tq_vret rfl dMg_decide_201 hw
/-! T$Merger.lowestLost -/
theorem dMg_lowestLost_0 : decode (mB Mg_lowestLost) 0 = .ok (.iconst 0, 1) := by decide +kernel
theorem dMg_lowestLost_1 : decode (mB Mg_lowestLost) 1 = .ok (.istore_n 1, 1) := by decide +kernel
theorem dMg_lowestLost_2 : decode (mB Mg_lowestLost) 2 = .ok (.iload_n 1, 1) := by decide +kernel
theorem dMg_lowestLost_3 : decode (mB Mg_lowestLost) 3 = .ok (.aload_n 0, 1) := by decide +kernel
theorem dMg_lowestLost_4 : decode (mB Mg_lowestLost) 4 = .ok (.getfield 47, 3) := by decide +kernel
theorem dMg_lowestLost_7 : decode (mB Mg_lowestLost) 7 = .ok (.getfield 58, 3) := by decide +kernel
theorem dMg_lowestLost_10 : decode (mB Mg_lowestLost) 10 = .ok (.if_icmp .ge 49, 3) := by decide +kernel
theorem dMg_lowestLost_13 : decode (mB Mg_lowestLost) 13 = .ok (.aload_n 0, 1) := by decide +kernel
theorem dMg_lowestLost_14 : decode (mB Mg_lowestLost) 14 = .ok (.getfield 26, 3) := by decide +kernel
theorem dMg_lowestLost_17 : decode (mB Mg_lowestLost) 17 = .ok (.iload_n 1, 1) := by decide +kernel
theorem dMg_lowestLost_18 : decode (mB Mg_lowestLost) 18 = .ok (.invokevirtual 94, 3) := by decide +kernel
theorem dMg_lowestLost_21 : decode (mB Mg_lowestLost) 21 = .ok (.istore_n 2, 1) := by decide +kernel
theorem dMg_lowestLost_22 : decode (mB Mg_lowestLost) 22 = .ok (.aload_n 0, 1) := by decide +kernel
theorem dMg_lowestLost_23 : decode (mB Mg_lowestLost) 23 = .ok (.getfield 20, 3) := by decide +kernel
theorem dMg_lowestLost_26 : decode (mB Mg_lowestLost) 26 = .ok (.iload_n 1, 1) := by decide +kernel
theorem dMg_lowestLost_27 : decode (mB Mg_lowestLost) 27 = .ok (.invokevirtual 94, 3) := by decide +kernel
theorem dMg_lowestLost_30 : decode (mB Mg_lowestLost) 30 = .ok (.iconst 1, 1) := by decide +kernel
theorem dMg_lowestLost_31 : decode (mB Mg_lowestLost) 31 = .ok (.if_icmp .ne 22, 3) := by decide +kernel
theorem dMg_lowestLost_34 : decode (mB Mg_lowestLost) 34 = .ok (.iload_n 2, 1) := by decide +kernel
theorem dMg_lowestLost_35 : decode (mB Mg_lowestLost) 35 = .ok (.iconst (-1), 1) := by decide +kernel
theorem dMg_lowestLost_36 : decode (mB Mg_lowestLost) 36 = .ok (.if_icmp .eq 17, 3) := by decide +kernel
theorem dMg_lowestLost_39 : decode (mB Mg_lowestLost) 39 = .ok (.aload_n 0, 1) := by decide +kernel
theorem dMg_lowestLost_40 : decode (mB Mg_lowestLost) 40 = .ok (.getfield 20, 3) := by decide +kernel
theorem dMg_lowestLost_43 : decode (mB Mg_lowestLost) 43 = .ok (.iload_n 2, 1) := by decide +kernel
theorem dMg_lowestLost_44 : decode (mB Mg_lowestLost) 44 = .ok (.invokevirtual 94, 3) := by decide +kernel
theorem dMg_lowestLost_47 : decode (mB Mg_lowestLost) 47 = .ok (.iconst 1, 1) := by decide +kernel
theorem dMg_lowestLost_48 : decode (mB Mg_lowestLost) 48 = .ok (.if_icmp .eq 5, 3) := by decide +kernel
theorem dMg_lowestLost_51 : decode (mB Mg_lowestLost) 51 = .ok (.iload_n 2, 1) := by decide +kernel
theorem dMg_lowestLost_52 : decode (mB Mg_lowestLost) 52 = .ok (.ireturn, 1) := by decide +kernel
theorem dMg_lowestLost_53 : decode (mB Mg_lowestLost) 53 = .ok (.iinc 1 1, 3) := by decide +kernel
theorem dMg_lowestLost_56 : decode (mB Mg_lowestLost) 56 = .ok (.goto (-54), 3) := by decide +kernel
theorem dMg_lowestLost_59 : decode (mB Mg_lowestLost) 59 = .ok (.iconst (-1), 1) := by decide +kernel
theorem dMg_lowestLost_60 : decode (mB Mg_lowestLost) 60 = .ok (.ireturn, 1) := by decide +kernel
def b_Mg_lowestLost_2 (R : Int32 → tpH → Prop) (Y : Nat → Int32 → tpH → Prop) (o : Nat) (x1 : Int32) (h : tpH) : Prop :=
  hT h o = 7 ∧ (∃ a2, (hR h o 0) = some a2 ∧ hT h a2 = 5 ∧ (((hI h a2 2) ≤ x1 → (R (-1 : Int32) h)) ∧ (¬ (hI h a2 2) ≤ x1 → (∃ a6, (hR h o 5) = some a6 ∧ hT h a6 = 8 ∧ (w_Ro_at a6 x1 h (fun v10 h9 => hT h9 o = 7 ∧ (∃ a12, (hR h9 o 3) = some a12 ∧ hT h9 a12 = 8 ∧ (w_Ro_at a12 x1 h9 (fun v16 h15 => (¬ v16 = (1 : Int32) → (Y o (x1 + (1 : Int32)) h15)) ∧ (v16 = (1 : Int32) → ((v10 = (-1 : Int32) → (Y o (x1 + (1 : Int32)) h15)) ∧ (¬ v10 = (-1 : Int32) → (hT h15 o = 7 ∧ (∃ a20, (hR h15 o 3) = some a20 ∧ hT h15 a20 = 8 ∧ (w_Ro_at a20 v10 h15 (fun v24 h23 => (v24 = (1 : Int32) → (Y o (x1 + (1 : Int32)) h23)) ∧ (¬ v24 = (1 : Int32) → (R v10 h23))))))))))))))))))
def w_Mg_lowestLost_2 (R : Int32 → tpH → Prop) : Nat → Nat → Int32 → tpH → Prop
  | 0 => fun _ _ _ => False
  | n + 1 => b_Mg_lowestLost_2 R (w_Mg_lowestLost_2 R n)
def w_Mg_lowestLost (o : Nat) (h : tpH) (R : Int32 → tpH → Prop) : Prop :=
  ∃ n, w_Mg_lowestLost_2 R n o (0 : Int32) h
theorem s_Mg_lowestLost_2 {h0 : tpH} {av : List tpV} {R : Int32 → tpH → Prop} : ∀ (n : Nat) (o : Nat) (x1 : Int32) (h : tpH), w_Mg_lowestLost_2 R n o x1 h → tpR Mg_lowestLost 1 h0 av (tpOi R (fun _ _ => False)) 2 [some (vR (some o)), some (vI x1), none] [] h := by
  intro n
  induction n with
  | zero => intro o x1 h hw; exact False.elim hw
  | succ n ih =>
    intro o x1 h hw
    change b_Mg_lowestLost_2 R (w_Mg_lowestLost_2 R n) o x1 h at hw
    unfold b_Mg_lowestLost_2 at hw
    refine tq_iload_n dMg_lowestLost_2 rfl rfl ?_
    refine tq_aload_n dMg_lowestLost_3 rfl rfl ?_
    obtain ⟨f1, hw⟩ := hw
    refine te_getr dMg_lowestLost_4 fMg_47 rfl rfl f1 ?_
    obtain ⟨a2, e3, f4, hw⟩ := hw
    refine te_geti dMg_lowestLost_7 fMg_58 rfl e3 f4 ?_
    refine tq_icmpge (tgt := 59) dMg_lowestLost_10 (by decide) (fun c5 => ?_) (fun c5 => ?_)
    · have hw := hw.1 c5
      refine tq_iconst (v := (-1 : Int32)) dMg_lowestLost_59 tni_m1 ?_
      exact tq_iret rfl rfl dMg_lowestLost_60 hw
    · have hw := hw.2 c5
      refine tq_aload_n dMg_lowestLost_13 rfl rfl ?_
      refine te_getr dMg_lowestLost_14 fMg_26 rfl rfl f1 ?_
      refine tq_iload_n dMg_lowestLost_17 rfl rfl ?_
      obtain ⟨a6, e7, f8, hw⟩ := hw
      refine te_callV mv_Ro_at (ci := 7) (dc := 0) (as := [vI x1]) (rest := []) kMg_94 rfl (Nat.le_of_ble_eq_true rfl) (Nat.le_of_ble_eq_true rfl) rfl rfl e7 f8 (Nat.le_of_ble_eq_true rfl) dMg_lowestLost_18 (s_Ro_at hw) (fun _ _ hx => False.elim hx) (tk_i fun v10 h9 hw => ?_)
      refine tq_istore_n (ls' := [some (vR (some o)), some (vI x1), some (vI v10)]) dMg_lowestLost_21 rfl (Nat.le_of_ble_eq_true rfl) rfl ?_
      refine tq_aload_n dMg_lowestLost_22 rfl rfl ?_
      obtain ⟨f11, hw⟩ := hw
      refine te_getr dMg_lowestLost_23 fMg_20 rfl rfl f11 ?_
      refine tq_iload_n dMg_lowestLost_26 rfl rfl ?_
      obtain ⟨a12, e13, f14, hw⟩ := hw
      refine te_callV mv_Ro_at (ci := 7) (dc := 0) (as := [vI x1]) (rest := []) kMg_94 rfl (Nat.le_of_ble_eq_true rfl) (Nat.le_of_ble_eq_true rfl) rfl rfl e13 f14 (Nat.le_of_ble_eq_true rfl) dMg_lowestLost_27 (s_Ro_at hw) (fun _ _ hx => False.elim hx) (tk_i fun v16 h15 hw => ?_)
      refine tq_iconst (v := (1 : Int32)) dMg_lowestLost_30 tni_1 ?_
      refine tq_icmpne (tgt := 53) dMg_lowestLost_31 (by decide) (fun c17 => ?_) (fun c17 => ?_)
      · have hw := hw.1 c17
        refine tq_inc (k := (1 : Int32)) (ls' := [some (vR (some o)), some (vI (x1 + (1 : Int32))), some (vI v10)]) dMg_lowestLost_53 rfl tni_1 (Nat.le_of_ble_eq_true rfl) rfl ?_
        refine tq_goto (tgt := 2) dMg_lowestLost_56 (by decide) ?_
        refine tpR.fo (ls' := [some (vR (some o)), some (vI (x1 + (1 : Int32))), none]) ?_ (And.intro rfl (And.intro rfl trivial))
        exact ih _ _ _ hw
      · have hw := hw.2 c17
        refine tq_iload_n dMg_lowestLost_34 rfl rfl ?_
        refine tq_iconst (v := (-1 : Int32)) dMg_lowestLost_35 tni_m1 ?_
        refine tq_icmpeq (tgt := 53) dMg_lowestLost_36 (by decide) (fun c18 => ?_) (fun c18 => ?_)
        · have hw := hw.1 c18
          refine tq_inc (k := (1 : Int32)) (ls' := [some (vR (some o)), some (vI (x1 + (1 : Int32))), some (vI v10)]) dMg_lowestLost_53 rfl tni_1 (Nat.le_of_ble_eq_true rfl) rfl ?_
          refine tq_goto (tgt := 2) dMg_lowestLost_56 (by decide) ?_
          refine tpR.fo (ls' := [some (vR (some o)), some (vI (x1 + (1 : Int32))), none]) ?_ (And.intro rfl (And.intro rfl trivial))
          exact ih _ _ _ hw
        · have hw := hw.2 c18
          refine tq_aload_n dMg_lowestLost_39 rfl rfl ?_
          obtain ⟨f19, hw⟩ := hw
          refine te_getr dMg_lowestLost_40 fMg_20 rfl rfl f19 ?_
          refine tq_iload_n dMg_lowestLost_43 rfl rfl ?_
          obtain ⟨a20, e21, f22, hw⟩ := hw
          refine te_callV mv_Ro_at (ci := 7) (dc := 0) (as := [vI v10]) (rest := []) kMg_94 rfl (Nat.le_of_ble_eq_true rfl) (Nat.le_of_ble_eq_true rfl) rfl rfl e21 f22 (Nat.le_of_ble_eq_true rfl) dMg_lowestLost_44 (s_Ro_at hw) (fun _ _ hx => False.elim hx) (tk_i fun v24 h23 hw => ?_)
          refine tq_iconst (v := (1 : Int32)) dMg_lowestLost_47 tni_1 ?_
          refine tq_icmpeq (tgt := 53) dMg_lowestLost_48 (by decide) (fun c25 => ?_) (fun c25 => ?_)
          · have hw := hw.1 c25
            refine tq_inc (k := (1 : Int32)) (ls' := [some (vR (some o)), some (vI (x1 + (1 : Int32))), some (vI v10)]) dMg_lowestLost_53 rfl tni_1 (Nat.le_of_ble_eq_true rfl) rfl ?_
            refine tq_goto (tgt := 2) dMg_lowestLost_56 (by decide) ?_
            refine tpR.fo (ls' := [some (vR (some o)), some (vI (x1 + (1 : Int32))), none]) ?_ (And.intro rfl (And.intro rfl trivial))
            exact ih _ _ _ hw
          · have hw := hw.2 c25
            refine tq_iload_n dMg_lowestLost_51 rfl rfl ?_
            exact tq_iret rfl rfl dMg_lowestLost_52 hw
theorem s_Mg_lowestLost {o : Nat} {h : tpH} {R : Int32 → tpH → Prop} (hw : w_Mg_lowestLost o h R) : tpC Mg_lowestLost 1 [vR (some o)] h (tpOi R (fun _ _ => False)) := by
  refine tpC_of mv_Mg_lowestLost.2.2.2.1 rfl rfl (Nat.le_of_ble_eq_true rfl) ?_
  show tpR Mg_lowestLost 1 h _ _ 0 [some (vR (some o)), none, none] [] h
  unfold w_Mg_lowestLost at hw
  refine tq_iconst (v := (0 : Int32)) dMg_lowestLost_0 tni_0 ?_
  refine tq_istore_n (ls' := [some (vR (some o)), some (vI (0 : Int32)), none]) dMg_lowestLost_1 rfl (Nat.le_of_ble_eq_true rfl) rfl ?_
  refine tpR.fo (ls' := [some (vR (some o)), some (vI (0 : Int32)), none]) ?_ (And.intro rfl (And.intro rfl trivial))
  obtain ⟨n, hw⟩ := hw
  exact s_Mg_lowestLost_2 n _ _ _ hw
/-! T$Merger.isInRing -/
theorem dMg_isInRing_0 : decode (mB Mg_isInRing) 0 = .ok (.aload_n 0, 1) := by decide +kernel
theorem dMg_isInRing_1 : decode (mB Mg_isInRing) 1 = .ok (.getfield 26, 3) := by decide +kernel
theorem dMg_isInRing_4 : decode (mB Mg_isInRing) 4 = .ok (.iload_n 1, 1) := by decide +kernel
theorem dMg_isInRing_5 : decode (mB Mg_isInRing) 5 = .ok (.invokevirtual 94, 3) := by decide +kernel
theorem dMg_isInRing_8 : decode (mB Mg_isInRing) 8 = .ok (.istore_n 2, 1) := by decide +kernel
theorem dMg_isInRing_9 : decode (mB Mg_isInRing) 9 = .ok (.iconst 0, 1) := by decide +kernel
theorem dMg_isInRing_10 : decode (mB Mg_isInRing) 10 = .ok (.istore_n 3, 1) := by decide +kernel
theorem dMg_isInRing_11 : decode (mB Mg_isInRing) 11 = .ok (.iload_n 3, 1) := by decide +kernel
theorem dMg_isInRing_12 : decode (mB Mg_isInRing) 12 = .ok (.sipush 300, 3) := by decide +kernel
theorem dMg_isInRing_15 : decode (mB Mg_isInRing) 15 = .ok (.if_icmp .ge 30, 3) := by decide +kernel
theorem dMg_isInRing_18 : decode (mB Mg_isInRing) 18 = .ok (.iload_n 2, 1) := by decide +kernel
theorem dMg_isInRing_19 : decode (mB Mg_isInRing) 19 = .ok (.iconst (-1), 1) := by decide +kernel
theorem dMg_isInRing_20 : decode (mB Mg_isInRing) 20 = .ok (.if_icmp .eq 25, 3) := by decide +kernel
theorem dMg_isInRing_23 : decode (mB Mg_isInRing) 23 = .ok (.iload_n 2, 1) := by decide +kernel
theorem dMg_isInRing_24 : decode (mB Mg_isInRing) 24 = .ok (.iload_n 1, 1) := by decide +kernel
theorem dMg_isInRing_25 : decode (mB Mg_isInRing) 25 = .ok (.if_icmp .ne 5, 3) := by decide +kernel
theorem dMg_isInRing_28 : decode (mB Mg_isInRing) 28 = .ok (.iconst 1, 1) := by decide +kernel
theorem dMg_isInRing_29 : decode (mB Mg_isInRing) 29 = .ok (.ireturn, 1) := by decide +kernel
theorem dMg_isInRing_30 : decode (mB Mg_isInRing) 30 = .ok (.aload_n 0, 1) := by decide +kernel
theorem dMg_isInRing_31 : decode (mB Mg_isInRing) 31 = .ok (.getfield 26, 3) := by decide +kernel
theorem dMg_isInRing_34 : decode (mB Mg_isInRing) 34 = .ok (.iload_n 2, 1) := by decide +kernel
theorem dMg_isInRing_35 : decode (mB Mg_isInRing) 35 = .ok (.invokevirtual 94, 3) := by decide +kernel
theorem dMg_isInRing_38 : decode (mB Mg_isInRing) 38 = .ok (.istore_n 2, 1) := by decide +kernel
theorem dMg_isInRing_39 : decode (mB Mg_isInRing) 39 = .ok (.iinc 3 1, 3) := by decide +kernel
theorem dMg_isInRing_42 : decode (mB Mg_isInRing) 42 = .ok (.goto (-31), 3) := by decide +kernel
theorem dMg_isInRing_45 : decode (mB Mg_isInRing) 45 = .ok (.iconst 0, 1) := by decide +kernel
theorem dMg_isInRing_46 : decode (mB Mg_isInRing) 46 = .ok (.ireturn, 1) := by decide +kernel
def b_Mg_isInRing_11 (R : Int32 → tpH → Prop) (Y : Nat → Int32 → Int32 → Int32 → tpH → Prop) (o : Nat) (x1 : Int32) (x2 : Int32) (x3 : Int32) (h : tpH) : Prop :=
  ((300 : Int32) ≤ x3 → (R (0 : Int32) h)) ∧ (¬ (300 : Int32) ≤ x3 → ((x2 = (-1 : Int32) → (R (0 : Int32) h)) ∧ (¬ x2 = (-1 : Int32) → ((¬ x2 = x1 → (hT h o = 7 ∧ (∃ a5, (hR h o 5) = some a5 ∧ hT h a5 = 8 ∧ (w_Ro_at a5 x2 h (fun v9 h8 => Y o x1 v9 (x3 + (1 : Int32)) h8))))) ∧ (x2 = x1 → (R (1 : Int32) h))))))
def w_Mg_isInRing_11 (R : Int32 → tpH → Prop) : Nat → Nat → Int32 → Int32 → Int32 → tpH → Prop
  | 0 => fun _ _ _ _ _ => False
  | n + 1 => b_Mg_isInRing_11 R (w_Mg_isInRing_11 R n)
def w_Mg_isInRing (o : Nat) (x1 : Int32) (h : tpH) (R : Int32 → tpH → Prop) : Prop :=
  hT h o = 7 ∧ (∃ a2, (hR h o 5) = some a2 ∧ hT h a2 = 8 ∧ (w_Ro_at a2 x1 h (fun v6 h5 => ∃ n, w_Mg_isInRing_11 R n o x1 v6 (0 : Int32) h5)))
theorem s_Mg_isInRing_11 {h0 : tpH} {av : List tpV} {R : Int32 → tpH → Prop} : ∀ (n : Nat) (o : Nat) (x1 : Int32) (x2 : Int32) (x3 : Int32) (h : tpH), w_Mg_isInRing_11 R n o x1 x2 x3 h → tpR Mg_isInRing 1 h0 av (tpOi R (fun _ _ => False)) 11 [some (vR (some o)), some (vI x1), some (vI x2), some (vI x3)] [] h := by
  intro n
  induction n with
  | zero => intro o x1 x2 x3 h hw; exact False.elim hw
  | succ n ih =>
    intro o x1 x2 x3 h hw
    change b_Mg_isInRing_11 R (w_Mg_isInRing_11 R n) o x1 x2 x3 h at hw
    unfold b_Mg_isInRing_11 at hw
    refine tq_iload_n dMg_isInRing_11 rfl rfl ?_
    refine tq_sipush (v := (300 : Int32)) dMg_isInRing_12 tns_300 ?_
    refine tq_icmpge (tgt := 45) dMg_isInRing_15 (by decide) (fun c1 => ?_) (fun c1 => ?_)
    · have hw := hw.1 c1
      refine tq_iconst (v := (0 : Int32)) dMg_isInRing_45 tni_0 ?_
      exact tq_iret rfl (by decide) dMg_isInRing_46 hw
    · have hw := hw.2 c1
      refine tq_iload_n dMg_isInRing_18 rfl rfl ?_
      refine tq_iconst (v := (-1 : Int32)) dMg_isInRing_19 tni_m1 ?_
      refine tq_icmpeq (tgt := 45) dMg_isInRing_20 (by decide) (fun c2 => ?_) (fun c2 => ?_)
      · have hw := hw.1 c2
        refine tq_iconst (v := (0 : Int32)) dMg_isInRing_45 tni_0 ?_
        exact tq_iret rfl (by decide) dMg_isInRing_46 hw
      · have hw := hw.2 c2
        refine tq_iload_n dMg_isInRing_23 rfl rfl ?_
        refine tq_iload_n dMg_isInRing_24 rfl rfl ?_
        refine tq_icmpne (tgt := 30) dMg_isInRing_25 (by decide) (fun c3 => ?_) (fun c3 => ?_)
        · have hw := hw.1 c3
          refine tq_aload_n dMg_isInRing_30 rfl rfl ?_
          obtain ⟨f4, hw⟩ := hw
          refine te_getr dMg_isInRing_31 fMg_26 rfl rfl f4 ?_
          refine tq_iload_n dMg_isInRing_34 rfl rfl ?_
          obtain ⟨a5, e6, f7, hw⟩ := hw
          refine te_callV mv_Ro_at (ci := 7) (dc := 0) (as := [vI x2]) (rest := []) kMg_94 rfl (Nat.le_of_ble_eq_true rfl) (Nat.le_of_ble_eq_true rfl) rfl rfl e6 f7 (Nat.le_of_ble_eq_true rfl) dMg_isInRing_35 (s_Ro_at hw) (fun _ _ hx => False.elim hx) (tk_i fun v9 h8 hw => ?_)
          refine tq_istore_n (ls' := [some (vR (some o)), some (vI x1), some (vI v9), some (vI x3)]) dMg_isInRing_38 rfl (Nat.le_of_ble_eq_true rfl) rfl ?_
          refine tq_inc (k := (1 : Int32)) (ls' := [some (vR (some o)), some (vI x1), some (vI v9), some (vI (x3 + (1 : Int32)))]) dMg_isInRing_39 rfl tni_1 (Nat.le_of_ble_eq_true rfl) rfl ?_
          refine tq_goto (tgt := 11) dMg_isInRing_42 (by decide) ?_
          refine tpR.fo (ls' := [some (vR (some o)), some (vI x1), some (vI v9), some (vI (x3 + (1 : Int32)))]) ?_ (And.intro rfl (And.intro rfl (And.intro rfl (And.intro rfl trivial))))
          exact ih _ _ _ _ _ hw
        · have hw := hw.2 c3
          refine tq_iconst (v := (1 : Int32)) dMg_isInRing_28 tni_1 ?_
          exact tq_iret rfl (by decide) dMg_isInRing_29 hw
theorem s_Mg_isInRing {o : Nat} {x1 : Int32} {h : tpH} {R : Int32 → tpH → Prop} (hw : w_Mg_isInRing o x1 h R) : tpC Mg_isInRing 1 [vR (some o), vI x1] h (tpOi R (fun _ _ => False)) := by
  refine tpC_of mv_Mg_isInRing.2.2.2.1 rfl rfl (Nat.le_of_ble_eq_true rfl) ?_
  show tpR Mg_isInRing 1 h _ _ 0 [some (vR (some o)), some (vI x1), none, none] [] h
  unfold w_Mg_isInRing at hw
  refine tq_aload_n dMg_isInRing_0 rfl rfl ?_
  obtain ⟨f1, hw⟩ := hw
  refine te_getr dMg_isInRing_1 fMg_26 rfl rfl f1 ?_
  refine tq_iload_n dMg_isInRing_4 rfl rfl ?_
  obtain ⟨a2, e3, f4, hw⟩ := hw
  refine te_callV mv_Ro_at (ci := 7) (dc := 0) (as := [vI x1]) (rest := []) kMg_94 rfl (Nat.le_of_ble_eq_true rfl) (Nat.le_of_ble_eq_true rfl) rfl rfl e3 f4 (Nat.le_of_ble_eq_true rfl) dMg_isInRing_5 (s_Ro_at hw) (fun _ _ hx => False.elim hx) (tk_i fun v6 h5 hw => ?_)
  refine tq_istore_n (ls' := [some (vR (some o)), some (vI x1), some (vI v6), none]) dMg_isInRing_8 rfl (Nat.le_of_ble_eq_true rfl) rfl ?_
  refine tq_iconst (v := (0 : Int32)) dMg_isInRing_9 tni_0 ?_
  refine tq_istore_n (ls' := [some (vR (some o)), some (vI x1), some (vI v6), some (vI (0 : Int32))]) dMg_isInRing_10 rfl (Nat.le_of_ble_eq_true rfl) rfl ?_
  refine tpR.fo (ls' := [some (vR (some o)), some (vI x1), some (vI v6), some (vI (0 : Int32))]) ?_ (And.intro rfl (And.intro rfl (And.intro rfl (And.intro rfl trivial))))
  obtain ⟨n, hw⟩ := hw
  exact s_Mg_isInRing_11 n _ _ _ _ _ hw
/-! T$Merger.lowestInRing -/
theorem dMg_lowestInRing_0 : decode (mB Mg_lowestInRing) 0 = .ok (.iconst 0, 1) := by decide +kernel
theorem dMg_lowestInRing_1 : decode (mB Mg_lowestInRing) 1 = .ok (.istore_n 1, 1) := by decide +kernel
theorem dMg_lowestInRing_2 : decode (mB Mg_lowestInRing) 2 = .ok (.iload_n 1, 1) := by decide +kernel
theorem dMg_lowestInRing_3 : decode (mB Mg_lowestInRing) 3 = .ok (.aload_n 0, 1) := by decide +kernel
theorem dMg_lowestInRing_4 : decode (mB Mg_lowestInRing) 4 = .ok (.getfield 47, 3) := by decide +kernel
theorem dMg_lowestInRing_7 : decode (mB Mg_lowestInRing) 7 = .ok (.getfield 58, 3) := by decide +kernel
theorem dMg_lowestInRing_10 : decode (mB Mg_lowestInRing) 10 = .ok (.if_icmp .ge 31, 3) := by decide +kernel
theorem dMg_lowestInRing_13 : decode (mB Mg_lowestInRing) 13 = .ok (.aload_n 0, 1) := by decide +kernel
theorem dMg_lowestInRing_14 : decode (mB Mg_lowestInRing) 14 = .ok (.getfield 20, 3) := by decide +kernel
theorem dMg_lowestInRing_17 : decode (mB Mg_lowestInRing) 17 = .ok (.iload_n 1, 1) := by decide +kernel
theorem dMg_lowestInRing_18 : decode (mB Mg_lowestInRing) 18 = .ok (.invokevirtual 94, 3) := by decide +kernel
theorem dMg_lowestInRing_21 : decode (mB Mg_lowestInRing) 21 = .ok (.iconst 1, 1) := by decide +kernel
theorem dMg_lowestInRing_22 : decode (mB Mg_lowestInRing) 22 = .ok (.if_icmp .ne 13, 3) := by decide +kernel
theorem dMg_lowestInRing_25 : decode (mB Mg_lowestInRing) 25 = .ok (.aload_n 0, 1) := by decide +kernel
theorem dMg_lowestInRing_26 : decode (mB Mg_lowestInRing) 26 = .ok (.iload_n 1, 1) := by decide +kernel
theorem dMg_lowestInRing_27 : decode (mB Mg_lowestInRing) 27 = .ok (.invokevirtual 167, 3) := by decide +kernel
theorem dMg_lowestInRing_30 : decode (mB Mg_lowestInRing) 30 = .ok (.ifCond .eq 5, 3) := by decide +kernel
theorem dMg_lowestInRing_33 : decode (mB Mg_lowestInRing) 33 = .ok (.iload_n 1, 1) := by decide +kernel
theorem dMg_lowestInRing_34 : decode (mB Mg_lowestInRing) 34 = .ok (.ireturn, 1) := by decide +kernel
theorem dMg_lowestInRing_35 : decode (mB Mg_lowestInRing) 35 = .ok (.iinc 1 1, 3) := by decide +kernel
theorem dMg_lowestInRing_38 : decode (mB Mg_lowestInRing) 38 = .ok (.goto (-36), 3) := by decide +kernel
theorem dMg_lowestInRing_41 : decode (mB Mg_lowestInRing) 41 = .ok (.iconst (-1), 1) := by decide +kernel
theorem dMg_lowestInRing_42 : decode (mB Mg_lowestInRing) 42 = .ok (.ireturn, 1) := by decide +kernel
def b_Mg_lowestInRing_2 (R : Int32 → tpH → Prop) (Y : Nat → Int32 → tpH → Prop) (o : Nat) (x1 : Int32) (h : tpH) : Prop :=
  hT h o = 7 ∧ (∃ a2, (hR h o 0) = some a2 ∧ hT h a2 = 5 ∧ (((hI h a2 2) ≤ x1 → (R (-1 : Int32) h)) ∧ (¬ (hI h a2 2) ≤ x1 → (∃ a6, (hR h o 3) = some a6 ∧ hT h a6 = 8 ∧ (w_Ro_at a6 x1 h (fun v10 h9 => (¬ v10 = (1 : Int32) → (Y o (x1 + (1 : Int32)) h9)) ∧ (v10 = (1 : Int32) → (hT h9 o = 7 ∧ (w_Mg_isInRing o x1 h9 (fun v14 h13 => (v14 = 0 → (Y o (x1 + (1 : Int32)) h13)) ∧ (¬ v14 = 0 → (R x1 h13))))))))))))
def w_Mg_lowestInRing_2 (R : Int32 → tpH → Prop) : Nat → Nat → Int32 → tpH → Prop
  | 0 => fun _ _ _ => False
  | n + 1 => b_Mg_lowestInRing_2 R (w_Mg_lowestInRing_2 R n)
def w_Mg_lowestInRing (o : Nat) (h : tpH) (R : Int32 → tpH → Prop) : Prop :=
  ∃ n, w_Mg_lowestInRing_2 R n o (0 : Int32) h
theorem s_Mg_lowestInRing_2 {h0 : tpH} {av : List tpV} {R : Int32 → tpH → Prop} : ∀ (n : Nat) (o : Nat) (x1 : Int32) (h : tpH), w_Mg_lowestInRing_2 R n o x1 h → tpR Mg_lowestInRing 2 h0 av (tpOi R (fun _ _ => False)) 2 [some (vR (some o)), some (vI x1)] [] h := by
  intro n
  induction n with
  | zero => intro o x1 h hw; exact False.elim hw
  | succ n ih =>
    intro o x1 h hw
    change b_Mg_lowestInRing_2 R (w_Mg_lowestInRing_2 R n) o x1 h at hw
    unfold b_Mg_lowestInRing_2 at hw
    refine tq_iload_n dMg_lowestInRing_2 rfl rfl ?_
    refine tq_aload_n dMg_lowestInRing_3 rfl rfl ?_
    obtain ⟨f1, hw⟩ := hw
    refine te_getr dMg_lowestInRing_4 fMg_47 rfl rfl f1 ?_
    obtain ⟨a2, e3, f4, hw⟩ := hw
    refine te_geti dMg_lowestInRing_7 fMg_58 rfl e3 f4 ?_
    refine tq_icmpge (tgt := 41) dMg_lowestInRing_10 (by decide) (fun c5 => ?_) (fun c5 => ?_)
    · have hw := hw.1 c5
      refine tq_iconst (v := (-1 : Int32)) dMg_lowestInRing_41 tni_m1 ?_
      exact tq_iret rfl rfl dMg_lowestInRing_42 hw
    · have hw := hw.2 c5
      refine tq_aload_n dMg_lowestInRing_13 rfl rfl ?_
      refine te_getr dMg_lowestInRing_14 fMg_20 rfl rfl f1 ?_
      refine tq_iload_n dMg_lowestInRing_17 rfl rfl ?_
      obtain ⟨a6, e7, f8, hw⟩ := hw
      refine te_callV mv_Ro_at (ci := 7) (dc := 0) (as := [vI x1]) (rest := []) kMg_94 rfl (Nat.le_of_ble_eq_true rfl) (Nat.le_of_ble_eq_true rfl) rfl rfl e7 f8 (Nat.le_of_ble_eq_true rfl) dMg_lowestInRing_18 (s_Ro_at hw) (fun _ _ hx => False.elim hx) (tk_i fun v10 h9 hw => ?_)
      refine tq_iconst (v := (1 : Int32)) dMg_lowestInRing_21 tni_1 ?_
      refine tq_icmpne (tgt := 35) dMg_lowestInRing_22 (by decide) (fun c11 => ?_) (fun c11 => ?_)
      · have hw := hw.1 c11
        refine tq_inc (k := (1 : Int32)) (ls' := [some (vR (some o)), some (vI (x1 + (1 : Int32)))]) dMg_lowestInRing_35 rfl tni_1 (Nat.le_of_ble_eq_true rfl) rfl ?_
        refine tq_goto (tgt := 2) dMg_lowestInRing_38 (by decide) ?_
        refine tpR.fo (ls' := [some (vR (some o)), some (vI (x1 + (1 : Int32)))]) ?_ (And.intro rfl (And.intro rfl trivial))
        exact ih _ _ _ hw
      · have hw := hw.2 c11
        refine tq_aload_n dMg_lowestInRing_25 rfl rfl ?_
        refine tq_iload_n dMg_lowestInRing_26 rfl rfl ?_
        obtain ⟨f12, hw⟩ := hw
        refine te_callV mv_Mg_isInRing (ci := 6) (dc := 1) (as := [vI x1]) (rest := []) kMg_167 rfl (Nat.le_of_ble_eq_true rfl) (Nat.le_of_ble_eq_true rfl) rfl rfl rfl f12 (Nat.le_of_ble_eq_true rfl) dMg_lowestInRing_27 (s_Mg_isInRing hw) (fun _ _ hx => False.elim hx) (tk_i fun v14 h13 hw => ?_)
        refine tq_ifeq (tgt := 35) dMg_lowestInRing_30 (by decide) (fun c15 => ?_) (fun c15 => ?_)
        · have hw := hw.1 c15
          refine tq_inc (k := (1 : Int32)) (ls' := [some (vR (some o)), some (vI (x1 + (1 : Int32)))]) dMg_lowestInRing_35 rfl tni_1 (Nat.le_of_ble_eq_true rfl) rfl ?_
          refine tq_goto (tgt := 2) dMg_lowestInRing_38 (by decide) ?_
          refine tpR.fo (ls' := [some (vR (some o)), some (vI (x1 + (1 : Int32)))]) ?_ (And.intro rfl (And.intro rfl trivial))
          exact ih _ _ _ hw
        · have hw := hw.2 c15
          refine tq_iload_n dMg_lowestInRing_33 rfl rfl ?_
          exact tq_iret rfl rfl dMg_lowestInRing_34 hw
theorem s_Mg_lowestInRing {o : Nat} {h : tpH} {R : Int32 → tpH → Prop} (hw : w_Mg_lowestInRing o h R) : tpC Mg_lowestInRing 2 [vR (some o)] h (tpOi R (fun _ _ => False)) := by
  refine tpC_of mv_Mg_lowestInRing.2.2.2.1 rfl rfl (Nat.le_of_ble_eq_true rfl) ?_
  show tpR Mg_lowestInRing 2 h _ _ 0 [some (vR (some o)), none] [] h
  unfold w_Mg_lowestInRing at hw
  refine tq_iconst (v := (0 : Int32)) dMg_lowestInRing_0 tni_0 ?_
  refine tq_istore_n (ls' := [some (vR (some o)), some (vI (0 : Int32))]) dMg_lowestInRing_1 rfl (Nat.le_of_ble_eq_true rfl) rfl ?_
  refine tpR.fo (ls' := [some (vR (some o)), some (vI (0 : Int32))]) ?_ (And.intro rfl (And.intro rfl trivial))
  obtain ⟨n, hw⟩ := hw
  exact s_Mg_lowestInRing_2 n _ _ _ hw
/-! T$Merger.breakRing -/
theorem dMg_breakRing_0 : decode (mB Mg_breakRing) 0 = .ok (.aload_n 0, 1) := by decide +kernel
theorem dMg_breakRing_1 : decode (mB Mg_breakRing) 1 = .ok (.getfield 29, 3) := by decide +kernel
theorem dMg_breakRing_4 : decode (mB Mg_breakRing) 4 = .ok (.sipush 300, 3) := by decide +kernel
theorem dMg_breakRing_7 : decode (mB Mg_breakRing) 7 = .ok (.iconst 0, 1) := by decide +kernel
theorem dMg_breakRing_8 : decode (mB Mg_breakRing) 8 = .ok (.invokevirtual 170, 3) := by decide +kernel
theorem dMg_breakRing_11 : decode (mB Mg_breakRing) 11 = .ok (.iload_n 2, 1) := by decide +kernel
theorem dMg_breakRing_12 : decode (mB Mg_breakRing) 12 = .ok (.istore_n 3, 1) := by decide +kernel
theorem dMg_breakRing_13 : decode (mB Mg_breakRing) 13 = .ok (.iconst 0, 1) := by decide +kernel
theorem dMg_breakRing_14 : decode (mB Mg_breakRing) 14 = .ok (.istore 4, 2) := by decide +kernel
theorem dMg_breakRing_16 : decode (mB Mg_breakRing) 16 = .ok (.iload 4, 2) := by decide +kernel
theorem dMg_breakRing_18 : decode (mB Mg_breakRing) 18 = .ok (.sipush 300, 3) := by decide +kernel
theorem dMg_breakRing_21 : decode (mB Mg_breakRing) 21 = .ok (.if_icmp .ge 38, 3) := by decide +kernel
theorem dMg_breakRing_24 : decode (mB Mg_breakRing) 24 = .ok (.aload_n 0, 1) := by decide +kernel
theorem dMg_breakRing_25 : decode (mB Mg_breakRing) 25 = .ok (.getfield 29, 3) := by decide +kernel
theorem dMg_breakRing_28 : decode (mB Mg_breakRing) 28 = .ok (.iload_n 3, 1) := by decide +kernel
theorem dMg_breakRing_29 : decode (mB Mg_breakRing) 29 = .ok (.invokevirtual 94, 3) := by decide +kernel
theorem dMg_breakRing_32 : decode (mB Mg_breakRing) 32 = .ok (.ifCond .ne 27, 3) := by decide +kernel
theorem dMg_breakRing_35 : decode (mB Mg_breakRing) 35 = .ok (.aload_n 0, 1) := by decide +kernel
theorem dMg_breakRing_36 : decode (mB Mg_breakRing) 36 = .ok (.getfield 29, 3) := by decide +kernel
theorem dMg_breakRing_39 : decode (mB Mg_breakRing) 39 = .ok (.iload_n 3, 1) := by decide +kernel
theorem dMg_breakRing_40 : decode (mB Mg_breakRing) 40 = .ok (.iconst 1, 1) := by decide +kernel
theorem dMg_breakRing_41 : decode (mB Mg_breakRing) 41 = .ok (.invokevirtual 129, 3) := by decide +kernel
theorem dMg_breakRing_44 : decode (mB Mg_breakRing) 44 = .ok (.aload_n 0, 1) := by decide +kernel
theorem dMg_breakRing_45 : decode (mB Mg_breakRing) 45 = .ok (.getfield 26, 3) := by decide +kernel
theorem dMg_breakRing_48 : decode (mB Mg_breakRing) 48 = .ok (.iload_n 3, 1) := by decide +kernel
theorem dMg_breakRing_49 : decode (mB Mg_breakRing) 49 = .ok (.invokevirtual 94, 3) := by decide +kernel
theorem dMg_breakRing_52 : decode (mB Mg_breakRing) 52 = .ok (.istore_n 3, 1) := by decide +kernel
theorem dMg_breakRing_53 : decode (mB Mg_breakRing) 53 = .ok (.iinc 4 1, 3) := by decide +kernel
theorem dMg_breakRing_56 : decode (mB Mg_breakRing) 56 = .ok (.goto (-40), 3) := by decide +kernel
theorem dMg_breakRing_59 : decode (mB Mg_breakRing) 59 = .ok (.iconst 0, 1) := by decide +kernel
theorem dMg_breakRing_60 : decode (mB Mg_breakRing) 60 = .ok (.istore 4, 2) := by decide +kernel
theorem dMg_breakRing_62 : decode (mB Mg_breakRing) 62 = .ok (.iload 4, 2) := by decide +kernel
theorem dMg_breakRing_64 : decode (mB Mg_breakRing) 64 = .ok (.aload_n 0, 1) := by decide +kernel
theorem dMg_breakRing_65 : decode (mB Mg_breakRing) 65 = .ok (.getfield 47, 3) := by decide +kernel
theorem dMg_breakRing_68 : decode (mB Mg_breakRing) 68 = .ok (.getfield 58, 3) := by decide +kernel
theorem dMg_breakRing_71 : decode (mB Mg_breakRing) 71 = .ok (.if_icmp .ge 53, 3) := by decide +kernel
theorem dMg_breakRing_74 : decode (mB Mg_breakRing) 74 = .ok (.aload_n 0, 1) := by decide +kernel
theorem dMg_breakRing_75 : decode (mB Mg_breakRing) 75 = .ok (.getfield 29, 3) := by decide +kernel
theorem dMg_breakRing_78 : decode (mB Mg_breakRing) 78 = .ok (.iload 4, 2) := by decide +kernel
theorem dMg_breakRing_80 : decode (mB Mg_breakRing) 80 = .ok (.invokevirtual 94, 3) := by decide +kernel
theorem dMg_breakRing_83 : decode (mB Mg_breakRing) 83 = .ok (.iconst 1, 1) := by decide +kernel
theorem dMg_breakRing_84 : decode (mB Mg_breakRing) 84 = .ok (.if_icmp .ne 34, 3) := by decide +kernel
theorem dMg_breakRing_87 : decode (mB Mg_breakRing) 87 = .ok (.aload_n 1, 1) := by decide +kernel
theorem dMg_breakRing_88 : decode (mB Mg_breakRing) 88 = .ok (.iload 4, 2) := by decide +kernel
theorem dMg_breakRing_90 : decode (mB Mg_breakRing) 90 = .ok (.invokevirtual 107, 3) := by decide +kernel
theorem dMg_breakRing_93 : decode (mB Mg_breakRing) 93 = .ok (.ifCond .eq 25, 3) := by decide +kernel
theorem dMg_breakRing_96 : decode (mB Mg_breakRing) 96 = .ok (.aload_n 0, 1) := by decide +kernel
theorem dMg_breakRing_97 : decode (mB Mg_breakRing) 97 = .ok (.getfield 26, 3) := by decide +kernel
theorem dMg_breakRing_100 : decode (mB Mg_breakRing) 100 = .ok (.iload 4, 2) := by decide +kernel
theorem dMg_breakRing_102 : decode (mB Mg_breakRing) 102 = .ok (.aload_n 1, 1) := by decide +kernel
theorem dMg_breakRing_103 : decode (mB Mg_breakRing) 103 = .ok (.iload 4, 2) := by decide +kernel
theorem dMg_breakRing_105 : decode (mB Mg_breakRing) 105 = .ok (.invokevirtual 118, 3) := by decide +kernel
theorem dMg_breakRing_108 : decode (mB Mg_breakRing) 108 = .ok (.invokevirtual 129, 3) := by decide +kernel
theorem dMg_breakRing_111 : decode (mB Mg_breakRing) 111 = .ok (.aload_n 0, 1) := by decide +kernel
theorem dMg_breakRing_112 : decode (mB Mg_breakRing) 112 = .ok (.iconst 4, 1) := by decide +kernel
theorem dMg_breakRing_113 : decode (mB Mg_breakRing) 113 = .ok (.iload 4, 2) := by decide +kernel
theorem dMg_breakRing_115 : decode (mB Mg_breakRing) 115 = .ok (.invokevirtual 132, 3) := by decide +kernel
theorem dMg_breakRing_118 : decode (mB Mg_breakRing) 118 = .ok (.iinc 4 1, 3) := by decide +kernel
theorem dMg_breakRing_121 : decode (mB Mg_breakRing) 121 = .ok (.goto (-59), 3) := by decide +kernel
theorem dMg_breakRing_124 : decode (mB Mg_breakRing) 124 = .ok (.return_, 1) := by decide +kernel
def b_Mg_breakRing_62 (R : tpH → Prop) (Y : Nat → (Option Nat) → Int32 → tpH → Prop) (o : Nat) (x1 : Option Nat) (x4 : Int32) (h : tpH) : Prop :=
  hT h o = 7 ∧ (∃ a2, (hR h o 0) = some a2 ∧ hT h a2 = 5 ∧ (((hI h a2 2) ≤ x4 → (R h)) ∧ (¬ (hI h a2 2) ≤ x4 → (∃ a6, (hR h o 6) = some a6 ∧ hT h a6 = 8 ∧ (w_Ro_at a6 x4 h (fun v10 h9 => (¬ v10 = (1 : Int32) → (Y o x1 (x4 + (1 : Int32)) h9)) ∧ (v10 = (1 : Int32) → (∃ a12, x1 = some a12 ∧ hT h9 a12 = 12 ∧ (w_Tr_holds a12 x4 h9 (fun v16 h15 => (v16 = 0 → (Y o x1 (x4 + (1 : Int32)) h15)) ∧ (¬ v16 = 0 → (hT h15 o = 7 ∧ (hT h15 a12 = 12 ∧ (w_Tr_parentOfMark a12 x4 h15 (fun v21 h20 => ∃ a22, (hR h15 o 5) = some a22 ∧ hT h20 a22 = 8 ∧ (w_Ro_put a22 x4 v21 h20 (fun h25 => hT h25 o = 7 ∧ (w_Mg_list o (4 : Int32) x4 h25 (fun h27 => Y o x1 (x4 + (1 : Int32)) h27)))))))))))))))))))
def w_Mg_breakRing_62 (R : tpH → Prop) : Nat → Nat → (Option Nat) → Int32 → tpH → Prop
  | 0 => fun _ _ _ _ => False
  | n + 1 => b_Mg_breakRing_62 R (w_Mg_breakRing_62 R n)
def b_Mg_breakRing_16 (R : tpH → Prop) (Y : Nat → (Option Nat) → Int32 → Int32 → tpH → Prop) (o : Nat) (x1 : Option Nat) (x3 : Int32) (x4 : Int32) (h : tpH) : Prop :=
  ((300 : Int32) ≤ x4 → (∃ n, w_Mg_breakRing_62 R n o x1 (0 : Int32) h)) ∧ (¬ (300 : Int32) ≤ x4 → (hT h o = 7 ∧ (∃ a3, (hR h o 6) = some a3 ∧ hT h a3 = 8 ∧ (w_Ro_at a3 x3 h (fun v7 h6 => (¬ v7 = 0 → (∃ n, w_Mg_breakRing_62 R n o x1 (0 : Int32) h6)) ∧ (v7 = 0 → (hT h6 o = 7 ∧ (∃ a10, (hR h6 o 6) = some a10 ∧ hT h6 a10 = 8 ∧ (w_Ro_put a10 x3 (1 : Int32) h6 (fun h13 => hT h13 o = 7 ∧ (∃ a15, (hR h13 o 5) = some a15 ∧ hT h13 a15 = 8 ∧ (w_Ro_at a15 x3 h13 (fun v19 h18 => Y o x1 v19 (x4 + (1 : Int32)) h18)))))))))))))
def w_Mg_breakRing_16 (R : tpH → Prop) : Nat → Nat → (Option Nat) → Int32 → Int32 → tpH → Prop
  | 0 => fun _ _ _ _ _ => False
  | n + 1 => b_Mg_breakRing_16 R (w_Mg_breakRing_16 R n)
def w_Mg_breakRing (o : Nat) (x1 : Option Nat) (x2 : Int32) (h : tpH) (R : tpH → Prop) : Prop :=
  hT h o = 7 ∧ (∃ a2, (hR h o 6) = some a2 ∧ hT h a2 = 8 ∧ (w_Ro_fill a2 (300 : Int32) (0 : Int32) h (fun h5 => ∃ n, w_Mg_breakRing_16 R n o x1 x2 (0 : Int32) h5)))
theorem s_Mg_breakRing_62 {h0 : tpH} {av : List tpV} {R : tpH → Prop} : ∀ (n : Nat) (o : Nat) (x1 : Option Nat) (x4 : Int32) (h : tpH), w_Mg_breakRing_62 R n o x1 x4 h → tpR Mg_breakRing 6 h0 av (tpOv R (fun _ _ => False)) 62 [some (vR (some o)), some (vR x1), none, none, some (vI x4)] [] h := by
  intro n
  induction n with
  | zero => intro o x1 x4 h hw; exact False.elim hw
  | succ n ih =>
    intro o x1 x4 h hw
    change b_Mg_breakRing_62 R (w_Mg_breakRing_62 R n) o x1 x4 h at hw
    unfold b_Mg_breakRing_62 at hw
    refine tq_iload dMg_breakRing_62 rfl ?_
    refine tq_aload_n dMg_breakRing_64 rfl rfl ?_
    obtain ⟨f1, hw⟩ := hw
    refine te_getr dMg_breakRing_65 fMg_47 rfl rfl f1 ?_
    obtain ⟨a2, e3, f4, hw⟩ := hw
    refine te_geti dMg_breakRing_68 fMg_58 rfl e3 f4 ?_
    refine tq_icmpge (tgt := 124) dMg_breakRing_71 (by decide) (fun c5 => ?_) (fun c5 => ?_)
    · have hw := hw.1 c5
      exact tq_vret rfl dMg_breakRing_124 hw
    · have hw := hw.2 c5
      refine tq_aload_n dMg_breakRing_74 rfl rfl ?_
      refine te_getr dMg_breakRing_75 fMg_29 rfl rfl f1 ?_
      refine tq_iload dMg_breakRing_78 rfl ?_
      obtain ⟨a6, e7, f8, hw⟩ := hw
      refine te_callV mv_Ro_at (ci := 7) (dc := 0) (as := [vI x4]) (rest := []) kMg_94 rfl (Nat.le_of_ble_eq_true rfl) (Nat.le_of_ble_eq_true rfl) rfl rfl e7 f8 (Nat.le_of_ble_eq_true rfl) dMg_breakRing_80 (s_Ro_at hw) (fun _ _ hx => False.elim hx) (tk_i fun v10 h9 hw => ?_)
      refine tq_iconst (v := (1 : Int32)) dMg_breakRing_83 tni_1 ?_
      refine tq_icmpne (tgt := 118) dMg_breakRing_84 (by decide) (fun c11 => ?_) (fun c11 => ?_)
      · have hw := hw.1 c11
        refine tq_inc (k := (1 : Int32)) (ls' := [some (vR (some o)), some (vR x1), none, none, some (vI (x4 + (1 : Int32)))]) dMg_breakRing_118 rfl tni_1 (Nat.le_of_ble_eq_true rfl) rfl ?_
        refine tq_goto (tgt := 62) dMg_breakRing_121 (by decide) ?_
        refine tpR.fo (ls' := [some (vR (some o)), some (vR x1), none, none, some (vI (x4 + (1 : Int32)))]) ?_ (And.intro rfl (And.intro rfl (And.intro rfl trivial)))
        exact ih _ _ _ _ hw
      · have hw := hw.2 c11
        refine tq_aload_n dMg_breakRing_87 rfl rfl ?_
        refine tq_iload dMg_breakRing_88 rfl ?_
        obtain ⟨a12, e13, f14, hw⟩ := hw
        refine te_callV mv_Tr_holds (ci := 11) (dc := 1) (as := [vI x4]) (rest := []) kMg_107 rfl (Nat.le_of_ble_eq_true rfl) (Nat.le_of_ble_eq_true rfl) rfl rfl e13 f14 (Nat.le_of_ble_eq_true rfl) dMg_breakRing_90 (s_Tr_holds hw) (fun _ _ hx => False.elim hx) (tk_i fun v16 h15 hw => ?_)
        refine tq_ifeq (tgt := 118) dMg_breakRing_93 (by decide) (fun c17 => ?_) (fun c17 => ?_)
        · have hw := hw.1 c17
          refine tq_inc (k := (1 : Int32)) (ls' := [some (vR (some o)), some (vR x1), none, none, some (vI (x4 + (1 : Int32)))]) dMg_breakRing_118 rfl tni_1 (Nat.le_of_ble_eq_true rfl) rfl ?_
          refine tq_goto (tgt := 62) dMg_breakRing_121 (by decide) ?_
          refine tpR.fo (ls' := [some (vR (some o)), some (vR x1), none, none, some (vI (x4 + (1 : Int32)))]) ?_ (And.intro rfl (And.intro rfl (And.intro rfl trivial)))
          exact ih _ _ _ _ hw
        · have hw := hw.2 c17
          refine tq_aload_n dMg_breakRing_96 rfl rfl ?_
          obtain ⟨f18, hw⟩ := hw
          refine te_getr dMg_breakRing_97 fMg_26 rfl rfl f18 ?_
          refine tq_iload dMg_breakRing_100 rfl ?_
          refine tq_aload_n dMg_breakRing_102 rfl rfl ?_
          refine tq_iload dMg_breakRing_103 rfl ?_
          obtain ⟨f19, hw⟩ := hw
          refine te_callV mv_Tr_parentOfMark (ci := 11) (dc := 1) (as := [vI x4]) (rest := [vI x4, vR (hR h15 o 5)]) kMg_118 rfl (Nat.le_of_ble_eq_true rfl) (Nat.le_of_ble_eq_true rfl) rfl rfl e13 f19 (Nat.le_of_ble_eq_true rfl) dMg_breakRing_105 (s_Tr_parentOfMark hw) (fun _ _ hx => False.elim hx) (tk_i fun v21 h20 hw => ?_)
          obtain ⟨a22, e23, f24, hw⟩ := hw
          refine te_callV mv_Ro_put (ci := 7) (dc := 0) (as := [vI x4, vI v21]) (rest := []) kMg_129 rfl (Nat.le_of_ble_eq_true rfl) (Nat.le_of_ble_eq_true rfl) rfl rfl e23 f24 (Nat.le_of_ble_eq_true rfl) dMg_breakRing_108 (s_Ro_put hw) (fun _ _ hx => False.elim hx) (tk_v fun h25 hw => ?_)
          refine tq_aload_n dMg_breakRing_111 rfl rfl ?_
          refine tq_iconst (v := (4 : Int32)) dMg_breakRing_112 tni_4 ?_
          refine tq_iload dMg_breakRing_113 rfl ?_
          obtain ⟨f26, hw⟩ := hw
          refine te_callV mv_Mg_list (ci := 6) (dc := 5) (as := [vI (4 : Int32), vI x4]) (rest := []) kMg_132 rfl (Nat.le_of_ble_eq_true rfl) (Nat.le_of_ble_eq_true rfl) rfl rfl rfl f26 (Nat.le_of_ble_eq_true rfl) dMg_breakRing_115 (s_Mg_list hw) (fun _ _ hx => False.elim hx) (tk_v fun h27 hw => ?_)
          refine tq_inc (k := (1 : Int32)) (ls' := [some (vR (some o)), some (vR x1), none, none, some (vI (x4 + (1 : Int32)))]) dMg_breakRing_118 rfl tni_1 (Nat.le_of_ble_eq_true rfl) rfl ?_
          refine tq_goto (tgt := 62) dMg_breakRing_121 (by decide) ?_
          refine tpR.fo (ls' := [some (vR (some o)), some (vR x1), none, none, some (vI (x4 + (1 : Int32)))]) ?_ (And.intro rfl (And.intro rfl (And.intro rfl trivial)))
          exact ih _ _ _ _ hw
theorem s_Mg_breakRing_16 {h0 : tpH} {av : List tpV} {R : tpH → Prop} : ∀ (n : Nat) (o : Nat) (x1 : Option Nat) (x3 : Int32) (x4 : Int32) (h : tpH), w_Mg_breakRing_16 R n o x1 x3 x4 h → tpR Mg_breakRing 6 h0 av (tpOv R (fun _ _ => False)) 16 [some (vR (some o)), some (vR x1), none, some (vI x3), some (vI x4)] [] h := by
  intro n
  induction n with
  | zero => intro o x1 x3 x4 h hw; exact False.elim hw
  | succ n ih =>
    intro o x1 x3 x4 h hw
    change b_Mg_breakRing_16 R (w_Mg_breakRing_16 R n) o x1 x3 x4 h at hw
    unfold b_Mg_breakRing_16 at hw
    refine tq_iload dMg_breakRing_16 rfl ?_
    refine tq_sipush (v := (300 : Int32)) dMg_breakRing_18 tns_300 ?_
    refine tq_icmpge (tgt := 59) dMg_breakRing_21 (by decide) (fun c1 => ?_) (fun c1 => ?_)
    · have hw := hw.1 c1
      refine tq_iconst (v := (0 : Int32)) dMg_breakRing_59 tni_0 ?_
      refine tq_istore (ls' := [some (vR (some o)), some (vR x1), none, some (vI x3), some (vI (0 : Int32))]) dMg_breakRing_60 (Nat.le_of_ble_eq_true rfl) rfl ?_
      refine tpR.fo (ls' := [some (vR (some o)), some (vR x1), none, none, some (vI (0 : Int32))]) ?_ (And.intro rfl (And.intro rfl (And.intro rfl trivial)))
      obtain ⟨n, hw⟩ := hw
      exact s_Mg_breakRing_62 n _ _ _ _ hw
    · have hw := hw.2 c1
      refine tq_aload_n dMg_breakRing_24 rfl rfl ?_
      obtain ⟨f2, hw⟩ := hw
      refine te_getr dMg_breakRing_25 fMg_29 rfl rfl f2 ?_
      refine tq_iload_n dMg_breakRing_28 rfl rfl ?_
      obtain ⟨a3, e4, f5, hw⟩ := hw
      refine te_callV mv_Ro_at (ci := 7) (dc := 0) (as := [vI x3]) (rest := []) kMg_94 rfl (Nat.le_of_ble_eq_true rfl) (Nat.le_of_ble_eq_true rfl) rfl rfl e4 f5 (Nat.le_of_ble_eq_true rfl) dMg_breakRing_29 (s_Ro_at hw) (fun _ _ hx => False.elim hx) (tk_i fun v7 h6 hw => ?_)
      refine tq_ifne (tgt := 59) dMg_breakRing_32 (by decide) (fun c8 => ?_) (fun c8 => ?_)
      · have hw := hw.1 c8
        refine tq_iconst (v := (0 : Int32)) dMg_breakRing_59 tni_0 ?_
        refine tq_istore (ls' := [some (vR (some o)), some (vR x1), none, some (vI x3), some (vI (0 : Int32))]) dMg_breakRing_60 (Nat.le_of_ble_eq_true rfl) rfl ?_
        refine tpR.fo (ls' := [some (vR (some o)), some (vR x1), none, none, some (vI (0 : Int32))]) ?_ (And.intro rfl (And.intro rfl (And.intro rfl trivial)))
        obtain ⟨n, hw⟩ := hw
        exact s_Mg_breakRing_62 n _ _ _ _ hw
      · have hw := hw.2 c8
        refine tq_aload_n dMg_breakRing_35 rfl rfl ?_
        obtain ⟨f9, hw⟩ := hw
        refine te_getr dMg_breakRing_36 fMg_29 rfl rfl f9 ?_
        refine tq_iload_n dMg_breakRing_39 rfl rfl ?_
        refine tq_iconst (v := (1 : Int32)) dMg_breakRing_40 tni_1 ?_
        obtain ⟨a10, e11, f12, hw⟩ := hw
        refine te_callV mv_Ro_put (ci := 7) (dc := 0) (as := [vI x3, vI (1 : Int32)]) (rest := []) kMg_129 rfl (Nat.le_of_ble_eq_true rfl) (Nat.le_of_ble_eq_true rfl) rfl rfl e11 f12 (Nat.le_of_ble_eq_true rfl) dMg_breakRing_41 (s_Ro_put hw) (fun _ _ hx => False.elim hx) (tk_v fun h13 hw => ?_)
        refine tq_aload_n dMg_breakRing_44 rfl rfl ?_
        obtain ⟨f14, hw⟩ := hw
        refine te_getr dMg_breakRing_45 fMg_26 rfl rfl f14 ?_
        refine tq_iload_n dMg_breakRing_48 rfl rfl ?_
        obtain ⟨a15, e16, f17, hw⟩ := hw
        refine te_callV mv_Ro_at (ci := 7) (dc := 0) (as := [vI x3]) (rest := []) kMg_94 rfl (Nat.le_of_ble_eq_true rfl) (Nat.le_of_ble_eq_true rfl) rfl rfl e16 f17 (Nat.le_of_ble_eq_true rfl) dMg_breakRing_49 (s_Ro_at hw) (fun _ _ hx => False.elim hx) (tk_i fun v19 h18 hw => ?_)
        refine tq_istore_n (ls' := [some (vR (some o)), some (vR x1), none, some (vI v19), some (vI x4)]) dMg_breakRing_52 rfl (Nat.le_of_ble_eq_true rfl) rfl ?_
        refine tq_inc (k := (1 : Int32)) (ls' := [some (vR (some o)), some (vR x1), none, some (vI v19), some (vI (x4 + (1 : Int32)))]) dMg_breakRing_53 rfl tni_1 (Nat.le_of_ble_eq_true rfl) rfl ?_
        refine tq_goto (tgt := 16) dMg_breakRing_56 (by decide) ?_
        refine tpR.fo (ls' := [some (vR (some o)), some (vR x1), none, some (vI v19), some (vI (x4 + (1 : Int32)))]) ?_ (And.intro rfl (And.intro rfl (And.intro rfl (And.intro rfl trivial))))
        exact ih _ _ _ _ _ hw
theorem s_Mg_breakRing {o : Nat} {x1 : Option Nat} {x2 : Int32} {h : tpH} {R : tpH → Prop} (hw : w_Mg_breakRing o x1 x2 h R) : tpC Mg_breakRing 6 [vR (some o), vR x1, vI x2] h (tpOv R (fun _ _ => False)) := by
  refine tpC_of mv_Mg_breakRing.2.2.2.1 rfl rfl (Nat.le_of_ble_eq_true rfl) ?_
  show tpR Mg_breakRing 6 h _ _ 0 [some (vR (some o)), some (vR x1), some (vI x2), none, none] [] h
  unfold w_Mg_breakRing at hw
  refine tq_aload_n dMg_breakRing_0 rfl rfl ?_
  obtain ⟨f1, hw⟩ := hw
  refine te_getr dMg_breakRing_1 fMg_29 rfl rfl f1 ?_
  refine tq_sipush (v := (300 : Int32)) dMg_breakRing_4 tns_300 ?_
  refine tq_iconst (v := (0 : Int32)) dMg_breakRing_7 tni_0 ?_
  obtain ⟨a2, e3, f4, hw⟩ := hw
  refine te_callV mv_Ro_fill (ci := 7) (dc := 0) (as := [vI (300 : Int32), vI (0 : Int32)]) (rest := []) kMg_170 rfl (Nat.le_of_ble_eq_true rfl) (Nat.le_of_ble_eq_true rfl) rfl rfl e3 f4 (Nat.le_of_ble_eq_true rfl) dMg_breakRing_8 (s_Ro_fill hw) (fun _ _ hx => False.elim hx) (tk_v fun h5 hw => ?_)
  refine tq_iload_n dMg_breakRing_11 rfl rfl ?_
  refine tq_istore_n (ls' := [some (vR (some o)), some (vR x1), some (vI x2), some (vI x2), none]) dMg_breakRing_12 rfl (Nat.le_of_ble_eq_true rfl) rfl ?_
  refine tq_iconst (v := (0 : Int32)) dMg_breakRing_13 tni_0 ?_
  refine tq_istore (ls' := [some (vR (some o)), some (vR x1), some (vI x2), some (vI x2), some (vI (0 : Int32))]) dMg_breakRing_14 (Nat.le_of_ble_eq_true rfl) rfl ?_
  refine tpR.fo (ls' := [some (vR (some o)), some (vR x1), none, some (vI x2), some (vI (0 : Int32))]) ?_ (And.intro rfl (And.intro rfl (And.intro rfl (And.intro rfl trivial))))
  obtain ⟨n, hw⟩ := hw
  exact s_Mg_breakRing_16 n _ _ _ _ _ hw
/-! T$Merger.mendParents -/
theorem dMg_mendParents_0 : decode (mB Mg_mendParents) 0 = .ok (.iconst 0, 1) := by decide +kernel
theorem dMg_mendParents_1 : decode (mB Mg_mendParents) 1 = .ok (.istore_n 2, 1) := by decide +kernel
theorem dMg_mendParents_2 : decode (mB Mg_mendParents) 2 = .ok (.iload_n 2, 1) := by decide +kernel
theorem dMg_mendParents_3 : decode (mB Mg_mendParents) 3 = .ok (.sipush 1200, 3) := by decide +kernel
theorem dMg_mendParents_6 : decode (mB Mg_mendParents) 6 = .ok (.if_icmp .ge 75, 3) := by decide +kernel
theorem dMg_mendParents_9 : decode (mB Mg_mendParents) 9 = .ok (.aload_n 0, 1) := by decide +kernel
theorem dMg_mendParents_10 : decode (mB Mg_mendParents) 10 = .ok (.invokevirtual 156, 3) := by decide +kernel
theorem dMg_mendParents_13 : decode (mB Mg_mendParents) 13 = .ok (.istore_n 3, 1) := by decide +kernel
theorem dMg_mendParents_14 : decode (mB Mg_mendParents) 14 = .ok (.iload_n 3, 1) := by decide +kernel
theorem dMg_mendParents_15 : decode (mB Mg_mendParents) 15 = .ok (.iconst (-1), 1) := by decide +kernel
theorem dMg_mendParents_16 : decode (mB Mg_mendParents) 16 = .ok (.if_icmp .ne 10, 3) := by decide +kernel
theorem dMg_mendParents_19 : decode (mB Mg_mendParents) 19 = .ok (.aload_n 0, 1) := by decide +kernel
theorem dMg_mendParents_20 : decode (mB Mg_mendParents) 20 = .ok (.invokevirtual 160, 3) := by decide +kernel
theorem dMg_mendParents_23 : decode (mB Mg_mendParents) 23 = .ok (.goto 4, 3) := by decide +kernel
theorem dMg_mendParents_26 : decode (mB Mg_mendParents) 26 = .ok (.iconst (-1), 1) := by decide +kernel
theorem dMg_mendParents_27 : decode (mB Mg_mendParents) 27 = .ok (.istore 4, 2) := by decide +kernel
theorem dMg_mendParents_29 : decode (mB Mg_mendParents) 29 = .ok (.iload_n 3, 1) := by decide +kernel
theorem dMg_mendParents_30 : decode (mB Mg_mendParents) 30 = .ok (.iconst (-1), 1) := by decide +kernel
theorem dMg_mendParents_31 : decode (mB Mg_mendParents) 31 = .ok (.if_icmp .eq 27, 3) := by decide +kernel
theorem dMg_mendParents_34 : decode (mB Mg_mendParents) 34 = .ok (.aload_n 0, 1) := by decide +kernel
theorem dMg_mendParents_35 : decode (mB Mg_mendParents) 35 = .ok (.iload_n 3, 1) := by decide +kernel
theorem dMg_mendParents_36 : decode (mB Mg_mendParents) 36 = .ok (.aload_n 1, 1) := by decide +kernel
theorem dMg_mendParents_37 : decode (mB Mg_mendParents) 37 = .ok (.iload_n 3, 1) := by decide +kernel
theorem dMg_mendParents_38 : decode (mB Mg_mendParents) 38 = .ok (.invokevirtual 111, 3) := by decide +kernel
theorem dMg_mendParents_41 : decode (mB Mg_mendParents) 41 = .ok (.aload_n 1, 1) := by decide +kernel
theorem dMg_mendParents_42 : decode (mB Mg_mendParents) 42 = .ok (.iload_n 3, 1) := by decide +kernel
theorem dMg_mendParents_43 : decode (mB Mg_mendParents) 43 = .ok (.invokevirtual 118, 3) := by decide +kernel
theorem dMg_mendParents_46 : decode (mB Mg_mendParents) 46 = .ok (.invokevirtual 121, 3) := by decide +kernel
theorem dMg_mendParents_49 : decode (mB Mg_mendParents) 49 = .ok (.aload_n 0, 1) := by decide +kernel
theorem dMg_mendParents_50 : decode (mB Mg_mendParents) 50 = .ok (.iconst 3, 1) := by decide +kernel
theorem dMg_mendParents_51 : decode (mB Mg_mendParents) 51 = .ok (.iload_n 3, 1) := by decide +kernel
theorem dMg_mendParents_52 : decode (mB Mg_mendParents) 52 = .ok (.invokevirtual 132, 3) := by decide +kernel
theorem dMg_mendParents_55 : decode (mB Mg_mendParents) 55 = .ok (.goto 20, 3) := by decide +kernel
theorem dMg_mendParents_58 : decode (mB Mg_mendParents) 58 = .ok (.iload 4, 2) := by decide +kernel
theorem dMg_mendParents_60 : decode (mB Mg_mendParents) 60 = .ok (.iconst (-1), 1) := by decide +kernel
theorem dMg_mendParents_61 : decode (mB Mg_mendParents) 61 = .ok (.if_icmp .eq 13, 3) := by decide +kernel
theorem dMg_mendParents_64 : decode (mB Mg_mendParents) 64 = .ok (.aload_n 0, 1) := by decide +kernel
theorem dMg_mendParents_65 : decode (mB Mg_mendParents) 65 = .ok (.aload_n 1, 1) := by decide +kernel
theorem dMg_mendParents_66 : decode (mB Mg_mendParents) 66 = .ok (.iload 4, 2) := by decide +kernel
theorem dMg_mendParents_68 : decode (mB Mg_mendParents) 68 = .ok (.invokevirtual 163, 3) := by decide +kernel
theorem dMg_mendParents_71 : decode (mB Mg_mendParents) 71 = .ok (.goto 4, 3) := by decide +kernel
theorem dMg_mendParents_74 : decode (mB Mg_mendParents) 74 = .ok (.return_, 1) := by decide +kernel
theorem dMg_mendParents_75 : decode (mB Mg_mendParents) 75 = .ok (.iinc 2 1, 3) := by decide +kernel
theorem dMg_mendParents_78 : decode (mB Mg_mendParents) 78 = .ok (.goto (-76), 3) := by decide +kernel
theorem dMg_mendParents_81 : decode (mB Mg_mendParents) 81 = .ok (.return_, 1) := by decide +kernel
def w_Mg_mendParents_27 (R : tpH → Prop) (K2 : Nat → (Option Nat) → Int32 → tpH → Prop) (o : Nat) (x1 : Option Nat) (x2 : Int32) (x3 : Int32) (t0 : Int32) (h : tpH) : Prop :=
  (x3 = (-1 : Int32) → ((t0 = (-1 : Int32) → (R h)) ∧ (¬ t0 = (-1 : Int32) → (hT h o = 7 ∧ (w_Mg_breakRing o x1 t0 h (fun h4 => K2 o x1 (x2 + (1 : Int32)) h4)))))) ∧ (¬ x3 = (-1 : Int32) → (∃ a5, x1 = some a5 ∧ hT h a5 = 12 ∧ (w_Tr_worthOfMark a5 x3 h (fun v9 h8 => hT h8 a5 = 12 ∧ (w_Tr_parentOfMark a5 x3 h8 (fun v12 h11 => hT h11 o = 7 ∧ (w_Mg_letIn o x3 v9 v12 h11 (fun h14 => hT h14 o = 7 ∧ (w_Mg_list o (3 : Int32) x3 h14 (fun h16 => K2 o x1 (x2 + (1 : Int32)) h16))))))))))
def b_Mg_mendParents_2 (R : tpH → Prop) (Y : Nat → (Option Nat) → Int32 → tpH → Prop) (o : Nat) (x1 : Option Nat) (x2 : Int32) (h : tpH) : Prop :=
  ((1200 : Int32) ≤ x2 → (R h)) ∧ (¬ (1200 : Int32) ≤ x2 → (hT h o = 7 ∧ (w_Mg_lowestLost o h (fun v4 h3 => (¬ v4 = (-1 : Int32) → (w_Mg_mendParents_27 R Y o x1 x2 v4 (-1 : Int32) h3)) ∧ (v4 = (-1 : Int32) → (hT h3 o = 7 ∧ (w_Mg_lowestInRing o h3 (fun v8 h7 => w_Mg_mendParents_27 R Y o x1 x2 v4 v8 h7))))))))
def w_Mg_mendParents_2 (R : tpH → Prop) : Nat → Nat → (Option Nat) → Int32 → tpH → Prop
  | 0 => fun _ _ _ _ => False
  | n + 1 => b_Mg_mendParents_2 R (w_Mg_mendParents_2 R n)
def w_Mg_mendParents (o : Nat) (x1 : Option Nat) (h : tpH) (R : tpH → Prop) : Prop :=
  ∃ n, w_Mg_mendParents_2 R n o x1 (0 : Int32) h
theorem s_Mg_mendParents_27 {h0 : tpH} {av : List tpV} {R : tpH → Prop} {K2 : Nat → (Option Nat) → Int32 → tpH → Prop} (k2 : ∀ (o : Nat) (x1 : Option Nat) (x2 : Int32) (h : tpH), K2 o x1 x2 h → tpR Mg_mendParents 7 h0 av (tpOv R (fun _ _ => False)) 2 [some (vR (some o)), some (vR x1), some (vI x2), none, none] [] h) : ∀ (o : Nat) (x1 : Option Nat) (x2 : Int32) (x3 : Int32) (t0 : Int32) (h : tpH), w_Mg_mendParents_27 R K2 o x1 x2 x3 t0 h → tpR Mg_mendParents 7 h0 av (tpOv R (fun _ _ => False)) 27 [some (vR (some o)), some (vR x1), some (vI x2), some (vI x3), none] [vI t0] h := by
  intro o x1 x2 x3 t0 h hw
  unfold w_Mg_mendParents_27 at hw
  refine tq_istore (ls' := [some (vR (some o)), some (vR x1), some (vI x2), some (vI x3), some (vI t0)]) dMg_mendParents_27 (Nat.le_of_ble_eq_true rfl) rfl ?_
  refine tq_iload_n dMg_mendParents_29 rfl rfl ?_
  refine tq_iconst (v := (-1 : Int32)) dMg_mendParents_30 tni_m1 ?_
  refine tq_icmpeq (tgt := 58) dMg_mendParents_31 (by decide) (fun c1 => ?_) (fun c1 => ?_)
  · have hw := hw.1 c1
    refine tq_iload dMg_mendParents_58 rfl ?_
    refine tq_iconst (v := (-1 : Int32)) dMg_mendParents_60 tni_m1 ?_
    refine tq_icmpeq (tgt := 74) dMg_mendParents_61 (by decide) (fun c2 => ?_) (fun c2 => ?_)
    · have hw := hw.1 c2
      exact tq_vret rfl dMg_mendParents_74 hw
    · have hw := hw.2 c2
      refine tq_aload_n dMg_mendParents_64 rfl rfl ?_
      refine tq_aload_n dMg_mendParents_65 rfl rfl ?_
      refine tq_iload dMg_mendParents_66 rfl ?_
      obtain ⟨f3, hw⟩ := hw
      refine te_callV mv_Mg_breakRing (ci := 6) (dc := 6) (as := [vR x1, vI t0]) (rest := []) kMg_163 rfl (Nat.le_of_ble_eq_true rfl) (Nat.le_of_ble_eq_true rfl) rfl rfl rfl f3 (Nat.le_of_ble_eq_true rfl) dMg_mendParents_68 (s_Mg_breakRing hw) (fun _ _ hx => False.elim hx) (tk_v fun h4 hw => ?_)
      refine tq_goto (tgt := 75) dMg_mendParents_71 (by decide) ?_
      refine tq_inc (k := (1 : Int32)) (ls' := [some (vR (some o)), some (vR x1), some (vI (x2 + (1 : Int32))), some (vI x3), some (vI t0)]) dMg_mendParents_75 rfl tni_1 (Nat.le_of_ble_eq_true rfl) rfl ?_
      refine tq_goto (tgt := 2) dMg_mendParents_78 (by decide) ?_
      refine tpR.fo (ls' := [some (vR (some o)), some (vR x1), some (vI (x2 + (1 : Int32))), none, none]) ?_ (And.intro rfl (And.intro rfl (And.intro rfl trivial)))
      exact k2 _ _ _ _ hw
  · have hw := hw.2 c1
    refine tq_aload_n dMg_mendParents_34 rfl rfl ?_
    refine tq_iload_n dMg_mendParents_35 rfl rfl ?_
    refine tq_aload_n dMg_mendParents_36 rfl rfl ?_
    refine tq_iload_n dMg_mendParents_37 rfl rfl ?_
    obtain ⟨a5, e6, f7, hw⟩ := hw
    refine te_callV mv_Tr_worthOfMark (ci := 11) (dc := 1) (as := [vI x3]) (rest := [vI x3, vR (some o)]) kMg_111 rfl (Nat.le_of_ble_eq_true rfl) (Nat.le_of_ble_eq_true rfl) rfl rfl e6 f7 (Nat.le_of_ble_eq_true rfl) dMg_mendParents_38 (s_Tr_worthOfMark hw) (fun _ _ hx => False.elim hx) (tk_i fun v9 h8 hw => ?_)
    refine tq_aload_n dMg_mendParents_41 rfl rfl ?_
    refine tq_iload_n dMg_mendParents_42 rfl rfl ?_
    obtain ⟨f10, hw⟩ := hw
    refine te_callV mv_Tr_parentOfMark (ci := 11) (dc := 1) (as := [vI x3]) (rest := [vI v9, vI x3, vR (some o)]) kMg_118 rfl (Nat.le_of_ble_eq_true rfl) (Nat.le_of_ble_eq_true rfl) rfl rfl e6 f10 (Nat.le_of_ble_eq_true rfl) dMg_mendParents_43 (s_Tr_parentOfMark hw) (fun _ _ hx => False.elim hx) (tk_i fun v12 h11 hw => ?_)
    obtain ⟨f13, hw⟩ := hw
    refine te_callV mv_Mg_letIn (ci := 6) (dc := 1) (as := [vI x3, vI v9, vI v12]) (rest := []) kMg_121 rfl (Nat.le_of_ble_eq_true rfl) (Nat.le_of_ble_eq_true rfl) rfl rfl rfl f13 (Nat.le_of_ble_eq_true rfl) dMg_mendParents_46 (s_Mg_letIn hw) (fun _ _ hx => False.elim hx) (tk_v fun h14 hw => ?_)
    refine tq_aload_n dMg_mendParents_49 rfl rfl ?_
    refine tq_iconst (v := (3 : Int32)) dMg_mendParents_50 tni_3 ?_
    refine tq_iload_n dMg_mendParents_51 rfl rfl ?_
    obtain ⟨f15, hw⟩ := hw
    refine te_callV mv_Mg_list (ci := 6) (dc := 5) (as := [vI (3 : Int32), vI x3]) (rest := []) kMg_132 rfl (Nat.le_of_ble_eq_true rfl) (Nat.le_of_ble_eq_true rfl) rfl rfl rfl f15 (Nat.le_of_ble_eq_true rfl) dMg_mendParents_52 (s_Mg_list hw) (fun _ _ hx => False.elim hx) (tk_v fun h16 hw => ?_)
    refine tq_goto (tgt := 75) dMg_mendParents_55 (by decide) ?_
    refine tq_inc (k := (1 : Int32)) (ls' := [some (vR (some o)), some (vR x1), some (vI (x2 + (1 : Int32))), some (vI x3), some (vI t0)]) dMg_mendParents_75 rfl tni_1 (Nat.le_of_ble_eq_true rfl) rfl ?_
    refine tq_goto (tgt := 2) dMg_mendParents_78 (by decide) ?_
    refine tpR.fo (ls' := [some (vR (some o)), some (vR x1), some (vI (x2 + (1 : Int32))), none, none]) ?_ (And.intro rfl (And.intro rfl (And.intro rfl trivial)))
    exact k2 _ _ _ _ hw
theorem s_Mg_mendParents_2 {h0 : tpH} {av : List tpV} {R : tpH → Prop} : ∀ (n : Nat) (o : Nat) (x1 : Option Nat) (x2 : Int32) (h : tpH), w_Mg_mendParents_2 R n o x1 x2 h → tpR Mg_mendParents 7 h0 av (tpOv R (fun _ _ => False)) 2 [some (vR (some o)), some (vR x1), some (vI x2), none, none] [] h := by
  intro n
  induction n with
  | zero => intro o x1 x2 h hw; exact False.elim hw
  | succ n ih =>
    intro o x1 x2 h hw
    change b_Mg_mendParents_2 R (w_Mg_mendParents_2 R n) o x1 x2 h at hw
    unfold b_Mg_mendParents_2 at hw
    refine tq_iload_n dMg_mendParents_2 rfl rfl ?_
    refine tq_sipush (v := (1200 : Int32)) dMg_mendParents_3 tns_1200 ?_
    refine tq_icmpge (tgt := 81) dMg_mendParents_6 (by decide) (fun c1 => ?_) (fun c1 => ?_)
    · have hw := hw.1 c1
      exact tq_vret rfl dMg_mendParents_81 hw
    · have hw := hw.2 c1
      refine tq_aload_n dMg_mendParents_9 rfl rfl ?_
      obtain ⟨f2, hw⟩ := hw
      refine te_callV mv_Mg_lowestLost (ci := 6) (dc := 1) (as := []) (rest := []) kMg_156 rfl (Nat.le_of_ble_eq_true rfl) (Nat.le_of_ble_eq_true rfl) rfl rfl rfl f2 (Nat.le_of_ble_eq_true rfl) dMg_mendParents_10 (s_Mg_lowestLost hw) (fun _ _ hx => False.elim hx) (tk_i fun v4 h3 hw => ?_)
      refine tq_istore_n (ls' := [some (vR (some o)), some (vR x1), some (vI x2), some (vI v4), none]) dMg_mendParents_13 rfl (Nat.le_of_ble_eq_true rfl) rfl ?_
      refine tq_iload_n dMg_mendParents_14 rfl rfl ?_
      refine tq_iconst (v := (-1 : Int32)) dMg_mendParents_15 tni_m1 ?_
      refine tq_icmpne (tgt := 26) dMg_mendParents_16 (by decide) (fun c5 => ?_) (fun c5 => ?_)
      · have hw := hw.1 c5
        refine tq_iconst (v := (-1 : Int32)) dMg_mendParents_26 tni_m1 ?_
        refine tpR.fo (ls' := [some (vR (some o)), some (vR x1), some (vI x2), some (vI v4), none]) ?_ (And.intro rfl (And.intro rfl (And.intro rfl (And.intro rfl trivial))))
        exact s_Mg_mendParents_27 ih _ _ _ _ _ _ hw
      · have hw := hw.2 c5
        refine tq_aload_n dMg_mendParents_19 rfl rfl ?_
        obtain ⟨f6, hw⟩ := hw
        refine te_callV mv_Mg_lowestInRing (ci := 6) (dc := 2) (as := []) (rest := []) kMg_160 rfl (Nat.le_of_ble_eq_true rfl) (Nat.le_of_ble_eq_true rfl) rfl rfl rfl f6 (Nat.le_of_ble_eq_true rfl) dMg_mendParents_20 (s_Mg_lowestInRing hw) (fun _ _ hx => False.elim hx) (tk_i fun v8 h7 hw => ?_)
        refine tq_goto (tgt := 27) dMg_mendParents_23 (by decide) ?_
        refine tpR.fo (ls' := [some (vR (some o)), some (vR x1), some (vI x2), some (vI v4), none]) ?_ (And.intro rfl (And.intro rfl (And.intro rfl (And.intro rfl trivial))))
        exact s_Mg_mendParents_27 ih _ _ _ _ _ _ hw
theorem s_Mg_mendParents {o : Nat} {x1 : Option Nat} {h : tpH} {R : tpH → Prop} (hw : w_Mg_mendParents o x1 h R) : tpC Mg_mendParents 7 [vR (some o), vR x1] h (tpOv R (fun _ _ => False)) := by
  refine tpC_of mv_Mg_mendParents.2.2.2.1 rfl rfl (Nat.le_of_ble_eq_true rfl) ?_
  show tpR Mg_mendParents 7 h _ _ 0 [some (vR (some o)), some (vR x1), none, none, none] [] h
  unfold w_Mg_mendParents at hw
  refine tq_iconst (v := (0 : Int32)) dMg_mendParents_0 tni_0 ?_
  refine tq_istore_n (ls' := [some (vR (some o)), some (vR x1), some (vI (0 : Int32)), none, none]) dMg_mendParents_1 rfl (Nat.le_of_ble_eq_true rfl) rfl ?_
  refine tpR.fo (ls' := [some (vR (some o)), some (vR x1), some (vI (0 : Int32)), none, none]) ?_ (And.intro rfl (And.intro rfl (And.intro rfl trivial)))
  obtain ⟨n, hw⟩ := hw
  exact s_Mg_mendParents_2 n _ _ _ _ hw
/-! T$Merger.sproutAll -/
theorem dMg_sproutAll_0 : decode (mB Mg_sproutAll) 0 = .ok (.aload_n 0, 1) := by decide +kernel
theorem dMg_sproutAll_1 : decode (mB Mg_sproutAll) 1 = .ok (.getfield 51, 3) := by decide +kernel
theorem dMg_sproutAll_4 : decode (mB Mg_sproutAll) 4 = .ok (.iload_n 1, 1) := by decide +kernel
theorem dMg_sproutAll_5 : decode (mB Mg_sproutAll) 5 = .ok (.aload_n 0, 1) := by decide +kernel
theorem dMg_sproutAll_6 : decode (mB Mg_sproutAll) 6 = .ok (.getfield 23, 3) := by decide +kernel
theorem dMg_sproutAll_9 : decode (mB Mg_sproutAll) 9 = .ok (.iload_n 1, 1) := by decide +kernel
theorem dMg_sproutAll_10 : decode (mB Mg_sproutAll) 10 = .ok (.invokevirtual 94, 3) := by decide +kernel
theorem dMg_sproutAll_13 : decode (mB Mg_sproutAll) 13 = .ok (.invokevirtual 97, 3) := by decide +kernel
theorem dMg_sproutAll_16 : decode (mB Mg_sproutAll) 16 = .ok (.iconst 0, 1) := by decide +kernel
theorem dMg_sproutAll_17 : decode (mB Mg_sproutAll) 17 = .ok (.istore_n 2, 1) := by decide +kernel
theorem dMg_sproutAll_18 : decode (mB Mg_sproutAll) 18 = .ok (.iload_n 2, 1) := by decide +kernel
theorem dMg_sproutAll_19 : decode (mB Mg_sproutAll) 19 = .ok (.aload_n 0, 1) := by decide +kernel
theorem dMg_sproutAll_20 : decode (mB Mg_sproutAll) 20 = .ok (.getfield 47, 3) := by decide +kernel
theorem dMg_sproutAll_23 : decode (mB Mg_sproutAll) 23 = .ok (.getfield 58, 3) := by decide +kernel
theorem dMg_sproutAll_26 : decode (mB Mg_sproutAll) 26 = .ok (.if_icmp .ge 42, 3) := by decide +kernel
theorem dMg_sproutAll_29 : decode (mB Mg_sproutAll) 29 = .ok (.aload_n 0, 1) := by decide +kernel
theorem dMg_sproutAll_30 : decode (mB Mg_sproutAll) 30 = .ok (.getfield 20, 3) := by decide +kernel
theorem dMg_sproutAll_33 : decode (mB Mg_sproutAll) 33 = .ok (.iload_n 2, 1) := by decide +kernel
theorem dMg_sproutAll_34 : decode (mB Mg_sproutAll) 34 = .ok (.invokevirtual 94, 3) := by decide +kernel
theorem dMg_sproutAll_37 : decode (mB Mg_sproutAll) 37 = .ok (.iconst 1, 1) := by decide +kernel
theorem dMg_sproutAll_38 : decode (mB Mg_sproutAll) 38 = .ok (.if_icmp .ne 24, 3) := by decide +kernel
theorem dMg_sproutAll_41 : decode (mB Mg_sproutAll) 41 = .ok (.iload_n 2, 1) := by decide +kernel
theorem dMg_sproutAll_42 : decode (mB Mg_sproutAll) 42 = .ok (.iload_n 1, 1) := by decide +kernel
theorem dMg_sproutAll_43 : decode (mB Mg_sproutAll) 43 = .ok (.if_icmp .eq 19, 3) := by decide +kernel
theorem dMg_sproutAll_46 : decode (mB Mg_sproutAll) 46 = .ok (.aload_n 0, 1) := by decide +kernel
theorem dMg_sproutAll_47 : decode (mB Mg_sproutAll) 47 = .ok (.getfield 51, 3) := by decide +kernel
theorem dMg_sproutAll_50 : decode (mB Mg_sproutAll) 50 = .ok (.iload_n 2, 1) := by decide +kernel
theorem dMg_sproutAll_51 : decode (mB Mg_sproutAll) 51 = .ok (.aload_n 0, 1) := by decide +kernel
theorem dMg_sproutAll_52 : decode (mB Mg_sproutAll) 52 = .ok (.getfield 23, 3) := by decide +kernel
theorem dMg_sproutAll_55 : decode (mB Mg_sproutAll) 55 = .ok (.iload_n 2, 1) := by decide +kernel
theorem dMg_sproutAll_56 : decode (mB Mg_sproutAll) 56 = .ok (.invokevirtual 94, 3) := by decide +kernel
theorem dMg_sproutAll_59 : decode (mB Mg_sproutAll) 59 = .ok (.invokevirtual 101, 3) := by decide +kernel
theorem dMg_sproutAll_62 : decode (mB Mg_sproutAll) 62 = .ok (.iinc 2 1, 3) := by decide +kernel
theorem dMg_sproutAll_65 : decode (mB Mg_sproutAll) 65 = .ok (.goto (-47), 3) := by decide +kernel
theorem dMg_sproutAll_68 : decode (mB Mg_sproutAll) 68 = .ok (.return_, 1) := by decide +kernel
def b_Mg_sproutAll_18 (R : tpH → Prop) (Y : Nat → Int32 → Int32 → tpH → Prop) (o : Nat) (x1 : Int32) (x2 : Int32) (h : tpH) : Prop :=
  hT h o = 7 ∧ (∃ a2, (hR h o 0) = some a2 ∧ hT h a2 = 5 ∧ (((hI h a2 2) ≤ x2 → (R h)) ∧ (¬ (hI h a2 2) ≤ x2 → (∃ a6, (hR h o 3) = some a6 ∧ hT h a6 = 8 ∧ (w_Ro_at a6 x2 h (fun v10 h9 => (¬ v10 = (1 : Int32) → (Y o x1 (x2 + (1 : Int32)) h9)) ∧ (v10 = (1 : Int32) → ((x2 = x1 → (Y o x1 (x2 + (1 : Int32)) h9)) ∧ (¬ x2 = x1 → (hT h9 o = 7 ∧ (∃ a14, (hR h9 o 4) = some a14 ∧ hT h9 a14 = 8 ∧ (w_Ro_at a14 x2 h9 (fun v18 h17 => ∃ a19, (hR h9 o 1) = some a19 ∧ hT h17 a19 = 1 ∧ (w_Bu_sprout a19 x2 v18 h17 (fun h22 => Y o x1 (x2 + (1 : Int32)) h22)))))))))))))))
def w_Mg_sproutAll_18 (R : tpH → Prop) : Nat → Nat → Int32 → Int32 → tpH → Prop
  | 0 => fun _ _ _ _ => False
  | n + 1 => b_Mg_sproutAll_18 R (w_Mg_sproutAll_18 R n)
def w_Mg_sproutAll (o : Nat) (x1 : Int32) (h : tpH) (R : tpH → Prop) : Prop :=
  hT h o = 7 ∧ (∃ a2, (hR h o 4) = some a2 ∧ hT h a2 = 8 ∧ (w_Ro_at a2 x1 h (fun v6 h5 => ∃ a7, (hR h o 1) = some a7 ∧ hT h5 a7 = 1 ∧ (w_Bu_plant a7 x1 v6 h5 (fun h10 => ∃ n, w_Mg_sproutAll_18 R n o x1 (0 : Int32) h10)))))
theorem s_Mg_sproutAll_18 {h0 : tpH} {av : List tpV} {R : tpH → Prop} : ∀ (n : Nat) (o : Nat) (x1 : Int32) (x2 : Int32) (h : tpH), w_Mg_sproutAll_18 R n o x1 x2 h → tpR Mg_sproutAll 3 h0 av (tpOv R (fun _ _ => False)) 18 [some (vR (some o)), some (vI x1), some (vI x2)] [] h := by
  intro n
  induction n with
  | zero => intro o x1 x2 h hw; exact False.elim hw
  | succ n ih =>
    intro o x1 x2 h hw
    change b_Mg_sproutAll_18 R (w_Mg_sproutAll_18 R n) o x1 x2 h at hw
    unfold b_Mg_sproutAll_18 at hw
    refine tq_iload_n dMg_sproutAll_18 rfl rfl ?_
    refine tq_aload_n dMg_sproutAll_19 rfl rfl ?_
    obtain ⟨f1, hw⟩ := hw
    refine te_getr dMg_sproutAll_20 fMg_47 rfl rfl f1 ?_
    obtain ⟨a2, e3, f4, hw⟩ := hw
    refine te_geti dMg_sproutAll_23 fMg_58 rfl e3 f4 ?_
    refine tq_icmpge (tgt := 68) dMg_sproutAll_26 (by decide) (fun c5 => ?_) (fun c5 => ?_)
    · have hw := hw.1 c5
      exact tq_vret rfl dMg_sproutAll_68 hw
    · have hw := hw.2 c5
      refine tq_aload_n dMg_sproutAll_29 rfl rfl ?_
      refine te_getr dMg_sproutAll_30 fMg_20 rfl rfl f1 ?_
      refine tq_iload_n dMg_sproutAll_33 rfl rfl ?_
      obtain ⟨a6, e7, f8, hw⟩ := hw
      refine te_callV mv_Ro_at (ci := 7) (dc := 0) (as := [vI x2]) (rest := []) kMg_94 rfl (Nat.le_of_ble_eq_true rfl) (Nat.le_of_ble_eq_true rfl) rfl rfl e7 f8 (Nat.le_of_ble_eq_true rfl) dMg_sproutAll_34 (s_Ro_at hw) (fun _ _ hx => False.elim hx) (tk_i fun v10 h9 hw => ?_)
      refine tq_iconst (v := (1 : Int32)) dMg_sproutAll_37 tni_1 ?_
      refine tq_icmpne (tgt := 62) dMg_sproutAll_38 (by decide) (fun c11 => ?_) (fun c11 => ?_)
      · have hw := hw.1 c11
        refine tq_inc (k := (1 : Int32)) (ls' := [some (vR (some o)), some (vI x1), some (vI (x2 + (1 : Int32)))]) dMg_sproutAll_62 rfl tni_1 (Nat.le_of_ble_eq_true rfl) rfl ?_
        refine tq_goto (tgt := 18) dMg_sproutAll_65 (by decide) ?_
        refine tpR.fo (ls' := [some (vR (some o)), some (vI x1), some (vI (x2 + (1 : Int32)))]) ?_ (And.intro rfl (And.intro rfl (And.intro rfl trivial)))
        exact ih _ _ _ _ hw
      · have hw := hw.2 c11
        refine tq_iload_n dMg_sproutAll_41 rfl rfl ?_
        refine tq_iload_n dMg_sproutAll_42 rfl rfl ?_
        refine tq_icmpeq (tgt := 62) dMg_sproutAll_43 (by decide) (fun c12 => ?_) (fun c12 => ?_)
        · have hw := hw.1 c12
          refine tq_inc (k := (1 : Int32)) (ls' := [some (vR (some o)), some (vI x1), some (vI (x2 + (1 : Int32)))]) dMg_sproutAll_62 rfl tni_1 (Nat.le_of_ble_eq_true rfl) rfl ?_
          refine tq_goto (tgt := 18) dMg_sproutAll_65 (by decide) ?_
          refine tpR.fo (ls' := [some (vR (some o)), some (vI x1), some (vI (x2 + (1 : Int32)))]) ?_ (And.intro rfl (And.intro rfl (And.intro rfl trivial)))
          exact ih _ _ _ _ hw
        · have hw := hw.2 c12
          refine tq_aload_n dMg_sproutAll_46 rfl rfl ?_
          obtain ⟨f13, hw⟩ := hw
          refine te_getr dMg_sproutAll_47 fMg_51 rfl rfl f13 ?_
          refine tq_iload_n dMg_sproutAll_50 rfl rfl ?_
          refine tq_aload_n dMg_sproutAll_51 rfl rfl ?_
          refine te_getr dMg_sproutAll_52 fMg_23 rfl rfl f13 ?_
          refine tq_iload_n dMg_sproutAll_55 rfl rfl ?_
          obtain ⟨a14, e15, f16, hw⟩ := hw
          refine te_callV mv_Ro_at (ci := 7) (dc := 0) (as := [vI x2]) (rest := [vI x2, vR (hR h9 o 1)]) kMg_94 rfl (Nat.le_of_ble_eq_true rfl) (Nat.le_of_ble_eq_true rfl) rfl rfl e15 f16 (Nat.le_of_ble_eq_true rfl) dMg_sproutAll_56 (s_Ro_at hw) (fun _ _ hx => False.elim hx) (tk_i fun v18 h17 hw => ?_)
          obtain ⟨a19, e20, f21, hw⟩ := hw
          refine te_callV mv_Bu_sprout (ci := 0) (dc := 1) (as := [vI x2, vI v18]) (rest := []) kMg_101 rfl (Nat.le_of_ble_eq_true rfl) (Nat.le_of_ble_eq_true rfl) rfl rfl e20 f21 (Nat.le_of_ble_eq_true rfl) dMg_sproutAll_59 (s_Bu_sprout hw) (fun _ _ hx => False.elim hx) (tk_v fun h22 hw => ?_)
          refine tq_inc (k := (1 : Int32)) (ls' := [some (vR (some o)), some (vI x1), some (vI (x2 + (1 : Int32)))]) dMg_sproutAll_62 rfl tni_1 (Nat.le_of_ble_eq_true rfl) rfl ?_
          refine tq_goto (tgt := 18) dMg_sproutAll_65 (by decide) ?_
          refine tpR.fo (ls' := [some (vR (some o)), some (vI x1), some (vI (x2 + (1 : Int32)))]) ?_ (And.intro rfl (And.intro rfl (And.intro rfl trivial)))
          exact ih _ _ _ _ hw
theorem s_Mg_sproutAll {o : Nat} {x1 : Int32} {h : tpH} {R : tpH → Prop} (hw : w_Mg_sproutAll o x1 h R) : tpC Mg_sproutAll 3 [vR (some o), vI x1] h (tpOv R (fun _ _ => False)) := by
  refine tpC_of mv_Mg_sproutAll.2.2.2.1 rfl rfl (Nat.le_of_ble_eq_true rfl) ?_
  show tpR Mg_sproutAll 3 h _ _ 0 [some (vR (some o)), some (vI x1), none] [] h
  unfold w_Mg_sproutAll at hw
  refine tq_aload_n dMg_sproutAll_0 rfl rfl ?_
  obtain ⟨f1, hw⟩ := hw
  refine te_getr dMg_sproutAll_1 fMg_51 rfl rfl f1 ?_
  refine tq_iload_n dMg_sproutAll_4 rfl rfl ?_
  refine tq_aload_n dMg_sproutAll_5 rfl rfl ?_
  refine te_getr dMg_sproutAll_6 fMg_23 rfl rfl f1 ?_
  refine tq_iload_n dMg_sproutAll_9 rfl rfl ?_
  obtain ⟨a2, e3, f4, hw⟩ := hw
  refine te_callV mv_Ro_at (ci := 7) (dc := 0) (as := [vI x1]) (rest := [vI x1, vR (hR h o 1)]) kMg_94 rfl (Nat.le_of_ble_eq_true rfl) (Nat.le_of_ble_eq_true rfl) rfl rfl e3 f4 (Nat.le_of_ble_eq_true rfl) dMg_sproutAll_10 (s_Ro_at hw) (fun _ _ hx => False.elim hx) (tk_i fun v6 h5 hw => ?_)
  obtain ⟨a7, e8, f9, hw⟩ := hw
  refine te_callV mv_Bu_plant (ci := 0) (dc := 2) (as := [vI x1, vI v6]) (rest := []) kMg_97 rfl (Nat.le_of_ble_eq_true rfl) (Nat.le_of_ble_eq_true rfl) rfl rfl e8 f9 (Nat.le_of_ble_eq_true rfl) dMg_sproutAll_13 (s_Bu_plant hw) (fun _ _ hx => False.elim hx) (tk_v fun h10 hw => ?_)
  refine tq_iconst (v := (0 : Int32)) dMg_sproutAll_16 tni_0 ?_
  refine tq_istore_n (ls' := [some (vR (some o)), some (vI x1), some (vI (0 : Int32))]) dMg_sproutAll_17 rfl (Nat.le_of_ble_eq_true rfl) rfl ?_
  refine tpR.fo (ls' := [some (vR (some o)), some (vI x1), some (vI (0 : Int32))]) ?_ (And.intro rfl (And.intro rfl (And.intro rfl trivial)))
  obtain ⟨n, hw⟩ := hw
  exact s_Mg_sproutAll_18 n _ _ _ _ hw
/-! T$Merger.readShared -/
theorem dMg_readShared_0 : decode (mB Mg_readShared) 0 = .ok (.aload 4, 2) := by decide +kernel
theorem dMg_readShared_2 : decode (mB Mg_readShared) 2 = .ok (.invokevirtual 55, 3) := by decide +kernel
theorem dMg_readShared_5 : decode (mB Mg_readShared) 5 = .ok (.aload_n 2, 1) := by decide +kernel
theorem dMg_readShared_6 : decode (mB Mg_readShared) 6 = .ok (.iload_n 3, 1) := by decide +kernel
theorem dMg_readShared_7 : decode (mB Mg_readShared) 7 = .ok (.invokevirtual 143, 3) := by decide +kernel
theorem dMg_readShared_10 : decode (mB Mg_readShared) 10 = .ok (.istore 5, 2) := by decide +kernel
theorem dMg_readShared_12 : decode (mB Mg_readShared) 12 = .ok (.iconst 0, 1) := by decide +kernel
theorem dMg_readShared_13 : decode (mB Mg_readShared) 13 = .ok (.istore 6, 2) := by decide +kernel
theorem dMg_readShared_15 : decode (mB Mg_readShared) 15 = .ok (.iload 6, 2) := by decide +kernel
theorem dMg_readShared_17 : decode (mB Mg_readShared) 17 = .ok (.aload_n 2, 1) := by decide +kernel
theorem dMg_readShared_18 : decode (mB Mg_readShared) 18 = .ok (.iload 5, 2) := by decide +kernel
theorem dMg_readShared_20 : decode (mB Mg_readShared) 20 = .ok (.invokevirtual 146, 3) := by decide +kernel
theorem dMg_readShared_23 : decode (mB Mg_readShared) 23 = .ok (.if_icmp .ge 53, 3) := by decide +kernel
theorem dMg_readShared_26 : decode (mB Mg_readShared) 26 = .ok (.aload_n 2, 1) := by decide +kernel
theorem dMg_readShared_27 : decode (mB Mg_readShared) 27 = .ok (.aload_n 2, 1) := by decide +kernel
theorem dMg_readShared_28 : decode (mB Mg_readShared) 28 = .ok (.iload 5, 2) := by decide +kernel
theorem dMg_readShared_30 : decode (mB Mg_readShared) 30 = .ok (.iload 6, 2) := by decide +kernel
theorem dMg_readShared_32 : decode (mB Mg_readShared) 32 = .ok (.invokevirtual 149, 3) := by decide +kernel
theorem dMg_readShared_35 : decode (mB Mg_readShared) 35 = .ok (.invokevirtual 72, 3) := by decide +kernel
theorem dMg_readShared_38 : decode (mB Mg_readShared) 38 = .ok (.istore 7, 2) := by decide +kernel
theorem dMg_readShared_40 : decode (mB Mg_readShared) 40 = .ok (.aload_n 0, 1) := by decide +kernel
theorem dMg_readShared_41 : decode (mB Mg_readShared) 41 = .ok (.getfield 26, 3) := by decide +kernel
theorem dMg_readShared_44 : decode (mB Mg_readShared) 44 = .ok (.iload 7, 2) := by decide +kernel
theorem dMg_readShared_46 : decode (mB Mg_readShared) 46 = .ok (.invokevirtual 94, 3) := by decide +kernel
theorem dMg_readShared_49 : decode (mB Mg_readShared) 49 = .ok (.iload_n 3, 1) := by decide +kernel
theorem dMg_readShared_50 : decode (mB Mg_readShared) 50 = .ok (.if_icmp .ne 20, 3) := by decide +kernel
theorem dMg_readShared_53 : decode (mB Mg_readShared) 53 = .ok (.aload_n 1, 1) := by decide +kernel
theorem dMg_readShared_54 : decode (mB Mg_readShared) 54 = .ok (.iload 7, 2) := by decide +kernel
theorem dMg_readShared_56 : decode (mB Mg_readShared) 56 = .ok (.iload_n 3, 1) := by decide +kernel
theorem dMg_readShared_57 : decode (mB Mg_readShared) 57 = .ok (.invokevirtual 152, 3) := by decide +kernel
theorem dMg_readShared_60 : decode (mB Mg_readShared) 60 = .ok (.ifCond .eq 10, 3) := by decide +kernel
theorem dMg_readShared_63 : decode (mB Mg_readShared) 63 = .ok (.aload 4, 2) := by decide +kernel
theorem dMg_readShared_65 : decode (mB Mg_readShared) 65 = .ok (.iload 7, 2) := by decide +kernel
theorem dMg_readShared_67 : decode (mB Mg_readShared) 67 = .ok (.invokevirtual 104, 3) := by decide +kernel
theorem dMg_readShared_70 : decode (mB Mg_readShared) 70 = .ok (.iinc 6 1, 3) := by decide +kernel
theorem dMg_readShared_73 : decode (mB Mg_readShared) 73 = .ok (.goto (-58), 3) := by decide +kernel
theorem dMg_readShared_76 : decode (mB Mg_readShared) 76 = .ok (.return_, 1) := by decide +kernel
def b_Mg_readShared_15 (R : tpH → Prop) (Y : Nat → (Option Nat) → (Option Nat) → Int32 → (Option Nat) → Int32 → Int32 → tpH → Prop) (o : Nat) (x1 : Option Nat) (x2 : Option Nat) (x3 : Int32) (x4 : Option Nat) (x5 : Int32) (x6 : Int32) (h : tpH) : Prop :=
  ∃ a1, x2 = some a1 ∧ hT h a1 = 12 ∧ (w_Tr_kidsOf a1 x5 h (fun v5 h4 => (v5 ≤ x6 → (R h4)) ∧ (¬ v5 ≤ x6 → (hT h4 a1 = 12 ∧ (w_Tr_kid a1 x5 x6 h4 (fun v9 h8 => hT h8 a1 = 12 ∧ (w_Tr_markOf a1 v9 h8 (fun v12 h11 => hT h11 o = 7 ∧ (∃ a14, (hR h11 o 5) = some a14 ∧ hT h11 a14 = 8 ∧ (w_Ro_at a14 v12 h11 (fun v18 h17 => (¬ v18 = x3 → (Y o x1 x2 x3 x4 x5 (x6 + (1 : Int32)) h17)) ∧ (v18 = x3 → (∃ a20, x1 = some a20 ∧ hT h17 a20 = 12 ∧ (w_Tr_hasUnder a20 v12 x3 h17 (fun v24 h23 => (v24 = 0 → (Y o x1 x2 x3 x4 x5 (x6 + (1 : Int32)) h23)) ∧ (¬ v24 = 0 → (∃ a26, x4 = some a26 ∧ hT h23 a26 = 8 ∧ (w_Ro_push a26 v12 h23 (fun h29 => Y o x1 x2 x3 x4 x5 (x6 + (1 : Int32)) h29)))))))))))))))))))
def w_Mg_readShared_15 (R : tpH → Prop) : Nat → Nat → (Option Nat) → (Option Nat) → Int32 → (Option Nat) → Int32 → Int32 → tpH → Prop
  | 0 => fun _ _ _ _ _ _ _ _ => False
  | n + 1 => b_Mg_readShared_15 R (w_Mg_readShared_15 R n)
def w_Mg_readShared (o : Nat) (x1 : Option Nat) (x2 : Option Nat) (x3 : Int32) (x4 : Option Nat) (h : tpH) (R : tpH → Prop) : Prop :=
  ∃ a1, x4 = some a1 ∧ hT h a1 = 8 ∧ (w_Ro_clear a1 h (fun h4 => ∃ a5, x2 = some a5 ∧ hT h4 a5 = 12 ∧ (w_Tr_placeOf a5 x3 h4 (fun v9 h8 => ∃ n, w_Mg_readShared_15 R n o x1 x2 x3 x4 v9 (0 : Int32) h8))))
theorem s_Mg_readShared_15 {h0 : tpH} {av : List tpV} {R : tpH → Prop} : ∀ (n : Nat) (o : Nat) (x1 : Option Nat) (x2 : Option Nat) (x3 : Int32) (x4 : Option Nat) (x5 : Int32) (x6 : Int32) (h : tpH), w_Mg_readShared_15 R n o x1 x2 x3 x4 x5 x6 h → tpR Mg_readShared 5 h0 av (tpOv R (fun _ _ => False)) 15 [some (vR (some o)), some (vR x1), some (vR x2), some (vI x3), some (vR x4), some (vI x5), some (vI x6), none] [] h := by
  intro n
  induction n with
  | zero => intro o x1 x2 x3 x4 x5 x6 h hw; exact False.elim hw
  | succ n ih =>
    intro o x1 x2 x3 x4 x5 x6 h hw
    change b_Mg_readShared_15 R (w_Mg_readShared_15 R n) o x1 x2 x3 x4 x5 x6 h at hw
    unfold b_Mg_readShared_15 at hw
    refine tq_iload dMg_readShared_15 rfl ?_
    refine tq_aload_n dMg_readShared_17 rfl rfl ?_
    refine tq_iload dMg_readShared_18 rfl ?_
    obtain ⟨a1, e2, f3, hw⟩ := hw
    refine te_callV mv_Tr_kidsOf (ci := 11) (dc := 1) (as := [vI x5]) (rest := [vI x6]) kMg_146 rfl (Nat.le_of_ble_eq_true rfl) (Nat.le_of_ble_eq_true rfl) rfl rfl e2 f3 (Nat.le_of_ble_eq_true rfl) dMg_readShared_20 (s_Tr_kidsOf hw) (fun _ _ hx => False.elim hx) (tk_i fun v5 h4 hw => ?_)
    refine tq_icmpge (tgt := 76) dMg_readShared_23 (by decide) (fun c6 => ?_) (fun c6 => ?_)
    · have hw := hw.1 c6
      exact tq_vret rfl dMg_readShared_76 hw
    · have hw := hw.2 c6
      refine tq_aload_n dMg_readShared_26 rfl rfl ?_
      refine tq_aload_n dMg_readShared_27 rfl rfl ?_
      refine tq_iload dMg_readShared_28 rfl ?_
      refine tq_iload dMg_readShared_30 rfl ?_
      obtain ⟨f7, hw⟩ := hw
      refine te_callV mv_Tr_kid (ci := 11) (dc := 1) (as := [vI x5, vI x6]) (rest := [vR x2]) kMg_149 rfl (Nat.le_of_ble_eq_true rfl) (Nat.le_of_ble_eq_true rfl) rfl rfl e2 f7 (Nat.le_of_ble_eq_true rfl) dMg_readShared_32 (s_Tr_kid hw) (fun _ _ hx => False.elim hx) (tk_i fun v9 h8 hw => ?_)
      obtain ⟨f10, hw⟩ := hw
      refine te_callV mv_Tr_markOf (ci := 11) (dc := 1) (as := [vI v9]) (rest := []) kMg_72 rfl (Nat.le_of_ble_eq_true rfl) (Nat.le_of_ble_eq_true rfl) rfl rfl e2 f10 (Nat.le_of_ble_eq_true rfl) dMg_readShared_35 (s_Tr_markOf hw) (fun _ _ hx => False.elim hx) (tk_i fun v12 h11 hw => ?_)
      refine tq_istore (ls' := [some (vR (some o)), some (vR x1), some (vR x2), some (vI x3), some (vR x4), some (vI x5), some (vI x6), some (vI v12)]) dMg_readShared_38 (Nat.le_of_ble_eq_true rfl) rfl ?_
      refine tq_aload_n dMg_readShared_40 rfl rfl ?_
      obtain ⟨f13, hw⟩ := hw
      refine te_getr dMg_readShared_41 fMg_26 rfl rfl f13 ?_
      refine tq_iload dMg_readShared_44 rfl ?_
      obtain ⟨a14, e15, f16, hw⟩ := hw
      refine te_callV mv_Ro_at (ci := 7) (dc := 0) (as := [vI v12]) (rest := []) kMg_94 rfl (Nat.le_of_ble_eq_true rfl) (Nat.le_of_ble_eq_true rfl) rfl rfl e15 f16 (Nat.le_of_ble_eq_true rfl) dMg_readShared_46 (s_Ro_at hw) (fun _ _ hx => False.elim hx) (tk_i fun v18 h17 hw => ?_)
      refine tq_iload_n dMg_readShared_49 rfl rfl ?_
      refine tq_icmpne (tgt := 70) dMg_readShared_50 (by decide) (fun c19 => ?_) (fun c19 => ?_)
      · have hw := hw.1 c19
        refine tq_inc (k := (1 : Int32)) (ls' := [some (vR (some o)), some (vR x1), some (vR x2), some (vI x3), some (vR x4), some (vI x5), some (vI (x6 + (1 : Int32))), some (vI v12)]) dMg_readShared_70 rfl tni_1 (Nat.le_of_ble_eq_true rfl) rfl ?_
        refine tq_goto (tgt := 15) dMg_readShared_73 (by decide) ?_
        refine tpR.fo (ls' := [some (vR (some o)), some (vR x1), some (vR x2), some (vI x3), some (vR x4), some (vI x5), some (vI (x6 + (1 : Int32))), none]) ?_ (And.intro rfl (And.intro rfl (And.intro rfl (And.intro rfl (And.intro rfl (And.intro rfl (And.intro rfl trivial)))))))
        exact ih _ _ _ _ _ _ _ _ hw
      · have hw := hw.2 c19
        refine tq_aload_n dMg_readShared_53 rfl rfl ?_
        refine tq_iload dMg_readShared_54 rfl ?_
        refine tq_iload_n dMg_readShared_56 rfl rfl ?_
        obtain ⟨a20, e21, f22, hw⟩ := hw
        refine te_callV mv_Tr_hasUnder (ci := 11) (dc := 1) (as := [vI v12, vI x3]) (rest := []) kMg_152 rfl (Nat.le_of_ble_eq_true rfl) (Nat.le_of_ble_eq_true rfl) rfl rfl e21 f22 (Nat.le_of_ble_eq_true rfl) dMg_readShared_57 (s_Tr_hasUnder hw) (fun _ _ hx => False.elim hx) (tk_i fun v24 h23 hw => ?_)
        refine tq_ifeq (tgt := 70) dMg_readShared_60 (by decide) (fun c25 => ?_) (fun c25 => ?_)
        · have hw := hw.1 c25
          refine tq_inc (k := (1 : Int32)) (ls' := [some (vR (some o)), some (vR x1), some (vR x2), some (vI x3), some (vR x4), some (vI x5), some (vI (x6 + (1 : Int32))), some (vI v12)]) dMg_readShared_70 rfl tni_1 (Nat.le_of_ble_eq_true rfl) rfl ?_
          refine tq_goto (tgt := 15) dMg_readShared_73 (by decide) ?_
          refine tpR.fo (ls' := [some (vR (some o)), some (vR x1), some (vR x2), some (vI x3), some (vR x4), some (vI x5), some (vI (x6 + (1 : Int32))), none]) ?_ (And.intro rfl (And.intro rfl (And.intro rfl (And.intro rfl (And.intro rfl (And.intro rfl (And.intro rfl trivial)))))))
          exact ih _ _ _ _ _ _ _ _ hw
        · have hw := hw.2 c25
          refine tq_aload dMg_readShared_63 rfl ?_
          refine tq_iload dMg_readShared_65 rfl ?_
          obtain ⟨a26, e27, f28, hw⟩ := hw
          refine te_callV mv_Ro_push (ci := 7) (dc := 4) (as := [vI v12]) (rest := []) kMg_104 rfl (Nat.le_of_ble_eq_true rfl) (Nat.le_of_ble_eq_true rfl) rfl rfl e27 f28 (Nat.le_of_ble_eq_true rfl) dMg_readShared_67 (s_Ro_push hw) (fun _ _ hx => False.elim hx) (tk_v fun h29 hw => ?_)
          refine tq_inc (k := (1 : Int32)) (ls' := [some (vR (some o)), some (vR x1), some (vR x2), some (vI x3), some (vR x4), some (vI x5), some (vI (x6 + (1 : Int32))), some (vI v12)]) dMg_readShared_70 rfl tni_1 (Nat.le_of_ble_eq_true rfl) rfl ?_
          refine tq_goto (tgt := 15) dMg_readShared_73 (by decide) ?_
          refine tpR.fo (ls' := [some (vR (some o)), some (vR x1), some (vR x2), some (vI x3), some (vR x4), some (vI x5), some (vI (x6 + (1 : Int32))), none]) ?_ (And.intro rfl (And.intro rfl (And.intro rfl (And.intro rfl (And.intro rfl (And.intro rfl (And.intro rfl trivial)))))))
          exact ih _ _ _ _ _ _ _ _ hw
theorem s_Mg_readShared {o : Nat} {x1 : Option Nat} {x2 : Option Nat} {x3 : Int32} {x4 : Option Nat} {h : tpH} {R : tpH → Prop} (hw : w_Mg_readShared o x1 x2 x3 x4 h R) : tpC Mg_readShared 5 [vR (some o), vR x1, vR x2, vI x3, vR x4] h (tpOv R (fun _ _ => False)) := by
  refine tpC_of mv_Mg_readShared.2.2.2.1 rfl rfl (Nat.le_of_ble_eq_true rfl) ?_
  show tpR Mg_readShared 5 h _ _ 0 [some (vR (some o)), some (vR x1), some (vR x2), some (vI x3), some (vR x4), none, none, none] [] h
  unfold w_Mg_readShared at hw
  refine tq_aload dMg_readShared_0 rfl ?_
  obtain ⟨a1, e2, f3, hw⟩ := hw
  refine te_callV mv_Ro_clear (ci := 7) (dc := 0) (as := []) (rest := []) kMg_55 rfl (Nat.le_of_ble_eq_true rfl) (Nat.le_of_ble_eq_true rfl) rfl rfl e2 f3 (Nat.le_of_ble_eq_true rfl) dMg_readShared_2 (s_Ro_clear hw) (fun _ _ hx => False.elim hx) (tk_v fun h4 hw => ?_)
  refine tq_aload_n dMg_readShared_5 rfl rfl ?_
  refine tq_iload_n dMg_readShared_6 rfl rfl ?_
  obtain ⟨a5, e6, f7, hw⟩ := hw
  refine te_callV mv_Tr_placeOf (ci := 11) (dc := 1) (as := [vI x3]) (rest := []) kMg_143 rfl (Nat.le_of_ble_eq_true rfl) (Nat.le_of_ble_eq_true rfl) rfl rfl e6 f7 (Nat.le_of_ble_eq_true rfl) dMg_readShared_7 (s_Tr_placeOf hw) (fun _ _ hx => False.elim hx) (tk_i fun v9 h8 hw => ?_)
  refine tq_istore (ls' := [some (vR (some o)), some (vR x1), some (vR x2), some (vI x3), some (vR x4), some (vI v9), none, none]) dMg_readShared_10 (Nat.le_of_ble_eq_true rfl) rfl ?_
  refine tq_iconst (v := (0 : Int32)) dMg_readShared_12 tni_0 ?_
  refine tq_istore (ls' := [some (vR (some o)), some (vR x1), some (vR x2), some (vI x3), some (vR x4), some (vI v9), some (vI (0 : Int32)), none]) dMg_readShared_13 (Nat.le_of_ble_eq_true rfl) rfl ?_
  refine tpR.fo (ls' := [some (vR (some o)), some (vR x1), some (vR x2), some (vI x3), some (vR x4), some (vI v9), some (vI (0 : Int32)), none]) ?_ (And.intro rfl (And.intro rfl (And.intro rfl (And.intro rfl (And.intro rfl (And.intro rfl (And.intro rfl trivial)))))))
  obtain ⟨n, hw⟩ := hw
  exact s_Mg_readShared_15 n _ _ _ _ _ _ _ _ hw
/-! T$Merger.isTurned -/
theorem dMg_isTurned_0 : decode (mB Mg_isTurned) 0 = .ok (.iconst 1, 1) := by decide +kernel
theorem dMg_isTurned_1 : decode (mB Mg_isTurned) 1 = .ok (.istore_n 3, 1) := by decide +kernel
theorem dMg_isTurned_2 : decode (mB Mg_isTurned) 2 = .ok (.iload_n 3, 1) := by decide +kernel
theorem dMg_isTurned_3 : decode (mB Mg_isTurned) 3 = .ok (.aload_n 2, 1) := by decide +kernel
theorem dMg_isTurned_4 : decode (mB Mg_isTurned) 4 = .ok (.getfield 206, 3) := by decide +kernel
theorem dMg_isTurned_7 : decode (mB Mg_isTurned) 7 = .ok (.if_icmp .ge 34, 3) := by decide +kernel
theorem dMg_isTurned_10 : decode (mB Mg_isTurned) 10 = .ok (.aload_n 1, 1) := by decide +kernel
theorem dMg_isTurned_11 : decode (mB Mg_isTurned) 11 = .ok (.aload_n 2, 1) := by decide +kernel
theorem dMg_isTurned_12 : decode (mB Mg_isTurned) 12 = .ok (.iload_n 3, 1) := by decide +kernel
theorem dMg_isTurned_13 : decode (mB Mg_isTurned) 13 = .ok (.invokevirtual 94, 3) := by decide +kernel
theorem dMg_isTurned_16 : decode (mB Mg_isTurned) 16 = .ok (.invokevirtual 143, 3) := by decide +kernel
theorem dMg_isTurned_19 : decode (mB Mg_isTurned) 19 = .ok (.aload_n 1, 1) := by decide +kernel
theorem dMg_isTurned_20 : decode (mB Mg_isTurned) 20 = .ok (.aload_n 2, 1) := by decide +kernel
theorem dMg_isTurned_21 : decode (mB Mg_isTurned) 21 = .ok (.iload_n 3, 1) := by decide +kernel
theorem dMg_isTurned_22 : decode (mB Mg_isTurned) 22 = .ok (.iconst 1, 1) := by decide +kernel
theorem dMg_isTurned_23 : decode (mB Mg_isTurned) 23 = .ok (.isub, 1) := by decide +kernel
theorem dMg_isTurned_24 : decode (mB Mg_isTurned) 24 = .ok (.invokevirtual 94, 3) := by decide +kernel
theorem dMg_isTurned_27 : decode (mB Mg_isTurned) 27 = .ok (.invokevirtual 143, 3) := by decide +kernel
theorem dMg_isTurned_30 : decode (mB Mg_isTurned) 30 = .ok (.if_icmp .ge 5, 3) := by decide +kernel
theorem dMg_isTurned_33 : decode (mB Mg_isTurned) 33 = .ok (.iconst 1, 1) := by decide +kernel
theorem dMg_isTurned_34 : decode (mB Mg_isTurned) 34 = .ok (.ireturn, 1) := by decide +kernel
theorem dMg_isTurned_35 : decode (mB Mg_isTurned) 35 = .ok (.iinc 3 1, 3) := by decide +kernel
theorem dMg_isTurned_38 : decode (mB Mg_isTurned) 38 = .ok (.goto (-36), 3) := by decide +kernel
theorem dMg_isTurned_41 : decode (mB Mg_isTurned) 41 = .ok (.iconst 0, 1) := by decide +kernel
theorem dMg_isTurned_42 : decode (mB Mg_isTurned) 42 = .ok (.ireturn, 1) := by decide +kernel
def b_Mg_isTurned_2 (R : Int32 → tpH → Prop) (Y : (Option Nat) → (Option Nat) → Int32 → tpH → Prop) (x1 : Option Nat) (x2 : Option Nat) (x3 : Int32) (h : tpH) : Prop :=
  ∃ a1, x2 = some a1 ∧ hT h a1 = 8 ∧ (((hI h a1 1) ≤ x3 → (R (0 : Int32) h)) ∧ (¬ (hI h a1 1) ≤ x3 → (w_Ro_at a1 x3 h (fun v6 h5 => ∃ a7, x1 = some a7 ∧ hT h5 a7 = 12 ∧ (w_Tr_placeOf a7 v6 h5 (fun v11 h10 => hT h10 a1 = 8 ∧ (w_Ro_at a1 (x3 - (1 : Int32)) h10 (fun v14 h13 => hT h13 a7 = 12 ∧ (w_Tr_placeOf a7 v14 h13 (fun v17 h16 => (v17 ≤ v11 → (Y x1 x2 (x3 + (1 : Int32)) h16)) ∧ (¬ v17 ≤ v11 → (R (1 : Int32) h16))))))))))))
def w_Mg_isTurned_2 (R : Int32 → tpH → Prop) : Nat → (Option Nat) → (Option Nat) → Int32 → tpH → Prop
  | 0 => fun _ _ _ _ => False
  | n + 1 => b_Mg_isTurned_2 R (w_Mg_isTurned_2 R n)
def w_Mg_isTurned (o : Nat) (x1 : Option Nat) (x2 : Option Nat) (h : tpH) (R : Int32 → tpH → Prop) : Prop :=
  ∃ n, w_Mg_isTurned_2 R n x1 x2 (1 : Int32) h
theorem s_Mg_isTurned_2 {h0 : tpH} {av : List tpV} {R : Int32 → tpH → Prop} : ∀ (n : Nat) (x1 : Option Nat) (x2 : Option Nat) (x3 : Int32) (h : tpH), w_Mg_isTurned_2 R n x1 x2 x3 h → tpR Mg_isTurned 2 h0 av (tpOi R (fun _ _ => False)) 2 [none, some (vR x1), some (vR x2), some (vI x3)] [] h := by
  intro n
  induction n with
  | zero => intro x1 x2 x3 h hw; exact False.elim hw
  | succ n ih =>
    intro x1 x2 x3 h hw
    change b_Mg_isTurned_2 R (w_Mg_isTurned_2 R n) x1 x2 x3 h at hw
    unfold b_Mg_isTurned_2 at hw
    refine tq_iload_n dMg_isTurned_2 rfl rfl ?_
    refine tq_aload_n dMg_isTurned_3 rfl rfl ?_
    obtain ⟨a1, e2, f3, hw⟩ := hw
    refine te_geti dMg_isTurned_4 fMg_206 rfl e2 f3 ?_
    refine tq_icmpge (tgt := 41) dMg_isTurned_7 (by decide) (fun c4 => ?_) (fun c4 => ?_)
    · have hw := hw.1 c4
      refine tq_iconst (v := (0 : Int32)) dMg_isTurned_41 tni_0 ?_
      exact tq_iret rfl (by decide) dMg_isTurned_42 hw
    · have hw := hw.2 c4
      refine tq_aload_n dMg_isTurned_10 rfl rfl ?_
      refine tq_aload_n dMg_isTurned_11 rfl rfl ?_
      refine tq_iload_n dMg_isTurned_12 rfl rfl ?_
      refine te_callV mv_Ro_at (ci := 7) (dc := 0) (as := [vI x3]) (rest := [vR x1]) kMg_94 rfl (Nat.le_of_ble_eq_true rfl) (Nat.le_of_ble_eq_true rfl) rfl rfl e2 f3 (Nat.le_of_ble_eq_true rfl) dMg_isTurned_13 (s_Ro_at hw) (fun _ _ hx => False.elim hx) (tk_i fun v6 h5 hw => ?_)
      obtain ⟨a7, e8, f9, hw⟩ := hw
      refine te_callV mv_Tr_placeOf (ci := 11) (dc := 1) (as := [vI v6]) (rest := []) kMg_143 rfl (Nat.le_of_ble_eq_true rfl) (Nat.le_of_ble_eq_true rfl) rfl rfl e8 f9 (Nat.le_of_ble_eq_true rfl) dMg_isTurned_16 (s_Tr_placeOf hw) (fun _ _ hx => False.elim hx) (tk_i fun v11 h10 hw => ?_)
      refine tq_aload_n dMg_isTurned_19 rfl rfl ?_
      refine tq_aload_n dMg_isTurned_20 rfl rfl ?_
      refine tq_iload_n dMg_isTurned_21 rfl rfl ?_
      refine tq_iconst (v := (1 : Int32)) dMg_isTurned_22 tni_1 ?_
      refine tq_isub dMg_isTurned_23 ?_
      obtain ⟨f12, hw⟩ := hw
      refine te_callV mv_Ro_at (ci := 7) (dc := 0) (as := [vI (x3 - (1 : Int32))]) (rest := [vR x1, vI v11]) kMg_94 rfl (Nat.le_of_ble_eq_true rfl) (Nat.le_of_ble_eq_true rfl) rfl rfl e2 f12 (Nat.le_of_ble_eq_true rfl) dMg_isTurned_24 (s_Ro_at hw) (fun _ _ hx => False.elim hx) (tk_i fun v14 h13 hw => ?_)
      obtain ⟨f15, hw⟩ := hw
      refine te_callV mv_Tr_placeOf (ci := 11) (dc := 1) (as := [vI v14]) (rest := [vI v11]) kMg_143 rfl (Nat.le_of_ble_eq_true rfl) (Nat.le_of_ble_eq_true rfl) rfl rfl e8 f15 (Nat.le_of_ble_eq_true rfl) dMg_isTurned_27 (s_Tr_placeOf hw) (fun _ _ hx => False.elim hx) (tk_i fun v17 h16 hw => ?_)
      refine tq_icmpge (tgt := 35) dMg_isTurned_30 (by decide) (fun c18 => ?_) (fun c18 => ?_)
      · have hw := hw.1 c18
        refine tq_inc (k := (1 : Int32)) (ls' := [none, some (vR x1), some (vR x2), some (vI (x3 + (1 : Int32)))]) dMg_isTurned_35 rfl tni_1 (Nat.le_of_ble_eq_true rfl) rfl ?_
        refine tq_goto (tgt := 2) dMg_isTurned_38 (by decide) ?_
        refine tpR.fo (ls' := [none, some (vR x1), some (vR x2), some (vI (x3 + (1 : Int32)))]) ?_ (And.intro rfl (And.intro rfl (And.intro rfl trivial)))
        exact ih _ _ _ _ hw
      · have hw := hw.2 c18
        refine tq_iconst (v := (1 : Int32)) dMg_isTurned_33 tni_1 ?_
        exact tq_iret rfl (by decide) dMg_isTurned_34 hw
theorem s_Mg_isTurned {o : Nat} {x1 : Option Nat} {x2 : Option Nat} {h : tpH} {R : Int32 → tpH → Prop} (hw : w_Mg_isTurned o x1 x2 h R) : tpC Mg_isTurned 2 [vR (some o), vR x1, vR x2] h (tpOi R (fun _ _ => False)) := by
  refine tpC_of mv_Mg_isTurned.2.2.2.1 rfl rfl (Nat.le_of_ble_eq_true rfl) ?_
  show tpR Mg_isTurned 2 h _ _ 0 [some (vR (some o)), some (vR x1), some (vR x2), none] [] h
  unfold w_Mg_isTurned at hw
  refine tq_iconst (v := (1 : Int32)) dMg_isTurned_0 tni_1 ?_
  refine tq_istore_n (ls' := [some (vR (some o)), some (vR x1), some (vR x2), some (vI (1 : Int32))]) dMg_isTurned_1 rfl (Nat.le_of_ble_eq_true rfl) rfl ?_
  refine tpR.fo (ls' := [none, some (vR x1), some (vR x2), some (vI (1 : Int32))]) ?_ (And.intro rfl (And.intro rfl (And.intro rfl trivial)))
  obtain ⟨n, hw⟩ := hw
  exact s_Mg_isTurned_2 n _ _ _ _ hw
/-! T$Merger.leader -/
theorem dMg_leader_0 : decode (mB Mg_leader) 0 = .ok (.aload_n 0, 1) := by decide +kernel
theorem dMg_leader_1 : decode (mB Mg_leader) 1 = .ok (.aload_n 1, 1) := by decide +kernel
theorem dMg_leader_2 : decode (mB Mg_leader) 2 = .ok (.aload_n 0, 1) := by decide +kernel
theorem dMg_leader_3 : decode (mB Mg_leader) 3 = .ok (.getfield 35, 3) := by decide +kernel
theorem dMg_leader_6 : decode (mB Mg_leader) 6 = .ok (.invokevirtual 198, 3) := by decide +kernel
theorem dMg_leader_9 : decode (mB Mg_leader) 9 = .ok (.ifCond .ne 8, 3) := by decide +kernel
theorem dMg_leader_12 : decode (mB Mg_leader) 12 = .ok (.aload_n 0, 1) := by decide +kernel
theorem dMg_leader_13 : decode (mB Mg_leader) 13 = .ok (.getfield 38, 3) := by decide +kernel
theorem dMg_leader_16 : decode (mB Mg_leader) 16 = .ok (.areturn, 1) := by decide +kernel
theorem dMg_leader_17 : decode (mB Mg_leader) 17 = .ok (.aload_n 0, 1) := by decide +kernel
theorem dMg_leader_18 : decode (mB Mg_leader) 18 = .ok (.aload_n 1, 1) := by decide +kernel
theorem dMg_leader_19 : decode (mB Mg_leader) 19 = .ok (.aload_n 0, 1) := by decide +kernel
theorem dMg_leader_20 : decode (mB Mg_leader) 20 = .ok (.getfield 38, 3) := by decide +kernel
theorem dMg_leader_23 : decode (mB Mg_leader) 23 = .ok (.invokevirtual 198, 3) := by decide +kernel
theorem dMg_leader_26 : decode (mB Mg_leader) 26 = .ok (.ifCond .eq 17, 3) := by decide +kernel
theorem dMg_leader_29 : decode (mB Mg_leader) 29 = .ok (.aload_n 0, 1) := by decide +kernel
theorem dMg_leader_30 : decode (mB Mg_leader) 30 = .ok (.getfield 35, 3) := by decide +kernel
theorem dMg_leader_33 : decode (mB Mg_leader) 33 = .ok (.aload_n 0, 1) := by decide +kernel
theorem dMg_leader_34 : decode (mB Mg_leader) 34 = .ok (.getfield 38, 3) := by decide +kernel
theorem dMg_leader_37 : decode (mB Mg_leader) 37 = .ok (.invokevirtual 202, 3) := by decide +kernel
theorem dMg_leader_40 : decode (mB Mg_leader) 40 = .ok (.ifCond .eq 8, 3) := by decide +kernel
theorem dMg_leader_43 : decode (mB Mg_leader) 43 = .ok (.aload_n 0, 1) := by decide +kernel
theorem dMg_leader_44 : decode (mB Mg_leader) 44 = .ok (.getfield 35, 3) := by decide +kernel
theorem dMg_leader_47 : decode (mB Mg_leader) 47 = .ok (.areturn, 1) := by decide +kernel
theorem dMg_leader_48 : decode (mB Mg_leader) 48 = .ok (.aload_n 0, 1) := by decide +kernel
theorem dMg_leader_49 : decode (mB Mg_leader) 49 = .ok (.iconst 5, 1) := by decide +kernel
theorem dMg_leader_50 : decode (mB Mg_leader) 50 = .ok (.iload_n 2, 1) := by decide +kernel
theorem dMg_leader_51 : decode (mB Mg_leader) 51 = .ok (.invokevirtual 132, 3) := by decide +kernel
theorem dMg_leader_54 : decode (mB Mg_leader) 54 = .ok (.aload_n 0, 1) := by decide +kernel
theorem dMg_leader_55 : decode (mB Mg_leader) 55 = .ok (.getfield 14, 3) := by decide +kernel
theorem dMg_leader_58 : decode (mB Mg_leader) 58 = .ok (.iconst 5, 1) := by decide +kernel
theorem dMg_leader_59 : decode (mB Mg_leader) 59 = .ok (.invokevirtual 94, 3) := by decide +kernel
theorem dMg_leader_62 : decode (mB Mg_leader) 62 = .ok (.istore_n 3, 1) := by decide +kernel
theorem dMg_leader_63 : decode (mB Mg_leader) 63 = .ok (.iload_n 3, 1) := by decide +kernel
theorem dMg_leader_64 : decode (mB Mg_leader) 64 = .ok (.iconst 1, 1) := by decide +kernel
theorem dMg_leader_65 : decode (mB Mg_leader) 65 = .ok (.if_icmp .ne 10, 3) := by decide +kernel
theorem dMg_leader_68 : decode (mB Mg_leader) 68 = .ok (.aload_n 0, 1) := by decide +kernel
theorem dMg_leader_69 : decode (mB Mg_leader) 69 = .ok (.getfield 35, 3) := by decide +kernel
theorem dMg_leader_72 : decode (mB Mg_leader) 72 = .ok (.goto 19, 3) := by decide +kernel
theorem dMg_leader_75 : decode (mB Mg_leader) 75 = .ok (.iload_n 3, 1) := by decide +kernel
theorem dMg_leader_76 : decode (mB Mg_leader) 76 = .ok (.iconst 2, 1) := by decide +kernel
theorem dMg_leader_77 : decode (mB Mg_leader) 77 = .ok (.if_icmp .ne 10, 3) := by decide +kernel
theorem dMg_leader_80 : decode (mB Mg_leader) 80 = .ok (.aload_n 0, 1) := by decide +kernel
theorem dMg_leader_81 : decode (mB Mg_leader) 81 = .ok (.getfield 38, 3) := by decide +kernel
theorem dMg_leader_84 : decode (mB Mg_leader) 84 = .ok (.goto 7, 3) := by decide +kernel
theorem dMg_leader_87 : decode (mB Mg_leader) 87 = .ok (.aload_n 0, 1) := by decide +kernel
theorem dMg_leader_88 : decode (mB Mg_leader) 88 = .ok (.getfield 32, 3) := by decide +kernel
theorem dMg_leader_91 : decode (mB Mg_leader) 91 = .ok (.areturn, 1) := by decide +kernel
def w_Mg_leader (o : Nat) (x1 : Option Nat) (x2 : Int32) (h : tpH) (R : Option Nat → tpH → Prop) : Prop :=
  hT h o = 7 ∧ (w_Mg_isTurned o x1 (hR h o 8) h (fun v3 h2 => (¬ v3 = 0 → (hT h2 o = 7 ∧ (w_Mg_isTurned o x1 (hR h2 o 9) h2 (fun v7 h6 => (v7 = 0 → (hT h6 o = 7 ∧ (R (hR h6 o 8) h6))) ∧ (¬ v7 = 0 → (hT h6 o = 7 ∧ (∃ a11, (hR h6 o 8) = some a11 ∧ hT h6 a11 = 8 ∧ (w_Ro_hasSamePushed a11 (hR h6 o 9) h6 (fun v15 h14 => (v15 = 0 → (hT h14 o = 7 ∧ (w_Mg_list o (5 : Int32) x2 h14 (fun h18 => hT h18 o = 7 ∧ (∃ a20, (hR h18 o 2) = some a20 ∧ hT h18 a20 = 8 ∧ (w_Ro_at a20 (5 : Int32) h18 (fun v24 h23 => (¬ v24 = (1 : Int32) → ((¬ v24 = (2 : Int32) → (hT h23 o = 7 ∧ (R (hR h23 o 7) h23))) ∧ (v24 = (2 : Int32) → (hT h23 o = 7 ∧ (R (hR h23 o 9) h23))))) ∧ (v24 = (1 : Int32) → (hT h23 o = 7 ∧ (R (hR h23 o 8) h23)))))))))) ∧ (¬ v15 = 0 → (hT h14 o = 7 ∧ (R (hR h14 o 8) h14)))))))))))) ∧ (v3 = 0 → (hT h2 o = 7 ∧ (R (hR h2 o 9) h2)))))
theorem s_Mg_leader {o : Nat} {x1 : Option Nat} {x2 : Int32} {h : tpH} {R : Option Nat → tpH → Prop} (hw : w_Mg_leader o x1 x2 h R) : tpC Mg_leader 6 [vR (some o), vR x1, vI x2] h (tpOr R (fun _ _ => False)) := by
  refine tpC_of mv_Mg_leader.2.2.2.1 rfl rfl (Nat.le_of_ble_eq_true rfl) ?_
  show tpR Mg_leader 6 h _ _ 0 [some (vR (some o)), some (vR x1), some (vI x2), none] [] h
  unfold w_Mg_leader at hw
  refine tq_aload_n dMg_leader_0 rfl rfl ?_
  refine tq_aload_n dMg_leader_1 rfl rfl ?_
  refine tq_aload_n dMg_leader_2 rfl rfl ?_
  obtain ⟨f1, hw⟩ := hw
  refine te_getr dMg_leader_3 fMg_35 rfl rfl f1 ?_
  refine te_callV mv_Mg_isTurned (ci := 6) (dc := 2) (as := [vR x1, vR (hR h o 8)]) (rest := []) kMg_198 rfl (Nat.le_of_ble_eq_true rfl) (Nat.le_of_ble_eq_true rfl) rfl rfl rfl f1 (Nat.le_of_ble_eq_true rfl) dMg_leader_6 (s_Mg_isTurned hw) (fun _ _ hx => False.elim hx) (tk_i fun v3 h2 hw => ?_)
  refine tq_ifne (tgt := 17) dMg_leader_9 (by decide) (fun c4 => ?_) (fun c4 => ?_)
  · have hw := hw.1 c4
    refine tq_aload_n dMg_leader_17 rfl rfl ?_
    refine tq_aload_n dMg_leader_18 rfl rfl ?_
    refine tq_aload_n dMg_leader_19 rfl rfl ?_
    obtain ⟨f5, hw⟩ := hw
    refine te_getr dMg_leader_20 fMg_38 rfl rfl f5 ?_
    refine te_callV mv_Mg_isTurned (ci := 6) (dc := 2) (as := [vR x1, vR (hR h2 o 9)]) (rest := []) kMg_198 rfl (Nat.le_of_ble_eq_true rfl) (Nat.le_of_ble_eq_true rfl) rfl rfl rfl f5 (Nat.le_of_ble_eq_true rfl) dMg_leader_23 (s_Mg_isTurned hw) (fun _ _ hx => False.elim hx) (tk_i fun v7 h6 hw => ?_)
    refine tq_ifeq (tgt := 43) dMg_leader_26 (by decide) (fun c8 => ?_) (fun c8 => ?_)
    · have hw := hw.1 c8
      refine tq_aload_n dMg_leader_43 rfl rfl ?_
      obtain ⟨f9, hw⟩ := hw
      refine te_getr dMg_leader_44 fMg_35 rfl rfl f9 ?_
      exact tq_aret rfl rfl dMg_leader_47 hw
    · have hw := hw.2 c8
      refine tq_aload_n dMg_leader_29 rfl rfl ?_
      obtain ⟨f10, hw⟩ := hw
      refine te_getr dMg_leader_30 fMg_35 rfl rfl f10 ?_
      refine tq_aload_n dMg_leader_33 rfl rfl ?_
      refine te_getr dMg_leader_34 fMg_38 rfl rfl f10 ?_
      obtain ⟨a11, e12, f13, hw⟩ := hw
      refine te_callV mv_Ro_hasSamePushed (ci := 7) (dc := 1) (as := [vR (hR h6 o 9)]) (rest := []) kMg_202 rfl (Nat.le_of_ble_eq_true rfl) (Nat.le_of_ble_eq_true rfl) rfl rfl e12 f13 (Nat.le_of_ble_eq_true rfl) dMg_leader_37 (s_Ro_hasSamePushed hw) (fun _ _ hx => False.elim hx) (tk_i fun v15 h14 hw => ?_)
      refine tq_ifeq (tgt := 48) dMg_leader_40 (by decide) (fun c16 => ?_) (fun c16 => ?_)
      · have hw := hw.1 c16
        refine tq_aload_n dMg_leader_48 rfl rfl ?_
        refine tq_iconst (v := (5 : Int32)) dMg_leader_49 tni_5 ?_
        refine tq_iload_n dMg_leader_50 rfl rfl ?_
        obtain ⟨f17, hw⟩ := hw
        refine te_callV mv_Mg_list (ci := 6) (dc := 5) (as := [vI (5 : Int32), vI x2]) (rest := []) kMg_132 rfl (Nat.le_of_ble_eq_true rfl) (Nat.le_of_ble_eq_true rfl) rfl rfl rfl f17 (Nat.le_of_ble_eq_true rfl) dMg_leader_51 (s_Mg_list hw) (fun _ _ hx => False.elim hx) (tk_v fun h18 hw => ?_)
        refine tq_aload_n dMg_leader_54 rfl rfl ?_
        obtain ⟨f19, hw⟩ := hw
        refine te_getr dMg_leader_55 fMg_14 rfl rfl f19 ?_
        refine tq_iconst (v := (5 : Int32)) dMg_leader_58 tni_5 ?_
        obtain ⟨a20, e21, f22, hw⟩ := hw
        refine te_callV mv_Ro_at (ci := 7) (dc := 0) (as := [vI (5 : Int32)]) (rest := []) kMg_94 rfl (Nat.le_of_ble_eq_true rfl) (Nat.le_of_ble_eq_true rfl) rfl rfl e21 f22 (Nat.le_of_ble_eq_true rfl) dMg_leader_59 (s_Ro_at hw) (fun _ _ hx => False.elim hx) (tk_i fun v24 h23 hw => ?_)
        refine tq_istore_n (ls' := [some (vR (some o)), some (vR x1), some (vI x2), some (vI v24)]) dMg_leader_62 rfl (Nat.le_of_ble_eq_true rfl) rfl ?_
        refine tq_iload_n dMg_leader_63 rfl rfl ?_
        refine tq_iconst (v := (1 : Int32)) dMg_leader_64 tni_1 ?_
        refine tq_icmpne (tgt := 75) dMg_leader_65 (by decide) (fun c25 => ?_) (fun c25 => ?_)
        · have hw := hw.1 c25
          refine tq_iload_n dMg_leader_75 rfl rfl ?_
          refine tq_iconst (v := (2 : Int32)) dMg_leader_76 tni_2 ?_
          refine tq_icmpne (tgt := 87) dMg_leader_77 (by decide) (fun c26 => ?_) (fun c26 => ?_)
          · have hw := hw.1 c26
            refine tq_aload_n dMg_leader_87 rfl rfl ?_
            obtain ⟨f27, hw⟩ := hw
            refine te_getr dMg_leader_88 fMg_32 rfl rfl f27 ?_
            exact tq_aret rfl rfl dMg_leader_91 hw
          · have hw := hw.2 c26
            refine tq_aload_n dMg_leader_80 rfl rfl ?_
            obtain ⟨f28, hw⟩ := hw
            refine te_getr dMg_leader_81 fMg_38 rfl rfl f28 ?_
            refine tq_goto (tgt := 91) dMg_leader_84 (by decide) ?_
            exact tq_aret rfl rfl dMg_leader_91 hw
        · have hw := hw.2 c25
          refine tq_aload_n dMg_leader_68 rfl rfl ?_
          obtain ⟨f29, hw⟩ := hw
          refine te_getr dMg_leader_69 fMg_35 rfl rfl f29 ?_
          refine tq_goto (tgt := 91) dMg_leader_72 (by decide) ?_
          exact tq_aret rfl rfl dMg_leader_91 hw
      · have hw := hw.2 c16
        refine tq_aload_n dMg_leader_43 rfl rfl ?_
        obtain ⟨f30, hw⟩ := hw
        refine te_getr dMg_leader_44 fMg_35 rfl rfl f30 ?_
        exact tq_aret rfl rfl dMg_leader_47 hw
  · have hw := hw.2 c4
    refine tq_aload_n dMg_leader_12 rfl rfl ?_
    obtain ⟨f31, hw⟩ := hw
    refine te_getr dMg_leader_13 fMg_38 rfl rfl f31 ?_
    exact tq_aret rfl rfl dMg_leader_16 hw
/-! T$Merger.hangShared -/
theorem dMg_hangShared_0 : decode (mB Mg_hangShared) 0 = .ok (.iconst 0, 1) := by decide +kernel
theorem dMg_hangShared_1 : decode (mB Mg_hangShared) 1 = .ok (.istore_n 3, 1) := by decide +kernel
theorem dMg_hangShared_2 : decode (mB Mg_hangShared) 2 = .ok (.iload_n 3, 1) := by decide +kernel
theorem dMg_hangShared_3 : decode (mB Mg_hangShared) 3 = .ok (.aload_n 1, 1) := by decide +kernel
theorem dMg_hangShared_4 : decode (mB Mg_hangShared) 4 = .ok (.getfield 206, 3) := by decide +kernel
theorem dMg_hangShared_7 : decode (mB Mg_hangShared) 7 = .ok (.if_icmp .ge 30, 3) := by decide +kernel
theorem dMg_hangShared_10 : decode (mB Mg_hangShared) 10 = .ok (.aload_n 0, 1) := by decide +kernel
theorem dMg_hangShared_11 : decode (mB Mg_hangShared) 11 = .ok (.getfield 51, 3) := by decide +kernel
theorem dMg_hangShared_14 : decode (mB Mg_hangShared) 14 = .ok (.aload_n 1, 1) := by decide +kernel
theorem dMg_hangShared_15 : decode (mB Mg_hangShared) 15 = .ok (.iload_n 3, 1) := by decide +kernel
theorem dMg_hangShared_16 : decode (mB Mg_hangShared) 16 = .ok (.invokevirtual 94, 3) := by decide +kernel
theorem dMg_hangShared_19 : decode (mB Mg_hangShared) 19 = .ok (.iload_n 2, 1) := by decide +kernel
theorem dMg_hangShared_20 : decode (mB Mg_hangShared) 20 = .ok (.aload_n 0, 1) := by decide +kernel
theorem dMg_hangShared_21 : decode (mB Mg_hangShared) 21 = .ok (.getfield 51, 3) := by decide +kernel
theorem dMg_hangShared_24 : decode (mB Mg_hangShared) 24 = .ok (.iload_n 2, 1) := by decide +kernel
theorem dMg_hangShared_25 : decode (mB Mg_hangShared) 25 = .ok (.invokevirtual 209, 3) := by decide +kernel
theorem dMg_hangShared_28 : decode (mB Mg_hangShared) 28 = .ok (.invokevirtual 195, 3) := by decide +kernel
theorem dMg_hangShared_31 : decode (mB Mg_hangShared) 31 = .ok (.iinc 3 1, 3) := by decide +kernel
theorem dMg_hangShared_34 : decode (mB Mg_hangShared) 34 = .ok (.goto (-32), 3) := by decide +kernel
theorem dMg_hangShared_37 : decode (mB Mg_hangShared) 37 = .ok (.iconst (-1), 1) := by decide +kernel
theorem dMg_hangShared_38 : decode (mB Mg_hangShared) 38 = .ok (.istore_n 3, 1) := by decide +kernel
theorem dMg_hangShared_39 : decode (mB Mg_hangShared) 39 = .ok (.iconst 0, 1) := by decide +kernel
theorem dMg_hangShared_40 : decode (mB Mg_hangShared) 40 = .ok (.istore 4, 2) := by decide +kernel
theorem dMg_hangShared_42 : decode (mB Mg_hangShared) 42 = .ok (.iload 4, 2) := by decide +kernel
theorem dMg_hangShared_44 : decode (mB Mg_hangShared) 44 = .ok (.aload_n 0, 1) := by decide +kernel
theorem dMg_hangShared_45 : decode (mB Mg_hangShared) 45 = .ok (.getfield 32, 3) := by decide +kernel
theorem dMg_hangShared_48 : decode (mB Mg_hangShared) 48 = .ok (.getfield 206, 3) := by decide +kernel
theorem dMg_hangShared_51 : decode (mB Mg_hangShared) 51 = .ok (.if_icmp .ge 47, 3) := by decide +kernel
theorem dMg_hangShared_54 : decode (mB Mg_hangShared) 54 = .ok (.aload_n 0, 1) := by decide +kernel
theorem dMg_hangShared_55 : decode (mB Mg_hangShared) 55 = .ok (.getfield 32, 3) := by decide +kernel
theorem dMg_hangShared_58 : decode (mB Mg_hangShared) 58 = .ok (.iload 4, 2) := by decide +kernel
theorem dMg_hangShared_60 : decode (mB Mg_hangShared) 60 = .ok (.invokevirtual 94, 3) := by decide +kernel
theorem dMg_hangShared_63 : decode (mB Mg_hangShared) 63 = .ok (.istore 5, 2) := by decide +kernel
theorem dMg_hangShared_65 : decode (mB Mg_hangShared) 65 = .ok (.aload_n 0, 1) := by decide +kernel
theorem dMg_hangShared_66 : decode (mB Mg_hangShared) 66 = .ok (.getfield 51, 3) := by decide +kernel
theorem dMg_hangShared_69 : decode (mB Mg_hangShared) 69 = .ok (.iload 5, 2) := by decide +kernel
theorem dMg_hangShared_71 : decode (mB Mg_hangShared) 71 = .ok (.iload_n 2, 1) := by decide +kernel
theorem dMg_hangShared_72 : decode (mB Mg_hangShared) 72 = .ok (.invokevirtual 188, 3) := by decide +kernel
theorem dMg_hangShared_75 : decode (mB Mg_hangShared) 75 = .ok (.ifCond .ne 14, 3) := by decide +kernel
theorem dMg_hangShared_78 : decode (mB Mg_hangShared) 78 = .ok (.aload_n 0, 1) := by decide +kernel
theorem dMg_hangShared_79 : decode (mB Mg_hangShared) 79 = .ok (.getfield 51, 3) := by decide +kernel
theorem dMg_hangShared_82 : decode (mB Mg_hangShared) 82 = .ok (.iload 5, 2) := by decide +kernel
theorem dMg_hangShared_84 : decode (mB Mg_hangShared) 84 = .ok (.iload_n 2, 1) := by decide +kernel
theorem dMg_hangShared_85 : decode (mB Mg_hangShared) 85 = .ok (.iload_n 3, 1) := by decide +kernel
theorem dMg_hangShared_86 : decode (mB Mg_hangShared) 86 = .ok (.invokevirtual 195, 3) := by decide +kernel
theorem dMg_hangShared_89 : decode (mB Mg_hangShared) 89 = .ok (.iload 5, 2) := by decide +kernel
theorem dMg_hangShared_91 : decode (mB Mg_hangShared) 91 = .ok (.istore_n 3, 1) := by decide +kernel
theorem dMg_hangShared_92 : decode (mB Mg_hangShared) 92 = .ok (.iinc 4 1, 3) := by decide +kernel
theorem dMg_hangShared_95 : decode (mB Mg_hangShared) 95 = .ok (.goto (-53), 3) := by decide +kernel
theorem dMg_hangShared_98 : decode (mB Mg_hangShared) 98 = .ok (.return_, 1) := by decide +kernel
def b_Mg_hangShared_42 (R : tpH → Prop) (Y : Nat → Int32 → Int32 → Int32 → tpH → Prop) (o : Nat) (x2 : Int32) (x3 : Int32) (x4 : Int32) (h : tpH) : Prop :=
  hT h o = 7 ∧ (∃ a2, (hR h o 7) = some a2 ∧ hT h a2 = 8 ∧ (((hI h a2 1) ≤ x4 → (R h)) ∧ (¬ (hI h a2 1) ≤ x4 → (w_Ro_at a2 x4 h (fun v7 h6 => hT h6 o = 7 ∧ (∃ a9, (hR h6 o 1) = some a9 ∧ hT h6 a9 = 1 ∧ (w_Bu_isChild a9 v7 x2 h6 (fun v13 h12 => (¬ v13 = 0 → (Y o x2 v7 (x4 + (1 : Int32)) h12)) ∧ (v13 = 0 → (hT h12 o = 7 ∧ (∃ a16, (hR h12 o 1) = some a16 ∧ hT h12 a16 = 1 ∧ (w_Bu_hang a16 v7 x2 x3 h12 (fun h19 => Y o x2 v7 (x4 + (1 : Int32)) h19)))))))))))))
def w_Mg_hangShared_42 (R : tpH → Prop) : Nat → Nat → Int32 → Int32 → Int32 → tpH → Prop
  | 0 => fun _ _ _ _ _ => False
  | n + 1 => b_Mg_hangShared_42 R (w_Mg_hangShared_42 R n)
def b_Mg_hangShared_2 (R : tpH → Prop) (Y : Nat → (Option Nat) → Int32 → Int32 → tpH → Prop) (o : Nat) (x1 : Option Nat) (x2 : Int32) (x3 : Int32) (h : tpH) : Prop :=
  ∃ a1, x1 = some a1 ∧ hT h a1 = 8 ∧ (((hI h a1 1) ≤ x3 → (∃ n, w_Mg_hangShared_42 R n o x2 (-1 : Int32) (0 : Int32) h)) ∧ (¬ (hI h a1 1) ≤ x3 → (hT h o = 7 ∧ (w_Ro_at a1 x3 h (fun v7 h6 => hT h6 o = 7 ∧ (∃ a9, (hR h6 o 1) = some a9 ∧ hT h6 a9 = 1 ∧ (w_Bu_lastOf a9 x2 h6 (fun v13 h12 => ∃ a14, (hR h o 1) = some a14 ∧ hT h12 a14 = 1 ∧ (w_Bu_hang a14 v7 x2 v13 h12 (fun h17 => Y o x1 x2 (x3 + (1 : Int32)) h17))))))))))
def w_Mg_hangShared_2 (R : tpH → Prop) : Nat → Nat → (Option Nat) → Int32 → Int32 → tpH → Prop
  | 0 => fun _ _ _ _ _ => False
  | n + 1 => b_Mg_hangShared_2 R (w_Mg_hangShared_2 R n)
def w_Mg_hangShared (o : Nat) (x1 : Option Nat) (x2 : Int32) (h : tpH) (R : tpH → Prop) : Prop :=
  ∃ n, w_Mg_hangShared_2 R n o x1 x2 (0 : Int32) h
theorem s_Mg_hangShared_42 {h0 : tpH} {av : List tpV} {R : tpH → Prop} : ∀ (n : Nat) (o : Nat) (x2 : Int32) (x3 : Int32) (x4 : Int32) (h : tpH), w_Mg_hangShared_42 R n o x2 x3 x4 h → tpR Mg_hangShared 3 h0 av (tpOv R (fun _ _ => False)) 42 [some (vR (some o)), none, some (vI x2), some (vI x3), some (vI x4), none] [] h := by
  intro n
  induction n with
  | zero => intro o x2 x3 x4 h hw; exact False.elim hw
  | succ n ih =>
    intro o x2 x3 x4 h hw
    change b_Mg_hangShared_42 R (w_Mg_hangShared_42 R n) o x2 x3 x4 h at hw
    unfold b_Mg_hangShared_42 at hw
    refine tq_iload dMg_hangShared_42 rfl ?_
    refine tq_aload_n dMg_hangShared_44 rfl rfl ?_
    obtain ⟨f1, hw⟩ := hw
    refine te_getr dMg_hangShared_45 fMg_32 rfl rfl f1 ?_
    obtain ⟨a2, e3, f4, hw⟩ := hw
    refine te_geti dMg_hangShared_48 fMg_206 rfl e3 f4 ?_
    refine tq_icmpge (tgt := 98) dMg_hangShared_51 (by decide) (fun c5 => ?_) (fun c5 => ?_)
    · have hw := hw.1 c5
      exact tq_vret rfl dMg_hangShared_98 hw
    · have hw := hw.2 c5
      refine tq_aload_n dMg_hangShared_54 rfl rfl ?_
      refine te_getr dMg_hangShared_55 fMg_32 rfl rfl f1 ?_
      refine tq_iload dMg_hangShared_58 rfl ?_
      refine te_callV mv_Ro_at (ci := 7) (dc := 0) (as := [vI x4]) (rest := []) kMg_94 rfl (Nat.le_of_ble_eq_true rfl) (Nat.le_of_ble_eq_true rfl) rfl rfl e3 f4 (Nat.le_of_ble_eq_true rfl) dMg_hangShared_60 (s_Ro_at hw) (fun _ _ hx => False.elim hx) (tk_i fun v7 h6 hw => ?_)
      refine tq_istore (ls' := [some (vR (some o)), none, some (vI x2), some (vI x3), some (vI x4), some (vI v7)]) dMg_hangShared_63 (Nat.le_of_ble_eq_true rfl) rfl ?_
      refine tq_aload_n dMg_hangShared_65 rfl rfl ?_
      obtain ⟨f8, hw⟩ := hw
      refine te_getr dMg_hangShared_66 fMg_51 rfl rfl f8 ?_
      refine tq_iload dMg_hangShared_69 rfl ?_
      refine tq_iload_n dMg_hangShared_71 rfl rfl ?_
      obtain ⟨a9, e10, f11, hw⟩ := hw
      refine te_callV mv_Bu_isChild (ci := 0) (dc := 1) (as := [vI v7, vI x2]) (rest := []) kMg_188 rfl (Nat.le_of_ble_eq_true rfl) (Nat.le_of_ble_eq_true rfl) rfl rfl e10 f11 (Nat.le_of_ble_eq_true rfl) dMg_hangShared_72 (s_Bu_isChild hw) (fun _ _ hx => False.elim hx) (tk_i fun v13 h12 hw => ?_)
      refine tq_ifne (tgt := 89) dMg_hangShared_75 (by decide) (fun c14 => ?_) (fun c14 => ?_)
      · have hw := hw.1 c14
        refine tq_iload dMg_hangShared_89 rfl ?_
        refine tq_istore_n (ls' := [some (vR (some o)), none, some (vI x2), some (vI v7), some (vI x4), some (vI v7)]) dMg_hangShared_91 rfl (Nat.le_of_ble_eq_true rfl) rfl ?_
        refine tq_inc (k := (1 : Int32)) (ls' := [some (vR (some o)), none, some (vI x2), some (vI v7), some (vI (x4 + (1 : Int32))), some (vI v7)]) dMg_hangShared_92 rfl tni_1 (Nat.le_of_ble_eq_true rfl) rfl ?_
        refine tq_goto (tgt := 42) dMg_hangShared_95 (by decide) ?_
        refine tpR.fo (ls' := [some (vR (some o)), none, some (vI x2), some (vI v7), some (vI (x4 + (1 : Int32))), none]) ?_ (And.intro rfl (And.intro rfl (And.intro rfl (And.intro rfl trivial))))
        exact ih _ _ _ _ _ hw
      · have hw := hw.2 c14
        refine tq_aload_n dMg_hangShared_78 rfl rfl ?_
        obtain ⟨f15, hw⟩ := hw
        refine te_getr dMg_hangShared_79 fMg_51 rfl rfl f15 ?_
        refine tq_iload dMg_hangShared_82 rfl ?_
        refine tq_iload_n dMg_hangShared_84 rfl rfl ?_
        refine tq_iload_n dMg_hangShared_85 rfl rfl ?_
        obtain ⟨a16, e17, f18, hw⟩ := hw
        refine te_callV mv_Bu_hang (ci := 0) (dc := 2) (as := [vI v7, vI x2, vI x3]) (rest := []) kMg_195 rfl (Nat.le_of_ble_eq_true rfl) (Nat.le_of_ble_eq_true rfl) rfl rfl e17 f18 (Nat.le_of_ble_eq_true rfl) dMg_hangShared_86 (s_Bu_hang hw) (fun _ _ hx => False.elim hx) (tk_v fun h19 hw => ?_)
        refine tq_iload dMg_hangShared_89 rfl ?_
        refine tq_istore_n (ls' := [some (vR (some o)), none, some (vI x2), some (vI v7), some (vI x4), some (vI v7)]) dMg_hangShared_91 rfl (Nat.le_of_ble_eq_true rfl) rfl ?_
        refine tq_inc (k := (1 : Int32)) (ls' := [some (vR (some o)), none, some (vI x2), some (vI v7), some (vI (x4 + (1 : Int32))), some (vI v7)]) dMg_hangShared_92 rfl tni_1 (Nat.le_of_ble_eq_true rfl) rfl ?_
        refine tq_goto (tgt := 42) dMg_hangShared_95 (by decide) ?_
        refine tpR.fo (ls' := [some (vR (some o)), none, some (vI x2), some (vI v7), some (vI (x4 + (1 : Int32))), none]) ?_ (And.intro rfl (And.intro rfl (And.intro rfl (And.intro rfl trivial))))
        exact ih _ _ _ _ _ hw
theorem s_Mg_hangShared_2 {h0 : tpH} {av : List tpV} {R : tpH → Prop} : ∀ (n : Nat) (o : Nat) (x1 : Option Nat) (x2 : Int32) (x3 : Int32) (h : tpH), w_Mg_hangShared_2 R n o x1 x2 x3 h → tpR Mg_hangShared 3 h0 av (tpOv R (fun _ _ => False)) 2 [some (vR (some o)), some (vR x1), some (vI x2), some (vI x3), none, none] [] h := by
  intro n
  induction n with
  | zero => intro o x1 x2 x3 h hw; exact False.elim hw
  | succ n ih =>
    intro o x1 x2 x3 h hw
    change b_Mg_hangShared_2 R (w_Mg_hangShared_2 R n) o x1 x2 x3 h at hw
    unfold b_Mg_hangShared_2 at hw
    refine tq_iload_n dMg_hangShared_2 rfl rfl ?_
    refine tq_aload_n dMg_hangShared_3 rfl rfl ?_
    obtain ⟨a1, e2, f3, hw⟩ := hw
    refine te_geti dMg_hangShared_4 fMg_206 rfl e2 f3 ?_
    refine tq_icmpge (tgt := 37) dMg_hangShared_7 (by decide) (fun c4 => ?_) (fun c4 => ?_)
    · have hw := hw.1 c4
      refine tq_iconst (v := (-1 : Int32)) dMg_hangShared_37 tni_m1 ?_
      refine tq_istore_n (ls' := [some (vR (some o)), some (vR x1), some (vI x2), some (vI (-1 : Int32)), none, none]) dMg_hangShared_38 rfl (Nat.le_of_ble_eq_true rfl) rfl ?_
      refine tq_iconst (v := (0 : Int32)) dMg_hangShared_39 tni_0 ?_
      refine tq_istore (ls' := [some (vR (some o)), some (vR x1), some (vI x2), some (vI (-1 : Int32)), some (vI (0 : Int32)), none]) dMg_hangShared_40 (Nat.le_of_ble_eq_true rfl) rfl ?_
      refine tpR.fo (ls' := [some (vR (some o)), none, some (vI x2), some (vI (-1 : Int32)), some (vI (0 : Int32)), none]) ?_ (And.intro rfl (And.intro rfl (And.intro rfl (And.intro rfl trivial))))
      obtain ⟨n, hw⟩ := hw
      exact s_Mg_hangShared_42 n _ _ _ _ _ hw
    · have hw := hw.2 c4
      refine tq_aload_n dMg_hangShared_10 rfl rfl ?_
      obtain ⟨f5, hw⟩ := hw
      refine te_getr dMg_hangShared_11 fMg_51 rfl rfl f5 ?_
      refine tq_aload_n dMg_hangShared_14 rfl rfl ?_
      refine tq_iload_n dMg_hangShared_15 rfl rfl ?_
      refine te_callV mv_Ro_at (ci := 7) (dc := 0) (as := [vI x3]) (rest := [vR (hR h o 1)]) kMg_94 rfl (Nat.le_of_ble_eq_true rfl) (Nat.le_of_ble_eq_true rfl) rfl rfl e2 f3 (Nat.le_of_ble_eq_true rfl) dMg_hangShared_16 (s_Ro_at hw) (fun _ _ hx => False.elim hx) (tk_i fun v7 h6 hw => ?_)
      refine tq_iload_n dMg_hangShared_19 rfl rfl ?_
      refine tq_aload_n dMg_hangShared_20 rfl rfl ?_
      obtain ⟨f8, hw⟩ := hw
      refine te_getr dMg_hangShared_21 fMg_51 rfl rfl f8 ?_
      refine tq_iload_n dMg_hangShared_24 rfl rfl ?_
      obtain ⟨a9, e10, f11, hw⟩ := hw
      refine te_callV mv_Bu_lastOf (ci := 0) (dc := 1) (as := [vI x2]) (rest := [vI x2, vI v7, vR (hR h o 1)]) kMg_209 rfl (Nat.le_of_ble_eq_true rfl) (Nat.le_of_ble_eq_true rfl) rfl rfl e10 f11 (Nat.le_of_ble_eq_true rfl) dMg_hangShared_25 (s_Bu_lastOf hw) (fun _ _ hx => False.elim hx) (tk_i fun v13 h12 hw => ?_)
      obtain ⟨a14, e15, f16, hw⟩ := hw
      refine te_callV mv_Bu_hang (ci := 0) (dc := 2) (as := [vI v7, vI x2, vI v13]) (rest := []) kMg_195 rfl (Nat.le_of_ble_eq_true rfl) (Nat.le_of_ble_eq_true rfl) rfl rfl e15 f16 (Nat.le_of_ble_eq_true rfl) dMg_hangShared_28 (s_Bu_hang hw) (fun _ _ hx => False.elim hx) (tk_v fun h17 hw => ?_)
      refine tq_inc (k := (1 : Int32)) (ls' := [some (vR (some o)), some (vR x1), some (vI x2), some (vI (x3 + (1 : Int32))), none, none]) dMg_hangShared_31 rfl tni_1 (Nat.le_of_ble_eq_true rfl) rfl ?_
      refine tq_goto (tgt := 2) dMg_hangShared_34 (by decide) ?_
      refine tpR.fo (ls' := [some (vR (some o)), some (vR x1), some (vI x2), some (vI (x3 + (1 : Int32))), none, none]) ?_ (And.intro rfl (And.intro rfl (And.intro rfl (And.intro rfl trivial))))
      exact ih _ _ _ _ _ hw
theorem s_Mg_hangShared {o : Nat} {x1 : Option Nat} {x2 : Int32} {h : tpH} {R : tpH → Prop} (hw : w_Mg_hangShared o x1 x2 h R) : tpC Mg_hangShared 3 [vR (some o), vR x1, vI x2] h (tpOv R (fun _ _ => False)) := by
  refine tpC_of mv_Mg_hangShared.2.2.2.1 rfl rfl (Nat.le_of_ble_eq_true rfl) ?_
  show tpR Mg_hangShared 3 h _ _ 0 [some (vR (some o)), some (vR x1), some (vI x2), none, none, none] [] h
  unfold w_Mg_hangShared at hw
  refine tq_iconst (v := (0 : Int32)) dMg_hangShared_0 tni_0 ?_
  refine tq_istore_n (ls' := [some (vR (some o)), some (vR x1), some (vI x2), some (vI (0 : Int32)), none, none]) dMg_hangShared_1 rfl (Nat.le_of_ble_eq_true rfl) rfl ?_
  refine tpR.fo (ls' := [some (vR (some o)), some (vR x1), some (vI x2), some (vI (0 : Int32)), none, none]) ?_ (And.intro rfl (And.intro rfl (And.intro rfl (And.intro rfl trivial))))
  obtain ⟨n, hw⟩ := hw
  exact s_Mg_hangShared_2 n _ _ _ _ _ hw
/-! T$Merger.nearestAhead -/
theorem dMg_nearestAhead_0 : decode (mB Mg_nearestAhead) 0 = .ok (.aload_n 1, 1) := by decide +kernel
theorem dMg_nearestAhead_1 : decode (mB Mg_nearestAhead) 1 = .ok (.iload_n 2, 1) := by decide +kernel
theorem dMg_nearestAhead_2 : decode (mB Mg_nearestAhead) 2 = .ok (.invokevirtual 143, 3) := by decide +kernel
theorem dMg_nearestAhead_5 : decode (mB Mg_nearestAhead) 5 = .ok (.istore 4, 2) := by decide +kernel
theorem dMg_nearestAhead_7 : decode (mB Mg_nearestAhead) 7 = .ok (.aload_n 1, 1) := by decide +kernel
theorem dMg_nearestAhead_8 : decode (mB Mg_nearestAhead) 8 = .ok (.iload 4, 2) := by decide +kernel
theorem dMg_nearestAhead_10 : decode (mB Mg_nearestAhead) 10 = .ok (.invokevirtual 221, 3) := by decide +kernel
theorem dMg_nearestAhead_13 : decode (mB Mg_nearestAhead) 13 = .ok (.istore 5, 2) := by decide +kernel
theorem dMg_nearestAhead_15 : decode (mB Mg_nearestAhead) 15 = .ok (.aload_n 1, 1) := by decide +kernel
theorem dMg_nearestAhead_16 : decode (mB Mg_nearestAhead) 16 = .ok (.iload 4, 2) := by decide +kernel
theorem dMg_nearestAhead_18 : decode (mB Mg_nearestAhead) 18 = .ok (.invokevirtual 224, 3) := by decide +kernel
theorem dMg_nearestAhead_21 : decode (mB Mg_nearestAhead) 21 = .ok (.iconst 1, 1) := by decide +kernel
theorem dMg_nearestAhead_22 : decode (mB Mg_nearestAhead) 22 = .ok (.isub, 1) := by decide +kernel
theorem dMg_nearestAhead_23 : decode (mB Mg_nearestAhead) 23 = .ok (.istore 6, 2) := by decide +kernel
theorem dMg_nearestAhead_25 : decode (mB Mg_nearestAhead) 25 = .ok (.iload 6, 2) := by decide +kernel
theorem dMg_nearestAhead_27 : decode (mB Mg_nearestAhead) 27 = .ok (.ifCond .lt 39, 3) := by decide +kernel
theorem dMg_nearestAhead_30 : decode (mB Mg_nearestAhead) 30 = .ok (.aload_n 1, 1) := by decide +kernel
theorem dMg_nearestAhead_31 : decode (mB Mg_nearestAhead) 31 = .ok (.aload_n 1, 1) := by decide +kernel
theorem dMg_nearestAhead_32 : decode (mB Mg_nearestAhead) 32 = .ok (.iload 5, 2) := by decide +kernel
theorem dMg_nearestAhead_34 : decode (mB Mg_nearestAhead) 34 = .ok (.iload 6, 2) := by decide +kernel
theorem dMg_nearestAhead_36 : decode (mB Mg_nearestAhead) 36 = .ok (.invokevirtual 149, 3) := by decide +kernel
theorem dMg_nearestAhead_39 : decode (mB Mg_nearestAhead) 39 = .ok (.invokevirtual 72, 3) := by decide +kernel
theorem dMg_nearestAhead_42 : decode (mB Mg_nearestAhead) 42 = .ok (.istore 7, 2) := by decide +kernel
theorem dMg_nearestAhead_44 : decode (mB Mg_nearestAhead) 44 = .ok (.aload_n 0, 1) := by decide +kernel
theorem dMg_nearestAhead_45 : decode (mB Mg_nearestAhead) 45 = .ok (.getfield 51, 3) := by decide +kernel
theorem dMg_nearestAhead_48 : decode (mB Mg_nearestAhead) 48 = .ok (.iload 7, 2) := by decide +kernel
theorem dMg_nearestAhead_50 : decode (mB Mg_nearestAhead) 50 = .ok (.iload_n 3, 1) := by decide +kernel
theorem dMg_nearestAhead_51 : decode (mB Mg_nearestAhead) 51 = .ok (.invokevirtual 188, 3) := by decide +kernel
theorem dMg_nearestAhead_54 : decode (mB Mg_nearestAhead) 54 = .ok (.ifCond .eq 6, 3) := by decide +kernel
theorem dMg_nearestAhead_57 : decode (mB Mg_nearestAhead) 57 = .ok (.iload 7, 2) := by decide +kernel
theorem dMg_nearestAhead_59 : decode (mB Mg_nearestAhead) 59 = .ok (.ireturn, 1) := by decide +kernel
theorem dMg_nearestAhead_60 : decode (mB Mg_nearestAhead) 60 = .ok (.iinc 6 (-1), 3) := by decide +kernel
theorem dMg_nearestAhead_63 : decode (mB Mg_nearestAhead) 63 = .ok (.goto (-38), 3) := by decide +kernel
theorem dMg_nearestAhead_66 : decode (mB Mg_nearestAhead) 66 = .ok (.iconst (-1), 1) := by decide +kernel
theorem dMg_nearestAhead_67 : decode (mB Mg_nearestAhead) 67 = .ok (.ireturn, 1) := by decide +kernel
def b_Mg_nearestAhead_25 (R : Int32 → tpH → Prop) (Y : Nat → (Option Nat) → Int32 → Int32 → Int32 → tpH → Prop) (o : Nat) (x1 : Option Nat) (x3 : Int32) (x5 : Int32) (x6 : Int32) (h : tpH) : Prop :=
  (x6 < 0 → (R (-1 : Int32) h)) ∧ (¬ x6 < 0 → (∃ a2, x1 = some a2 ∧ hT h a2 = 12 ∧ (w_Tr_kid a2 x5 x6 h (fun v6 h5 => hT h5 a2 = 12 ∧ (w_Tr_markOf a2 v6 h5 (fun v9 h8 => hT h8 o = 7 ∧ (∃ a11, (hR h8 o 1) = some a11 ∧ hT h8 a11 = 1 ∧ (w_Bu_isChild a11 v9 x3 h8 (fun v15 h14 => (v15 = 0 → (Y o x1 x3 x5 (x6 + (-1 : Int32)) h14)) ∧ (¬ v15 = 0 → (R v9 h14)))))))))))
def w_Mg_nearestAhead_25 (R : Int32 → tpH → Prop) : Nat → Nat → (Option Nat) → Int32 → Int32 → Int32 → tpH → Prop
  | 0 => fun _ _ _ _ _ _ => False
  | n + 1 => b_Mg_nearestAhead_25 R (w_Mg_nearestAhead_25 R n)
def w_Mg_nearestAhead (o : Nat) (x1 : Option Nat) (x2 : Int32) (x3 : Int32) (h : tpH) (R : Int32 → tpH → Prop) : Prop :=
  ∃ a1, x1 = some a1 ∧ hT h a1 = 12 ∧ (w_Tr_placeOf a1 x2 h (fun v5 h4 => hT h4 a1 = 12 ∧ (w_Tr_upOf a1 v5 h4 (fun v8 h7 => hT h7 a1 = 12 ∧ (w_Tr_rankOf a1 v5 h7 (fun v11 h10 => ∃ n, w_Mg_nearestAhead_25 R n o x1 x3 v8 (v11 - (1 : Int32)) h10))))))
theorem s_Mg_nearestAhead_25 {h0 : tpH} {av : List tpV} {R : Int32 → tpH → Prop} : ∀ (n : Nat) (o : Nat) (x1 : Option Nat) (x3 : Int32) (x5 : Int32) (x6 : Int32) (h : tpH), w_Mg_nearestAhead_25 R n o x1 x3 x5 x6 h → tpR Mg_nearestAhead 2 h0 av (tpOi R (fun _ _ => False)) 25 [some (vR (some o)), some (vR x1), none, some (vI x3), none, some (vI x5), some (vI x6), none] [] h := by
  intro n
  induction n with
  | zero => intro o x1 x3 x5 x6 h hw; exact False.elim hw
  | succ n ih =>
    intro o x1 x3 x5 x6 h hw
    change b_Mg_nearestAhead_25 R (w_Mg_nearestAhead_25 R n) o x1 x3 x5 x6 h at hw
    unfold b_Mg_nearestAhead_25 at hw
    refine tq_iload dMg_nearestAhead_25 rfl ?_
    refine tq_iflt (tgt := 66) dMg_nearestAhead_27 (by decide) (fun c1 => ?_) (fun c1 => ?_)
    · have hw := hw.1 c1
      refine tq_iconst (v := (-1 : Int32)) dMg_nearestAhead_66 tni_m1 ?_
      exact tq_iret rfl rfl dMg_nearestAhead_67 hw
    · have hw := hw.2 c1
      refine tq_aload_n dMg_nearestAhead_30 rfl rfl ?_
      refine tq_aload_n dMg_nearestAhead_31 rfl rfl ?_
      refine tq_iload dMg_nearestAhead_32 rfl ?_
      refine tq_iload dMg_nearestAhead_34 rfl ?_
      obtain ⟨a2, e3, f4, hw⟩ := hw
      refine te_callV mv_Tr_kid (ci := 11) (dc := 1) (as := [vI x5, vI x6]) (rest := [vR x1]) kMg_149 rfl (Nat.le_of_ble_eq_true rfl) (Nat.le_of_ble_eq_true rfl) rfl rfl e3 f4 (Nat.le_of_ble_eq_true rfl) dMg_nearestAhead_36 (s_Tr_kid hw) (fun _ _ hx => False.elim hx) (tk_i fun v6 h5 hw => ?_)
      obtain ⟨f7, hw⟩ := hw
      refine te_callV mv_Tr_markOf (ci := 11) (dc := 1) (as := [vI v6]) (rest := []) kMg_72 rfl (Nat.le_of_ble_eq_true rfl) (Nat.le_of_ble_eq_true rfl) rfl rfl e3 f7 (Nat.le_of_ble_eq_true rfl) dMg_nearestAhead_39 (s_Tr_markOf hw) (fun _ _ hx => False.elim hx) (tk_i fun v9 h8 hw => ?_)
      refine tq_istore (ls' := [some (vR (some o)), some (vR x1), none, some (vI x3), none, some (vI x5), some (vI x6), some (vI v9)]) dMg_nearestAhead_42 (Nat.le_of_ble_eq_true rfl) rfl ?_
      refine tq_aload_n dMg_nearestAhead_44 rfl rfl ?_
      obtain ⟨f10, hw⟩ := hw
      refine te_getr dMg_nearestAhead_45 fMg_51 rfl rfl f10 ?_
      refine tq_iload dMg_nearestAhead_48 rfl ?_
      refine tq_iload_n dMg_nearestAhead_50 rfl rfl ?_
      obtain ⟨a11, e12, f13, hw⟩ := hw
      refine te_callV mv_Bu_isChild (ci := 0) (dc := 1) (as := [vI v9, vI x3]) (rest := []) kMg_188 rfl (Nat.le_of_ble_eq_true rfl) (Nat.le_of_ble_eq_true rfl) rfl rfl e12 f13 (Nat.le_of_ble_eq_true rfl) dMg_nearestAhead_51 (s_Bu_isChild hw) (fun _ _ hx => False.elim hx) (tk_i fun v15 h14 hw => ?_)
      refine tq_ifeq (tgt := 60) dMg_nearestAhead_54 (by decide) (fun c16 => ?_) (fun c16 => ?_)
      · have hw := hw.1 c16
        refine tq_inc (k := (-1 : Int32)) (ls' := [some (vR (some o)), some (vR x1), none, some (vI x3), none, some (vI x5), some (vI (x6 + (-1 : Int32))), some (vI v9)]) dMg_nearestAhead_60 rfl tni_m1 (Nat.le_of_ble_eq_true rfl) rfl ?_
        refine tq_goto (tgt := 25) dMg_nearestAhead_63 (by decide) ?_
        refine tpR.fo (ls' := [some (vR (some o)), some (vR x1), none, some (vI x3), none, some (vI x5), some (vI (x6 + (-1 : Int32))), none]) ?_ (And.intro rfl (And.intro rfl (And.intro rfl (And.intro rfl (And.intro rfl trivial)))))
        exact ih _ _ _ _ _ _ hw
      · have hw := hw.2 c16
        refine tq_iload dMg_nearestAhead_57 rfl ?_
        exact tq_iret rfl rfl dMg_nearestAhead_59 hw
theorem s_Mg_nearestAhead {o : Nat} {x1 : Option Nat} {x2 : Int32} {x3 : Int32} {h : tpH} {R : Int32 → tpH → Prop} (hw : w_Mg_nearestAhead o x1 x2 x3 h R) : tpC Mg_nearestAhead 2 [vR (some o), vR x1, vI x2, vI x3] h (tpOi R (fun _ _ => False)) := by
  refine tpC_of mv_Mg_nearestAhead.2.2.2.1 rfl rfl (Nat.le_of_ble_eq_true rfl) ?_
  show tpR Mg_nearestAhead 2 h _ _ 0 [some (vR (some o)), some (vR x1), some (vI x2), some (vI x3), none, none, none, none] [] h
  unfold w_Mg_nearestAhead at hw
  refine tq_aload_n dMg_nearestAhead_0 rfl rfl ?_
  refine tq_iload_n dMg_nearestAhead_1 rfl rfl ?_
  obtain ⟨a1, e2, f3, hw⟩ := hw
  refine te_callV mv_Tr_placeOf (ci := 11) (dc := 1) (as := [vI x2]) (rest := []) kMg_143 rfl (Nat.le_of_ble_eq_true rfl) (Nat.le_of_ble_eq_true rfl) rfl rfl e2 f3 (Nat.le_of_ble_eq_true rfl) dMg_nearestAhead_2 (s_Tr_placeOf hw) (fun _ _ hx => False.elim hx) (tk_i fun v5 h4 hw => ?_)
  refine tq_istore (ls' := [some (vR (some o)), some (vR x1), some (vI x2), some (vI x3), some (vI v5), none, none, none]) dMg_nearestAhead_5 (Nat.le_of_ble_eq_true rfl) rfl ?_
  refine tq_aload_n dMg_nearestAhead_7 rfl rfl ?_
  refine tq_iload dMg_nearestAhead_8 rfl ?_
  obtain ⟨f6, hw⟩ := hw
  refine te_callV mv_Tr_upOf (ci := 11) (dc := 1) (as := [vI v5]) (rest := []) kMg_221 rfl (Nat.le_of_ble_eq_true rfl) (Nat.le_of_ble_eq_true rfl) rfl rfl e2 f6 (Nat.le_of_ble_eq_true rfl) dMg_nearestAhead_10 (s_Tr_upOf hw) (fun _ _ hx => False.elim hx) (tk_i fun v8 h7 hw => ?_)
  refine tq_istore (ls' := [some (vR (some o)), some (vR x1), some (vI x2), some (vI x3), some (vI v5), some (vI v8), none, none]) dMg_nearestAhead_13 (Nat.le_of_ble_eq_true rfl) rfl ?_
  refine tq_aload_n dMg_nearestAhead_15 rfl rfl ?_
  refine tq_iload dMg_nearestAhead_16 rfl ?_
  obtain ⟨f9, hw⟩ := hw
  refine te_callV mv_Tr_rankOf (ci := 11) (dc := 1) (as := [vI v5]) (rest := []) kMg_224 rfl (Nat.le_of_ble_eq_true rfl) (Nat.le_of_ble_eq_true rfl) rfl rfl e2 f9 (Nat.le_of_ble_eq_true rfl) dMg_nearestAhead_18 (s_Tr_rankOf hw) (fun _ _ hx => False.elim hx) (tk_i fun v11 h10 hw => ?_)
  refine tq_iconst (v := (1 : Int32)) dMg_nearestAhead_21 tni_1 ?_
  refine tq_isub dMg_nearestAhead_22 ?_
  refine tq_istore (ls' := [some (vR (some o)), some (vR x1), some (vI x2), some (vI x3), some (vI v5), some (vI v8), some (vI (v11 - (1 : Int32))), none]) dMg_nearestAhead_23 (Nat.le_of_ble_eq_true rfl) rfl ?_
  refine tpR.fo (ls' := [some (vR (some o)), some (vR x1), none, some (vI x3), none, some (vI v8), some (vI (v11 - (1 : Int32))), none]) ?_ (And.intro rfl (And.intro rfl (And.intro rfl (And.intro rfl (And.intro rfl trivial)))))
  obtain ⟨n, hw⟩ := hw
  exact s_Mg_nearestAhead_25 n _ _ _ _ _ _ hw
/-! T$Merger.nearestOf -/
theorem dMg_nearestOf_0 : decode (mB Mg_nearestOf) 0 = .ok (.aload_n 1, 1) := by decide +kernel
theorem dMg_nearestOf_1 : decode (mB Mg_nearestOf) 1 = .ok (.iload_n 3, 1) := by decide +kernel
theorem dMg_nearestOf_2 : decode (mB Mg_nearestOf) 2 = .ok (.iload 4, 2) := by decide +kernel
theorem dMg_nearestOf_4 : decode (mB Mg_nearestOf) 4 = .ok (.invokevirtual 152, 3) := by decide +kernel
theorem dMg_nearestOf_7 : decode (mB Mg_nearestOf) 7 = .ok (.ifCond .ne 12, 3) := by decide +kernel
theorem dMg_nearestOf_10 : decode (mB Mg_nearestOf) 10 = .ok (.aload_n 0, 1) := by decide +kernel
theorem dMg_nearestOf_11 : decode (mB Mg_nearestOf) 11 = .ok (.aload_n 2, 1) := by decide +kernel
theorem dMg_nearestOf_12 : decode (mB Mg_nearestOf) 12 = .ok (.iload_n 3, 1) := by decide +kernel
theorem dMg_nearestOf_13 : decode (mB Mg_nearestOf) 13 = .ok (.iload 4, 2) := by decide +kernel
theorem dMg_nearestOf_15 : decode (mB Mg_nearestOf) 15 = .ok (.invokevirtual 212, 3) := by decide +kernel
theorem dMg_nearestOf_18 : decode (mB Mg_nearestOf) 18 = .ok (.ireturn, 1) := by decide +kernel
theorem dMg_nearestOf_19 : decode (mB Mg_nearestOf) 19 = .ok (.aload_n 2, 1) := by decide +kernel
theorem dMg_nearestOf_20 : decode (mB Mg_nearestOf) 20 = .ok (.iload_n 3, 1) := by decide +kernel
theorem dMg_nearestOf_21 : decode (mB Mg_nearestOf) 21 = .ok (.iload 4, 2) := by decide +kernel
theorem dMg_nearestOf_23 : decode (mB Mg_nearestOf) 23 = .ok (.invokevirtual 152, 3) := by decide +kernel
theorem dMg_nearestOf_26 : decode (mB Mg_nearestOf) 26 = .ok (.ifCond .ne 12, 3) := by decide +kernel
theorem dMg_nearestOf_29 : decode (mB Mg_nearestOf) 29 = .ok (.aload_n 0, 1) := by decide +kernel
theorem dMg_nearestOf_30 : decode (mB Mg_nearestOf) 30 = .ok (.aload_n 1, 1) := by decide +kernel
theorem dMg_nearestOf_31 : decode (mB Mg_nearestOf) 31 = .ok (.iload_n 3, 1) := by decide +kernel
theorem dMg_nearestOf_32 : decode (mB Mg_nearestOf) 32 = .ok (.iload 4, 2) := by decide +kernel
theorem dMg_nearestOf_34 : decode (mB Mg_nearestOf) 34 = .ok (.invokevirtual 212, 3) := by decide +kernel
theorem dMg_nearestOf_37 : decode (mB Mg_nearestOf) 37 = .ok (.ireturn, 1) := by decide +kernel
theorem dMg_nearestOf_38 : decode (mB Mg_nearestOf) 38 = .ok (.aload_n 0, 1) := by decide +kernel
theorem dMg_nearestOf_39 : decode (mB Mg_nearestOf) 39 = .ok (.aload_n 1, 1) := by decide +kernel
theorem dMg_nearestOf_40 : decode (mB Mg_nearestOf) 40 = .ok (.iload_n 3, 1) := by decide +kernel
theorem dMg_nearestOf_41 : decode (mB Mg_nearestOf) 41 = .ok (.iload 4, 2) := by decide +kernel
theorem dMg_nearestOf_43 : decode (mB Mg_nearestOf) 43 = .ok (.invokevirtual 212, 3) := by decide +kernel
theorem dMg_nearestOf_46 : decode (mB Mg_nearestOf) 46 = .ok (.aload_n 0, 1) := by decide +kernel
theorem dMg_nearestOf_47 : decode (mB Mg_nearestOf) 47 = .ok (.aload_n 2, 1) := by decide +kernel
theorem dMg_nearestOf_48 : decode (mB Mg_nearestOf) 48 = .ok (.iload_n 3, 1) := by decide +kernel
theorem dMg_nearestOf_49 : decode (mB Mg_nearestOf) 49 = .ok (.iload 4, 2) := by decide +kernel
theorem dMg_nearestOf_51 : decode (mB Mg_nearestOf) 51 = .ok (.invokevirtual 212, 3) := by decide +kernel
theorem dMg_nearestOf_54 : decode (mB Mg_nearestOf) 54 = .ok (.invokestatic 216, 3) := by decide +kernel
theorem dMg_nearestOf_57 : decode (mB Mg_nearestOf) 57 = .ok (.ireturn, 1) := by decide +kernel
def w_Mg_nearestOf (o : Nat) (x1 : Option Nat) (x2 : Option Nat) (x3 : Int32) (x4 : Int32) (h : tpH) (R : Int32 → tpH → Prop) : Prop :=
  ∃ a1, x1 = some a1 ∧ hT h a1 = 12 ∧ (w_Tr_hasUnder a1 x3 x4 h (fun v5 h4 => (¬ v5 = 0 → (∃ a7, x2 = some a7 ∧ hT h4 a7 = 12 ∧ (w_Tr_hasUnder a7 x3 x4 h4 (fun v11 h10 => (¬ v11 = 0 → (hT h10 o = 7 ∧ (w_Mg_nearestAhead o x1 x3 x4 h10 (fun v15 h14 => hT h14 o = 7 ∧ (w_Mg_nearestAhead o x2 x3 x4 h14 (fun v18 h17 => R (if v18 < v15 then v18 else v15) h17)))))) ∧ (v11 = 0 → (hT h10 o = 7 ∧ (w_Mg_nearestAhead o x1 x3 x4 h10 (fun v21 h20 => R v21 h20)))))))) ∧ (v5 = 0 → (hT h4 o = 7 ∧ (w_Mg_nearestAhead o x2 x3 x4 h4 (fun v24 h23 => R v24 h23))))))
theorem s_Mg_nearestOf {o : Nat} {x1 : Option Nat} {x2 : Option Nat} {x3 : Int32} {x4 : Int32} {h : tpH} {R : Int32 → tpH → Prop} (hw : w_Mg_nearestOf o x1 x2 x3 x4 h R) : tpC Mg_nearestOf 3 [vR (some o), vR x1, vR x2, vI x3, vI x4] h (tpOi R (fun _ _ => False)) := by
  refine tpC_of mv_Mg_nearestOf.2.2.2.1 rfl rfl (Nat.le_of_ble_eq_true rfl) ?_
  show tpR Mg_nearestOf 3 h _ _ 0 [some (vR (some o)), some (vR x1), some (vR x2), some (vI x3), some (vI x4)] [] h
  unfold w_Mg_nearestOf at hw
  refine tq_aload_n dMg_nearestOf_0 rfl rfl ?_
  refine tq_iload_n dMg_nearestOf_1 rfl rfl ?_
  refine tq_iload dMg_nearestOf_2 rfl ?_
  obtain ⟨a1, e2, f3, hw⟩ := hw
  refine te_callV mv_Tr_hasUnder (ci := 11) (dc := 1) (as := [vI x3, vI x4]) (rest := []) kMg_152 rfl (Nat.le_of_ble_eq_true rfl) (Nat.le_of_ble_eq_true rfl) rfl rfl e2 f3 (Nat.le_of_ble_eq_true rfl) dMg_nearestOf_4 (s_Tr_hasUnder hw) (fun _ _ hx => False.elim hx) (tk_i fun v5 h4 hw => ?_)
  refine tq_ifne (tgt := 19) dMg_nearestOf_7 (by decide) (fun c6 => ?_) (fun c6 => ?_)
  · have hw := hw.1 c6
    refine tq_aload_n dMg_nearestOf_19 rfl rfl ?_
    refine tq_iload_n dMg_nearestOf_20 rfl rfl ?_
    refine tq_iload dMg_nearestOf_21 rfl ?_
    obtain ⟨a7, e8, f9, hw⟩ := hw
    refine te_callV mv_Tr_hasUnder (ci := 11) (dc := 1) (as := [vI x3, vI x4]) (rest := []) kMg_152 rfl (Nat.le_of_ble_eq_true rfl) (Nat.le_of_ble_eq_true rfl) rfl rfl e8 f9 (Nat.le_of_ble_eq_true rfl) dMg_nearestOf_23 (s_Tr_hasUnder hw) (fun _ _ hx => False.elim hx) (tk_i fun v11 h10 hw => ?_)
    refine tq_ifne (tgt := 38) dMg_nearestOf_26 (by decide) (fun c12 => ?_) (fun c12 => ?_)
    · have hw := hw.1 c12
      refine tq_aload_n dMg_nearestOf_38 rfl rfl ?_
      refine tq_aload_n dMg_nearestOf_39 rfl rfl ?_
      refine tq_iload_n dMg_nearestOf_40 rfl rfl ?_
      refine tq_iload dMg_nearestOf_41 rfl ?_
      obtain ⟨f13, hw⟩ := hw
      refine te_callV mv_Mg_nearestAhead (ci := 6) (dc := 2) (as := [vR x1, vI x3, vI x4]) (rest := []) kMg_212 rfl (Nat.le_of_ble_eq_true rfl) (Nat.le_of_ble_eq_true rfl) rfl rfl rfl f13 (Nat.le_of_ble_eq_true rfl) dMg_nearestOf_43 (s_Mg_nearestAhead hw) (fun _ _ hx => False.elim hx) (tk_i fun v15 h14 hw => ?_)
      refine tq_aload_n dMg_nearestOf_46 rfl rfl ?_
      refine tq_aload_n dMg_nearestOf_47 rfl rfl ?_
      refine tq_iload_n dMg_nearestOf_48 rfl rfl ?_
      refine tq_iload dMg_nearestOf_49 rfl ?_
      obtain ⟨f16, hw⟩ := hw
      refine te_callV mv_Mg_nearestAhead (ci := 6) (dc := 2) (as := [vR x2, vI x3, vI x4]) (rest := [vI v15]) kMg_212 rfl (Nat.le_of_ble_eq_true rfl) (Nat.le_of_ble_eq_true rfl) rfl rfl rfl f16 (Nat.le_of_ble_eq_true rfl) dMg_nearestOf_51 (s_Mg_nearestAhead hw) (fun _ _ hx => False.elim hx) (tk_i fun v18 h17 hw => ?_)
      refine tq_min mMg_216 (Nat.le_of_ble_eq_true rfl) (Nat.le_of_ble_eq_true rfl) dMg_nearestOf_54 ?_
      exact tq_iret rfl rfl dMg_nearestOf_57 hw
    · have hw := hw.2 c12
      refine tq_aload_n dMg_nearestOf_29 rfl rfl ?_
      refine tq_aload_n dMg_nearestOf_30 rfl rfl ?_
      refine tq_iload_n dMg_nearestOf_31 rfl rfl ?_
      refine tq_iload dMg_nearestOf_32 rfl ?_
      obtain ⟨f19, hw⟩ := hw
      refine te_callV mv_Mg_nearestAhead (ci := 6) (dc := 2) (as := [vR x1, vI x3, vI x4]) (rest := []) kMg_212 rfl (Nat.le_of_ble_eq_true rfl) (Nat.le_of_ble_eq_true rfl) rfl rfl rfl f19 (Nat.le_of_ble_eq_true rfl) dMg_nearestOf_34 (s_Mg_nearestAhead hw) (fun _ _ hx => False.elim hx) (tk_i fun v21 h20 hw => ?_)
      exact tq_iret rfl rfl dMg_nearestOf_37 hw
  · have hw := hw.2 c6
    refine tq_aload_n dMg_nearestOf_10 rfl rfl ?_
    refine tq_aload_n dMg_nearestOf_11 rfl rfl ?_
    refine tq_iload_n dMg_nearestOf_12 rfl rfl ?_
    refine tq_iload dMg_nearestOf_13 rfl ?_
    obtain ⟨f22, hw⟩ := hw
    refine te_callV mv_Mg_nearestAhead (ci := 6) (dc := 2) (as := [vR x2, vI x3, vI x4]) (rest := []) kMg_212 rfl (Nat.le_of_ble_eq_true rfl) (Nat.le_of_ble_eq_true rfl) rfl rfl rfl f22 (Nat.le_of_ble_eq_true rfl) dMg_nearestOf_15 (s_Mg_nearestAhead hw) (fun _ _ hx => False.elim hx) (tk_i fun v24 h23 hw => ?_)
    exact tq_iret rfl rfl dMg_nearestOf_18 hw
/-! T$Merger.hangChildren -/
theorem dMg_hangChildren_0 : decode (mB Mg_hangChildren) 0 = .ok (.aload_n 0, 1) := by decide +kernel
theorem dMg_hangChildren_1 : decode (mB Mg_hangChildren) 1 = .ok (.getfield 47, 3) := by decide +kernel
theorem dMg_hangChildren_4 : decode (mB Mg_hangChildren) 4 = .ok (.iload 4, 2) := by decide +kernel
theorem dMg_hangChildren_6 : decode (mB Mg_hangChildren) 6 = .ok (.invokevirtual 173, 3) := by decide +kernel
theorem dMg_hangChildren_9 : decode (mB Mg_hangChildren) 9 = .ok (.ifCond .ne 52, 3) := by decide +kernel
theorem dMg_hangChildren_12 : decode (mB Mg_hangChildren) 12 = .ok (.aload_n 0, 1) := by decide +kernel
theorem dMg_hangChildren_13 : decode (mB Mg_hangChildren) 13 = .ok (.aload_n 1, 1) := by decide +kernel
theorem dMg_hangChildren_14 : decode (mB Mg_hangChildren) 14 = .ok (.aload_n 1, 1) := by decide +kernel
theorem dMg_hangChildren_15 : decode (mB Mg_hangChildren) 15 = .ok (.iload 4, 2) := by decide +kernel
theorem dMg_hangChildren_17 : decode (mB Mg_hangChildren) 17 = .ok (.aload_n 0, 1) := by decide +kernel
theorem dMg_hangChildren_18 : decode (mB Mg_hangChildren) 18 = .ok (.getfield 32, 3) := by decide +kernel
theorem dMg_hangChildren_21 : decode (mB Mg_hangChildren) 21 = .ok (.invokevirtual 176, 3) := by decide +kernel
theorem dMg_hangChildren_24 : decode (mB Mg_hangChildren) 24 = .ok (.aload_n 0, 1) := by decide +kernel
theorem dMg_hangChildren_25 : decode (mB Mg_hangChildren) 25 = .ok (.aload_n 1, 1) := by decide +kernel
theorem dMg_hangChildren_26 : decode (mB Mg_hangChildren) 26 = .ok (.aload_n 2, 1) := by decide +kernel
theorem dMg_hangChildren_27 : decode (mB Mg_hangChildren) 27 = .ok (.iload 4, 2) := by decide +kernel
theorem dMg_hangChildren_29 : decode (mB Mg_hangChildren) 29 = .ok (.aload_n 0, 1) := by decide +kernel
theorem dMg_hangChildren_30 : decode (mB Mg_hangChildren) 30 = .ok (.getfield 35, 3) := by decide +kernel
theorem dMg_hangChildren_33 : decode (mB Mg_hangChildren) 33 = .ok (.invokevirtual 176, 3) := by decide +kernel
theorem dMg_hangChildren_36 : decode (mB Mg_hangChildren) 36 = .ok (.aload_n 0, 1) := by decide +kernel
theorem dMg_hangChildren_37 : decode (mB Mg_hangChildren) 37 = .ok (.aload_n 1, 1) := by decide +kernel
theorem dMg_hangChildren_38 : decode (mB Mg_hangChildren) 38 = .ok (.aload_n 3, 1) := by decide +kernel
theorem dMg_hangChildren_39 : decode (mB Mg_hangChildren) 39 = .ok (.iload 4, 2) := by decide +kernel
theorem dMg_hangChildren_41 : decode (mB Mg_hangChildren) 41 = .ok (.aload_n 0, 1) := by decide +kernel
theorem dMg_hangChildren_42 : decode (mB Mg_hangChildren) 42 = .ok (.getfield 38, 3) := by decide +kernel
theorem dMg_hangChildren_45 : decode (mB Mg_hangChildren) 45 = .ok (.invokevirtual 176, 3) := by decide +kernel
theorem dMg_hangChildren_48 : decode (mB Mg_hangChildren) 48 = .ok (.aload_n 0, 1) := by decide +kernel
theorem dMg_hangChildren_49 : decode (mB Mg_hangChildren) 49 = .ok (.aload_n 0, 1) := by decide +kernel
theorem dMg_hangChildren_50 : decode (mB Mg_hangChildren) 50 = .ok (.aload_n 1, 1) := by decide +kernel
theorem dMg_hangChildren_51 : decode (mB Mg_hangChildren) 51 = .ok (.iload 4, 2) := by decide +kernel
theorem dMg_hangChildren_53 : decode (mB Mg_hangChildren) 53 = .ok (.invokevirtual 180, 3) := by decide +kernel
theorem dMg_hangChildren_56 : decode (mB Mg_hangChildren) 56 = .ok (.iload 4, 2) := by decide +kernel
theorem dMg_hangChildren_58 : decode (mB Mg_hangChildren) 58 = .ok (.invokevirtual 184, 3) := by decide +kernel
theorem dMg_hangChildren_61 : decode (mB Mg_hangChildren) 61 = .ok (.iconst 0, 1) := by decide +kernel
theorem dMg_hangChildren_62 : decode (mB Mg_hangChildren) 62 = .ok (.istore 5, 2) := by decide +kernel
theorem dMg_hangChildren_64 : decode (mB Mg_hangChildren) 64 = .ok (.iload 5, 2) := by decide +kernel
theorem dMg_hangChildren_66 : decode (mB Mg_hangChildren) 66 = .ok (.aload_n 0, 1) := by decide +kernel
theorem dMg_hangChildren_67 : decode (mB Mg_hangChildren) 67 = .ok (.getfield 47, 3) := by decide +kernel
theorem dMg_hangChildren_70 : decode (mB Mg_hangChildren) 70 = .ok (.getfield 58, 3) := by decide +kernel
theorem dMg_hangChildren_73 : decode (mB Mg_hangChildren) 73 = .ok (.if_icmp .ge 58, 3) := by decide +kernel
theorem dMg_hangChildren_76 : decode (mB Mg_hangChildren) 76 = .ok (.aload_n 0, 1) := by decide +kernel
theorem dMg_hangChildren_77 : decode (mB Mg_hangChildren) 77 = .ok (.getfield 26, 3) := by decide +kernel
theorem dMg_hangChildren_80 : decode (mB Mg_hangChildren) 80 = .ok (.iload 5, 2) := by decide +kernel
theorem dMg_hangChildren_82 : decode (mB Mg_hangChildren) 82 = .ok (.invokevirtual 94, 3) := by decide +kernel
theorem dMg_hangChildren_85 : decode (mB Mg_hangChildren) 85 = .ok (.iload 4, 2) := by decide +kernel
theorem dMg_hangChildren_87 : decode (mB Mg_hangChildren) 87 = .ok (.if_icmp .ne 38, 3) := by decide +kernel
theorem dMg_hangChildren_90 : decode (mB Mg_hangChildren) 90 = .ok (.aload_n 0, 1) := by decide +kernel
theorem dMg_hangChildren_91 : decode (mB Mg_hangChildren) 91 = .ok (.getfield 51, 3) := by decide +kernel
theorem dMg_hangChildren_94 : decode (mB Mg_hangChildren) 94 = .ok (.iload 5, 2) := by decide +kernel
theorem dMg_hangChildren_96 : decode (mB Mg_hangChildren) 96 = .ok (.iload 4, 2) := by decide +kernel
theorem dMg_hangChildren_98 : decode (mB Mg_hangChildren) 98 = .ok (.invokevirtual 188, 3) := by decide +kernel
theorem dMg_hangChildren_101 : decode (mB Mg_hangChildren) 101 = .ok (.ifCond .ne 24, 3) := by decide +kernel
theorem dMg_hangChildren_104 : decode (mB Mg_hangChildren) 104 = .ok (.aload_n 0, 1) := by decide +kernel
theorem dMg_hangChildren_105 : decode (mB Mg_hangChildren) 105 = .ok (.getfield 51, 3) := by decide +kernel
theorem dMg_hangChildren_108 : decode (mB Mg_hangChildren) 108 = .ok (.iload 5, 2) := by decide +kernel
theorem dMg_hangChildren_110 : decode (mB Mg_hangChildren) 110 = .ok (.iload 4, 2) := by decide +kernel
theorem dMg_hangChildren_112 : decode (mB Mg_hangChildren) 112 = .ok (.aload_n 0, 1) := by decide +kernel
theorem dMg_hangChildren_113 : decode (mB Mg_hangChildren) 113 = .ok (.aload_n 2, 1) := by decide +kernel
theorem dMg_hangChildren_114 : decode (mB Mg_hangChildren) 114 = .ok (.aload_n 3, 1) := by decide +kernel
theorem dMg_hangChildren_115 : decode (mB Mg_hangChildren) 115 = .ok (.iload 5, 2) := by decide +kernel
theorem dMg_hangChildren_117 : decode (mB Mg_hangChildren) 117 = .ok (.iload 4, 2) := by decide +kernel
theorem dMg_hangChildren_119 : decode (mB Mg_hangChildren) 119 = .ok (.invokevirtual 191, 3) := by decide +kernel
theorem dMg_hangChildren_122 : decode (mB Mg_hangChildren) 122 = .ok (.invokevirtual 195, 3) := by decide +kernel
theorem dMg_hangChildren_125 : decode (mB Mg_hangChildren) 125 = .ok (.iinc 5 1, 3) := by decide +kernel
theorem dMg_hangChildren_128 : decode (mB Mg_hangChildren) 128 = .ok (.goto (-64), 3) := by decide +kernel
theorem dMg_hangChildren_131 : decode (mB Mg_hangChildren) 131 = .ok (.return_, 1) := by decide +kernel
def b_Mg_hangChildren_64 (R : tpH → Prop) (Y : Nat → (Option Nat) → (Option Nat) → Int32 → Int32 → tpH → Prop) (o : Nat) (x2 : Option Nat) (x3 : Option Nat) (x4 : Int32) (x5 : Int32) (h : tpH) : Prop :=
  hT h o = 7 ∧ (∃ a2, (hR h o 0) = some a2 ∧ hT h a2 = 5 ∧ (((hI h a2 2) ≤ x5 → (R h)) ∧ (¬ (hI h a2 2) ≤ x5 → (∃ a6, (hR h o 5) = some a6 ∧ hT h a6 = 8 ∧ (w_Ro_at a6 x5 h (fun v10 h9 => (¬ v10 = x4 → (Y o x2 x3 x4 (x5 + (1 : Int32)) h9)) ∧ (v10 = x4 → (hT h9 o = 7 ∧ (∃ a13, (hR h9 o 1) = some a13 ∧ hT h9 a13 = 1 ∧ (w_Bu_isChild a13 x5 x4 h9 (fun v17 h16 => (¬ v17 = 0 → (Y o x2 x3 x4 (x5 + (1 : Int32)) h16)) ∧ (v17 = 0 → (hT h16 o = 7 ∧ (w_Mg_nearestOf o x2 x3 x5 x4 h16 (fun v21 h20 => ∃ a22, (hR h16 o 1) = some a22 ∧ hT h20 a22 = 1 ∧ (w_Bu_hang a22 x5 x4 v21 h20 (fun h25 => Y o x2 x3 x4 (x5 + (1 : Int32)) h25)))))))))))))))))
def w_Mg_hangChildren_64 (R : tpH → Prop) : Nat → Nat → (Option Nat) → (Option Nat) → Int32 → Int32 → tpH → Prop
  | 0 => fun _ _ _ _ _ _ => False
  | n + 1 => b_Mg_hangChildren_64 R (w_Mg_hangChildren_64 R n)
def w_Mg_hangChildren (o : Nat) (x1 : Option Nat) (x2 : Option Nat) (x3 : Option Nat) (x4 : Int32) (h : tpH) (R : tpH → Prop) : Prop :=
  hT h o = 7 ∧ (∃ a2, (hR h o 0) = some a2 ∧ hT h a2 = 5 ∧ (w_Ma_isLoose a2 x4 h (fun v6 h5 => (¬ v6 = 0 → (∃ n, w_Mg_hangChildren_64 R n o x2 x3 x4 (0 : Int32) h5)) ∧ (v6 = 0 → (hT h5 o = 7 ∧ (w_Mg_readShared o x1 x1 x4 (hR h5 o 7) h5 (fun h9 => hT h9 o = 7 ∧ (w_Mg_readShared o x1 x2 x4 (hR h9 o 8) h9 (fun h11 => hT h11 o = 7 ∧ (w_Mg_readShared o x1 x3 x4 (hR h11 o 9) h11 (fun h13 => hT h13 o = 7 ∧ (w_Mg_leader o x1 x4 h13 (fun v16 h15 => hT h15 o = 7 ∧ (w_Mg_hangShared o v16 x4 h15 (fun h18 => ∃ n, w_Mg_hangChildren_64 R n o x2 x3 x4 (0 : Int32) h18)))))))))))))))
theorem s_Mg_hangChildren_64 {h0 : tpH} {av : List tpV} {R : tpH → Prop} : ∀ (n : Nat) (o : Nat) (x2 : Option Nat) (x3 : Option Nat) (x4 : Int32) (x5 : Int32) (h : tpH), w_Mg_hangChildren_64 R n o x2 x3 x4 x5 h → tpR Mg_hangChildren 7 h0 av (tpOv R (fun _ _ => False)) 64 [some (vR (some o)), none, some (vR x2), some (vR x3), some (vI x4), some (vI x5)] [] h := by
  intro n
  induction n with
  | zero => intro o x2 x3 x4 x5 h hw; exact False.elim hw
  | succ n ih =>
    intro o x2 x3 x4 x5 h hw
    change b_Mg_hangChildren_64 R (w_Mg_hangChildren_64 R n) o x2 x3 x4 x5 h at hw
    unfold b_Mg_hangChildren_64 at hw
    refine tq_iload dMg_hangChildren_64 rfl ?_
    refine tq_aload_n dMg_hangChildren_66 rfl rfl ?_
    obtain ⟨f1, hw⟩ := hw
    refine te_getr dMg_hangChildren_67 fMg_47 rfl rfl f1 ?_
    obtain ⟨a2, e3, f4, hw⟩ := hw
    refine te_geti dMg_hangChildren_70 fMg_58 rfl e3 f4 ?_
    refine tq_icmpge (tgt := 131) dMg_hangChildren_73 (by decide) (fun c5 => ?_) (fun c5 => ?_)
    · have hw := hw.1 c5
      exact tq_vret rfl dMg_hangChildren_131 hw
    · have hw := hw.2 c5
      refine tq_aload_n dMg_hangChildren_76 rfl rfl ?_
      refine te_getr dMg_hangChildren_77 fMg_26 rfl rfl f1 ?_
      refine tq_iload dMg_hangChildren_80 rfl ?_
      obtain ⟨a6, e7, f8, hw⟩ := hw
      refine te_callV mv_Ro_at (ci := 7) (dc := 0) (as := [vI x5]) (rest := []) kMg_94 rfl (Nat.le_of_ble_eq_true rfl) (Nat.le_of_ble_eq_true rfl) rfl rfl e7 f8 (Nat.le_of_ble_eq_true rfl) dMg_hangChildren_82 (s_Ro_at hw) (fun _ _ hx => False.elim hx) (tk_i fun v10 h9 hw => ?_)
      refine tq_iload dMg_hangChildren_85 rfl ?_
      refine tq_icmpne (tgt := 125) dMg_hangChildren_87 (by decide) (fun c11 => ?_) (fun c11 => ?_)
      · have hw := hw.1 c11
        refine tq_inc (k := (1 : Int32)) (ls' := [some (vR (some o)), none, some (vR x2), some (vR x3), some (vI x4), some (vI (x5 + (1 : Int32)))]) dMg_hangChildren_125 rfl tni_1 (Nat.le_of_ble_eq_true rfl) rfl ?_
        refine tq_goto (tgt := 64) dMg_hangChildren_128 (by decide) ?_
        refine tpR.fo (ls' := [some (vR (some o)), none, some (vR x2), some (vR x3), some (vI x4), some (vI (x5 + (1 : Int32)))]) ?_ (And.intro rfl (And.intro rfl (And.intro rfl (And.intro rfl (And.intro rfl trivial)))))
        exact ih _ _ _ _ _ _ hw
      · have hw := hw.2 c11
        refine tq_aload_n dMg_hangChildren_90 rfl rfl ?_
        obtain ⟨f12, hw⟩ := hw
        refine te_getr dMg_hangChildren_91 fMg_51 rfl rfl f12 ?_
        refine tq_iload dMg_hangChildren_94 rfl ?_
        refine tq_iload dMg_hangChildren_96 rfl ?_
        obtain ⟨a13, e14, f15, hw⟩ := hw
        refine te_callV mv_Bu_isChild (ci := 0) (dc := 1) (as := [vI x5, vI x4]) (rest := []) kMg_188 rfl (Nat.le_of_ble_eq_true rfl) (Nat.le_of_ble_eq_true rfl) rfl rfl e14 f15 (Nat.le_of_ble_eq_true rfl) dMg_hangChildren_98 (s_Bu_isChild hw) (fun _ _ hx => False.elim hx) (tk_i fun v17 h16 hw => ?_)
        refine tq_ifne (tgt := 125) dMg_hangChildren_101 (by decide) (fun c18 => ?_) (fun c18 => ?_)
        · have hw := hw.1 c18
          refine tq_inc (k := (1 : Int32)) (ls' := [some (vR (some o)), none, some (vR x2), some (vR x3), some (vI x4), some (vI (x5 + (1 : Int32)))]) dMg_hangChildren_125 rfl tni_1 (Nat.le_of_ble_eq_true rfl) rfl ?_
          refine tq_goto (tgt := 64) dMg_hangChildren_128 (by decide) ?_
          refine tpR.fo (ls' := [some (vR (some o)), none, some (vR x2), some (vR x3), some (vI x4), some (vI (x5 + (1 : Int32)))]) ?_ (And.intro rfl (And.intro rfl (And.intro rfl (And.intro rfl (And.intro rfl trivial)))))
          exact ih _ _ _ _ _ _ hw
        · have hw := hw.2 c18
          refine tq_aload_n dMg_hangChildren_104 rfl rfl ?_
          obtain ⟨f19, hw⟩ := hw
          refine te_getr dMg_hangChildren_105 fMg_51 rfl rfl f19 ?_
          refine tq_iload dMg_hangChildren_108 rfl ?_
          refine tq_iload dMg_hangChildren_110 rfl ?_
          refine tq_aload_n dMg_hangChildren_112 rfl rfl ?_
          refine tq_aload_n dMg_hangChildren_113 rfl rfl ?_
          refine tq_aload_n dMg_hangChildren_114 rfl rfl ?_
          refine tq_iload dMg_hangChildren_115 rfl ?_
          refine tq_iload dMg_hangChildren_117 rfl ?_
          refine te_callV mv_Mg_nearestOf (ci := 6) (dc := 3) (as := [vR x2, vR x3, vI x5, vI x4]) (rest := [vI x4, vI x5, vR (hR h16 o 1)]) kMg_191 rfl (Nat.le_of_ble_eq_true rfl) (Nat.le_of_ble_eq_true rfl) rfl rfl rfl f19 (Nat.le_of_ble_eq_true rfl) dMg_hangChildren_119 (s_Mg_nearestOf hw) (fun _ _ hx => False.elim hx) (tk_i fun v21 h20 hw => ?_)
          obtain ⟨a22, e23, f24, hw⟩ := hw
          refine te_callV mv_Bu_hang (ci := 0) (dc := 2) (as := [vI x5, vI x4, vI v21]) (rest := []) kMg_195 rfl (Nat.le_of_ble_eq_true rfl) (Nat.le_of_ble_eq_true rfl) rfl rfl e23 f24 (Nat.le_of_ble_eq_true rfl) dMg_hangChildren_122 (s_Bu_hang hw) (fun _ _ hx => False.elim hx) (tk_v fun h25 hw => ?_)
          refine tq_inc (k := (1 : Int32)) (ls' := [some (vR (some o)), none, some (vR x2), some (vR x3), some (vI x4), some (vI (x5 + (1 : Int32)))]) dMg_hangChildren_125 rfl tni_1 (Nat.le_of_ble_eq_true rfl) rfl ?_
          refine tq_goto (tgt := 64) dMg_hangChildren_128 (by decide) ?_
          refine tpR.fo (ls' := [some (vR (some o)), none, some (vR x2), some (vR x3), some (vI x4), some (vI (x5 + (1 : Int32)))]) ?_ (And.intro rfl (And.intro rfl (And.intro rfl (And.intro rfl (And.intro rfl trivial)))))
          exact ih _ _ _ _ _ _ hw
theorem s_Mg_hangChildren {o : Nat} {x1 : Option Nat} {x2 : Option Nat} {x3 : Option Nat} {x4 : Int32} {h : tpH} {R : tpH → Prop} (hw : w_Mg_hangChildren o x1 x2 x3 x4 h R) : tpC Mg_hangChildren 7 [vR (some o), vR x1, vR x2, vR x3, vI x4] h (tpOv R (fun _ _ => False)) := by
  refine tpC_of mv_Mg_hangChildren.2.2.2.1 rfl rfl (Nat.le_of_ble_eq_true rfl) ?_
  show tpR Mg_hangChildren 7 h _ _ 0 [some (vR (some o)), some (vR x1), some (vR x2), some (vR x3), some (vI x4), none] [] h
  unfold w_Mg_hangChildren at hw
  refine tq_aload_n dMg_hangChildren_0 rfl rfl ?_
  obtain ⟨f1, hw⟩ := hw
  refine te_getr dMg_hangChildren_1 fMg_47 rfl rfl f1 ?_
  refine tq_iload dMg_hangChildren_4 rfl ?_
  obtain ⟨a2, e3, f4, hw⟩ := hw
  refine te_callV mv_Ma_isLoose (ci := 4) (dc := 1) (as := [vI x4]) (rest := []) kMg_173 rfl (Nat.le_of_ble_eq_true rfl) (Nat.le_of_ble_eq_true rfl) rfl rfl e3 f4 (Nat.le_of_ble_eq_true rfl) dMg_hangChildren_6 (s_Ma_isLoose hw) (fun _ _ hx => False.elim hx) (tk_i fun v6 h5 hw => ?_)
  refine tq_ifne (tgt := 61) dMg_hangChildren_9 (by decide) (fun c7 => ?_) (fun c7 => ?_)
  · have hw := hw.1 c7
    refine tq_iconst (v := (0 : Int32)) dMg_hangChildren_61 tni_0 ?_
    refine tq_istore (ls' := [some (vR (some o)), some (vR x1), some (vR x2), some (vR x3), some (vI x4), some (vI (0 : Int32))]) dMg_hangChildren_62 (Nat.le_of_ble_eq_true rfl) rfl ?_
    refine tpR.fo (ls' := [some (vR (some o)), none, some (vR x2), some (vR x3), some (vI x4), some (vI (0 : Int32))]) ?_ (And.intro rfl (And.intro rfl (And.intro rfl (And.intro rfl (And.intro rfl trivial)))))
    obtain ⟨n, hw⟩ := hw
    exact s_Mg_hangChildren_64 n _ _ _ _ _ _ hw
  · have hw := hw.2 c7
    refine tq_aload_n dMg_hangChildren_12 rfl rfl ?_
    refine tq_aload_n dMg_hangChildren_13 rfl rfl ?_
    refine tq_aload_n dMg_hangChildren_14 rfl rfl ?_
    refine tq_iload dMg_hangChildren_15 rfl ?_
    refine tq_aload_n dMg_hangChildren_17 rfl rfl ?_
    obtain ⟨f8, hw⟩ := hw
    refine te_getr dMg_hangChildren_18 fMg_32 rfl rfl f8 ?_
    refine te_callV mv_Mg_readShared (ci := 6) (dc := 5) (as := [vR x1, vR x1, vI x4, vR (hR h5 o 7)]) (rest := []) kMg_176 rfl (Nat.le_of_ble_eq_true rfl) (Nat.le_of_ble_eq_true rfl) rfl rfl rfl f8 (Nat.le_of_ble_eq_true rfl) dMg_hangChildren_21 (s_Mg_readShared hw) (fun _ _ hx => False.elim hx) (tk_v fun h9 hw => ?_)
    refine tq_aload_n dMg_hangChildren_24 rfl rfl ?_
    refine tq_aload_n dMg_hangChildren_25 rfl rfl ?_
    refine tq_aload_n dMg_hangChildren_26 rfl rfl ?_
    refine tq_iload dMg_hangChildren_27 rfl ?_
    refine tq_aload_n dMg_hangChildren_29 rfl rfl ?_
    obtain ⟨f10, hw⟩ := hw
    refine te_getr dMg_hangChildren_30 fMg_35 rfl rfl f10 ?_
    refine te_callV mv_Mg_readShared (ci := 6) (dc := 5) (as := [vR x1, vR x2, vI x4, vR (hR h9 o 8)]) (rest := []) kMg_176 rfl (Nat.le_of_ble_eq_true rfl) (Nat.le_of_ble_eq_true rfl) rfl rfl rfl f10 (Nat.le_of_ble_eq_true rfl) dMg_hangChildren_33 (s_Mg_readShared hw) (fun _ _ hx => False.elim hx) (tk_v fun h11 hw => ?_)
    refine tq_aload_n dMg_hangChildren_36 rfl rfl ?_
    refine tq_aload_n dMg_hangChildren_37 rfl rfl ?_
    refine tq_aload_n dMg_hangChildren_38 rfl rfl ?_
    refine tq_iload dMg_hangChildren_39 rfl ?_
    refine tq_aload_n dMg_hangChildren_41 rfl rfl ?_
    obtain ⟨f12, hw⟩ := hw
    refine te_getr dMg_hangChildren_42 fMg_38 rfl rfl f12 ?_
    refine te_callV mv_Mg_readShared (ci := 6) (dc := 5) (as := [vR x1, vR x3, vI x4, vR (hR h11 o 9)]) (rest := []) kMg_176 rfl (Nat.le_of_ble_eq_true rfl) (Nat.le_of_ble_eq_true rfl) rfl rfl rfl f12 (Nat.le_of_ble_eq_true rfl) dMg_hangChildren_45 (s_Mg_readShared hw) (fun _ _ hx => False.elim hx) (tk_v fun h13 hw => ?_)
    refine tq_aload_n dMg_hangChildren_48 rfl rfl ?_
    refine tq_aload_n dMg_hangChildren_49 rfl rfl ?_
    refine tq_aload_n dMg_hangChildren_50 rfl rfl ?_
    refine tq_iload dMg_hangChildren_51 rfl ?_
    obtain ⟨f14, hw⟩ := hw
    refine te_callV mv_Mg_leader (ci := 6) (dc := 6) (as := [vR x1, vI x4]) (rest := [vR (some o)]) kMg_180 rfl (Nat.le_of_ble_eq_true rfl) (Nat.le_of_ble_eq_true rfl) rfl rfl rfl f14 (Nat.le_of_ble_eq_true rfl) dMg_hangChildren_53 (s_Mg_leader hw) (fun _ _ hx => False.elim hx) (tk_r fun v16 h15 hw => ?_)
    refine tq_iload dMg_hangChildren_56 rfl ?_
    obtain ⟨f17, hw⟩ := hw
    refine te_callV mv_Mg_hangShared (ci := 6) (dc := 3) (as := [vR v16, vI x4]) (rest := []) kMg_184 rfl (Nat.le_of_ble_eq_true rfl) (Nat.le_of_ble_eq_true rfl) rfl rfl rfl f17 (Nat.le_of_ble_eq_true rfl) dMg_hangChildren_58 (s_Mg_hangShared hw) (fun _ _ hx => False.elim hx) (tk_v fun h18 hw => ?_)
    refine tq_iconst (v := (0 : Int32)) dMg_hangChildren_61 tni_0 ?_
    refine tq_istore (ls' := [some (vR (some o)), some (vR x1), some (vR x2), some (vR x3), some (vI x4), some (vI (0 : Int32))]) dMg_hangChildren_62 (Nat.le_of_ble_eq_true rfl) rfl ?_
    refine tpR.fo (ls' := [some (vR (some o)), none, some (vR x2), some (vR x3), some (vI x4), some (vI (0 : Int32))]) ?_ (And.intro rfl (And.intro rfl (And.intro rfl (And.intro rfl (And.intro rfl trivial)))))
    obtain ⟨n, hw⟩ := hw
    exact s_Mg_hangChildren_64 n _ _ _ _ _ _ hw
/-! T$Merger.mergeTrees -/
theorem dMg_mergeTrees_0 : decode (mB Mg_mergeTrees) 0 = .ok (.aload_n 0, 1) := by decide +kernel
theorem dMg_mergeTrees_1 : decode (mB Mg_mergeTrees) 1 = .ok (.getfield 41, 3) := by decide +kernel
theorem dMg_mergeTrees_4 : decode (mB Mg_mergeTrees) 4 = .ok (.invokevirtual 55, 3) := by decide +kernel
theorem dMg_mergeTrees_7 : decode (mB Mg_mergeTrees) 7 = .ok (.aload_n 0, 1) := by decide +kernel
theorem dMg_mergeTrees_8 : decode (mB Mg_mergeTrees) 8 = .ok (.getfield 44, 3) := by decide +kernel
theorem dMg_mergeTrees_11 : decode (mB Mg_mergeTrees) 11 = .ok (.invokevirtual 55, 3) := by decide +kernel
theorem dMg_mergeTrees_14 : decode (mB Mg_mergeTrees) 14 = .ok (.iconst 0, 1) := by decide +kernel
theorem dMg_mergeTrees_15 : decode (mB Mg_mergeTrees) 15 = .ok (.istore 4, 2) := by decide +kernel
theorem dMg_mergeTrees_17 : decode (mB Mg_mergeTrees) 17 = .ok (.iload 4, 2) := by decide +kernel
theorem dMg_mergeTrees_19 : decode (mB Mg_mergeTrees) 19 = .ok (.aload_n 0, 1) := by decide +kernel
theorem dMg_mergeTrees_20 : decode (mB Mg_mergeTrees) 20 = .ok (.getfield 47, 3) := by decide +kernel
theorem dMg_mergeTrees_23 : decode (mB Mg_mergeTrees) 23 = .ok (.getfield 58, 3) := by decide +kernel
theorem dMg_mergeTrees_26 : decode (mB Mg_mergeTrees) 26 = .ok (.if_icmp .ge 18, 3) := by decide +kernel
theorem dMg_mergeTrees_29 : decode (mB Mg_mergeTrees) 29 = .ok (.aload_n 0, 1) := by decide +kernel
theorem dMg_mergeTrees_30 : decode (mB Mg_mergeTrees) 30 = .ok (.aload_n 1, 1) := by decide +kernel
theorem dMg_mergeTrees_31 : decode (mB Mg_mergeTrees) 31 = .ok (.aload_n 2, 1) := by decide +kernel
theorem dMg_mergeTrees_32 : decode (mB Mg_mergeTrees) 32 = .ok (.aload_n 3, 1) := by decide +kernel
theorem dMg_mergeTrees_33 : decode (mB Mg_mergeTrees) 33 = .ok (.iload 4, 2) := by decide +kernel
theorem dMg_mergeTrees_35 : decode (mB Mg_mergeTrees) 35 = .ok (.invokevirtual 64, 3) := by decide +kernel
theorem dMg_mergeTrees_38 : decode (mB Mg_mergeTrees) 38 = .ok (.iinc 4 1, 3) := by decide +kernel
theorem dMg_mergeTrees_41 : decode (mB Mg_mergeTrees) 41 = .ok (.goto (-24), 3) := by decide +kernel
theorem dMg_mergeTrees_44 : decode (mB Mg_mergeTrees) 44 = .ok (.aload_n 0, 1) := by decide +kernel
theorem dMg_mergeTrees_45 : decode (mB Mg_mergeTrees) 45 = .ok (.aload_n 1, 1) := by decide +kernel
theorem dMg_mergeTrees_46 : decode (mB Mg_mergeTrees) 46 = .ok (.invokevirtual 68, 3) := by decide +kernel
theorem dMg_mergeTrees_49 : decode (mB Mg_mergeTrees) 49 = .ok (.aload_n 1, 1) := by decide +kernel
theorem dMg_mergeTrees_50 : decode (mB Mg_mergeTrees) 50 = .ok (.iconst 0, 1) := by decide +kernel
theorem dMg_mergeTrees_51 : decode (mB Mg_mergeTrees) 51 = .ok (.invokevirtual 72, 3) := by decide +kernel
theorem dMg_mergeTrees_54 : decode (mB Mg_mergeTrees) 54 = .ok (.istore 4, 2) := by decide +kernel
theorem dMg_mergeTrees_56 : decode (mB Mg_mergeTrees) 56 = .ok (.aload_n 0, 1) := by decide +kernel
theorem dMg_mergeTrees_57 : decode (mB Mg_mergeTrees) 57 = .ok (.iload 4, 2) := by decide +kernel
theorem dMg_mergeTrees_59 : decode (mB Mg_mergeTrees) 59 = .ok (.invokevirtual 78, 3) := by decide +kernel
theorem dMg_mergeTrees_62 : decode (mB Mg_mergeTrees) 62 = .ok (.iload 4, 2) := by decide +kernel
theorem dMg_mergeTrees_64 : decode (mB Mg_mergeTrees) 64 = .ok (.istore 5, 2) := by decide +kernel
theorem dMg_mergeTrees_66 : decode (mB Mg_mergeTrees) 66 = .ok (.iconst 0, 1) := by decide +kernel
theorem dMg_mergeTrees_67 : decode (mB Mg_mergeTrees) 67 = .ok (.istore 6, 2) := by decide +kernel
theorem dMg_mergeTrees_69 : decode (mB Mg_mergeTrees) 69 = .ok (.iload 6, 2) := by decide +kernel
theorem dMg_mergeTrees_71 : decode (mB Mg_mergeTrees) 71 = .ok (.sipush 300, 3) := by decide +kernel
theorem dMg_mergeTrees_74 : decode (mB Mg_mergeTrees) 74 = .ok (.if_icmp .ge 37, 3) := by decide +kernel
theorem dMg_mergeTrees_77 : decode (mB Mg_mergeTrees) 77 = .ok (.iload 5, 2) := by decide +kernel
theorem dMg_mergeTrees_79 : decode (mB Mg_mergeTrees) 79 = .ok (.iconst (-1), 1) := by decide +kernel
theorem dMg_mergeTrees_80 : decode (mB Mg_mergeTrees) 80 = .ok (.if_icmp .eq 31, 3) := by decide +kernel
theorem dMg_mergeTrees_83 : decode (mB Mg_mergeTrees) 83 = .ok (.aload_n 0, 1) := by decide +kernel
theorem dMg_mergeTrees_84 : decode (mB Mg_mergeTrees) 84 = .ok (.aload_n 1, 1) := by decide +kernel
theorem dMg_mergeTrees_85 : decode (mB Mg_mergeTrees) 85 = .ok (.aload_n 2, 1) := by decide +kernel
theorem dMg_mergeTrees_86 : decode (mB Mg_mergeTrees) 86 = .ok (.aload_n 3, 1) := by decide +kernel
theorem dMg_mergeTrees_87 : decode (mB Mg_mergeTrees) 87 = .ok (.iload 5, 2) := by decide +kernel
theorem dMg_mergeTrees_89 : decode (mB Mg_mergeTrees) 89 = .ok (.invokevirtual 81, 3) := by decide +kernel
theorem dMg_mergeTrees_92 : decode (mB Mg_mergeTrees) 92 = .ok (.aload_n 0, 1) := by decide +kernel
theorem dMg_mergeTrees_93 : decode (mB Mg_mergeTrees) 93 = .ok (.getfield 51, 3) := by decide +kernel
theorem dMg_mergeTrees_96 : decode (mB Mg_mergeTrees) 96 = .ok (.iload 5, 2) := by decide +kernel
theorem dMg_mergeTrees_98 : decode (mB Mg_mergeTrees) 98 = .ok (.iload 4, 2) := by decide +kernel
theorem dMg_mergeTrees_100 : decode (mB Mg_mergeTrees) 100 = .ok (.invokevirtual 84, 3) := by decide +kernel
theorem dMg_mergeTrees_103 : decode (mB Mg_mergeTrees) 103 = .ok (.istore 5, 2) := by decide +kernel
theorem dMg_mergeTrees_105 : decode (mB Mg_mergeTrees) 105 = .ok (.iinc 6 1, 3) := by decide +kernel
theorem dMg_mergeTrees_108 : decode (mB Mg_mergeTrees) 108 = .ok (.goto (-39), 3) := by decide +kernel
theorem dMg_mergeTrees_111 : decode (mB Mg_mergeTrees) 111 = .ok (.aload_n 0, 1) := by decide +kernel
theorem dMg_mergeTrees_112 : decode (mB Mg_mergeTrees) 112 = .ok (.getfield 51, 3) := by decide +kernel
theorem dMg_mergeTrees_115 : decode (mB Mg_mergeTrees) 115 = .ok (.invokevirtual 90, 3) := by decide +kernel
theorem dMg_mergeTrees_118 : decode (mB Mg_mergeTrees) 118 = .ok (.areturn, 1) := by decide +kernel
def w_Mg_mergeTrees_111 (R : Option Nat → tpH → Prop) (o : Nat) (h : tpH) : Prop :=
  hT h o = 7 ∧ (∃ a2, (hR h o 1) = some a2 ∧ hT h a2 = 1 ∧ (w_Bu_freeze a2 h (fun v6 h5 => R v6 h5)))
def b_Mg_mergeTrees_69 (R : Option Nat → tpH → Prop) (Y : Nat → (Option Nat) → (Option Nat) → (Option Nat) → Int32 → Int32 → Int32 → tpH → Prop) (o : Nat) (x1 : Option Nat) (x2 : Option Nat) (x3 : Option Nat) (x4 : Int32) (x5 : Int32) (x6 : Int32) (h : tpH) : Prop :=
  ((300 : Int32) ≤ x6 → (w_Mg_mergeTrees_111 R o h)) ∧ (¬ (300 : Int32) ≤ x6 → ((x5 = (-1 : Int32) → (w_Mg_mergeTrees_111 R o h)) ∧ (¬ x5 = (-1 : Int32) → (hT h o = 7 ∧ (w_Mg_hangChildren o x1 x2 x3 x5 h (fun h4 => hT h4 o = 7 ∧ (∃ a6, (hR h4 o 1) = some a6 ∧ hT h4 a6 = 1 ∧ (w_Bu_nextInOrder a6 x5 x4 h4 (fun v10 h9 => Y o x1 x2 x3 x4 v10 (x6 + (1 : Int32)) h9)))))))))
def w_Mg_mergeTrees_69 (R : Option Nat → tpH → Prop) : Nat → Nat → (Option Nat) → (Option Nat) → (Option Nat) → Int32 → Int32 → Int32 → tpH → Prop
  | 0 => fun _ _ _ _ _ _ _ _ => False
  | n + 1 => b_Mg_mergeTrees_69 R (w_Mg_mergeTrees_69 R n)
def b_Mg_mergeTrees_17 (R : Option Nat → tpH → Prop) (Y : Nat → (Option Nat) → (Option Nat) → (Option Nat) → Int32 → tpH → Prop) (o : Nat) (x1 : Option Nat) (x2 : Option Nat) (x3 : Option Nat) (x4 : Int32) (h : tpH) : Prop :=
  hT h o = 7 ∧ (∃ a2, (hR h o 0) = some a2 ∧ hT h a2 = 5 ∧ (((hI h a2 2) ≤ x4 → (w_Mg_mendParents o x1 h (fun h6 => ∃ a7, x1 = some a7 ∧ hT h6 a7 = 12 ∧ (w_Tr_markOf a7 (0 : Int32) h6 (fun v11 h10 => hT h10 o = 7 ∧ (w_Mg_sproutAll o v11 h10 (fun h13 => ∃ n, w_Mg_mergeTrees_69 R n o x1 x2 x3 v11 v11 (0 : Int32) h13))))))) ∧ (¬ (hI h a2 2) ≤ x4 → (w_Mg_decide o x1 x2 x3 x4 h (fun h14 => Y o x1 x2 x3 (x4 + (1 : Int32)) h14)))))
def w_Mg_mergeTrees_17 (R : Option Nat → tpH → Prop) : Nat → Nat → (Option Nat) → (Option Nat) → (Option Nat) → Int32 → tpH → Prop
  | 0 => fun _ _ _ _ _ _ => False
  | n + 1 => b_Mg_mergeTrees_17 R (w_Mg_mergeTrees_17 R n)
def w_Mg_mergeTrees (o : Nat) (x1 : Option Nat) (x2 : Option Nat) (x3 : Option Nat) (h : tpH) (R : Option Nat → tpH → Prop) : Prop :=
  hT h o = 7 ∧ (∃ a2, (hR h o 10) = some a2 ∧ hT h a2 = 8 ∧ (w_Ro_clear a2 h (fun h5 => hT h5 o = 7 ∧ (∃ a7, (hR h5 o 11) = some a7 ∧ hT h5 a7 = 8 ∧ (w_Ro_clear a7 h5 (fun h10 => ∃ n, w_Mg_mergeTrees_17 R n o x1 x2 x3 (0 : Int32) h10))))))
theorem s_Mg_mergeTrees_111 {h0 : tpH} {av : List tpV} {R : Option Nat → tpH → Prop} : ∀ (o : Nat) (h : tpH), w_Mg_mergeTrees_111 R o h → tpR Mg_mergeTrees 8 h0 av (tpOr R (fun _ _ => False)) 111 [some (vR (some o)), none, none, none, none, none, none] [] h := by
  intro o h hw
  unfold w_Mg_mergeTrees_111 at hw
  refine tq_aload_n dMg_mergeTrees_111 rfl rfl ?_
  obtain ⟨f1, hw⟩ := hw
  refine te_getr dMg_mergeTrees_112 fMg_51 rfl rfl f1 ?_
  obtain ⟨a2, e3, f4, hw⟩ := hw
  refine te_callV mv_Bu_freeze (ci := 0) (dc := 3) (as := []) (rest := []) kMg_90 rfl (Nat.le_of_ble_eq_true rfl) (Nat.le_of_ble_eq_true rfl) rfl rfl e3 f4 (Nat.le_of_ble_eq_true rfl) dMg_mergeTrees_115 (s_Bu_freeze hw) (fun _ _ hx => False.elim hx) (tk_r fun v6 h5 hw => ?_)
  exact tq_aret rfl rfl dMg_mergeTrees_118 hw
theorem s_Mg_mergeTrees_69 {h0 : tpH} {av : List tpV} {R : Option Nat → tpH → Prop} : ∀ (n : Nat) (o : Nat) (x1 : Option Nat) (x2 : Option Nat) (x3 : Option Nat) (x4 : Int32) (x5 : Int32) (x6 : Int32) (h : tpH), w_Mg_mergeTrees_69 R n o x1 x2 x3 x4 x5 x6 h → tpR Mg_mergeTrees 8 h0 av (tpOr R (fun _ _ => False)) 69 [some (vR (some o)), some (vR x1), some (vR x2), some (vR x3), some (vI x4), some (vI x5), some (vI x6)] [] h := by
  intro n
  induction n with
  | zero => intro o x1 x2 x3 x4 x5 x6 h hw; exact False.elim hw
  | succ n ih =>
    intro o x1 x2 x3 x4 x5 x6 h hw
    change b_Mg_mergeTrees_69 R (w_Mg_mergeTrees_69 R n) o x1 x2 x3 x4 x5 x6 h at hw
    unfold b_Mg_mergeTrees_69 at hw
    refine tq_iload dMg_mergeTrees_69 rfl ?_
    refine tq_sipush (v := (300 : Int32)) dMg_mergeTrees_71 tns_300 ?_
    refine tq_icmpge (tgt := 111) dMg_mergeTrees_74 (by decide) (fun c1 => ?_) (fun c1 => ?_)
    · have hw := hw.1 c1
      refine tpR.fo (ls' := [some (vR (some o)), none, none, none, none, none, none]) ?_ (And.intro rfl trivial)
      exact s_Mg_mergeTrees_111 _ _ hw
    · have hw := hw.2 c1
      refine tq_iload dMg_mergeTrees_77 rfl ?_
      refine tq_iconst (v := (-1 : Int32)) dMg_mergeTrees_79 tni_m1 ?_
      refine tq_icmpeq (tgt := 111) dMg_mergeTrees_80 (by decide) (fun c2 => ?_) (fun c2 => ?_)
      · have hw := hw.1 c2
        refine tpR.fo (ls' := [some (vR (some o)), none, none, none, none, none, none]) ?_ (And.intro rfl trivial)
        exact s_Mg_mergeTrees_111 _ _ hw
      · have hw := hw.2 c2
        refine tq_aload_n dMg_mergeTrees_83 rfl rfl ?_
        refine tq_aload_n dMg_mergeTrees_84 rfl rfl ?_
        refine tq_aload_n dMg_mergeTrees_85 rfl rfl ?_
        refine tq_aload_n dMg_mergeTrees_86 rfl rfl ?_
        refine tq_iload dMg_mergeTrees_87 rfl ?_
        obtain ⟨f3, hw⟩ := hw
        refine te_callV mv_Mg_hangChildren (ci := 6) (dc := 7) (as := [vR x1, vR x2, vR x3, vI x5]) (rest := []) kMg_81 rfl (Nat.le_of_ble_eq_true rfl) (Nat.le_of_ble_eq_true rfl) rfl rfl rfl f3 (Nat.le_of_ble_eq_true rfl) dMg_mergeTrees_89 (s_Mg_hangChildren hw) (fun _ _ hx => False.elim hx) (tk_v fun h4 hw => ?_)
        refine tq_aload_n dMg_mergeTrees_92 rfl rfl ?_
        obtain ⟨f5, hw⟩ := hw
        refine te_getr dMg_mergeTrees_93 fMg_51 rfl rfl f5 ?_
        refine tq_iload dMg_mergeTrees_96 rfl ?_
        refine tq_iload dMg_mergeTrees_98 rfl ?_
        obtain ⟨a6, e7, f8, hw⟩ := hw
        refine te_callV mv_Bu_nextInOrder (ci := 0) (dc := 1) (as := [vI x5, vI x4]) (rest := []) kMg_84 rfl (Nat.le_of_ble_eq_true rfl) (Nat.le_of_ble_eq_true rfl) rfl rfl e7 f8 (Nat.le_of_ble_eq_true rfl) dMg_mergeTrees_100 (s_Bu_nextInOrder hw) (fun _ _ hx => False.elim hx) (tk_i fun v10 h9 hw => ?_)
        refine tq_istore (ls' := [some (vR (some o)), some (vR x1), some (vR x2), some (vR x3), some (vI x4), some (vI v10), some (vI x6)]) dMg_mergeTrees_103 (Nat.le_of_ble_eq_true rfl) rfl ?_
        refine tq_inc (k := (1 : Int32)) (ls' := [some (vR (some o)), some (vR x1), some (vR x2), some (vR x3), some (vI x4), some (vI v10), some (vI (x6 + (1 : Int32)))]) dMg_mergeTrees_105 rfl tni_1 (Nat.le_of_ble_eq_true rfl) rfl ?_
        refine tq_goto (tgt := 69) dMg_mergeTrees_108 (by decide) ?_
        refine tpR.fo (ls' := [some (vR (some o)), some (vR x1), some (vR x2), some (vR x3), some (vI x4), some (vI v10), some (vI (x6 + (1 : Int32)))]) ?_ (And.intro rfl (And.intro rfl (And.intro rfl (And.intro rfl (And.intro rfl (And.intro rfl (And.intro rfl trivial)))))))
        exact ih _ _ _ _ _ _ _ _ hw
theorem s_Mg_mergeTrees_17 {h0 : tpH} {av : List tpV} {R : Option Nat → tpH → Prop} : ∀ (n : Nat) (o : Nat) (x1 : Option Nat) (x2 : Option Nat) (x3 : Option Nat) (x4 : Int32) (h : tpH), w_Mg_mergeTrees_17 R n o x1 x2 x3 x4 h → tpR Mg_mergeTrees 8 h0 av (tpOr R (fun _ _ => False)) 17 [some (vR (some o)), some (vR x1), some (vR x2), some (vR x3), some (vI x4), none, none] [] h := by
  intro n
  induction n with
  | zero => intro o x1 x2 x3 x4 h hw; exact False.elim hw
  | succ n ih =>
    intro o x1 x2 x3 x4 h hw
    change b_Mg_mergeTrees_17 R (w_Mg_mergeTrees_17 R n) o x1 x2 x3 x4 h at hw
    unfold b_Mg_mergeTrees_17 at hw
    refine tq_iload dMg_mergeTrees_17 rfl ?_
    refine tq_aload_n dMg_mergeTrees_19 rfl rfl ?_
    obtain ⟨f1, hw⟩ := hw
    refine te_getr dMg_mergeTrees_20 fMg_47 rfl rfl f1 ?_
    obtain ⟨a2, e3, f4, hw⟩ := hw
    refine te_geti dMg_mergeTrees_23 fMg_58 rfl e3 f4 ?_
    refine tq_icmpge (tgt := 44) dMg_mergeTrees_26 (by decide) (fun c5 => ?_) (fun c5 => ?_)
    · have hw := hw.1 c5
      refine tq_aload_n dMg_mergeTrees_44 rfl rfl ?_
      refine tq_aload_n dMg_mergeTrees_45 rfl rfl ?_
      refine te_callV mv_Mg_mendParents (ci := 6) (dc := 7) (as := [vR x1]) (rest := []) kMg_68 rfl (Nat.le_of_ble_eq_true rfl) (Nat.le_of_ble_eq_true rfl) rfl rfl rfl f1 (Nat.le_of_ble_eq_true rfl) dMg_mergeTrees_46 (s_Mg_mendParents hw) (fun _ _ hx => False.elim hx) (tk_v fun h6 hw => ?_)
      refine tq_aload_n dMg_mergeTrees_49 rfl rfl ?_
      refine tq_iconst (v := (0 : Int32)) dMg_mergeTrees_50 tni_0 ?_
      obtain ⟨a7, e8, f9, hw⟩ := hw
      refine te_callV mv_Tr_markOf (ci := 11) (dc := 1) (as := [vI (0 : Int32)]) (rest := []) kMg_72 rfl (Nat.le_of_ble_eq_true rfl) (Nat.le_of_ble_eq_true rfl) rfl rfl e8 f9 (Nat.le_of_ble_eq_true rfl) dMg_mergeTrees_51 (s_Tr_markOf hw) (fun _ _ hx => False.elim hx) (tk_i fun v11 h10 hw => ?_)
      refine tq_istore (ls' := [some (vR (some o)), some (vR x1), some (vR x2), some (vR x3), some (vI v11), none, none]) dMg_mergeTrees_54 (Nat.le_of_ble_eq_true rfl) rfl ?_
      refine tq_aload_n dMg_mergeTrees_56 rfl rfl ?_
      refine tq_iload dMg_mergeTrees_57 rfl ?_
      obtain ⟨f12, hw⟩ := hw
      refine te_callV mv_Mg_sproutAll (ci := 6) (dc := 3) (as := [vI v11]) (rest := []) kMg_78 rfl (Nat.le_of_ble_eq_true rfl) (Nat.le_of_ble_eq_true rfl) rfl rfl rfl f12 (Nat.le_of_ble_eq_true rfl) dMg_mergeTrees_59 (s_Mg_sproutAll hw) (fun _ _ hx => False.elim hx) (tk_v fun h13 hw => ?_)
      refine tq_iload dMg_mergeTrees_62 rfl ?_
      refine tq_istore (ls' := [some (vR (some o)), some (vR x1), some (vR x2), some (vR x3), some (vI v11), some (vI v11), none]) dMg_mergeTrees_64 (Nat.le_of_ble_eq_true rfl) rfl ?_
      refine tq_iconst (v := (0 : Int32)) dMg_mergeTrees_66 tni_0 ?_
      refine tq_istore (ls' := [some (vR (some o)), some (vR x1), some (vR x2), some (vR x3), some (vI v11), some (vI v11), some (vI (0 : Int32))]) dMg_mergeTrees_67 (Nat.le_of_ble_eq_true rfl) rfl ?_
      refine tpR.fo (ls' := [some (vR (some o)), some (vR x1), some (vR x2), some (vR x3), some (vI v11), some (vI v11), some (vI (0 : Int32))]) ?_ (And.intro rfl (And.intro rfl (And.intro rfl (And.intro rfl (And.intro rfl (And.intro rfl (And.intro rfl trivial)))))))
      obtain ⟨n, hw⟩ := hw
      exact s_Mg_mergeTrees_69 n _ _ _ _ _ _ _ _ hw
    · have hw := hw.2 c5
      refine tq_aload_n dMg_mergeTrees_29 rfl rfl ?_
      refine tq_aload_n dMg_mergeTrees_30 rfl rfl ?_
      refine tq_aload_n dMg_mergeTrees_31 rfl rfl ?_
      refine tq_aload_n dMg_mergeTrees_32 rfl rfl ?_
      refine tq_iload dMg_mergeTrees_33 rfl ?_
      refine te_callV mv_Mg_decide (ci := 6) (dc := 7) (as := [vR x1, vR x2, vR x3, vI x4]) (rest := []) kMg_64 rfl (Nat.le_of_ble_eq_true rfl) (Nat.le_of_ble_eq_true rfl) rfl rfl rfl f1 (Nat.le_of_ble_eq_true rfl) dMg_mergeTrees_35 (s_Mg_decide hw) (fun _ _ hx => False.elim hx) (tk_v fun h14 hw => ?_)
      refine tq_inc (k := (1 : Int32)) (ls' := [some (vR (some o)), some (vR x1), some (vR x2), some (vR x3), some (vI (x4 + (1 : Int32))), none, none]) dMg_mergeTrees_38 rfl tni_1 (Nat.le_of_ble_eq_true rfl) rfl ?_
      refine tq_goto (tgt := 17) dMg_mergeTrees_41 (by decide) ?_
      refine tpR.fo (ls' := [some (vR (some o)), some (vR x1), some (vR x2), some (vR x3), some (vI (x4 + (1 : Int32))), none, none]) ?_ (And.intro rfl (And.intro rfl (And.intro rfl (And.intro rfl (And.intro rfl trivial)))))
      exact ih _ _ _ _ _ _ hw
theorem s_Mg_mergeTrees {o : Nat} {x1 : Option Nat} {x2 : Option Nat} {x3 : Option Nat} {h : tpH} {R : Option Nat → tpH → Prop} (hw : w_Mg_mergeTrees o x1 x2 x3 h R) : tpC Mg_mergeTrees 8 [vR (some o), vR x1, vR x2, vR x3] h (tpOr R (fun _ _ => False)) := by
  refine tpC_of mv_Mg_mergeTrees.2.2.2.1 rfl rfl (Nat.le_of_ble_eq_true rfl) ?_
  show tpR Mg_mergeTrees 8 h _ _ 0 [some (vR (some o)), some (vR x1), some (vR x2), some (vR x3), none, none, none] [] h
  unfold w_Mg_mergeTrees at hw
  refine tq_aload_n dMg_mergeTrees_0 rfl rfl ?_
  obtain ⟨f1, hw⟩ := hw
  refine te_getr dMg_mergeTrees_1 fMg_41 rfl rfl f1 ?_
  obtain ⟨a2, e3, f4, hw⟩ := hw
  refine te_callV mv_Ro_clear (ci := 7) (dc := 0) (as := []) (rest := []) kMg_55 rfl (Nat.le_of_ble_eq_true rfl) (Nat.le_of_ble_eq_true rfl) rfl rfl e3 f4 (Nat.le_of_ble_eq_true rfl) dMg_mergeTrees_4 (s_Ro_clear hw) (fun _ _ hx => False.elim hx) (tk_v fun h5 hw => ?_)
  refine tq_aload_n dMg_mergeTrees_7 rfl rfl ?_
  obtain ⟨f6, hw⟩ := hw
  refine te_getr dMg_mergeTrees_8 fMg_44 rfl rfl f6 ?_
  obtain ⟨a7, e8, f9, hw⟩ := hw
  refine te_callV mv_Ro_clear (ci := 7) (dc := 0) (as := []) (rest := []) kMg_55 rfl (Nat.le_of_ble_eq_true rfl) (Nat.le_of_ble_eq_true rfl) rfl rfl e8 f9 (Nat.le_of_ble_eq_true rfl) dMg_mergeTrees_11 (s_Ro_clear hw) (fun _ _ hx => False.elim hx) (tk_v fun h10 hw => ?_)
  refine tq_iconst (v := (0 : Int32)) dMg_mergeTrees_14 tni_0 ?_
  refine tq_istore (ls' := [some (vR (some o)), some (vR x1), some (vR x2), some (vR x3), some (vI (0 : Int32)), none, none]) dMg_mergeTrees_15 (Nat.le_of_ble_eq_true rfl) rfl ?_
  refine tpR.fo (ls' := [some (vR (some o)), some (vR x1), some (vR x2), some (vR x3), some (vI (0 : Int32)), none, none]) ?_ (And.intro rfl (And.intro rfl (And.intro rfl (And.intro rfl (And.intro rfl trivial)))))
  obtain ⟨n, hw⟩ := hw
  exact s_Mg_mergeTrees_17 n _ _ _ _ _ _ hw
