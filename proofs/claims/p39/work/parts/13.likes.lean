/-! T$Likes.<init> -/
theorem dLi_init_0 : decode (mB Li_init) 0 = .ok (.aload_n 0, 1) := by decide +kernel
theorem dLi_init_1 : decode (mB Li_init) 1 = .ok (.invokespecial 3, 3) := by decide +kernel
theorem dLi_init_4 : decode (mB Li_init) 4 = .ok (.aload_n 0, 1) := by decide +kernel
theorem dLi_init_5 : decode (mB Li_init) 5 = .ok (.new 9, 3) := by decide +kernel
theorem dLi_init_8 : decode (mB Li_init) 8 = .ok (.dup, 1) := by decide +kernel
theorem dLi_init_9 : decode (mB Li_init) 9 = .ok (.sipush 600, 3) := by decide +kernel
theorem dLi_init_12 : decode (mB Li_init) 12 = .ok (.invokespecial 11, 3) := by decide +kernel
theorem dLi_init_15 : decode (mB Li_init) 15 = .ok (.putfield 14, 3) := by decide +kernel
theorem dLi_init_18 : decode (mB Li_init) 18 = .ok (.aload_n 0, 1) := by decide +kernel
theorem dLi_init_19 : decode (mB Li_init) 19 = .ok (.new 9, 3) := by decide +kernel
theorem dLi_init_22 : decode (mB Li_init) 22 = .ok (.dup, 1) := by decide +kernel
theorem dLi_init_23 : decode (mB Li_init) 23 = .ok (.sipush 600, 3) := by decide +kernel
theorem dLi_init_26 : decode (mB Li_init) 26 = .ok (.invokespecial 11, 3) := by decide +kernel
theorem dLi_init_29 : decode (mB Li_init) 29 = .ok (.putfield 20, 3) := by decide +kernel
theorem dLi_init_32 : decode (mB Li_init) 32 = .ok (.aload_n 0, 1) := by decide +kernel
theorem dLi_init_33 : decode (mB Li_init) 33 = .ok (.new 9, 3) := by decide +kernel
theorem dLi_init_36 : decode (mB Li_init) 36 = .ok (.dup, 1) := by decide +kernel
theorem dLi_init_37 : decode (mB Li_init) 37 = .ok (.sipush 600, 3) := by decide +kernel
theorem dLi_init_40 : decode (mB Li_init) 40 = .ok (.invokespecial 11, 3) := by decide +kernel
theorem dLi_init_43 : decode (mB Li_init) 43 = .ok (.putfield 23, 3) := by decide +kernel
theorem dLi_init_46 : decode (mB Li_init) 46 = .ok (.aload_n 0, 1) := by decide +kernel
theorem dLi_init_47 : decode (mB Li_init) 47 = .ok (.new 9, 3) := by decide +kernel
theorem dLi_init_50 : decode (mB Li_init) 50 = .ok (.dup, 1) := by decide +kernel
theorem dLi_init_51 : decode (mB Li_init) 51 = .ok (.sipush 600, 3) := by decide +kernel
theorem dLi_init_54 : decode (mB Li_init) 54 = .ok (.invokespecial 11, 3) := by decide +kernel
theorem dLi_init_57 : decode (mB Li_init) 57 = .ok (.putfield 26, 3) := by decide +kernel
theorem dLi_init_60 : decode (mB Li_init) 60 = .ok (.aload_n 0, 1) := by decide +kernel
theorem dLi_init_61 : decode (mB Li_init) 61 = .ok (.new 9, 3) := by decide +kernel
theorem dLi_init_64 : decode (mB Li_init) 64 = .ok (.dup, 1) := by decide +kernel
theorem dLi_init_65 : decode (mB Li_init) 65 = .ok (.sipush 600, 3) := by decide +kernel
theorem dLi_init_68 : decode (mB Li_init) 68 = .ok (.invokespecial 11, 3) := by decide +kernel
theorem dLi_init_71 : decode (mB Li_init) 71 = .ok (.putfield 29, 3) := by decide +kernel
theorem dLi_init_74 : decode (mB Li_init) 74 = .ok (.aload_n 0, 1) := by decide +kernel
theorem dLi_init_75 : decode (mB Li_init) 75 = .ok (.new 9, 3) := by decide +kernel
theorem dLi_init_78 : decode (mB Li_init) 78 = .ok (.dup, 1) := by decide +kernel
theorem dLi_init_79 : decode (mB Li_init) 79 = .ok (.sipush 600, 3) := by decide +kernel
theorem dLi_init_82 : decode (mB Li_init) 82 = .ok (.invokespecial 11, 3) := by decide +kernel
theorem dLi_init_85 : decode (mB Li_init) 85 = .ok (.putfield 32, 3) := by decide +kernel
theorem dLi_init_88 : decode (mB Li_init) 88 = .ok (.aload_n 0, 1) := by decide +kernel
theorem dLi_init_89 : decode (mB Li_init) 89 = .ok (.aload_n 1, 1) := by decide +kernel
theorem dLi_init_90 : decode (mB Li_init) 90 = .ok (.putfield 35, 3) := by decide +kernel
theorem dLi_init_93 : decode (mB Li_init) 93 = .ok (.return_, 1) := by decide +kernel
def w_Li_init (o : Nat) (x1 : Option Nat) (h : tpH) (R : tpH → Prop) : Prop :=
  ∀ a1 h2, a1 = hZ h → h2 = nC h 8 0 2 → (w_Ro_init a1 (600 : Int32) h2 (fun h5 => hT h5 o = 4 ∧ (∀ h7, h7 = sR h5 o 1 (some a1) → (∀ a9 h10, a9 = hZ h7 → h10 = nC h7 8 0 2 → (w_Ro_init a9 (600 : Int32) h10 (fun h13 => hT h13 o = 4 ∧ (∀ h15, h15 = sR h13 o 2 (some a9) → (∀ a17 h18, a17 = hZ h15 → h18 = nC h15 8 0 2 → (w_Ro_init a17 (600 : Int32) h18 (fun h21 => hT h21 o = 4 ∧ (∀ h23, h23 = sR h21 o 3 (some a17) → (∀ a25 h26, a25 = hZ h23 → h26 = nC h23 8 0 2 → (w_Ro_init a25 (600 : Int32) h26 (fun h29 => hT h29 o = 4 ∧ (∀ h31, h31 = sR h29 o 4 (some a25) → (∀ a33 h34, a33 = hZ h31 → h34 = nC h31 8 0 2 → (w_Ro_init a33 (600 : Int32) h34 (fun h37 => hT h37 o = 4 ∧ (∀ h39, h39 = sR h37 o 5 (some a33) → (∀ a41 h42, a41 = hZ h39 → h42 = nC h39 8 0 2 → (w_Ro_init a41 (600 : Int32) h42 (fun h45 => hT h45 o = 4 ∧ (∀ h47, h47 = sR h45 o 6 (some a41) → (∀ h49, h49 = sR h47 o 0 x1 → (R h49)))))))))))))))))))))))))
theorem s_Li_init {o : Nat} {x1 : Option Nat} {h : tpH} {R : tpH → Prop} (hw : w_Li_init o x1 h R) : tpC Li_init 2 [vR (some o), vR x1] h (tpOv R (fun _ _ => False)) := by
  refine tpC_of mi_Li_init.2.2.2.1 rfl rfl (Nat.le_of_ble_eq_true rfl) ?_
  show tpR Li_init 2 h _ _ 0 [some (vR (some o)), some (vR x1)] [] h
  unfold w_Li_init at hw
  refine tq_aload_n dLi_init_0 rfl rfl ?_
  refine tq_obj oLi_3 (Nat.le_of_ble_eq_true rfl) (Nat.le_of_ble_eq_true rfl) dLi_init_1 ?_
  refine tq_aload_n dLi_init_4 rfl rfl ?_
  refine tq_new (ci := 7) cLi_9 ti_7 rfl dLi_init_5 (fun a1 h2 e3 e4 => ?_)
  have hw := hw a1 h2 e3 e4
  refine tq_dup dLi_init_8 rfl ?_
  refine tq_sipush (v := (600 : Int32)) dLi_init_9 tns_600 ?_
  refine te_init mi_Ro_init (dc := 1) (as := [vI (600 : Int32)]) (rest := [vR (some a1), vR (some o)]) (Or.inl kLi_11) (Nat.le_of_ble_eq_true rfl) (Nat.le_of_ble_eq_true rfl) rfl rfl rfl (Nat.le_of_ble_eq_true rfl) dLi_init_12 (s_Ro_init hw) (fun _ _ hx => hx) (tk_v fun h5 hw => ?_)
  obtain ⟨f6, hw⟩ := hw
  refine te_putr dLi_init_15 pLi_14 rfl rfl rfl f6 (fun h7 e8 => ?_)
  have hw := hw h7 e8
  refine tq_aload_n dLi_init_18 rfl rfl ?_
  refine tq_new (ci := 7) cLi_9 ti_7 rfl dLi_init_19 (fun a9 h10 e11 e12 => ?_)
  have hw := hw a9 h10 e11 e12
  refine tq_dup dLi_init_22 rfl ?_
  refine tq_sipush (v := (600 : Int32)) dLi_init_23 tns_600 ?_
  refine te_init mi_Ro_init (dc := 1) (as := [vI (600 : Int32)]) (rest := [vR (some a9), vR (some o)]) (Or.inl kLi_11) (Nat.le_of_ble_eq_true rfl) (Nat.le_of_ble_eq_true rfl) rfl rfl rfl (Nat.le_of_ble_eq_true rfl) dLi_init_26 (s_Ro_init hw) (fun _ _ hx => hx) (tk_v fun h13 hw => ?_)
  obtain ⟨f14, hw⟩ := hw
  refine te_putr dLi_init_29 pLi_20 rfl rfl rfl f14 (fun h15 e16 => ?_)
  have hw := hw h15 e16
  refine tq_aload_n dLi_init_32 rfl rfl ?_
  refine tq_new (ci := 7) cLi_9 ti_7 rfl dLi_init_33 (fun a17 h18 e19 e20 => ?_)
  have hw := hw a17 h18 e19 e20
  refine tq_dup dLi_init_36 rfl ?_
  refine tq_sipush (v := (600 : Int32)) dLi_init_37 tns_600 ?_
  refine te_init mi_Ro_init (dc := 1) (as := [vI (600 : Int32)]) (rest := [vR (some a17), vR (some o)]) (Or.inl kLi_11) (Nat.le_of_ble_eq_true rfl) (Nat.le_of_ble_eq_true rfl) rfl rfl rfl (Nat.le_of_ble_eq_true rfl) dLi_init_40 (s_Ro_init hw) (fun _ _ hx => hx) (tk_v fun h21 hw => ?_)
  obtain ⟨f22, hw⟩ := hw
  refine te_putr dLi_init_43 pLi_23 rfl rfl rfl f22 (fun h23 e24 => ?_)
  have hw := hw h23 e24
  refine tq_aload_n dLi_init_46 rfl rfl ?_
  refine tq_new (ci := 7) cLi_9 ti_7 rfl dLi_init_47 (fun a25 h26 e27 e28 => ?_)
  have hw := hw a25 h26 e27 e28
  refine tq_dup dLi_init_50 rfl ?_
  refine tq_sipush (v := (600 : Int32)) dLi_init_51 tns_600 ?_
  refine te_init mi_Ro_init (dc := 1) (as := [vI (600 : Int32)]) (rest := [vR (some a25), vR (some o)]) (Or.inl kLi_11) (Nat.le_of_ble_eq_true rfl) (Nat.le_of_ble_eq_true rfl) rfl rfl rfl (Nat.le_of_ble_eq_true rfl) dLi_init_54 (s_Ro_init hw) (fun _ _ hx => hx) (tk_v fun h29 hw => ?_)
  obtain ⟨f30, hw⟩ := hw
  refine te_putr dLi_init_57 pLi_26 rfl rfl rfl f30 (fun h31 e32 => ?_)
  have hw := hw h31 e32
  refine tq_aload_n dLi_init_60 rfl rfl ?_
  refine tq_new (ci := 7) cLi_9 ti_7 rfl dLi_init_61 (fun a33 h34 e35 e36 => ?_)
  have hw := hw a33 h34 e35 e36
  refine tq_dup dLi_init_64 rfl ?_
  refine tq_sipush (v := (600 : Int32)) dLi_init_65 tns_600 ?_
  refine te_init mi_Ro_init (dc := 1) (as := [vI (600 : Int32)]) (rest := [vR (some a33), vR (some o)]) (Or.inl kLi_11) (Nat.le_of_ble_eq_true rfl) (Nat.le_of_ble_eq_true rfl) rfl rfl rfl (Nat.le_of_ble_eq_true rfl) dLi_init_68 (s_Ro_init hw) (fun _ _ hx => hx) (tk_v fun h37 hw => ?_)
  obtain ⟨f38, hw⟩ := hw
  refine te_putr dLi_init_71 pLi_29 rfl rfl rfl f38 (fun h39 e40 => ?_)
  have hw := hw h39 e40
  refine tq_aload_n dLi_init_74 rfl rfl ?_
  refine tq_new (ci := 7) cLi_9 ti_7 rfl dLi_init_75 (fun a41 h42 e43 e44 => ?_)
  have hw := hw a41 h42 e43 e44
  refine tq_dup dLi_init_78 rfl ?_
  refine tq_sipush (v := (600 : Int32)) dLi_init_79 tns_600 ?_
  refine te_init mi_Ro_init (dc := 1) (as := [vI (600 : Int32)]) (rest := [vR (some a41), vR (some o)]) (Or.inl kLi_11) (Nat.le_of_ble_eq_true rfl) (Nat.le_of_ble_eq_true rfl) rfl rfl rfl (Nat.le_of_ble_eq_true rfl) dLi_init_82 (s_Ro_init hw) (fun _ _ hx => hx) (tk_v fun h45 hw => ?_)
  obtain ⟨f46, hw⟩ := hw
  refine te_putr dLi_init_85 pLi_32 rfl rfl rfl f46 (fun h47 e48 => ?_)
  have hw := hw h47 e48
  refine tq_aload_n dLi_init_88 rfl rfl ?_
  refine tq_aload_n dLi_init_89 rfl rfl ?_
  refine te_putr dLi_init_90 pLi_35 rfl rfl rfl (by rw [e48]; exact f46) (fun h49 e50 => ?_)
  have hw := hw h49 e50
  exact tq_vret rfl dLi_init_93 hw
