/-! T$Finder.<init> -/
theorem dFi_init_0 : decode (mB Fi_init) 0 = .ok (.aload_n 0, 1) := by decide +kernel
theorem dFi_init_1 : decode (mB Fi_init) 1 = .ok (.invokespecial 3, 3) := by decide +kernel
theorem dFi_init_4 : decode (mB Fi_init) 4 = .ok (.aload_n 0, 1) := by decide +kernel
theorem dFi_init_5 : decode (mB Fi_init) 5 = .ok (.new 9, 3) := by decide +kernel
theorem dFi_init_8 : decode (mB Fi_init) 8 = .ok (.dup, 1) := by decide +kernel
theorem dFi_init_9 : decode (mB Fi_init) 9 = .ok (.sipush 300, 3) := by decide +kernel
theorem dFi_init_12 : decode (mB Fi_init) 12 = .ok (.invokespecial 11, 3) := by decide +kernel
theorem dFi_init_15 : decode (mB Fi_init) 15 = .ok (.putfield 14, 3) := by decide +kernel
theorem dFi_init_18 : decode (mB Fi_init) 18 = .ok (.aload_n 0, 1) := by decide +kernel
theorem dFi_init_19 : decode (mB Fi_init) 19 = .ok (.new 9, 3) := by decide +kernel
theorem dFi_init_22 : decode (mB Fi_init) 22 = .ok (.dup, 1) := by decide +kernel
theorem dFi_init_23 : decode (mB Fi_init) 23 = .ok (.sipush 300, 3) := by decide +kernel
theorem dFi_init_26 : decode (mB Fi_init) 26 = .ok (.invokespecial 11, 3) := by decide +kernel
theorem dFi_init_29 : decode (mB Fi_init) 29 = .ok (.putfield 20, 3) := by decide +kernel
theorem dFi_init_32 : decode (mB Fi_init) 32 = .ok (.aload_n 0, 1) := by decide +kernel
theorem dFi_init_33 : decode (mB Fi_init) 33 = .ok (.new 9, 3) := by decide +kernel
theorem dFi_init_36 : decode (mB Fi_init) 36 = .ok (.dup, 1) := by decide +kernel
theorem dFi_init_37 : decode (mB Fi_init) 37 = .ok (.sipush 300, 3) := by decide +kernel
theorem dFi_init_40 : decode (mB Fi_init) 40 = .ok (.invokespecial 11, 3) := by decide +kernel
theorem dFi_init_43 : decode (mB Fi_init) 43 = .ok (.putfield 23, 3) := by decide +kernel
theorem dFi_init_46 : decode (mB Fi_init) 46 = .ok (.aload_n 0, 1) := by decide +kernel
theorem dFi_init_47 : decode (mB Fi_init) 47 = .ok (.new 26, 3) := by decide +kernel
theorem dFi_init_50 : decode (mB Fi_init) 50 = .ok (.dup, 1) := by decide +kernel
theorem dFi_init_51 : decode (mB Fi_init) 51 = .ok (.iconst (-1), 1) := by decide +kernel
theorem dFi_init_52 : decode (mB Fi_init) 52 = .ok (.iconst (-1), 1) := by decide +kernel
theorem dFi_init_53 : decode (mB Fi_init) 53 = .ok (.iconst (-1), 1) := by decide +kernel
theorem dFi_init_54 : decode (mB Fi_init) 54 = .ok (.invokespecial 28, 3) := by decide +kernel
theorem dFi_init_57 : decode (mB Fi_init) 57 = .ok (.putfield 31, 3) := by decide +kernel
theorem dFi_init_60 : decode (mB Fi_init) 60 = .ok (.aload_n 0, 1) := by decide +kernel
theorem dFi_init_61 : decode (mB Fi_init) 61 = .ok (.aload_n 1, 1) := by decide +kernel
theorem dFi_init_62 : decode (mB Fi_init) 62 = .ok (.putfield 35, 3) := by decide +kernel
theorem dFi_init_65 : decode (mB Fi_init) 65 = .ok (.aload_n 0, 1) := by decide +kernel
theorem dFi_init_66 : decode (mB Fi_init) 66 = .ok (.aload_n 2, 1) := by decide +kernel
theorem dFi_init_67 : decode (mB Fi_init) 67 = .ok (.putfield 39, 3) := by decide +kernel
theorem dFi_init_70 : decode (mB Fi_init) 70 = .ok (.aload_n 0, 1) := by decide +kernel
theorem dFi_init_71 : decode (mB Fi_init) 71 = .ok (.aload_n 3, 1) := by decide +kernel
theorem dFi_init_72 : decode (mB Fi_init) 72 = .ok (.putfield 43, 3) := by decide +kernel
theorem dFi_init_75 : decode (mB Fi_init) 75 = .ok (.return_, 1) := by decide +kernel
def w_Fi_init (o : Nat) (x1 : Option Nat) (x2 : Option Nat) (x3 : Option Nat) (h : tpH) (R : tpH → Prop) : Prop :=
  ∀ a1 h2, a1 = hZ h → h2 = nC h 8 0 2 → (w_Ro_init a1 (300 : Int32) h2 (fun h5 => hT h5 o = 2 ∧ (∀ h7, h7 = sR h5 o 3 (some a1) → (∀ a9 h10, a9 = hZ h7 → h10 = nC h7 8 0 2 → (w_Ro_init a9 (300 : Int32) h10 (fun h13 => hT h13 o = 2 ∧ (∀ h15, h15 = sR h13 o 4 (some a9) → (∀ a17 h18, a17 = hZ h15 → h18 = nC h15 8 0 2 → (w_Ro_init a17 (300 : Int32) h18 (fun h21 => hT h21 o = 2 ∧ (∀ h23, h23 = sR h21 o 5 (some a17) → (∀ a25 h26, a25 = hZ h23 → h26 = nC h23 10 0 3 → (w_Sp_init a25 (-1 : Int32) (-1 : Int32) (-1 : Int32) h26 (fun h29 => hT h29 o = 2 ∧ (∀ h31, h31 = sR h29 o 6 (some a25) → (∀ h33, h33 = sR h31 o 0 x1 → (∀ h35, h35 = sR h33 o 1 x2 → (∀ h37, h37 = sR h35 o 2 x3 → (R h37)))))))))))))))))))
theorem s_Fi_init {o : Nat} {x1 : Option Nat} {x2 : Option Nat} {x3 : Option Nat} {h : tpH} {R : tpH → Prop} (hw : w_Fi_init o x1 x2 x3 h R) : tpC Fi_init 2 [vR (some o), vR x1, vR x2, vR x3] h (tpOv R (fun _ _ => False)) := by
  refine tpC_of mi_Fi_init.2.2.2.1 rfl rfl (Nat.le_of_ble_eq_true rfl) ?_
  show tpR Fi_init 2 h _ _ 0 [some (vR (some o)), some (vR x1), some (vR x2), some (vR x3)] [] h
  unfold w_Fi_init at hw
  refine tq_aload_n dFi_init_0 rfl rfl ?_
  refine tq_obj oFi_3 (Nat.le_of_ble_eq_true rfl) (Nat.le_of_ble_eq_true rfl) dFi_init_1 ?_
  refine tq_aload_n dFi_init_4 rfl rfl ?_
  refine tq_new (ci := 7) cFi_9 ti_7 rfl dFi_init_5 (fun a1 h2 e3 e4 => ?_)
  have hw := hw a1 h2 e3 e4
  refine tq_dup dFi_init_8 rfl ?_
  refine tq_sipush (v := (300 : Int32)) dFi_init_9 tns_300 ?_
  refine te_init mi_Ro_init (dc := 1) (as := [vI (300 : Int32)]) (rest := [vR (some a1), vR (some o)]) (Or.inl kFi_11) (Nat.le_of_ble_eq_true rfl) (Nat.le_of_ble_eq_true rfl) rfl rfl rfl (Nat.le_of_ble_eq_true rfl) dFi_init_12 (s_Ro_init hw) (fun _ _ hx => hx) (tk_v fun h5 hw => ?_)
  obtain ⟨f6, hw⟩ := hw
  refine te_putr dFi_init_15 pFi_14 rfl rfl rfl f6 (fun h7 e8 => ?_)
  have hw := hw h7 e8
  refine tq_aload_n dFi_init_18 rfl rfl ?_
  refine tq_new (ci := 7) cFi_9 ti_7 rfl dFi_init_19 (fun a9 h10 e11 e12 => ?_)
  have hw := hw a9 h10 e11 e12
  refine tq_dup dFi_init_22 rfl ?_
  refine tq_sipush (v := (300 : Int32)) dFi_init_23 tns_300 ?_
  refine te_init mi_Ro_init (dc := 1) (as := [vI (300 : Int32)]) (rest := [vR (some a9), vR (some o)]) (Or.inl kFi_11) (Nat.le_of_ble_eq_true rfl) (Nat.le_of_ble_eq_true rfl) rfl rfl rfl (Nat.le_of_ble_eq_true rfl) dFi_init_26 (s_Ro_init hw) (fun _ _ hx => hx) (tk_v fun h13 hw => ?_)
  obtain ⟨f14, hw⟩ := hw
  refine te_putr dFi_init_29 pFi_20 rfl rfl rfl f14 (fun h15 e16 => ?_)
  have hw := hw h15 e16
  refine tq_aload_n dFi_init_32 rfl rfl ?_
  refine tq_new (ci := 7) cFi_9 ti_7 rfl dFi_init_33 (fun a17 h18 e19 e20 => ?_)
  have hw := hw a17 h18 e19 e20
  refine tq_dup dFi_init_36 rfl ?_
  refine tq_sipush (v := (300 : Int32)) dFi_init_37 tns_300 ?_
  refine te_init mi_Ro_init (dc := 1) (as := [vI (300 : Int32)]) (rest := [vR (some a17), vR (some o)]) (Or.inl kFi_11) (Nat.le_of_ble_eq_true rfl) (Nat.le_of_ble_eq_true rfl) rfl rfl rfl (Nat.le_of_ble_eq_true rfl) dFi_init_40 (s_Ro_init hw) (fun _ _ hx => hx) (tk_v fun h21 hw => ?_)
  obtain ⟨f22, hw⟩ := hw
  refine te_putr dFi_init_43 pFi_23 rfl rfl rfl f22 (fun h23 e24 => ?_)
  have hw := hw h23 e24
  refine tq_aload_n dFi_init_46 rfl rfl ?_
  refine tq_new (ci := 9) cFi_26 ti_9 rfl dFi_init_47 (fun a25 h26 e27 e28 => ?_)
  have hw := hw a25 h26 e27 e28
  refine tq_dup dFi_init_50 rfl ?_
  refine tq_iconst (v := (-1 : Int32)) dFi_init_51 tni_m1 ?_
  refine tq_iconst (v := (-1 : Int32)) dFi_init_52 tni_m1 ?_
  refine tq_iconst (v := (-1 : Int32)) dFi_init_53 tni_m1 ?_
  refine te_init mi_Sp_init (dc := 1) (as := [vI (-1 : Int32), vI (-1 : Int32), vI (-1 : Int32)]) (rest := [vR (some a25), vR (some o)]) (Or.inl kFi_28) (Nat.le_of_ble_eq_true rfl) (Nat.le_of_ble_eq_true rfl) rfl rfl rfl (Nat.le_of_ble_eq_true rfl) dFi_init_54 (s_Sp_init hw) (fun _ _ hx => hx) (tk_v fun h29 hw => ?_)
  obtain ⟨f30, hw⟩ := hw
  refine te_putr dFi_init_57 pFi_31 rfl rfl rfl f30 (fun h31 e32 => ?_)
  have hw := hw h31 e32
  refine tq_aload_n dFi_init_60 rfl rfl ?_
  refine tq_aload_n dFi_init_61 rfl rfl ?_
  refine te_putr dFi_init_62 pFi_35 rfl rfl rfl (by rw [e32]; exact f30) (fun h33 e34 => ?_)
  have hw := hw h33 e34
  refine tq_aload_n dFi_init_65 rfl rfl ?_
  refine tq_aload_n dFi_init_66 rfl rfl ?_
  refine te_putr dFi_init_67 pFi_39 rfl rfl rfl (by rw [e34]; exact (by rw [e32]; exact f30)) (fun h35 e36 => ?_)
  have hw := hw h35 e36
  refine tq_aload_n dFi_init_70 rfl rfl ?_
  refine tq_aload_n dFi_init_71 rfl rfl ?_
  refine te_putr dFi_init_72 pFi_43 rfl rfl rfl (by rw [e36]; exact (by rw [e34]; exact (by rw [e32]; exact f30))) (fun h37 e38 => ?_)
  have hw := hw h37 e38
  exact tq_vret rfl dFi_init_75 hw
