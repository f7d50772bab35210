/-! T$Bush.<init> -/
theorem dBu_init_0 : decode (mB Bu_init) 0 = .ok (.aload_n 0, 1) := by decide +kernel
theorem dBu_init_1 : decode (mB Bu_init) 1 = .ok (.invokespecial 3, 3) := by decide +kernel
theorem dBu_init_4 : decode (mB Bu_init) 4 = .ok (.aload_n 0, 1) := by decide +kernel
theorem dBu_init_5 : decode (mB Bu_init) 5 = .ok (.new 9, 3) := by decide +kernel
theorem dBu_init_8 : decode (mB Bu_init) 8 = .ok (.dup, 1) := by decide +kernel
theorem dBu_init_9 : decode (mB Bu_init) 9 = .ok (.sipush 300, 3) := by decide +kernel
theorem dBu_init_12 : decode (mB Bu_init) 12 = .ok (.invokespecial 11, 3) := by decide +kernel
theorem dBu_init_15 : decode (mB Bu_init) 15 = .ok (.putfield 14, 3) := by decide +kernel
theorem dBu_init_18 : decode (mB Bu_init) 18 = .ok (.aload_n 0, 1) := by decide +kernel
theorem dBu_init_19 : decode (mB Bu_init) 19 = .ok (.new 9, 3) := by decide +kernel
theorem dBu_init_22 : decode (mB Bu_init) 22 = .ok (.dup, 1) := by decide +kernel
theorem dBu_init_23 : decode (mB Bu_init) 23 = .ok (.sipush 300, 3) := by decide +kernel
theorem dBu_init_26 : decode (mB Bu_init) 26 = .ok (.invokespecial 11, 3) := by decide +kernel
theorem dBu_init_29 : decode (mB Bu_init) 29 = .ok (.putfield 20, 3) := by decide +kernel
theorem dBu_init_32 : decode (mB Bu_init) 32 = .ok (.aload_n 0, 1) := by decide +kernel
theorem dBu_init_33 : decode (mB Bu_init) 33 = .ok (.new 9, 3) := by decide +kernel
theorem dBu_init_36 : decode (mB Bu_init) 36 = .ok (.dup, 1) := by decide +kernel
theorem dBu_init_37 : decode (mB Bu_init) 37 = .ok (.sipush 300, 3) := by decide +kernel
theorem dBu_init_40 : decode (mB Bu_init) 40 = .ok (.invokespecial 11, 3) := by decide +kernel
theorem dBu_init_43 : decode (mB Bu_init) 43 = .ok (.putfield 23, 3) := by decide +kernel
theorem dBu_init_46 : decode (mB Bu_init) 46 = .ok (.aload_n 0, 1) := by decide +kernel
theorem dBu_init_47 : decode (mB Bu_init) 47 = .ok (.new 9, 3) := by decide +kernel
theorem dBu_init_50 : decode (mB Bu_init) 50 = .ok (.dup, 1) := by decide +kernel
theorem dBu_init_51 : decode (mB Bu_init) 51 = .ok (.sipush 300, 3) := by decide +kernel
theorem dBu_init_54 : decode (mB Bu_init) 54 = .ok (.invokespecial 11, 3) := by decide +kernel
theorem dBu_init_57 : decode (mB Bu_init) 57 = .ok (.putfield 26, 3) := by decide +kernel
theorem dBu_init_60 : decode (mB Bu_init) 60 = .ok (.aload_n 0, 1) := by decide +kernel
theorem dBu_init_61 : decode (mB Bu_init) 61 = .ok (.new 9, 3) := by decide +kernel
theorem dBu_init_64 : decode (mB Bu_init) 64 = .ok (.dup, 1) := by decide +kernel
theorem dBu_init_65 : decode (mB Bu_init) 65 = .ok (.sipush 300, 3) := by decide +kernel
theorem dBu_init_68 : decode (mB Bu_init) 68 = .ok (.invokespecial 11, 3) := by decide +kernel
theorem dBu_init_71 : decode (mB Bu_init) 71 = .ok (.putfield 29, 3) := by decide +kernel
theorem dBu_init_74 : decode (mB Bu_init) 74 = .ok (.aload_n 0, 1) := by decide +kernel
theorem dBu_init_75 : decode (mB Bu_init) 75 = .ok (.new 9, 3) := by decide +kernel
theorem dBu_init_78 : decode (mB Bu_init) 78 = .ok (.dup, 1) := by decide +kernel
theorem dBu_init_79 : decode (mB Bu_init) 79 = .ok (.sipush 300, 3) := by decide +kernel
theorem dBu_init_82 : decode (mB Bu_init) 82 = .ok (.invokespecial 11, 3) := by decide +kernel
theorem dBu_init_85 : decode (mB Bu_init) 85 = .ok (.putfield 32, 3) := by decide +kernel
theorem dBu_init_88 : decode (mB Bu_init) 88 = .ok (.aload_n 0, 1) := by decide +kernel
theorem dBu_init_89 : decode (mB Bu_init) 89 = .ok (.new 9, 3) := by decide +kernel
theorem dBu_init_92 : decode (mB Bu_init) 92 = .ok (.dup, 1) := by decide +kernel
theorem dBu_init_93 : decode (mB Bu_init) 93 = .ok (.sipush 300, 3) := by decide +kernel
theorem dBu_init_96 : decode (mB Bu_init) 96 = .ok (.invokespecial 11, 3) := by decide +kernel
theorem dBu_init_99 : decode (mB Bu_init) 99 = .ok (.putfield 35, 3) := by decide +kernel
theorem dBu_init_102 : decode (mB Bu_init) 102 = .ok (.aload_n 0, 1) := by decide +kernel
theorem dBu_init_103 : decode (mB Bu_init) 103 = .ok (.iconst (-1), 1) := by decide +kernel
theorem dBu_init_104 : decode (mB Bu_init) 104 = .ok (.putfield 38, 3) := by decide +kernel
theorem dBu_init_107 : decode (mB Bu_init) 107 = .ok (.aload_n 0, 1) := by decide +kernel
theorem dBu_init_108 : decode (mB Bu_init) 108 = .ok (.aload_n 1, 1) := by decide +kernel
theorem dBu_init_109 : decode (mB Bu_init) 109 = .ok (.putfield 42, 3) := by decide +kernel
theorem dBu_init_112 : decode (mB Bu_init) 112 = .ok (.return_, 1) := by decide +kernel
def w_Bu_init (o : Nat) (x1 : Option Nat) (h : tpH) (R : tpH → Prop) : Prop :=
  ∀ a1 h2, a1 = hZ h → h2 = nC h 8 0 2 → (w_Ro_init a1 (300 : Int32) h2 (fun h5 => hT h5 o = 1 ∧ (∀ h7, h7 = sR h5 o 1 (some a1) → (∀ a9 h10, a9 = hZ h7 → h10 = nC h7 8 0 2 → (w_Ro_init a9 (300 : Int32) h10 (fun h13 => hT h13 o = 1 ∧ (∀ h15, h15 = sR h13 o 2 (some a9) → (∀ a17 h18, a17 = hZ h15 → h18 = nC h15 8 0 2 → (w_Ro_init a17 (300 : Int32) h18 (fun h21 => hT h21 o = 1 ∧ (∀ h23, h23 = sR h21 o 3 (some a17) → (∀ a25 h26, a25 = hZ h23 → h26 = nC h23 8 0 2 → (w_Ro_init a25 (300 : Int32) h26 (fun h29 => hT h29 o = 1 ∧ (∀ h31, h31 = sR h29 o 4 (some a25) → (∀ a33 h34, a33 = hZ h31 → h34 = nC h31 8 0 2 → (w_Ro_init a33 (300 : Int32) h34 (fun h37 => hT h37 o = 1 ∧ (∀ h39, h39 = sR h37 o 5 (some a33) → (∀ a41 h42, a41 = hZ h39 → h42 = nC h39 8 0 2 → (w_Ro_init a41 (300 : Int32) h42 (fun h45 => hT h45 o = 1 ∧ (∀ h47, h47 = sR h45 o 6 (some a41) → (∀ a49 h50, a49 = hZ h47 → h50 = nC h47 8 0 2 → (w_Ro_init a49 (300 : Int32) h50 (fun h53 => hT h53 o = 1 ∧ (∀ h55, h55 = sR h53 o 7 (some a49) → (∀ h57, h57 = sI h55 o 8 (-1 : Int32) → (∀ h59, h59 = sR h57 o 0 x1 → (R h59))))))))))))))))))))))))))))))
theorem s_Bu_init {o : Nat} {x1 : Option Nat} {h : tpH} {R : tpH → Prop} (hw : w_Bu_init o x1 h R) : tpC Bu_init 2 [vR (some o), vR x1] h (tpOv R (fun _ _ => False)) := by
  refine tpC_of mi_Bu_init.2.2.2.1 rfl rfl (Nat.le_of_ble_eq_true rfl) ?_
  show tpR Bu_init 2 h _ _ 0 [some (vR (some o)), some (vR x1)] [] h
  unfold w_Bu_init at hw
  refine tq_aload_n dBu_init_0 rfl rfl ?_
  refine tq_obj oBu_3 (Nat.le_of_ble_eq_true rfl) (Nat.le_of_ble_eq_true rfl) dBu_init_1 ?_
  refine tq_aload_n dBu_init_4 rfl rfl ?_
  refine tq_new (ci := 7) cBu_9 ti_7 rfl dBu_init_5 (fun a1 h2 e3 e4 => ?_)
  have hw := hw a1 h2 e3 e4
  refine tq_dup dBu_init_8 rfl ?_
  refine tq_sipush (v := (300 : Int32)) dBu_init_9 tns_300 ?_
  refine te_init mi_Ro_init (dc := 1) (as := [vI (300 : Int32)]) (rest := [vR (some a1), vR (some o)]) (Or.inl kBu_11) (Nat.le_of_ble_eq_true rfl) (Nat.le_of_ble_eq_true rfl) rfl rfl rfl (Nat.le_of_ble_eq_true rfl) dBu_init_12 (s_Ro_init hw) (fun _ _ hx => hx) (tk_v fun h5 hw => ?_)
  obtain ⟨f6, hw⟩ := hw
  refine te_putr dBu_init_15 pBu_14 rfl rfl rfl f6 (fun h7 e8 => ?_)
  have hw := hw h7 e8
  refine tq_aload_n dBu_init_18 rfl rfl ?_
  refine tq_new (ci := 7) cBu_9 ti_7 rfl dBu_init_19 (fun a9 h10 e11 e12 => ?_)
  have hw := hw a9 h10 e11 e12
  refine tq_dup dBu_init_22 rfl ?_
  refine tq_sipush (v := (300 : Int32)) dBu_init_23 tns_300 ?_
  refine te_init mi_Ro_init (dc := 1) (as := [vI (300 : Int32)]) (rest := [vR (some a9), vR (some o)]) (Or.inl kBu_11) (Nat.le_of_ble_eq_true rfl) (Nat.le_of_ble_eq_true rfl) rfl rfl rfl (Nat.le_of_ble_eq_true rfl) dBu_init_26 (s_Ro_init hw) (fun _ _ hx => hx) (tk_v fun h13 hw => ?_)
  obtain ⟨f14, hw⟩ := hw
  refine te_putr dBu_init_29 pBu_20 rfl rfl rfl f14 (fun h15 e16 => ?_)
  have hw := hw h15 e16
  refine tq_aload_n dBu_init_32 rfl rfl ?_
  refine tq_new (ci := 7) cBu_9 ti_7 rfl dBu_init_33 (fun a17 h18 e19 e20 => ?_)
  have hw := hw a17 h18 e19 e20
  refine tq_dup dBu_init_36 rfl ?_
  refine tq_sipush (v := (300 : Int32)) dBu_init_37 tns_300 ?_
  refine te_init mi_Ro_init (dc := 1) (as := [vI (300 : Int32)]) (rest := [vR (some a17), vR (some o)]) (Or.inl kBu_11) (Nat.le_of_ble_eq_true rfl) (Nat.le_of_ble_eq_true rfl) rfl rfl rfl (Nat.le_of_ble_eq_true rfl) dBu_init_40 (s_Ro_init hw) (fun _ _ hx => hx) (tk_v fun h21 hw => ?_)
  obtain ⟨f22, hw⟩ := hw
  refine te_putr dBu_init_43 pBu_23 rfl rfl rfl f22 (fun h23 e24 => ?_)
  have hw := hw h23 e24
  refine tq_aload_n dBu_init_46 rfl rfl ?_
  refine tq_new (ci := 7) cBu_9 ti_7 rfl dBu_init_47 (fun a25 h26 e27 e28 => ?_)
  have hw := hw a25 h26 e27 e28
  refine tq_dup dBu_init_50 rfl ?_
  refine tq_sipush (v := (300 : Int32)) dBu_init_51 tns_300 ?_
  refine te_init mi_Ro_init (dc := 1) (as := [vI (300 : Int32)]) (rest := [vR (some a25), vR (some o)]) (Or.inl kBu_11) (Nat.le_of_ble_eq_true rfl) (Nat.le_of_ble_eq_true rfl) rfl rfl rfl (Nat.le_of_ble_eq_true rfl) dBu_init_54 (s_Ro_init hw) (fun _ _ hx => hx) (tk_v fun h29 hw => ?_)
  obtain ⟨f30, hw⟩ := hw
  refine te_putr dBu_init_57 pBu_26 rfl rfl rfl f30 (fun h31 e32 => ?_)
  have hw := hw h31 e32
  refine tq_aload_n dBu_init_60 rfl rfl ?_
  refine tq_new (ci := 7) cBu_9 ti_7 rfl dBu_init_61 (fun a33 h34 e35 e36 => ?_)
  have hw := hw a33 h34 e35 e36
  refine tq_dup dBu_init_64 rfl ?_
  refine tq_sipush (v := (300 : Int32)) dBu_init_65 tns_300 ?_
  refine te_init mi_Ro_init (dc := 1) (as := [vI (300 : Int32)]) (rest := [vR (some a33), vR (some o)]) (Or.inl kBu_11) (Nat.le_of_ble_eq_true rfl) (Nat.le_of_ble_eq_true rfl) rfl rfl rfl (Nat.le_of_ble_eq_true rfl) dBu_init_68 (s_Ro_init hw) (fun _ _ hx => hx) (tk_v fun h37 hw => ?_)
  obtain ⟨f38, hw⟩ := hw
  refine te_putr dBu_init_71 pBu_29 rfl rfl rfl f38 (fun h39 e40 => ?_)
  have hw := hw h39 e40
  refine tq_aload_n dBu_init_74 rfl rfl ?_
  refine tq_new (ci := 7) cBu_9 ti_7 rfl dBu_init_75 (fun a41 h42 e43 e44 => ?_)
  have hw := hw a41 h42 e43 e44
  refine tq_dup dBu_init_78 rfl ?_
  refine tq_sipush (v := (300 : Int32)) dBu_init_79 tns_300 ?_
  refine te_init mi_Ro_init (dc := 1) (as := [vI (300 : Int32)]) (rest := [vR (some a41), vR (some o)]) (Or.inl kBu_11) (Nat.le_of_ble_eq_true rfl) (Nat.le_of_ble_eq_true rfl) rfl rfl rfl (Nat.le_of_ble_eq_true rfl) dBu_init_82 (s_Ro_init hw) (fun _ _ hx => hx) (tk_v fun h45 hw => ?_)
  obtain ⟨f46, hw⟩ := hw
  refine te_putr dBu_init_85 pBu_32 rfl rfl rfl f46 (fun h47 e48 => ?_)
  have hw := hw h47 e48
  refine tq_aload_n dBu_init_88 rfl rfl ?_
  refine tq_new (ci := 7) cBu_9 ti_7 rfl dBu_init_89 (fun a49 h50 e51 e52 => ?_)
  have hw := hw a49 h50 e51 e52
  refine tq_dup dBu_init_92 rfl ?_
  refine tq_sipush (v := (300 : Int32)) dBu_init_93 tns_300 ?_
  refine te_init mi_Ro_init (dc := 1) (as := [vI (300 : Int32)]) (rest := [vR (some a49), vR (some o)]) (Or.inl kBu_11) (Nat.le_of_ble_eq_true rfl) (Nat.le_of_ble_eq_true rfl) rfl rfl rfl (Nat.le_of_ble_eq_true rfl) dBu_init_96 (s_Ro_init hw) (fun _ _ hx => hx) (tk_v fun h53 hw => ?_)
  obtain ⟨f54, hw⟩ := hw
  refine te_putr dBu_init_99 pBu_35 rfl rfl rfl f54 (fun h55 e56 => ?_)
  have hw := hw h55 e56
  refine tq_aload_n dBu_init_102 rfl rfl ?_
  refine tq_iconst (v := (-1 : Int32)) dBu_init_103 tni_m1 ?_
  refine te_puti dBu_init_104 pBu_38 rfl rfl rfl (by rw [e56]; exact f54) ⟨rfl, rfl⟩ (fun h57 e58 => ?_)
  have hw := hw h57 e58
  refine tq_aload_n dBu_init_107 rfl rfl ?_
  refine tq_aload_n dBu_init_108 rfl rfl ?_
  refine te_putr dBu_init_109 pBu_42 rfl rfl rfl (by rw [e58]; exact (by rw [e56]; exact f54)) (fun h59 e60 => ?_)
  have hw := hw h59 e60
  exact tq_vret rfl dBu_init_112 hw
/-! T$Bush.has -/
theorem dBu_has_0 : decode (mB Bu_has) 0 = .ok (.aload_n 0, 1) := by decide +kernel
theorem dBu_has_1 : decode (mB Bu_has) 1 = .ok (.getfield 14, 3) := by decide +kernel
theorem dBu_has_4 : decode (mB Bu_has) 4 = .ok (.iload_n 1, 1) := by decide +kernel
theorem dBu_has_5 : decode (mB Bu_has) 5 = .ok (.invokevirtual 46, 3) := by decide +kernel
theorem dBu_has_8 : decode (mB Bu_has) 8 = .ok (.iconst 1, 1) := by decide +kernel
theorem dBu_has_9 : decode (mB Bu_has) 9 = .ok (.if_icmp .ne 7, 3) := by decide +kernel
theorem dBu_has_12 : decode (mB Bu_has) 12 = .ok (.iconst 1, 1) := by decide +kernel
theorem dBu_has_13 : decode (mB Bu_has) 13 = .ok (.goto 4, 3) := by decide +kernel
theorem dBu_has_16 : decode (mB Bu_has) 16 = .ok (.iconst 0, 1) := by decide +kernel
theorem dBu_has_17 : decode (mB Bu_has) 17 = .ok (.ireturn, 1) := by decide +kernel
def w_Bu_has (o : Nat) (x1 : Int32) (h : tpH) (R : Int32 → tpH → Prop) : Prop :=
  hT h o = 1 ∧ (∃ a2, (hR h o 1) = some a2 ∧ hT h a2 = 8 ∧ (w_Ro_at a2 x1 h (fun v6 h5 => (¬ v6 = (1 : Int32) → (R (0 : Int32) h5)) ∧ (v6 = (1 : Int32) → (R (1 : Int32) h5)))))
theorem s_Bu_has {o : Nat} {x1 : Int32} {h : tpH} {R : Int32 → tpH → Prop} (hw : w_Bu_has o x1 h R) : tpC Bu_has 1 [vR (some o), vI x1] h (tpOi R (fun _ _ => False)) := by
  refine tpC_of mv_Bu_has.2.2.2.1 rfl rfl (Nat.le_of_ble_eq_true rfl) ?_
  show tpR Bu_has 1 h _ _ 0 [some (vR (some o)), some (vI x1)] [] h
  unfold w_Bu_has at hw
  refine tq_aload_n dBu_has_0 rfl rfl ?_
  obtain ⟨f1, hw⟩ := hw
  refine te_getr dBu_has_1 fBu_14 rfl rfl f1 ?_
  refine tq_iload_n dBu_has_4 rfl rfl ?_
  obtain ⟨a2, e3, f4, hw⟩ := hw
  refine te_callV mv_Ro_at (ci := 7) (dc := 0) (as := [vI x1]) (rest := []) kBu_46 rfl (Nat.le_of_ble_eq_true rfl) (Nat.le_of_ble_eq_true rfl) rfl rfl e3 f4 (Nat.le_of_ble_eq_true rfl) dBu_has_5 (s_Ro_at hw) (fun _ _ hx => False.elim hx) (tk_i fun v6 h5 hw => ?_)
  refine tq_iconst (v := (1 : Int32)) dBu_has_8 tni_1 ?_
  refine tq_icmpne (tgt := 16) dBu_has_9 (by decide) (fun c7 => ?_) (fun c7 => ?_)
  · have hw := hw.1 c7
    refine tq_iconst (v := (0 : Int32)) dBu_has_16 tni_0 ?_
    exact tq_iret rfl (by decide) dBu_has_17 hw
  · have hw := hw.2 c7
    refine tq_iconst (v := (1 : Int32)) dBu_has_12 tni_1 ?_
    refine tq_goto (tgt := 17) dBu_has_13 (by decide) ?_
    exact tq_iret rfl (by decide) dBu_has_17 hw
/-! T$Bush.worthOf -/
theorem dBu_worthOf_0 : decode (mB Bu_worthOf) 0 = .ok (.aload_n 0, 1) := by decide +kernel
theorem dBu_worthOf_1 : decode (mB Bu_worthOf) 1 = .ok (.getfield 20, 3) := by decide +kernel
theorem dBu_worthOf_4 : decode (mB Bu_worthOf) 4 = .ok (.iload_n 1, 1) := by decide +kernel
theorem dBu_worthOf_5 : decode (mB Bu_worthOf) 5 = .ok (.invokevirtual 46, 3) := by decide +kernel
theorem dBu_worthOf_8 : decode (mB Bu_worthOf) 8 = .ok (.ireturn, 1) := by decide +kernel
def w_Bu_worthOf (o : Nat) (x1 : Int32) (h : tpH) (R : Int32 → tpH → Prop) : Prop :=
  hT h o = 1 ∧ (∃ a2, (hR h o 2) = some a2 ∧ hT h a2 = 8 ∧ (w_Ro_at a2 x1 h (fun v6 h5 => R v6 h5)))
theorem s_Bu_worthOf {o : Nat} {x1 : Int32} {h : tpH} {R : Int32 → tpH → Prop} (hw : w_Bu_worthOf o x1 h R) : tpC Bu_worthOf 1 [vR (some o), vI x1] h (tpOi R (fun _ _ => False)) := by
  refine tpC_of mv_Bu_worthOf.2.2.2.1 rfl rfl (Nat.le_of_ble_eq_true rfl) ?_
  show tpR Bu_worthOf 1 h _ _ 0 [some (vR (some o)), some (vI x1)] [] h
  unfold w_Bu_worthOf at hw
  refine tq_aload_n dBu_worthOf_0 rfl rfl ?_
  obtain ⟨f1, hw⟩ := hw
  refine te_getr dBu_worthOf_1 fBu_20 rfl rfl f1 ?_
  refine tq_iload_n dBu_worthOf_4 rfl rfl ?_
  obtain ⟨a2, e3, f4, hw⟩ := hw
  refine te_callV mv_Ro_at (ci := 7) (dc := 0) (as := [vI x1]) (rest := []) kBu_46 rfl (Nat.le_of_ble_eq_true rfl) (Nat.le_of_ble_eq_true rfl) rfl rfl e3 f4 (Nat.le_of_ble_eq_true rfl) dBu_worthOf_5 (s_Ro_at hw) (fun _ _ hx => False.elim hx) (tk_i fun v6 h5 hw => ?_)
  exact tq_iret rfl rfl dBu_worthOf_8 hw
/-! T$Bush.give -/
theorem dBu_give_0 : decode (mB Bu_give) 0 = .ok (.aload_n 0, 1) := by decide +kernel
theorem dBu_give_1 : decode (mB Bu_give) 1 = .ok (.getfield 20, 3) := by decide +kernel
theorem dBu_give_4 : decode (mB Bu_give) 4 = .ok (.iload_n 1, 1) := by decide +kernel
theorem dBu_give_5 : decode (mB Bu_give) 5 = .ok (.iload_n 2, 1) := by decide +kernel
theorem dBu_give_6 : decode (mB Bu_give) 6 = .ok (.invokevirtual 50, 3) := by decide +kernel
theorem dBu_give_9 : decode (mB Bu_give) 9 = .ok (.return_, 1) := by decide +kernel
def w_Bu_give (o : Nat) (x1 : Int32) (x2 : Int32) (h : tpH) (R : tpH → Prop) : Prop :=
  hT h o = 1 ∧ (∃ a2, (hR h o 2) = some a2 ∧ hT h a2 = 8 ∧ (w_Ro_put a2 x1 x2 h (fun h5 => R h5)))
theorem s_Bu_give {o : Nat} {x1 : Int32} {x2 : Int32} {h : tpH} {R : tpH → Prop} (hw : w_Bu_give o x1 x2 h R) : tpC Bu_give 1 [vR (some o), vI x1, vI x2] h (tpOv R (fun _ _ => False)) := by
  refine tpC_of mv_Bu_give.2.2.2.1 rfl rfl (Nat.le_of_ble_eq_true rfl) ?_
  show tpR Bu_give 1 h _ _ 0 [some (vR (some o)), some (vI x1), some (vI x2)] [] h
  unfold w_Bu_give at hw
  refine tq_aload_n dBu_give_0 rfl rfl ?_
  obtain ⟨f1, hw⟩ := hw
  refine te_getr dBu_give_1 fBu_20 rfl rfl f1 ?_
  refine tq_iload_n dBu_give_4 rfl rfl ?_
  refine tq_iload_n dBu_give_5 rfl rfl ?_
  obtain ⟨a2, e3, f4, hw⟩ := hw
  refine te_callV mv_Ro_put (ci := 7) (dc := 0) (as := [vI x1, vI x2]) (rest := []) kBu_50 rfl (Nat.le_of_ble_eq_true rfl) (Nat.le_of_ble_eq_true rfl) rfl rfl e3 f4 (Nat.le_of_ble_eq_true rfl) dBu_give_6 (s_Ro_put hw) (fun _ _ hx => False.elim hx) (tk_v fun h5 hw => ?_)
  exact tq_vret rfl dBu_give_9 hw
/-! T$Bush.upOf -/
theorem dBu_upOf_0 : decode (mB Bu_upOf) 0 = .ok (.aload_n 0, 1) := by decide +kernel
theorem dBu_upOf_1 : decode (mB Bu_upOf) 1 = .ok (.getfield 23, 3) := by decide +kernel
theorem dBu_upOf_4 : decode (mB Bu_upOf) 4 = .ok (.iload_n 1, 1) := by decide +kernel
theorem dBu_upOf_5 : decode (mB Bu_upOf) 5 = .ok (.invokevirtual 46, 3) := by decide +kernel
theorem dBu_upOf_8 : decode (mB Bu_upOf) 8 = .ok (.ireturn, 1) := by decide +kernel
def w_Bu_upOf (o : Nat) (x1 : Int32) (h : tpH) (R : Int32 → tpH → Prop) : Prop :=
  hT h o = 1 ∧ (∃ a2, (hR h o 3) = some a2 ∧ hT h a2 = 8 ∧ (w_Ro_at a2 x1 h (fun v6 h5 => R v6 h5)))
theorem s_Bu_upOf {o : Nat} {x1 : Int32} {h : tpH} {R : Int32 → tpH → Prop} (hw : w_Bu_upOf o x1 h R) : tpC Bu_upOf 1 [vR (some o), vI x1] h (tpOi R (fun _ _ => False)) := by
  refine tpC_of mv_Bu_upOf.2.2.2.1 rfl rfl (Nat.le_of_ble_eq_true rfl) ?_
  show tpR Bu_upOf 1 h _ _ 0 [some (vR (some o)), some (vI x1)] [] h
  unfold w_Bu_upOf at hw
  refine tq_aload_n dBu_upOf_0 rfl rfl ?_
  obtain ⟨f1, hw⟩ := hw
  refine te_getr dBu_upOf_1 fBu_23 rfl rfl f1 ?_
  refine tq_iload_n dBu_upOf_4 rfl rfl ?_
  obtain ⟨a2, e3, f4, hw⟩ := hw
  refine te_callV mv_Ro_at (ci := 7) (dc := 0) (as := [vI x1]) (rest := []) kBu_46 rfl (Nat.le_of_ble_eq_true rfl) (Nat.le_of_ble_eq_true rfl) rfl rfl e3 f4 (Nat.le_of_ble_eq_true rfl) dBu_upOf_5 (s_Ro_at hw) (fun _ _ hx => False.elim hx) (tk_i fun v6 h5 hw => ?_)
  exact tq_iret rfl rfl dBu_upOf_8 hw
/-! T$Bush.lastOf -/
theorem dBu_lastOf_0 : decode (mB Bu_lastOf) 0 = .ok (.aload_n 0, 1) := by decide +kernel
theorem dBu_lastOf_1 : decode (mB Bu_lastOf) 1 = .ok (.getfield 29, 3) := by decide +kernel
theorem dBu_lastOf_4 : decode (mB Bu_lastOf) 4 = .ok (.iload_n 1, 1) := by decide +kernel
theorem dBu_lastOf_5 : decode (mB Bu_lastOf) 5 = .ok (.invokevirtual 46, 3) := by decide +kernel
theorem dBu_lastOf_8 : decode (mB Bu_lastOf) 8 = .ok (.ireturn, 1) := by decide +kernel
def w_Bu_lastOf (o : Nat) (x1 : Int32) (h : tpH) (R : Int32 → tpH → Prop) : Prop :=
  hT h o = 1 ∧ (∃ a2, (hR h o 5) = some a2 ∧ hT h a2 = 8 ∧ (w_Ro_at a2 x1 h (fun v6 h5 => R v6 h5)))
theorem s_Bu_lastOf {o : Nat} {x1 : Int32} {h : tpH} {R : Int32 → tpH → Prop} (hw : w_Bu_lastOf o x1 h R) : tpC Bu_lastOf 1 [vR (some o), vI x1] h (tpOi R (fun _ _ => False)) := by
  refine tpC_of mv_Bu_lastOf.2.2.2.1 rfl rfl (Nat.le_of_ble_eq_true rfl) ?_
  show tpR Bu_lastOf 1 h _ _ 0 [some (vR (some o)), some (vI x1)] [] h
  unfold w_Bu_lastOf at hw
  refine tq_aload_n dBu_lastOf_0 rfl rfl ?_
  obtain ⟨f1, hw⟩ := hw
  refine te_getr dBu_lastOf_1 fBu_29 rfl rfl f1 ?_
  refine tq_iload_n dBu_lastOf_4 rfl rfl ?_
  obtain ⟨a2, e3, f4, hw⟩ := hw
  refine te_callV mv_Ro_at (ci := 7) (dc := 0) (as := [vI x1]) (rest := []) kBu_46 rfl (Nat.le_of_ble_eq_true rfl) (Nat.le_of_ble_eq_true rfl) rfl rfl e3 f4 (Nat.le_of_ble_eq_true rfl) dBu_lastOf_5 (s_Ro_at hw) (fun _ _ hx => False.elim hx) (tk_i fun v6 h5 hw => ?_)
  exact tq_iret rfl rfl dBu_lastOf_8 hw
/-! T$Bush.isChild -/
theorem dBu_isChild_0 : decode (mB Bu_isChild) 0 = .ok (.aload_n 0, 1) := by decide +kernel
theorem dBu_isChild_1 : decode (mB Bu_isChild) 1 = .ok (.getfield 14, 3) := by decide +kernel
theorem dBu_isChild_4 : decode (mB Bu_isChild) 4 = .ok (.iload_n 1, 1) := by decide +kernel
theorem dBu_isChild_5 : decode (mB Bu_isChild) 5 = .ok (.invokevirtual 46, 3) := by decide +kernel
theorem dBu_isChild_8 : decode (mB Bu_isChild) 8 = .ok (.iconst 1, 1) := by decide +kernel
theorem dBu_isChild_9 : decode (mB Bu_isChild) 9 = .ok (.if_icmp .ne 19, 3) := by decide +kernel
theorem dBu_isChild_12 : decode (mB Bu_isChild) 12 = .ok (.aload_n 0, 1) := by decide +kernel
theorem dBu_isChild_13 : decode (mB Bu_isChild) 13 = .ok (.getfield 23, 3) := by decide +kernel
theorem dBu_isChild_16 : decode (mB Bu_isChild) 16 = .ok (.iload_n 1, 1) := by decide +kernel
theorem dBu_isChild_17 : decode (mB Bu_isChild) 17 = .ok (.invokevirtual 46, 3) := by decide +kernel
theorem dBu_isChild_20 : decode (mB Bu_isChild) 20 = .ok (.iload_n 2, 1) := by decide +kernel
theorem dBu_isChild_21 : decode (mB Bu_isChild) 21 = .ok (.if_icmp .ne 7, 3) := by decide +kernel
theorem dBu_isChild_24 : decode (mB Bu_isChild) 24 = .ok (.iconst 1, 1) := by decide +kernel
theorem dBu_isChild_25 : decode (mB Bu_isChild) 25 = .ok (.goto 4, 3) := by decide +kernel
theorem dBu_isChild_28 : decode (mB Bu_isChild) 28 = .ok (.iconst 0, 1) := by decide +kernel
theorem dBu_isChild_29 : decode (mB Bu_isChild) 29 = .ok (.ireturn, 1) := by decide +kernel
def w_Bu_isChild (o : Nat) (x1 : Int32) (x2 : Int32) (h : tpH) (R : Int32 → tpH → Prop) : Prop :=
  hT h o = 1 ∧ (∃ a2, (hR h o 1) = some a2 ∧ hT h a2 = 8 ∧ (w_Ro_at a2 x1 h (fun v6 h5 => (¬ v6 = (1 : Int32) → (R (0 : Int32) h5)) ∧ (v6 = (1 : Int32) → (hT h5 o = 1 ∧ (∃ a9, (hR h5 o 3) = some a9 ∧ hT h5 a9 = 8 ∧ (w_Ro_at a9 x1 h5 (fun v13 h12 => (¬ v13 = x2 → (R (0 : Int32) h12)) ∧ (v13 = x2 → (R (1 : Int32) h12))))))))))
theorem s_Bu_isChild {o : Nat} {x1 : Int32} {x2 : Int32} {h : tpH} {R : Int32 → tpH → Prop} (hw : w_Bu_isChild o x1 x2 h R) : tpC Bu_isChild 1 [vR (some o), vI x1, vI x2] h (tpOi R (fun _ _ => False)) := by
  refine tpC_of mv_Bu_isChild.2.2.2.1 rfl rfl (Nat.le_of_ble_eq_true rfl) ?_
  show tpR Bu_isChild 1 h _ _ 0 [some (vR (some o)), some (vI x1), some (vI x2)] [] h
  unfold w_Bu_isChild at hw
  refine tq_aload_n dBu_isChild_0 rfl rfl ?_
  obtain ⟨f1, hw⟩ := hw
  refine te_getr dBu_isChild_1 fBu_14 rfl rfl f1 ?_
  refine tq_iload_n dBu_isChild_4 rfl rfl ?_
  obtain ⟨a2, e3, f4, hw⟩ := hw
  refine te_callV mv_Ro_at (ci := 7) (dc := 0) (as := [vI x1]) (rest := []) kBu_46 rfl (Nat.le_of_ble_eq_true rfl) (Nat.le_of_ble_eq_true rfl) rfl rfl e3 f4 (Nat.le_of_ble_eq_true rfl) dBu_isChild_5 (s_Ro_at hw) (fun _ _ hx => False.elim hx) (tk_i fun v6 h5 hw => ?_)
  refine tq_iconst (v := (1 : Int32)) dBu_isChild_8 tni_1 ?_
  refine tq_icmpne (tgt := 28) dBu_isChild_9 (by decide) (fun c7 => ?_) (fun c7 => ?_)
  · have hw := hw.1 c7
    refine tq_iconst (v := (0 : Int32)) dBu_isChild_28 tni_0 ?_
    exact tq_iret rfl (by decide) dBu_isChild_29 hw
  · have hw := hw.2 c7
    refine tq_aload_n dBu_isChild_12 rfl rfl ?_
    obtain ⟨f8, hw⟩ := hw
    refine te_getr dBu_isChild_13 fBu_23 rfl rfl f8 ?_
    refine tq_iload_n dBu_isChild_16 rfl rfl ?_
    obtain ⟨a9, e10, f11, hw⟩ := hw
    refine te_callV mv_Ro_at (ci := 7) (dc := 0) (as := [vI x1]) (rest := []) kBu_46 rfl (Nat.le_of_ble_eq_true rfl) (Nat.le_of_ble_eq_true rfl) rfl rfl e10 f11 (Nat.le_of_ble_eq_true rfl) dBu_isChild_17 (s_Ro_at hw) (fun _ _ hx => False.elim hx) (tk_i fun v13 h12 hw => ?_)
    refine tq_iload_n dBu_isChild_20 rfl rfl ?_
    refine tq_icmpne (tgt := 28) dBu_isChild_21 (by decide) (fun c14 => ?_) (fun c14 => ?_)
    · have hw := hw.1 c14
      refine tq_iconst (v := (0 : Int32)) dBu_isChild_28 tni_0 ?_
      exact tq_iret rfl (by decide) dBu_isChild_29 hw
    · have hw := hw.2 c14
      refine tq_iconst (v := (1 : Int32)) dBu_isChild_24 tni_1 ?_
      refine tq_goto (tgt := 29) dBu_isChild_25 (by decide) ?_
      exact tq_iret rfl (by decide) dBu_isChild_29 hw
/-! T$Bush.countChildren -/
theorem dBu_countChildren_0 : decode (mB Bu_countChildren) 0 = .ok (.iconst 0, 1) := by decide +kernel
theorem dBu_countChildren_1 : decode (mB Bu_countChildren) 1 = .ok (.istore_n 2, 1) := by decide +kernel
theorem dBu_countChildren_2 : decode (mB Bu_countChildren) 2 = .ok (.aload_n 0, 1) := by decide +kernel
theorem dBu_countChildren_3 : decode (mB Bu_countChildren) 3 = .ok (.getfield 26, 3) := by decide +kernel
theorem dBu_countChildren_6 : decode (mB Bu_countChildren) 6 = .ok (.iload_n 1, 1) := by decide +kernel
theorem dBu_countChildren_7 : decode (mB Bu_countChildren) 7 = .ok (.invokevirtual 46, 3) := by decide +kernel
theorem dBu_countChildren_10 : decode (mB Bu_countChildren) 10 = .ok (.istore_n 3, 1) := by decide +kernel
theorem dBu_countChildren_11 : decode (mB Bu_countChildren) 11 = .ok (.iload_n 3, 1) := by decide +kernel
theorem dBu_countChildren_12 : decode (mB Bu_countChildren) 12 = .ok (.iconst (-1), 1) := by decide +kernel
theorem dBu_countChildren_13 : decode (mB Bu_countChildren) 13 = .ok (.if_icmp .eq 26, 3) := by decide +kernel
theorem dBu_countChildren_16 : decode (mB Bu_countChildren) 16 = .ok (.iload_n 2, 1) := by decide +kernel
theorem dBu_countChildren_17 : decode (mB Bu_countChildren) 17 = .ok (.aload_n 0, 1) := by decide +kernel
theorem dBu_countChildren_18 : decode (mB Bu_countChildren) 18 = .ok (.getfield 59, 3) := by decide +kernel
theorem dBu_countChildren_21 : decode (mB Bu_countChildren) 21 = .ok (.if_icmp .ge 18, 3) := by decide +kernel
theorem dBu_countChildren_24 : decode (mB Bu_countChildren) 24 = .ok (.iinc 2 1, 3) := by decide +kernel
theorem dBu_countChildren_27 : decode (mB Bu_countChildren) 27 = .ok (.aload_n 0, 1) := by decide +kernel
theorem dBu_countChildren_28 : decode (mB Bu_countChildren) 28 = .ok (.getfield 35, 3) := by decide +kernel
theorem dBu_countChildren_31 : decode (mB Bu_countChildren) 31 = .ok (.iload_n 3, 1) := by decide +kernel
theorem dBu_countChildren_32 : decode (mB Bu_countChildren) 32 = .ok (.invokevirtual 46, 3) := by decide +kernel
theorem dBu_countChildren_35 : decode (mB Bu_countChildren) 35 = .ok (.istore_n 3, 1) := by decide +kernel
theorem dBu_countChildren_36 : decode (mB Bu_countChildren) 36 = .ok (.goto (-25), 3) := by decide +kernel
theorem dBu_countChildren_39 : decode (mB Bu_countChildren) 39 = .ok (.iload_n 2, 1) := by decide +kernel
theorem dBu_countChildren_40 : decode (mB Bu_countChildren) 40 = .ok (.ireturn, 1) := by decide +kernel
def b_Bu_countChildren_11 (R : Int32 → tpH → Prop) (Y : Nat → Int32 → Int32 → tpH → Prop) (o : Nat) (x2 : Int32) (x3 : Int32) (h : tpH) : Prop :=
  (x3 = (-1 : Int32) → (R x2 h)) ∧ (¬ x3 = (-1 : Int32) → (hT h o = 1 ∧ (((hI h o 9) ≤ x2 → (R x2 h)) ∧ (¬ (hI h o 9) ≤ x2 → (∃ a4, (hR h o 7) = some a4 ∧ hT h a4 = 8 ∧ (w_Ro_at a4 x3 h (fun v8 h7 => Y o (x2 + (1 : Int32)) v8 h7)))))))
def w_Bu_countChildren_11 (R : Int32 → tpH → Prop) : Nat → Nat → Int32 → Int32 → tpH → Prop
  | 0 => fun _ _ _ _ => False
  | n + 1 => b_Bu_countChildren_11 R (w_Bu_countChildren_11 R n)
def w_Bu_countChildren (o : Nat) (x1 : Int32) (h : tpH) (R : Int32 → tpH → Prop) : Prop :=
  hT h o = 1 ∧ (∃ a2, (hR h o 4) = some a2 ∧ hT h a2 = 8 ∧ (w_Ro_at a2 x1 h (fun v6 h5 => ∃ n, w_Bu_countChildren_11 R n o (0 : Int32) v6 h5)))
theorem s_Bu_countChildren_11 {h0 : tpH} {av : List tpV} {R : Int32 → tpH → Prop} : ∀ (n : Nat) (o : Nat) (x2 : Int32) (x3 : Int32) (h : tpH), w_Bu_countChildren_11 R n o x2 x3 h → tpR Bu_countChildren 1 h0 av (tpOi R (fun _ _ => False)) 11 [some (vR (some o)), none, some (vI x2), some (vI x3)] [] h := by
  intro n
  induction n with
  | zero => intro o x2 x3 h hw; exact False.elim hw
  | succ n ih =>
    intro o x2 x3 h hw
    change b_Bu_countChildren_11 R (w_Bu_countChildren_11 R n) o x2 x3 h at hw
    unfold b_Bu_countChildren_11 at hw
    refine tq_iload_n dBu_countChildren_11 rfl rfl ?_
    refine tq_iconst (v := (-1 : Int32)) dBu_countChildren_12 tni_m1 ?_
    refine tq_icmpeq (tgt := 39) dBu_countChildren_13 (by decide) (fun c1 => ?_) (fun c1 => ?_)
    · have hw := hw.1 c1
      refine tq_iload_n dBu_countChildren_39 rfl rfl ?_
      exact tq_iret rfl rfl dBu_countChildren_40 hw
    · have hw := hw.2 c1
      refine tq_iload_n dBu_countChildren_16 rfl rfl ?_
      refine tq_aload_n dBu_countChildren_17 rfl rfl ?_
      obtain ⟨f2, hw⟩ := hw
      refine te_geti dBu_countChildren_18 fBu_59 rfl rfl f2 ?_
      refine tq_icmpge (tgt := 39) dBu_countChildren_21 (by decide) (fun c3 => ?_) (fun c3 => ?_)
      · have hw := hw.1 c3
        refine tq_iload_n dBu_countChildren_39 rfl rfl ?_
        exact tq_iret rfl rfl dBu_countChildren_40 hw
      · have hw := hw.2 c3
        refine tq_inc (k := (1 : Int32)) (ls' := [some (vR (some o)), none, some (vI (x2 + (1 : Int32))), some (vI x3)]) dBu_countChildren_24 rfl tni_1 (Nat.le_of_ble_eq_true rfl) rfl ?_
        refine tq_aload_n dBu_countChildren_27 rfl rfl ?_
        refine te_getr dBu_countChildren_28 fBu_35 rfl rfl f2 ?_
        refine tq_iload_n dBu_countChildren_31 rfl rfl ?_
        obtain ⟨a4, e5, f6, hw⟩ := hw
        refine te_callV mv_Ro_at (ci := 7) (dc := 0) (as := [vI x3]) (rest := []) kBu_46 rfl (Nat.le_of_ble_eq_true rfl) (Nat.le_of_ble_eq_true rfl) rfl rfl e5 f6 (Nat.le_of_ble_eq_true rfl) dBu_countChildren_32 (s_Ro_at hw) (fun _ _ hx => False.elim hx) (tk_i fun v8 h7 hw => ?_)
        refine tq_istore_n (ls' := [some (vR (some o)), none, some (vI (x2 + (1 : Int32))), some (vI v8)]) dBu_countChildren_35 rfl (Nat.le_of_ble_eq_true rfl) rfl ?_
        refine tq_goto (tgt := 11) dBu_countChildren_36 (by decide) ?_
        refine tpR.fo (ls' := [some (vR (some o)), none, some (vI (x2 + (1 : Int32))), some (vI v8)]) ?_ (And.intro rfl (And.intro rfl (And.intro rfl trivial)))
        exact ih _ _ _ _ hw
theorem s_Bu_countChildren {o : Nat} {x1 : Int32} {h : tpH} {R : Int32 → tpH → Prop} (hw : w_Bu_countChildren o x1 h R) : tpC Bu_countChildren 1 [vR (some o), vI x1] h (tpOi R (fun _ _ => False)) := by
  refine tpC_of mv_Bu_countChildren.2.2.2.1 rfl rfl (Nat.le_of_ble_eq_true rfl) ?_
  show tpR Bu_countChildren 1 h _ _ 0 [some (vR (some o)), some (vI x1), none, none] [] h
  unfold w_Bu_countChildren at hw
  refine tq_iconst (v := (0 : Int32)) dBu_countChildren_0 tni_0 ?_
  refine tq_istore_n (ls' := [some (vR (some o)), some (vI x1), some (vI (0 : Int32)), none]) dBu_countChildren_1 rfl (Nat.le_of_ble_eq_true rfl) rfl ?_
  refine tq_aload_n dBu_countChildren_2 rfl rfl ?_
  obtain ⟨f1, hw⟩ := hw
  refine te_getr dBu_countChildren_3 fBu_26 rfl rfl f1 ?_
  refine tq_iload_n dBu_countChildren_6 rfl rfl ?_
  obtain ⟨a2, e3, f4, hw⟩ := hw
  refine te_callV mv_Ro_at (ci := 7) (dc := 0) (as := [vI x1]) (rest := []) kBu_46 rfl (Nat.le_of_ble_eq_true rfl) (Nat.le_of_ble_eq_true rfl) rfl rfl e3 f4 (Nat.le_of_ble_eq_true rfl) dBu_countChildren_7 (s_Ro_at hw) (fun _ _ hx => False.elim hx) (tk_i fun v6 h5 hw => ?_)
  refine tq_istore_n (ls' := [some (vR (some o)), some (vI x1), some (vI (0 : Int32)), some (vI v6)]) dBu_countChildren_10 rfl (Nat.le_of_ble_eq_true rfl) rfl ?_
  refine tpR.fo (ls' := [some (vR (some o)), none, some (vI (0 : Int32)), some (vI v6)]) ?_ (And.intro rfl (And.intro rfl (And.intro rfl trivial)))
  obtain ⟨n, hw⟩ := hw
  exact s_Bu_countChildren_11 n _ _ _ _ hw
/-! T$Bush.childAhead -/
theorem dBu_childAhead_0 : decode (mB Bu_childAhead) 0 = .ok (.iconst (-1), 1) := by decide +kernel
theorem dBu_childAhead_1 : decode (mB Bu_childAhead) 1 = .ok (.istore_n 3, 1) := by decide +kernel
theorem dBu_childAhead_2 : decode (mB Bu_childAhead) 2 = .ok (.aload_n 0, 1) := by decide +kernel
theorem dBu_childAhead_3 : decode (mB Bu_childAhead) 3 = .ok (.getfield 26, 3) := by decide +kernel
theorem dBu_childAhead_6 : decode (mB Bu_childAhead) 6 = .ok (.iload_n 1, 1) := by decide +kernel
theorem dBu_childAhead_7 : decode (mB Bu_childAhead) 7 = .ok (.invokevirtual 46, 3) := by decide +kernel
theorem dBu_childAhead_10 : decode (mB Bu_childAhead) 10 = .ok (.istore 4, 2) := by decide +kernel
theorem dBu_childAhead_12 : decode (mB Bu_childAhead) 12 = .ok (.iconst 0, 1) := by decide +kernel
theorem dBu_childAhead_13 : decode (mB Bu_childAhead) 13 = .ok (.istore 5, 2) := by decide +kernel
theorem dBu_childAhead_15 : decode (mB Bu_childAhead) 15 = .ok (.iload 5, 2) := by decide +kernel
theorem dBu_childAhead_17 : decode (mB Bu_childAhead) 17 = .ok (.iload_n 2, 1) := by decide +kernel
theorem dBu_childAhead_18 : decode (mB Bu_childAhead) 18 = .ok (.if_icmp .ge 38, 3) := by decide +kernel
theorem dBu_childAhead_21 : decode (mB Bu_childAhead) 21 = .ok (.iload 5, 2) := by decide +kernel
theorem dBu_childAhead_23 : decode (mB Bu_childAhead) 23 = .ok (.aload_n 0, 1) := by decide +kernel
theorem dBu_childAhead_24 : decode (mB Bu_childAhead) 24 = .ok (.getfield 59, 3) := by decide +kernel
theorem dBu_childAhead_27 : decode (mB Bu_childAhead) 27 = .ok (.if_icmp .ge 29, 3) := by decide +kernel
theorem dBu_childAhead_30 : decode (mB Bu_childAhead) 30 = .ok (.iload 4, 2) := by decide +kernel
theorem dBu_childAhead_32 : decode (mB Bu_childAhead) 32 = .ok (.iconst (-1), 1) := by decide +kernel
theorem dBu_childAhead_33 : decode (mB Bu_childAhead) 33 = .ok (.if_icmp .eq 23, 3) := by decide +kernel
theorem dBu_childAhead_36 : decode (mB Bu_childAhead) 36 = .ok (.iload 4, 2) := by decide +kernel
theorem dBu_childAhead_38 : decode (mB Bu_childAhead) 38 = .ok (.istore_n 3, 1) := by decide +kernel
theorem dBu_childAhead_39 : decode (mB Bu_childAhead) 39 = .ok (.aload_n 0, 1) := by decide +kernel
theorem dBu_childAhead_40 : decode (mB Bu_childAhead) 40 = .ok (.getfield 35, 3) := by decide +kernel
theorem dBu_childAhead_43 : decode (mB Bu_childAhead) 43 = .ok (.iload 4, 2) := by decide +kernel
theorem dBu_childAhead_45 : decode (mB Bu_childAhead) 45 = .ok (.invokevirtual 46, 3) := by decide +kernel
theorem dBu_childAhead_48 : decode (mB Bu_childAhead) 48 = .ok (.istore 4, 2) := by decide +kernel
theorem dBu_childAhead_50 : decode (mB Bu_childAhead) 50 = .ok (.iinc 5 1, 3) := by decide +kernel
theorem dBu_childAhead_53 : decode (mB Bu_childAhead) 53 = .ok (.goto (-38), 3) := by decide +kernel
theorem dBu_childAhead_56 : decode (mB Bu_childAhead) 56 = .ok (.iload_n 3, 1) := by decide +kernel
theorem dBu_childAhead_57 : decode (mB Bu_childAhead) 57 = .ok (.ireturn, 1) := by decide +kernel
def b_Bu_childAhead_15 (R : Int32 → tpH → Prop) (Y : Nat → Int32 → Int32 → Int32 → Int32 → tpH → Prop) (o : Nat) (x2 : Int32) (x3 : Int32) (x4 : Int32) (x5 : Int32) (h : tpH) : Prop :=
  (x2 ≤ x5 → (R x3 h)) ∧ (¬ x2 ≤ x5 → (hT h o = 1 ∧ (((hI h o 9) ≤ x5 → (R x3 h)) ∧ (¬ (hI h o 9) ≤ x5 → ((x4 = (-1 : Int32) → (R x3 h)) ∧ (¬ x4 = (-1 : Int32) → (∃ a5, (hR h o 7) = some a5 ∧ hT h a5 = 8 ∧ (w_Ro_at a5 x4 h (fun v9 h8 => Y o x2 x4 v9 (x5 + (1 : Int32)) h8)))))))))
def w_Bu_childAhead_15 (R : Int32 → tpH → Prop) : Nat → Nat → Int32 → Int32 → Int32 → Int32 → tpH → Prop
  | 0 => fun _ _ _ _ _ _ => False
  | n + 1 => b_Bu_childAhead_15 R (w_Bu_childAhead_15 R n)
def w_Bu_childAhead (o : Nat) (x1 : Int32) (x2 : Int32) (h : tpH) (R : Int32 → tpH → Prop) : Prop :=
  hT h o = 1 ∧ (∃ a2, (hR h o 4) = some a2 ∧ hT h a2 = 8 ∧ (w_Ro_at a2 x1 h (fun v6 h5 => ∃ n, w_Bu_childAhead_15 R n o x2 (-1 : Int32) v6 (0 : Int32) h5)))
theorem s_Bu_childAhead_15 {h0 : tpH} {av : List tpV} {R : Int32 → tpH → Prop} : ∀ (n : Nat) (o : Nat) (x2 : Int32) (x3 : Int32) (x4 : Int32) (x5 : Int32) (h : tpH), w_Bu_childAhead_15 R n o x2 x3 x4 x5 h → tpR Bu_childAhead 1 h0 av (tpOi R (fun _ _ => False)) 15 [some (vR (some o)), none, some (vI x2), some (vI x3), some (vI x4), some (vI x5)] [] h := by
  intro n
  induction n with
  | zero => intro o x2 x3 x4 x5 h hw; exact False.elim hw
  | succ n ih =>
    intro o x2 x3 x4 x5 h hw
    change b_Bu_childAhead_15 R (w_Bu_childAhead_15 R n) o x2 x3 x4 x5 h at hw
    unfold b_Bu_childAhead_15 at hw
    refine tq_iload dBu_childAhead_15 rfl ?_
    refine tq_iload_n dBu_childAhead_17 rfl rfl ?_
    refine tq_icmpge (tgt := 56) dBu_childAhead_18 (by decide) (fun c1 => ?_) (fun c1 => ?_)
    · have hw := hw.1 c1
      refine tq_iload_n dBu_childAhead_56 rfl rfl ?_
      exact tq_iret rfl rfl dBu_childAhead_57 hw
    · have hw := hw.2 c1
      refine tq_iload dBu_childAhead_21 rfl ?_
      refine tq_aload_n dBu_childAhead_23 rfl rfl ?_
      obtain ⟨f2, hw⟩ := hw
      refine te_geti dBu_childAhead_24 fBu_59 rfl rfl f2 ?_
      refine tq_icmpge (tgt := 56) dBu_childAhead_27 (by decide) (fun c3 => ?_) (fun c3 => ?_)
      · have hw := hw.1 c3
        refine tq_iload_n dBu_childAhead_56 rfl rfl ?_
        exact tq_iret rfl rfl dBu_childAhead_57 hw
      · have hw := hw.2 c3
        refine tq_iload dBu_childAhead_30 rfl ?_
        refine tq_iconst (v := (-1 : Int32)) dBu_childAhead_32 tni_m1 ?_
        refine tq_icmpeq (tgt := 56) dBu_childAhead_33 (by decide) (fun c4 => ?_) (fun c4 => ?_)
        · have hw := hw.1 c4
          refine tq_iload_n dBu_childAhead_56 rfl rfl ?_
          exact tq_iret rfl rfl dBu_childAhead_57 hw
        · have hw := hw.2 c4
          refine tq_iload dBu_childAhead_36 rfl ?_
          refine tq_istore_n (ls' := [some (vR (some o)), none, some (vI x2), some (vI x4), some (vI x4), some (vI x5)]) dBu_childAhead_38 rfl (Nat.le_of_ble_eq_true rfl) rfl ?_
          refine tq_aload_n dBu_childAhead_39 rfl rfl ?_
          refine te_getr dBu_childAhead_40 fBu_35 rfl rfl f2 ?_
          refine tq_iload dBu_childAhead_43 rfl ?_
          obtain ⟨a5, e6, f7, hw⟩ := hw
          refine te_callV mv_Ro_at (ci := 7) (dc := 0) (as := [vI x4]) (rest := []) kBu_46 rfl (Nat.le_of_ble_eq_true rfl) (Nat.le_of_ble_eq_true rfl) rfl rfl e6 f7 (Nat.le_of_ble_eq_true rfl) dBu_childAhead_45 (s_Ro_at hw) (fun _ _ hx => False.elim hx) (tk_i fun v9 h8 hw => ?_)
          refine tq_istore (ls' := [some (vR (some o)), none, some (vI x2), some (vI x4), some (vI v9), some (vI x5)]) dBu_childAhead_48 (Nat.le_of_ble_eq_true rfl) rfl ?_
          refine tq_inc (k := (1 : Int32)) (ls' := [some (vR (some o)), none, some (vI x2), some (vI x4), some (vI v9), some (vI (x5 + (1 : Int32)))]) dBu_childAhead_50 rfl tni_1 (Nat.le_of_ble_eq_true rfl) rfl ?_
          refine tq_goto (tgt := 15) dBu_childAhead_53 (by decide) ?_
          refine tpR.fo (ls' := [some (vR (some o)), none, some (vI x2), some (vI x4), some (vI v9), some (vI (x5 + (1 : Int32)))]) ?_ (And.intro rfl (And.intro rfl (And.intro rfl (And.intro rfl (And.intro rfl trivial)))))
          exact ih _ _ _ _ _ _ hw
theorem s_Bu_childAhead {o : Nat} {x1 : Int32} {x2 : Int32} {h : tpH} {R : Int32 → tpH → Prop} (hw : w_Bu_childAhead o x1 x2 h R) : tpC Bu_childAhead 1 [vR (some o), vI x1, vI x2] h (tpOi R (fun _ _ => False)) := by
  refine tpC_of mv_Bu_childAhead.2.2.2.1 rfl rfl (Nat.le_of_ble_eq_true rfl) ?_
  show tpR Bu_childAhead 1 h _ _ 0 [some (vR (some o)), some (vI x1), some (vI x2), none, none, none] [] h
  unfold w_Bu_childAhead at hw
  refine tq_iconst (v := (-1 : Int32)) dBu_childAhead_0 tni_m1 ?_
  refine tq_istore_n (ls' := [some (vR (some o)), some (vI x1), some (vI x2), some (vI (-1 : Int32)), none, none]) dBu_childAhead_1 rfl (Nat.le_of_ble_eq_true rfl) rfl ?_
  refine tq_aload_n dBu_childAhead_2 rfl rfl ?_
  obtain ⟨f1, hw⟩ := hw
  refine te_getr dBu_childAhead_3 fBu_26 rfl rfl f1 ?_
  refine tq_iload_n dBu_childAhead_6 rfl rfl ?_
  obtain ⟨a2, e3, f4, hw⟩ := hw
  refine te_callV mv_Ro_at (ci := 7) (dc := 0) (as := [vI x1]) (rest := []) kBu_46 rfl (Nat.le_of_ble_eq_true rfl) (Nat.le_of_ble_eq_true rfl) rfl rfl e3 f4 (Nat.le_of_ble_eq_true rfl) dBu_childAhead_7 (s_Ro_at hw) (fun _ _ hx => False.elim hx) (tk_i fun v6 h5 hw => ?_)
  refine tq_istore (ls' := [some (vR (some o)), some (vI x1), some (vI x2), some (vI (-1 : Int32)), some (vI v6), none]) dBu_childAhead_10 (Nat.le_of_ble_eq_true rfl) rfl ?_
  refine tq_iconst (v := (0 : Int32)) dBu_childAhead_12 tni_0 ?_
  refine tq_istore (ls' := [some (vR (some o)), some (vI x1), some (vI x2), some (vI (-1 : Int32)), some (vI v6), some (vI (0 : Int32))]) dBu_childAhead_13 (Nat.le_of_ble_eq_true rfl) rfl ?_
  refine tpR.fo (ls' := [some (vR (some o)), none, some (vI x2), some (vI (-1 : Int32)), some (vI v6), some (vI (0 : Int32))]) ?_ (And.intro rfl (And.intro rfl (And.intro rfl (And.intro rfl (And.intro rfl trivial)))))
  obtain ⟨n, hw⟩ := hw
  exact s_Bu_childAhead_15 n _ _ _ _ _ _ hw
/-! T$Bush.isWithin -/
theorem dBu_isWithin_0 : decode (mB Bu_isWithin) 0 = .ok (.iload_n 1, 1) := by decide +kernel
theorem dBu_isWithin_1 : decode (mB Bu_isWithin) 1 = .ok (.istore_n 3, 1) := by decide +kernel
theorem dBu_isWithin_2 : decode (mB Bu_isWithin) 2 = .ok (.iconst 0, 1) := by decide +kernel
theorem dBu_isWithin_3 : decode (mB Bu_isWithin) 3 = .ok (.istore 4, 2) := by decide +kernel
theorem dBu_isWithin_5 : decode (mB Bu_isWithin) 5 = .ok (.iload 4, 2) := by decide +kernel
theorem dBu_isWithin_7 : decode (mB Bu_isWithin) 7 = .ok (.aload_n 0, 1) := by decide +kernel
theorem dBu_isWithin_8 : decode (mB Bu_isWithin) 8 = .ok (.getfield 59, 3) := by decide +kernel
theorem dBu_isWithin_11 : decode (mB Bu_isWithin) 11 = .ok (.if_icmp .ge 30, 3) := by decide +kernel
theorem dBu_isWithin_14 : decode (mB Bu_isWithin) 14 = .ok (.iload_n 3, 1) := by decide +kernel
theorem dBu_isWithin_15 : decode (mB Bu_isWithin) 15 = .ok (.iconst (-1), 1) := by decide +kernel
theorem dBu_isWithin_16 : decode (mB Bu_isWithin) 16 = .ok (.if_icmp .eq 25, 3) := by decide +kernel
theorem dBu_isWithin_19 : decode (mB Bu_isWithin) 19 = .ok (.iload_n 3, 1) := by decide +kernel
theorem dBu_isWithin_20 : decode (mB Bu_isWithin) 20 = .ok (.iload_n 2, 1) := by decide +kernel
theorem dBu_isWithin_21 : decode (mB Bu_isWithin) 21 = .ok (.if_icmp .ne 5, 3) := by decide +kernel
theorem dBu_isWithin_24 : decode (mB Bu_isWithin) 24 = .ok (.iconst 1, 1) := by decide +kernel
theorem dBu_isWithin_25 : decode (mB Bu_isWithin) 25 = .ok (.ireturn, 1) := by decide +kernel
theorem dBu_isWithin_26 : decode (mB Bu_isWithin) 26 = .ok (.aload_n 0, 1) := by decide +kernel
theorem dBu_isWithin_27 : decode (mB Bu_isWithin) 27 = .ok (.getfield 23, 3) := by decide +kernel
theorem dBu_isWithin_30 : decode (mB Bu_isWithin) 30 = .ok (.iload_n 3, 1) := by decide +kernel
theorem dBu_isWithin_31 : decode (mB Bu_isWithin) 31 = .ok (.invokevirtual 46, 3) := by decide +kernel
theorem dBu_isWithin_34 : decode (mB Bu_isWithin) 34 = .ok (.istore_n 3, 1) := by decide +kernel
theorem dBu_isWithin_35 : decode (mB Bu_isWithin) 35 = .ok (.iinc 4 1, 3) := by decide +kernel
theorem dBu_isWithin_38 : decode (mB Bu_isWithin) 38 = .ok (.goto (-33), 3) := by decide +kernel
theorem dBu_isWithin_41 : decode (mB Bu_isWithin) 41 = .ok (.iconst 0, 1) := by decide +kernel
theorem dBu_isWithin_42 : decode (mB Bu_isWithin) 42 = .ok (.ireturn, 1) := by decide +kernel
def b_Bu_isWithin_5 (R : Int32 → tpH → Prop) (Y : Nat → Int32 → Int32 → Int32 → tpH → Prop) (o : Nat) (x2 : Int32) (x3 : Int32) (x4 : Int32) (h : tpH) : Prop :=
  hT h o = 1 ∧ (((hI h o 9) ≤ x4 → (R (0 : Int32) h)) ∧ (¬ (hI h o 9) ≤ x4 → ((x3 = (-1 : Int32) → (R (0 : Int32) h)) ∧ (¬ x3 = (-1 : Int32) → ((¬ x3 = x2 → (∃ a5, (hR h o 3) = some a5 ∧ hT h a5 = 8 ∧ (w_Ro_at a5 x3 h (fun v9 h8 => Y o x2 v9 (x4 + (1 : Int32)) h8)))) ∧ (x3 = x2 → (R (1 : Int32) h)))))))
def w_Bu_isWithin_5 (R : Int32 → tpH → Prop) : Nat → Nat → Int32 → Int32 → Int32 → tpH → Prop
  | 0 => fun _ _ _ _ _ => False
  | n + 1 => b_Bu_isWithin_5 R (w_Bu_isWithin_5 R n)
def w_Bu_isWithin (o : Nat) (x1 : Int32) (x2 : Int32) (h : tpH) (R : Int32 → tpH → Prop) : Prop :=
  ∃ n, w_Bu_isWithin_5 R n o x2 x1 (0 : Int32) h
theorem s_Bu_isWithin_5 {h0 : tpH} {av : List tpV} {R : Int32 → tpH → Prop} : ∀ (n : Nat) (o : Nat) (x2 : Int32) (x3 : Int32) (x4 : Int32) (h : tpH), w_Bu_isWithin_5 R n o x2 x3 x4 h → tpR Bu_isWithin 1 h0 av (tpOi R (fun _ _ => False)) 5 [some (vR (some o)), none, some (vI x2), some (vI x3), some (vI x4)] [] h := by
  intro n
  induction n with
  | zero => intro o x2 x3 x4 h hw; exact False.elim hw
  | succ n ih =>
    intro o x2 x3 x4 h hw
    change b_Bu_isWithin_5 R (w_Bu_isWithin_5 R n) o x2 x3 x4 h at hw
    unfold b_Bu_isWithin_5 at hw
    refine tq_iload dBu_isWithin_5 rfl ?_
    refine tq_aload_n dBu_isWithin_7 rfl rfl ?_
    obtain ⟨f1, hw⟩ := hw
    refine te_geti dBu_isWithin_8 fBu_59 rfl rfl f1 ?_
    refine tq_icmpge (tgt := 41) dBu_isWithin_11 (by decide) (fun c2 => ?_) (fun c2 => ?_)
    · have hw := hw.1 c2
      refine tq_iconst (v := (0 : Int32)) dBu_isWithin_41 tni_0 ?_
      exact tq_iret rfl (by decide) dBu_isWithin_42 hw
    · have hw := hw.2 c2
      refine tq_iload_n dBu_isWithin_14 rfl rfl ?_
      refine tq_iconst (v := (-1 : Int32)) dBu_isWithin_15 tni_m1 ?_
      refine tq_icmpeq (tgt := 41) dBu_isWithin_16 (by decide) (fun c3 => ?_) (fun c3 => ?_)
      · have hw := hw.1 c3
        refine tq_iconst (v := (0 : Int32)) dBu_isWithin_41 tni_0 ?_
        exact tq_iret rfl (by decide) dBu_isWithin_42 hw
      · have hw := hw.2 c3
        refine tq_iload_n dBu_isWithin_19 rfl rfl ?_
        refine tq_iload_n dBu_isWithin_20 rfl rfl ?_
        refine tq_icmpne (tgt := 26) dBu_isWithin_21 (by decide) (fun c4 => ?_) (fun c4 => ?_)
        · have hw := hw.1 c4
          refine tq_aload_n dBu_isWithin_26 rfl rfl ?_
          refine te_getr dBu_isWithin_27 fBu_23 rfl rfl f1 ?_
          refine tq_iload_n dBu_isWithin_30 rfl rfl ?_
          obtain ⟨a5, e6, f7, hw⟩ := hw
          refine te_callV mv_Ro_at (ci := 7) (dc := 0) (as := [vI x3]) (rest := []) kBu_46 rfl (Nat.le_of_ble_eq_true rfl) (Nat.le_of_ble_eq_true rfl) rfl rfl e6 f7 (Nat.le_of_ble_eq_true rfl) dBu_isWithin_31 (s_Ro_at hw) (fun _ _ hx => False.elim hx) (tk_i fun v9 h8 hw => ?_)
          refine tq_istore_n (ls' := [some (vR (some o)), none, some (vI x2), some (vI v9), some (vI x4)]) dBu_isWithin_34 rfl (Nat.le_of_ble_eq_true rfl) rfl ?_
          refine tq_inc (k := (1 : Int32)) (ls' := [some (vR (some o)), none, some (vI x2), some (vI v9), some (vI (x4 + (1 : Int32)))]) dBu_isWithin_35 rfl tni_1 (Nat.le_of_ble_eq_true rfl) rfl ?_
          refine tq_goto (tgt := 5) dBu_isWithin_38 (by decide) ?_
          refine tpR.fo (ls' := [some (vR (some o)), none, some (vI x2), some (vI v9), some (vI (x4 + (1 : Int32)))]) ?_ (And.intro rfl (And.intro rfl (And.intro rfl (And.intro rfl trivial))))
          exact ih _ _ _ _ _ hw
        · have hw := hw.2 c4
          refine tq_iconst (v := (1 : Int32)) dBu_isWithin_24 tni_1 ?_
          exact tq_iret rfl (by decide) dBu_isWithin_25 hw
theorem s_Bu_isWithin {o : Nat} {x1 : Int32} {x2 : Int32} {h : tpH} {R : Int32 → tpH → Prop} (hw : w_Bu_isWithin o x1 x2 h R) : tpC Bu_isWithin 1 [vR (some o), vI x1, vI x2] h (tpOi R (fun _ _ => False)) := by
  refine tpC_of mv_Bu_isWithin.2.2.2.1 rfl rfl (Nat.le_of_ble_eq_true rfl) ?_
  show tpR Bu_isWithin 1 h _ _ 0 [some (vR (some o)), some (vI x1), some (vI x2), none, none] [] h
  unfold w_Bu_isWithin at hw
  refine tq_iload_n dBu_isWithin_0 rfl rfl ?_
  refine tq_istore_n (ls' := [some (vR (some o)), some (vI x1), some (vI x2), some (vI x1), none]) dBu_isWithin_1 rfl (Nat.le_of_ble_eq_true rfl) rfl ?_
  refine tq_iconst (v := (0 : Int32)) dBu_isWithin_2 tni_0 ?_
  refine tq_istore (ls' := [some (vR (some o)), some (vI x1), some (vI x2), some (vI x1), some (vI (0 : Int32))]) dBu_isWithin_3 (Nat.le_of_ble_eq_true rfl) rfl ?_
  refine tpR.fo (ls' := [some (vR (some o)), none, some (vI x2), some (vI x1), some (vI (0 : Int32))]) ?_ (And.intro rfl (And.intro rfl (And.intro rfl (And.intro rfl trivial))))
  obtain ⟨n, hw⟩ := hw
  exact s_Bu_isWithin_5 n _ _ _ _ _ hw
/-! T$Bush.nextInOrder -/
theorem dBu_nextInOrder_0 : decode (mB Bu_nextInOrder) 0 = .ok (.aload_n 0, 1) := by decide +kernel
theorem dBu_nextInOrder_1 : decode (mB Bu_nextInOrder) 1 = .ok (.getfield 26, 3) := by decide +kernel
theorem dBu_nextInOrder_4 : decode (mB Bu_nextInOrder) 4 = .ok (.iload_n 1, 1) := by decide +kernel
theorem dBu_nextInOrder_5 : decode (mB Bu_nextInOrder) 5 = .ok (.invokevirtual 46, 3) := by decide +kernel
theorem dBu_nextInOrder_8 : decode (mB Bu_nextInOrder) 8 = .ok (.iconst (-1), 1) := by decide +kernel
theorem dBu_nextInOrder_9 : decode (mB Bu_nextInOrder) 9 = .ok (.if_icmp .eq 12, 3) := by decide +kernel
theorem dBu_nextInOrder_12 : decode (mB Bu_nextInOrder) 12 = .ok (.aload_n 0, 1) := by decide +kernel
theorem dBu_nextInOrder_13 : decode (mB Bu_nextInOrder) 13 = .ok (.getfield 26, 3) := by decide +kernel
theorem dBu_nextInOrder_16 : decode (mB Bu_nextInOrder) 16 = .ok (.iload_n 1, 1) := by decide +kernel
theorem dBu_nextInOrder_17 : decode (mB Bu_nextInOrder) 17 = .ok (.invokevirtual 46, 3) := by decide +kernel
theorem dBu_nextInOrder_20 : decode (mB Bu_nextInOrder) 20 = .ok (.ireturn, 1) := by decide +kernel
theorem dBu_nextInOrder_21 : decode (mB Bu_nextInOrder) 21 = .ok (.iload_n 1, 1) := by decide +kernel
theorem dBu_nextInOrder_22 : decode (mB Bu_nextInOrder) 22 = .ok (.istore_n 3, 1) := by decide +kernel
theorem dBu_nextInOrder_23 : decode (mB Bu_nextInOrder) 23 = .ok (.iconst 0, 1) := by decide +kernel
theorem dBu_nextInOrder_24 : decode (mB Bu_nextInOrder) 24 = .ok (.istore 4, 2) := by decide +kernel
theorem dBu_nextInOrder_26 : decode (mB Bu_nextInOrder) 26 = .ok (.iload 4, 2) := by decide +kernel
theorem dBu_nextInOrder_28 : decode (mB Bu_nextInOrder) 28 = .ok (.aload_n 0, 1) := by decide +kernel
theorem dBu_nextInOrder_29 : decode (mB Bu_nextInOrder) 29 = .ok (.getfield 59, 3) := by decide +kernel
theorem dBu_nextInOrder_32 : decode (mB Bu_nextInOrder) 32 = .ok (.if_icmp .ge 49, 3) := by decide +kernel
theorem dBu_nextInOrder_35 : decode (mB Bu_nextInOrder) 35 = .ok (.iload_n 3, 1) := by decide +kernel
theorem dBu_nextInOrder_36 : decode (mB Bu_nextInOrder) 36 = .ok (.iconst (-1), 1) := by decide +kernel
theorem dBu_nextInOrder_37 : decode (mB Bu_nextInOrder) 37 = .ok (.if_icmp .eq 44, 3) := by decide +kernel
theorem dBu_nextInOrder_40 : decode (mB Bu_nextInOrder) 40 = .ok (.iload_n 3, 1) := by decide +kernel
theorem dBu_nextInOrder_41 : decode (mB Bu_nextInOrder) 41 = .ok (.iload_n 2, 1) := by decide +kernel
theorem dBu_nextInOrder_42 : decode (mB Bu_nextInOrder) 42 = .ok (.if_icmp .eq 39, 3) := by decide +kernel
theorem dBu_nextInOrder_45 : decode (mB Bu_nextInOrder) 45 = .ok (.aload_n 0, 1) := by decide +kernel
theorem dBu_nextInOrder_46 : decode (mB Bu_nextInOrder) 46 = .ok (.getfield 35, 3) := by decide +kernel
theorem dBu_nextInOrder_49 : decode (mB Bu_nextInOrder) 49 = .ok (.iload_n 3, 1) := by decide +kernel
theorem dBu_nextInOrder_50 : decode (mB Bu_nextInOrder) 50 = .ok (.invokevirtual 46, 3) := by decide +kernel
theorem dBu_nextInOrder_53 : decode (mB Bu_nextInOrder) 53 = .ok (.iconst (-1), 1) := by decide +kernel
theorem dBu_nextInOrder_54 : decode (mB Bu_nextInOrder) 54 = .ok (.if_icmp .eq 12, 3) := by decide +kernel
theorem dBu_nextInOrder_57 : decode (mB Bu_nextInOrder) 57 = .ok (.aload_n 0, 1) := by decide +kernel
theorem dBu_nextInOrder_58 : decode (mB Bu_nextInOrder) 58 = .ok (.getfield 35, 3) := by decide +kernel
theorem dBu_nextInOrder_61 : decode (mB Bu_nextInOrder) 61 = .ok (.iload_n 3, 1) := by decide +kernel
theorem dBu_nextInOrder_62 : decode (mB Bu_nextInOrder) 62 = .ok (.invokevirtual 46, 3) := by decide +kernel
theorem dBu_nextInOrder_65 : decode (mB Bu_nextInOrder) 65 = .ok (.ireturn, 1) := by decide +kernel
theorem dBu_nextInOrder_66 : decode (mB Bu_nextInOrder) 66 = .ok (.aload_n 0, 1) := by decide +kernel
theorem dBu_nextInOrder_67 : decode (mB Bu_nextInOrder) 67 = .ok (.getfield 23, 3) := by decide +kernel
theorem dBu_nextInOrder_70 : decode (mB Bu_nextInOrder) 70 = .ok (.iload_n 3, 1) := by decide +kernel
theorem dBu_nextInOrder_71 : decode (mB Bu_nextInOrder) 71 = .ok (.invokevirtual 46, 3) := by decide +kernel
theorem dBu_nextInOrder_74 : decode (mB Bu_nextInOrder) 74 = .ok (.istore_n 3, 1) := by decide +kernel
theorem dBu_nextInOrder_75 : decode (mB Bu_nextInOrder) 75 = .ok (.iinc 4 1, 3) := by decide +kernel
theorem dBu_nextInOrder_78 : decode (mB Bu_nextInOrder) 78 = .ok (.goto (-52), 3) := by decide +kernel
theorem dBu_nextInOrder_81 : decode (mB Bu_nextInOrder) 81 = .ok (.iconst (-1), 1) := by decide +kernel
theorem dBu_nextInOrder_82 : decode (mB Bu_nextInOrder) 82 = .ok (.ireturn, 1) := by decide +kernel
def b_Bu_nextInOrder_26 (R : Int32 → tpH → Prop) (Y : Nat → Int32 → Int32 → Int32 → tpH → Prop) (o : Nat) (x2 : Int32) (x3 : Int32) (x4 : Int32) (h : tpH) : Prop :=
  hT h o = 1 ∧ (((hI h o 9) ≤ x4 → (R (-1 : Int32) h)) ∧ (¬ (hI h o 9) ≤ x4 → ((x3 = (-1 : Int32) → (R (-1 : Int32) h)) ∧ (¬ x3 = (-1 : Int32) → ((x3 = x2 → (R (-1 : Int32) h)) ∧ (¬ x3 = x2 → (∃ a5, (hR h o 7) = some a5 ∧ hT h a5 = 8 ∧ (w_Ro_at a5 x3 h (fun v9 h8 => (v9 = (-1 : Int32) → (hT h8 o = 1 ∧ (∃ a12, (hR h8 o 3) = some a12 ∧ hT h8 a12 = 8 ∧ (w_Ro_at a12 x3 h8 (fun v16 h15 => Y o x2 v16 (x4 + (1 : Int32)) h15))))) ∧ (¬ v9 = (-1 : Int32) → (hT h8 o = 1 ∧ (∃ a18, (hR h8 o 7) = some a18 ∧ hT h8 a18 = 8 ∧ (w_Ro_at a18 x3 h8 (fun v22 h21 => R v22 h21))))))))))))))
def w_Bu_nextInOrder_26 (R : Int32 → tpH → Prop) : Nat → Nat → Int32 → Int32 → Int32 → tpH → Prop
  | 0 => fun _ _ _ _ _ => False
  | n + 1 => b_Bu_nextInOrder_26 R (w_Bu_nextInOrder_26 R n)
def w_Bu_nextInOrder (o : Nat) (x1 : Int32) (x2 : Int32) (h : tpH) (R : Int32 → tpH → Prop) : Prop :=
  hT h o = 1 ∧ (∃ a2, (hR h o 4) = some a2 ∧ hT h a2 = 8 ∧ (w_Ro_at a2 x1 h (fun v6 h5 => (v6 = (-1 : Int32) → (∃ n, w_Bu_nextInOrder_26 R n o x2 x1 (0 : Int32) h5)) ∧ (¬ v6 = (-1 : Int32) → (hT h5 o = 1 ∧ (∃ a9, (hR h5 o 4) = some a9 ∧ hT h5 a9 = 8 ∧ (w_Ro_at a9 x1 h5 (fun v13 h12 => R v13 h12))))))))
theorem s_Bu_nextInOrder_26 {h0 : tpH} {av : List tpV} {R : Int32 → tpH → Prop} : ∀ (n : Nat) (o : Nat) (x2 : Int32) (x3 : Int32) (x4 : Int32) (h : tpH), w_Bu_nextInOrder_26 R n o x2 x3 x4 h → tpR Bu_nextInOrder 1 h0 av (tpOi R (fun _ _ => False)) 26 [some (vR (some o)), none, some (vI x2), some (vI x3), some (vI x4)] [] h := by
  intro n
  induction n with
  | zero => intro o x2 x3 x4 h hw; exact False.elim hw
  | succ n ih =>
    intro o x2 x3 x4 h hw
    change b_Bu_nextInOrder_26 R (w_Bu_nextInOrder_26 R n) o x2 x3 x4 h at hw
    unfold b_Bu_nextInOrder_26 at hw
    refine tq_iload dBu_nextInOrder_26 rfl ?_
    refine tq_aload_n dBu_nextInOrder_28 rfl rfl ?_
    obtain ⟨f1, hw⟩ := hw
    refine te_geti dBu_nextInOrder_29 fBu_59 rfl rfl f1 ?_
    refine tq_icmpge (tgt := 81) dBu_nextInOrder_32 (by decide) (fun c2 => ?_) (fun c2 => ?_)
    · have hw := hw.1 c2
      refine tq_iconst (v := (-1 : Int32)) dBu_nextInOrder_81 tni_m1 ?_
      exact tq_iret rfl rfl dBu_nextInOrder_82 hw
    · have hw := hw.2 c2
      refine tq_iload_n dBu_nextInOrder_35 rfl rfl ?_
      refine tq_iconst (v := (-1 : Int32)) dBu_nextInOrder_36 tni_m1 ?_
      refine tq_icmpeq (tgt := 81) dBu_nextInOrder_37 (by decide) (fun c3 => ?_) (fun c3 => ?_)
      · have hw := hw.1 c3
        refine tq_iconst (v := (-1 : Int32)) dBu_nextInOrder_81 tni_m1 ?_
        exact tq_iret rfl rfl dBu_nextInOrder_82 hw
      · have hw := hw.2 c3
        refine tq_iload_n dBu_nextInOrder_40 rfl rfl ?_
        refine tq_iload_n dBu_nextInOrder_41 rfl rfl ?_
        refine tq_icmpeq (tgt := 81) dBu_nextInOrder_42 (by decide) (fun c4 => ?_) (fun c4 => ?_)
        · have hw := hw.1 c4
          refine tq_iconst (v := (-1 : Int32)) dBu_nextInOrder_81 tni_m1 ?_
          exact tq_iret rfl rfl dBu_nextInOrder_82 hw
        · have hw := hw.2 c4
          refine tq_aload_n dBu_nextInOrder_45 rfl rfl ?_
          refine te_getr dBu_nextInOrder_46 fBu_35 rfl rfl f1 ?_
          refine tq_iload_n dBu_nextInOrder_49 rfl rfl ?_
          obtain ⟨a5, e6, f7, hw⟩ := hw
          refine te_callV mv_Ro_at (ci := 7) (dc := 0) (as := [vI x3]) (rest := []) kBu_46 rfl (Nat.le_of_ble_eq_true rfl) (Nat.le_of_ble_eq_true rfl) rfl rfl e6 f7 (Nat.le_of_ble_eq_true rfl) dBu_nextInOrder_50 (s_Ro_at hw) (fun _ _ hx => False.elim hx) (tk_i fun v9 h8 hw => ?_)
          refine tq_iconst (v := (-1 : Int32)) dBu_nextInOrder_53 tni_m1 ?_
          refine tq_icmpeq (tgt := 66) dBu_nextInOrder_54 (by decide) (fun c10 => ?_) (fun c10 => ?_)
          · have hw := hw.1 c10
            refine tq_aload_n dBu_nextInOrder_66 rfl rfl ?_
            obtain ⟨f11, hw⟩ := hw
            refine te_getr dBu_nextInOrder_67 fBu_23 rfl rfl f11 ?_
            refine tq_iload_n dBu_nextInOrder_70 rfl rfl ?_
            obtain ⟨a12, e13, f14, hw⟩ := hw
            refine te_callV mv_Ro_at (ci := 7) (dc := 0) (as := [vI x3]) (rest := []) kBu_46 rfl (Nat.le_of_ble_eq_true rfl) (Nat.le_of_ble_eq_true rfl) rfl rfl e13 f14 (Nat.le_of_ble_eq_true rfl) dBu_nextInOrder_71 (s_Ro_at hw) (fun _ _ hx => False.elim hx) (tk_i fun v16 h15 hw => ?_)
            refine tq_istore_n (ls' := [some (vR (some o)), none, some (vI x2), some (vI v16), some (vI x4)]) dBu_nextInOrder_74 rfl (Nat.le_of_ble_eq_true rfl) rfl ?_
            refine tq_inc (k := (1 : Int32)) (ls' := [some (vR (some o)), none, some (vI x2), some (vI v16), some (vI (x4 + (1 : Int32)))]) dBu_nextInOrder_75 rfl tni_1 (Nat.le_of_ble_eq_true rfl) rfl ?_
            refine tq_goto (tgt := 26) dBu_nextInOrder_78 (by decide) ?_
            refine tpR.fo (ls' := [some (vR (some o)), none, some (vI x2), some (vI v16), some (vI (x4 + (1 : Int32)))]) ?_ (And.intro rfl (And.intro rfl (And.intro rfl (And.intro rfl trivial))))
            exact ih _ _ _ _ _ hw
          · have hw := hw.2 c10
            refine tq_aload_n dBu_nextInOrder_57 rfl rfl ?_
            obtain ⟨f17, hw⟩ := hw
            refine te_getr dBu_nextInOrder_58 fBu_35 rfl rfl f17 ?_
            refine tq_iload_n dBu_nextInOrder_61 rfl rfl ?_
            obtain ⟨a18, e19, f20, hw⟩ := hw
            refine te_callV mv_Ro_at (ci := 7) (dc := 0) (as := [vI x3]) (rest := []) kBu_46 rfl (Nat.le_of_ble_eq_true rfl) (Nat.le_of_ble_eq_true rfl) rfl rfl e19 f20 (Nat.le_of_ble_eq_true rfl) dBu_nextInOrder_62 (s_Ro_at hw) (fun _ _ hx => False.elim hx) (tk_i fun v22 h21 hw => ?_)
            exact tq_iret rfl rfl dBu_nextInOrder_65 hw
theorem s_Bu_nextInOrder {o : Nat} {x1 : Int32} {x2 : Int32} {h : tpH} {R : Int32 → tpH → Prop} (hw : w_Bu_nextInOrder o x1 x2 h R) : tpC Bu_nextInOrder 1 [vR (some o), vI x1, vI x2] h (tpOi R (fun _ _ => False)) := by
  refine tpC_of mv_Bu_nextInOrder.2.2.2.1 rfl rfl (Nat.le_of_ble_eq_true rfl) ?_
  show tpR Bu_nextInOrder 1 h _ _ 0 [some (vR (some o)), some (vI x1), some (vI x2), none, none] [] h
  unfold w_Bu_nextInOrder at hw
  refine tq_aload_n dBu_nextInOrder_0 rfl rfl ?_
  obtain ⟨f1, hw⟩ := hw
  refine te_getr dBu_nextInOrder_1 fBu_26 rfl rfl f1 ?_
  refine tq_iload_n dBu_nextInOrder_4 rfl rfl ?_
  obtain ⟨a2, e3, f4, hw⟩ := hw
  refine te_callV mv_Ro_at (ci := 7) (dc := 0) (as := [vI x1]) (rest := []) kBu_46 rfl (Nat.le_of_ble_eq_true rfl) (Nat.le_of_ble_eq_true rfl) rfl rfl e3 f4 (Nat.le_of_ble_eq_true rfl) dBu_nextInOrder_5 (s_Ro_at hw) (fun _ _ hx => False.elim hx) (tk_i fun v6 h5 hw => ?_)
  refine tq_iconst (v := (-1 : Int32)) dBu_nextInOrder_8 tni_m1 ?_
  refine tq_icmpeq (tgt := 21) dBu_nextInOrder_9 (by decide) (fun c7 => ?_) (fun c7 => ?_)
  · have hw := hw.1 c7
    refine tq_iload_n dBu_nextInOrder_21 rfl rfl ?_
    refine tq_istore_n (ls' := [some (vR (some o)), some (vI x1), some (vI x2), some (vI x1), none]) dBu_nextInOrder_22 rfl (Nat.le_of_ble_eq_true rfl) rfl ?_
    refine tq_iconst (v := (0 : Int32)) dBu_nextInOrder_23 tni_0 ?_
    refine tq_istore (ls' := [some (vR (some o)), some (vI x1), some (vI x2), some (vI x1), some (vI (0 : Int32))]) dBu_nextInOrder_24 (Nat.le_of_ble_eq_true rfl) rfl ?_
    refine tpR.fo (ls' := [some (vR (some o)), none, some (vI x2), some (vI x1), some (vI (0 : Int32))]) ?_ (And.intro rfl (And.intro rfl (And.intro rfl (And.intro rfl trivial))))
    obtain ⟨n, hw⟩ := hw
    exact s_Bu_nextInOrder_26 n _ _ _ _ _ hw
  · have hw := hw.2 c7
    refine tq_aload_n dBu_nextInOrder_12 rfl rfl ?_
    obtain ⟨f8, hw⟩ := hw
    refine te_getr dBu_nextInOrder_13 fBu_26 rfl rfl f8 ?_
    refine tq_iload_n dBu_nextInOrder_16 rfl rfl ?_
    obtain ⟨a9, e10, f11, hw⟩ := hw
    refine te_callV mv_Ro_at (ci := 7) (dc := 0) (as := [vI x1]) (rest := []) kBu_46 rfl (Nat.le_of_ble_eq_true rfl) (Nat.le_of_ble_eq_true rfl) rfl rfl e10 f11 (Nat.le_of_ble_eq_true rfl) dBu_nextInOrder_17 (s_Ro_at hw) (fun _ _ hx => False.elim hx) (tk_i fun v13 h12 hw => ?_)
    exact tq_iret rfl rfl dBu_nextInOrder_20 hw
/-! T$Bush.sprout -/
theorem dBu_sprout_0 : decode (mB Bu_sprout) 0 = .ok (.aload_n 0, 1) := by decide +kernel
theorem dBu_sprout_1 : decode (mB Bu_sprout) 1 = .ok (.getfield 14, 3) := by decide +kernel
theorem dBu_sprout_4 : decode (mB Bu_sprout) 4 = .ok (.iload_n 1, 1) := by decide +kernel
theorem dBu_sprout_5 : decode (mB Bu_sprout) 5 = .ok (.iconst 1, 1) := by decide +kernel
theorem dBu_sprout_6 : decode (mB Bu_sprout) 6 = .ok (.invokevirtual 50, 3) := by decide +kernel
theorem dBu_sprout_9 : decode (mB Bu_sprout) 9 = .ok (.aload_n 0, 1) := by decide +kernel
theorem dBu_sprout_10 : decode (mB Bu_sprout) 10 = .ok (.getfield 20, 3) := by decide +kernel
theorem dBu_sprout_13 : decode (mB Bu_sprout) 13 = .ok (.iload_n 1, 1) := by decide +kernel
theorem dBu_sprout_14 : decode (mB Bu_sprout) 14 = .ok (.iload_n 2, 1) := by decide +kernel
theorem dBu_sprout_15 : decode (mB Bu_sprout) 15 = .ok (.invokevirtual 50, 3) := by decide +kernel
theorem dBu_sprout_18 : decode (mB Bu_sprout) 18 = .ok (.aload_n 0, 1) := by decide +kernel
theorem dBu_sprout_19 : decode (mB Bu_sprout) 19 = .ok (.getfield 23, 3) := by decide +kernel
theorem dBu_sprout_22 : decode (mB Bu_sprout) 22 = .ok (.iload_n 1, 1) := by decide +kernel
theorem dBu_sprout_23 : decode (mB Bu_sprout) 23 = .ok (.iconst (-1), 1) := by decide +kernel
theorem dBu_sprout_24 : decode (mB Bu_sprout) 24 = .ok (.invokevirtual 50, 3) := by decide +kernel
theorem dBu_sprout_27 : decode (mB Bu_sprout) 27 = .ok (.aload_n 0, 1) := by decide +kernel
theorem dBu_sprout_28 : decode (mB Bu_sprout) 28 = .ok (.getfield 26, 3) := by decide +kernel
theorem dBu_sprout_31 : decode (mB Bu_sprout) 31 = .ok (.iload_n 1, 1) := by decide +kernel
theorem dBu_sprout_32 : decode (mB Bu_sprout) 32 = .ok (.iconst (-1), 1) := by decide +kernel
theorem dBu_sprout_33 : decode (mB Bu_sprout) 33 = .ok (.invokevirtual 50, 3) := by decide +kernel
theorem dBu_sprout_36 : decode (mB Bu_sprout) 36 = .ok (.aload_n 0, 1) := by decide +kernel
theorem dBu_sprout_37 : decode (mB Bu_sprout) 37 = .ok (.getfield 29, 3) := by decide +kernel
theorem dBu_sprout_40 : decode (mB Bu_sprout) 40 = .ok (.iload_n 1, 1) := by decide +kernel
theorem dBu_sprout_41 : decode (mB Bu_sprout) 41 = .ok (.iconst (-1), 1) := by decide +kernel
theorem dBu_sprout_42 : decode (mB Bu_sprout) 42 = .ok (.invokevirtual 50, 3) := by decide +kernel
theorem dBu_sprout_45 : decode (mB Bu_sprout) 45 = .ok (.aload_n 0, 1) := by decide +kernel
theorem dBu_sprout_46 : decode (mB Bu_sprout) 46 = .ok (.getfield 32, 3) := by decide +kernel
theorem dBu_sprout_49 : decode (mB Bu_sprout) 49 = .ok (.iload_n 1, 1) := by decide +kernel
theorem dBu_sprout_50 : decode (mB Bu_sprout) 50 = .ok (.iconst (-1), 1) := by decide +kernel
theorem dBu_sprout_51 : decode (mB Bu_sprout) 51 = .ok (.invokevirtual 50, 3) := by decide +kernel
theorem dBu_sprout_54 : decode (mB Bu_sprout) 54 = .ok (.aload_n 0, 1) := by decide +kernel
theorem dBu_sprout_55 : decode (mB Bu_sprout) 55 = .ok (.getfield 35, 3) := by decide +kernel
theorem dBu_sprout_58 : decode (mB Bu_sprout) 58 = .ok (.iload_n 1, 1) := by decide +kernel
theorem dBu_sprout_59 : decode (mB Bu_sprout) 59 = .ok (.iconst (-1), 1) := by decide +kernel
theorem dBu_sprout_60 : decode (mB Bu_sprout) 60 = .ok (.invokevirtual 50, 3) := by decide +kernel
theorem dBu_sprout_63 : decode (mB Bu_sprout) 63 = .ok (.aload_n 0, 1) := by decide +kernel
theorem dBu_sprout_64 : decode (mB Bu_sprout) 64 = .ok (.dup, 1) := by decide +kernel
theorem dBu_sprout_65 : decode (mB Bu_sprout) 65 = .ok (.getfield 59, 3) := by decide +kernel
theorem dBu_sprout_68 : decode (mB Bu_sprout) 68 = .ok (.iconst 1, 1) := by decide +kernel
theorem dBu_sprout_69 : decode (mB Bu_sprout) 69 = .ok (.iadd, 1) := by decide +kernel
theorem dBu_sprout_70 : decode (mB Bu_sprout) 70 = .ok (.putfield 59, 3) := by decide +kernel
theorem dBu_sprout_73 : decode (mB Bu_sprout) 73 = .ok (.return_, 1) := by decide +kernel
def w_Bu_sprout (o : Nat) (x1 : Int32) (x2 : Int32) (h : tpH) (R : tpH → Prop) : Prop :=
  hT h o = 1 ∧ (∃ a2, (hR h o 1) = some a2 ∧ hT h a2 = 8 ∧ (w_Ro_put a2 x1 (1 : Int32) h (fun h5 => hT h5 o = 1 ∧ (∃ a7, (hR h5 o 2) = some a7 ∧ hT h5 a7 = 8 ∧ (w_Ro_put a7 x1 x2 h5 (fun h10 => hT h10 o = 1 ∧ (∃ a12, (hR h10 o 3) = some a12 ∧ hT h10 a12 = 8 ∧ (w_Ro_put a12 x1 (-1 : Int32) h10 (fun h15 => hT h15 o = 1 ∧ (∃ a17, (hR h15 o 4) = some a17 ∧ hT h15 a17 = 8 ∧ (w_Ro_put a17 x1 (-1 : Int32) h15 (fun h20 => hT h20 o = 1 ∧ (∃ a22, (hR h20 o 5) = some a22 ∧ hT h20 a22 = 8 ∧ (w_Ro_put a22 x1 (-1 : Int32) h20 (fun h25 => hT h25 o = 1 ∧ (∃ a27, (hR h25 o 6) = some a27 ∧ hT h25 a27 = 8 ∧ (w_Ro_put a27 x1 (-1 : Int32) h25 (fun h30 => hT h30 o = 1 ∧ (∃ a32, (hR h30 o 7) = some a32 ∧ hT h30 a32 = 8 ∧ (w_Ro_put a32 x1 (-1 : Int32) h30 (fun h35 => hT h35 o = 1 ∧ (∀ h37, h37 = sI h35 o 9 ((hI h35 o 9) + (1 : Int32)) → (R h37)))))))))))))))))))))))
theorem s_Bu_sprout {o : Nat} {x1 : Int32} {x2 : Int32} {h : tpH} {R : tpH → Prop} (hw : w_Bu_sprout o x1 x2 h R) : tpC Bu_sprout 1 [vR (some o), vI x1, vI x2] h (tpOv R (fun _ _ => False)) := by
  refine tpC_of mv_Bu_sprout.2.2.2.1 rfl rfl (Nat.le_of_ble_eq_true rfl) ?_
  show tpR Bu_sprout 1 h _ _ 0 [some (vR (some o)), some (vI x1), some (vI x2)] [] h
  unfold w_Bu_sprout at hw
  refine tq_aload_n dBu_sprout_0 rfl rfl ?_
  obtain ⟨f1, hw⟩ := hw
  refine te_getr dBu_sprout_1 fBu_14 rfl rfl f1 ?_
  refine tq_iload_n dBu_sprout_4 rfl rfl ?_
  refine tq_iconst (v := (1 : Int32)) dBu_sprout_5 tni_1 ?_
  obtain ⟨a2, e3, f4, hw⟩ := hw
  refine te_callV mv_Ro_put (ci := 7) (dc := 0) (as := [vI x1, vI (1 : Int32)]) (rest := []) kBu_50 rfl (Nat.le_of_ble_eq_true rfl) (Nat.le_of_ble_eq_true rfl) rfl rfl e3 f4 (Nat.le_of_ble_eq_true rfl) dBu_sprout_6 (s_Ro_put hw) (fun _ _ hx => False.elim hx) (tk_v fun h5 hw => ?_)
  refine tq_aload_n dBu_sprout_9 rfl rfl ?_
  obtain ⟨f6, hw⟩ := hw
  refine te_getr dBu_sprout_10 fBu_20 rfl rfl f6 ?_
  refine tq_iload_n dBu_sprout_13 rfl rfl ?_
  refine tq_iload_n dBu_sprout_14 rfl rfl ?_
  obtain ⟨a7, e8, f9, hw⟩ := hw
  refine te_callV mv_Ro_put (ci := 7) (dc := 0) (as := [vI x1, vI x2]) (rest := []) kBu_50 rfl (Nat.le_of_ble_eq_true rfl) (Nat.le_of_ble_eq_true rfl) rfl rfl e8 f9 (Nat.le_of_ble_eq_true rfl) dBu_sprout_15 (s_Ro_put hw) (fun _ _ hx => False.elim hx) (tk_v fun h10 hw => ?_)
  refine tq_aload_n dBu_sprout_18 rfl rfl ?_
  obtain ⟨f11, hw⟩ := hw
  refine te_getr dBu_sprout_19 fBu_23 rfl rfl f11 ?_
  refine tq_iload_n dBu_sprout_22 rfl rfl ?_
  refine tq_iconst (v := (-1 : Int32)) dBu_sprout_23 tni_m1 ?_
  obtain ⟨a12, e13, f14, hw⟩ := hw
  refine te_callV mv_Ro_put (ci := 7) (dc := 0) (as := [vI x1, vI (-1 : Int32)]) (rest := []) kBu_50 rfl (Nat.le_of_ble_eq_true rfl) (Nat.le_of_ble_eq_true rfl) rfl rfl e13 f14 (Nat.le_of_ble_eq_true rfl) dBu_sprout_24 (s_Ro_put hw) (fun _ _ hx => False.elim hx) (tk_v fun h15 hw => ?_)
  refine tq_aload_n dBu_sprout_27 rfl rfl ?_
  obtain ⟨f16, hw⟩ := hw
  refine te_getr dBu_sprout_28 fBu_26 rfl rfl f16 ?_
  refine tq_iload_n dBu_sprout_31 rfl rfl ?_
  refine tq_iconst (v := (-1 : Int32)) dBu_sprout_32 tni_m1 ?_
  obtain ⟨a17, e18, f19, hw⟩ := hw
  refine te_callV mv_Ro_put (ci := 7) (dc := 0) (as := [vI x1, vI (-1 : Int32)]) (rest := []) kBu_50 rfl (Nat.le_of_ble_eq_true rfl) (Nat.le_of_ble_eq_true rfl) rfl rfl e18 f19 (Nat.le_of_ble_eq_true rfl) dBu_sprout_33 (s_Ro_put hw) (fun _ _ hx => False.elim hx) (tk_v fun h20 hw => ?_)
  refine tq_aload_n dBu_sprout_36 rfl rfl ?_
  obtain ⟨f21, hw⟩ := hw
  refine te_getr dBu_sprout_37 fBu_29 rfl rfl f21 ?_
  refine tq_iload_n dBu_sprout_40 rfl rfl ?_
  refine tq_iconst (v := (-1 : Int32)) dBu_sprout_41 tni_m1 ?_
  obtain ⟨a22, e23, f24, hw⟩ := hw
  refine te_callV mv_Ro_put (ci := 7) (dc := 0) (as := [vI x1, vI (-1 : Int32)]) (rest := []) kBu_50 rfl (Nat.le_of_ble_eq_true rfl) (Nat.le_of_ble_eq_true rfl) rfl rfl e23 f24 (Nat.le_of_ble_eq_true rfl) dBu_sprout_42 (s_Ro_put hw) (fun _ _ hx => False.elim hx) (tk_v fun h25 hw => ?_)
  refine tq_aload_n dBu_sprout_45 rfl rfl ?_
  obtain ⟨f26, hw⟩ := hw
  refine te_getr dBu_sprout_46 fBu_32 rfl rfl f26 ?_
  refine tq_iload_n dBu_sprout_49 rfl rfl ?_
  refine tq_iconst (v := (-1 : Int32)) dBu_sprout_50 tni_m1 ?_
  obtain ⟨a27, e28, f29, hw⟩ := hw
  refine te_callV mv_Ro_put (ci := 7) (dc := 0) (as := [vI x1, vI (-1 : Int32)]) (rest := []) kBu_50 rfl (Nat.le_of_ble_eq_true rfl) (Nat.le_of_ble_eq_true rfl) rfl rfl e28 f29 (Nat.le_of_ble_eq_true rfl) dBu_sprout_51 (s_Ro_put hw) (fun _ _ hx => False.elim hx) (tk_v fun h30 hw => ?_)
  refine tq_aload_n dBu_sprout_54 rfl rfl ?_
  obtain ⟨f31, hw⟩ := hw
  refine te_getr dBu_sprout_55 fBu_35 rfl rfl f31 ?_
  refine tq_iload_n dBu_sprout_58 rfl rfl ?_
  refine tq_iconst (v := (-1 : Int32)) dBu_sprout_59 tni_m1 ?_
  obtain ⟨a32, e33, f34, hw⟩ := hw
  refine te_callV mv_Ro_put (ci := 7) (dc := 0) (as := [vI x1, vI (-1 : Int32)]) (rest := []) kBu_50 rfl (Nat.le_of_ble_eq_true rfl) (Nat.le_of_ble_eq_true rfl) rfl rfl e33 f34 (Nat.le_of_ble_eq_true rfl) dBu_sprout_60 (s_Ro_put hw) (fun _ _ hx => False.elim hx) (tk_v fun h35 hw => ?_)
  refine tq_aload_n dBu_sprout_63 rfl rfl ?_
  refine tq_dup dBu_sprout_64 rfl ?_
  obtain ⟨f36, hw⟩ := hw
  refine te_geti dBu_sprout_65 fBu_59 rfl rfl f36 ?_
  refine tq_iconst (v := (1 : Int32)) dBu_sprout_68 tni_1 ?_
  refine tq_iadd dBu_sprout_69 ?_
  refine te_puti dBu_sprout_70 pBu_59 rfl rfl rfl f36 ⟨rfl, rfl⟩ (fun h37 e38 => ?_)
  have hw := hw h37 e38
  exact tq_vret rfl dBu_sprout_73 hw
/-! T$Bush.plant -/
theorem dBu_plant_0 : decode (mB Bu_plant) 0 = .ok (.aload_n 0, 1) := by decide +kernel
theorem dBu_plant_1 : decode (mB Bu_plant) 1 = .ok (.getfield 14, 3) := by decide +kernel
theorem dBu_plant_4 : decode (mB Bu_plant) 4 = .ok (.sipush 300, 3) := by decide +kernel
theorem dBu_plant_7 : decode (mB Bu_plant) 7 = .ok (.iconst 0, 1) := by decide +kernel
theorem dBu_plant_8 : decode (mB Bu_plant) 8 = .ok (.invokevirtual 62, 3) := by decide +kernel
theorem dBu_plant_11 : decode (mB Bu_plant) 11 = .ok (.aload_n 0, 1) := by decide +kernel
theorem dBu_plant_12 : decode (mB Bu_plant) 12 = .ok (.iconst 0, 1) := by decide +kernel
theorem dBu_plant_13 : decode (mB Bu_plant) 13 = .ok (.putfield 59, 3) := by decide +kernel
theorem dBu_plant_16 : decode (mB Bu_plant) 16 = .ok (.aload_n 0, 1) := by decide +kernel
theorem dBu_plant_17 : decode (mB Bu_plant) 17 = .ok (.iload_n 1, 1) := by decide +kernel
theorem dBu_plant_18 : decode (mB Bu_plant) 18 = .ok (.iload_n 2, 1) := by decide +kernel
theorem dBu_plant_19 : decode (mB Bu_plant) 19 = .ok (.invokevirtual 65, 3) := by decide +kernel
theorem dBu_plant_22 : decode (mB Bu_plant) 22 = .ok (.aload_n 0, 1) := by decide +kernel
theorem dBu_plant_23 : decode (mB Bu_plant) 23 = .ok (.iload_n 1, 1) := by decide +kernel
theorem dBu_plant_24 : decode (mB Bu_plant) 24 = .ok (.putfield 38, 3) := by decide +kernel
theorem dBu_plant_27 : decode (mB Bu_plant) 27 = .ok (.return_, 1) := by decide +kernel
def w_Bu_plant (o : Nat) (x1 : Int32) (x2 : Int32) (h : tpH) (R : tpH → Prop) : Prop :=
  hT h o = 1 ∧ (∃ a2, (hR h o 1) = some a2 ∧ hT h a2 = 8 ∧ (w_Ro_fill a2 (300 : Int32) (0 : Int32) h (fun h5 => hT h5 o = 1 ∧ (∀ h7, h7 = sI h5 o 9 (0 : Int32) → (w_Bu_sprout o x1 x2 h7 (fun h9 => hT h9 o = 1 ∧ (∀ h11, h11 = sI h9 o 8 x1 → (R h11))))))))
theorem s_Bu_plant {o : Nat} {x1 : Int32} {x2 : Int32} {h : tpH} {R : tpH → Prop} (hw : w_Bu_plant o x1 x2 h R) : tpC Bu_plant 2 [vR (some o), vI x1, vI x2] h (tpOv R (fun _ _ => False)) := by
  refine tpC_of mv_Bu_plant.2.2.2.1 rfl rfl (Nat.le_of_ble_eq_true rfl) ?_
  show tpR Bu_plant 2 h _ _ 0 [some (vR (some o)), some (vI x1), some (vI x2)] [] h
  unfold w_Bu_plant at hw
  refine tq_aload_n dBu_plant_0 rfl rfl ?_
  obtain ⟨f1, hw⟩ := hw
  refine te_getr dBu_plant_1 fBu_14 rfl rfl f1 ?_
  refine tq_sipush (v := (300 : Int32)) dBu_plant_4 tns_300 ?_
  refine tq_iconst (v := (0 : Int32)) dBu_plant_7 tni_0 ?_
  obtain ⟨a2, e3, f4, hw⟩ := hw
  refine te_callV mv_Ro_fill (ci := 7) (dc := 0) (as := [vI (300 : Int32), vI (0 : Int32)]) (rest := []) kBu_62 rfl (Nat.le_of_ble_eq_true rfl) (Nat.le_of_ble_eq_true rfl) rfl rfl e3 f4 (Nat.le_of_ble_eq_true rfl) dBu_plant_8 (s_Ro_fill hw) (fun _ _ hx => False.elim hx) (tk_v fun h5 hw => ?_)
  refine tq_aload_n dBu_plant_11 rfl rfl ?_
  refine tq_iconst (v := (0 : Int32)) dBu_plant_12 tni_0 ?_
  obtain ⟨f6, hw⟩ := hw
  refine te_puti dBu_plant_13 pBu_59 rfl rfl rfl f6 ⟨rfl, rfl⟩ (fun h7 e8 => ?_)
  have hw := hw h7 e8
  refine tq_aload_n dBu_plant_16 rfl rfl ?_
  refine tq_iload_n dBu_plant_17 rfl rfl ?_
  refine tq_iload_n dBu_plant_18 rfl rfl ?_
  refine te_callV mv_Bu_sprout (ci := 0) (dc := 1) (as := [vI x1, vI x2]) (rest := []) kBu_65 rfl (Nat.le_of_ble_eq_true rfl) (Nat.le_of_ble_eq_true rfl) rfl rfl rfl (by rw [e8]; exact f6) (Nat.le_of_ble_eq_true rfl) dBu_plant_19 (s_Bu_sprout hw) (fun _ _ hx => False.elim hx) (tk_v fun h9 hw => ?_)
  refine tq_aload_n dBu_plant_22 rfl rfl ?_
  refine tq_iload_n dBu_plant_23 rfl rfl ?_
  obtain ⟨f10, hw⟩ := hw
  refine te_puti dBu_plant_24 pBu_38 rfl rfl rfl f10 ⟨rfl, rfl⟩ (fun h11 e12 => ?_)
  have hw := hw h11 e12
  exact tq_vret rfl dBu_plant_27 hw
/-! T$Bush.lowerChild -/
theorem dBu_lowerChild_0 : decode (mB Bu_lowerChild) 0 = .ok (.aload_n 0, 1) := by decide +kernel
theorem dBu_lowerChild_1 : decode (mB Bu_lowerChild) 1 = .ok (.getfield 29, 3) := by decide +kernel
theorem dBu_lowerChild_4 : decode (mB Bu_lowerChild) 4 = .ok (.iload_n 1, 1) := by decide +kernel
theorem dBu_lowerChild_5 : decode (mB Bu_lowerChild) 5 = .ok (.invokevirtual 46, 3) := by decide +kernel
theorem dBu_lowerChild_8 : decode (mB Bu_lowerChild) 8 = .ok (.istore_n 3, 1) := by decide +kernel
theorem dBu_lowerChild_9 : decode (mB Bu_lowerChild) 9 = .ok (.iconst 0, 1) := by decide +kernel
theorem dBu_lowerChild_10 : decode (mB Bu_lowerChild) 10 = .ok (.istore 4, 2) := by decide +kernel
theorem dBu_lowerChild_12 : decode (mB Bu_lowerChild) 12 = .ok (.iload 4, 2) := by decide +kernel
theorem dBu_lowerChild_14 : decode (mB Bu_lowerChild) 14 = .ok (.aload_n 0, 1) := by decide +kernel
theorem dBu_lowerChild_15 : decode (mB Bu_lowerChild) 15 = .ok (.getfield 59, 3) := by decide +kernel
theorem dBu_lowerChild_18 : decode (mB Bu_lowerChild) 18 = .ok (.if_icmp .ge 23, 3) := by decide +kernel
theorem dBu_lowerChild_21 : decode (mB Bu_lowerChild) 21 = .ok (.iload_n 3, 1) := by decide +kernel
theorem dBu_lowerChild_22 : decode (mB Bu_lowerChild) 22 = .ok (.iload_n 2, 1) := by decide +kernel
theorem dBu_lowerChild_23 : decode (mB Bu_lowerChild) 23 = .ok (.if_icmp .le 18, 3) := by decide +kernel
theorem dBu_lowerChild_26 : decode (mB Bu_lowerChild) 26 = .ok (.aload_n 0, 1) := by decide +kernel
theorem dBu_lowerChild_27 : decode (mB Bu_lowerChild) 27 = .ok (.getfield 32, 3) := by decide +kernel
theorem dBu_lowerChild_30 : decode (mB Bu_lowerChild) 30 = .ok (.iload_n 3, 1) := by decide +kernel
theorem dBu_lowerChild_31 : decode (mB Bu_lowerChild) 31 = .ok (.invokevirtual 46, 3) := by decide +kernel
theorem dBu_lowerChild_34 : decode (mB Bu_lowerChild) 34 = .ok (.istore_n 3, 1) := by decide +kernel
theorem dBu_lowerChild_35 : decode (mB Bu_lowerChild) 35 = .ok (.iinc 4 1, 3) := by decide +kernel
theorem dBu_lowerChild_38 : decode (mB Bu_lowerChild) 38 = .ok (.goto (-26), 3) := by decide +kernel
theorem dBu_lowerChild_41 : decode (mB Bu_lowerChild) 41 = .ok (.iload_n 3, 1) := by decide +kernel
theorem dBu_lowerChild_42 : decode (mB Bu_lowerChild) 42 = .ok (.ireturn, 1) := by decide +kernel
def b_Bu_lowerChild_12 (R : Int32 → tpH → Prop) (Y : Nat → Int32 → Int32 → Int32 → tpH → Prop) (o : Nat) (x2 : Int32) (x3 : Int32) (x4 : Int32) (h : tpH) : Prop :=
  hT h o = 1 ∧ (((hI h o 9) ≤ x4 → (R x3 h)) ∧ (¬ (hI h o 9) ≤ x4 → ((x3 ≤ x2 → (R x3 h)) ∧ (¬ x3 ≤ x2 → (∃ a4, (hR h o 6) = some a4 ∧ hT h a4 = 8 ∧ (w_Ro_at a4 x3 h (fun v8 h7 => Y o x2 v8 (x4 + (1 : Int32)) h7)))))))
def w_Bu_lowerChild_12 (R : Int32 → tpH → Prop) : Nat → Nat → Int32 → Int32 → Int32 → tpH → Prop
  | 0 => fun _ _ _ _ _ => False
  | n + 1 => b_Bu_lowerChild_12 R (w_Bu_lowerChild_12 R n)
def w_Bu_lowerChild (o : Nat) (x1 : Int32) (x2 : Int32) (h : tpH) (R : Int32 → tpH → Prop) : Prop :=
  hT h o = 1 ∧ (∃ a2, (hR h o 5) = some a2 ∧ hT h a2 = 8 ∧ (w_Ro_at a2 x1 h (fun v6 h5 => ∃ n, w_Bu_lowerChild_12 R n o x2 v6 (0 : Int32) h5)))
theorem s_Bu_lowerChild_12 {h0 : tpH} {av : List tpV} {R : Int32 → tpH → Prop} : ∀ (n : Nat) (o : Nat) (x2 : Int32) (x3 : Int32) (x4 : Int32) (h : tpH), w_Bu_lowerChild_12 R n o x2 x3 x4 h → tpR Bu_lowerChild 1 h0 av (tpOi R (fun _ _ => False)) 12 [some (vR (some o)), none, some (vI x2), some (vI x3), some (vI x4)] [] h := by
  intro n
  induction n with
  | zero => intro o x2 x3 x4 h hw; exact False.elim hw
  | succ n ih =>
    intro o x2 x3 x4 h hw
    change b_Bu_lowerChild_12 R (w_Bu_lowerChild_12 R n) o x2 x3 x4 h at hw
    unfold b_Bu_lowerChild_12 at hw
    refine tq_iload dBu_lowerChild_12 rfl ?_
    refine tq_aload_n dBu_lowerChild_14 rfl rfl ?_
    obtain ⟨f1, hw⟩ := hw
    refine te_geti dBu_lowerChild_15 fBu_59 rfl rfl f1 ?_
    refine tq_icmpge (tgt := 41) dBu_lowerChild_18 (by decide) (fun c2 => ?_) (fun c2 => ?_)
    · have hw := hw.1 c2
      refine tq_iload_n dBu_lowerChild_41 rfl rfl ?_
      exact tq_iret rfl rfl dBu_lowerChild_42 hw
    · have hw := hw.2 c2
      refine tq_iload_n dBu_lowerChild_21 rfl rfl ?_
      refine tq_iload_n dBu_lowerChild_22 rfl rfl ?_
      refine tq_icmple (tgt := 41) dBu_lowerChild_23 (by decide) (fun c3 => ?_) (fun c3 => ?_)
      · have hw := hw.1 c3
        refine tq_iload_n dBu_lowerChild_41 rfl rfl ?_
        exact tq_iret rfl rfl dBu_lowerChild_42 hw
      · have hw := hw.2 c3
        refine tq_aload_n dBu_lowerChild_26 rfl rfl ?_
        refine te_getr dBu_lowerChild_27 fBu_32 rfl rfl f1 ?_
        refine tq_iload_n dBu_lowerChild_30 rfl rfl ?_
        obtain ⟨a4, e5, f6, hw⟩ := hw
        refine te_callV mv_Ro_at (ci := 7) (dc := 0) (as := [vI x3]) (rest := []) kBu_46 rfl (Nat.le_of_ble_eq_true rfl) (Nat.le_of_ble_eq_true rfl) rfl rfl e5 f6 (Nat.le_of_ble_eq_true rfl) dBu_lowerChild_31 (s_Ro_at hw) (fun _ _ hx => False.elim hx) (tk_i fun v8 h7 hw => ?_)
        refine tq_istore_n (ls' := [some (vR (some o)), none, some (vI x2), some (vI v8), some (vI x4)]) dBu_lowerChild_34 rfl (Nat.le_of_ble_eq_true rfl) rfl ?_
        refine tq_inc (k := (1 : Int32)) (ls' := [some (vR (some o)), none, some (vI x2), some (vI v8), some (vI (x4 + (1 : Int32)))]) dBu_lowerChild_35 rfl tni_1 (Nat.le_of_ble_eq_true rfl) rfl ?_
        refine tq_goto (tgt := 12) dBu_lowerChild_38 (by decide) ?_
        refine tpR.fo (ls' := [some (vR (some o)), none, some (vI x2), some (vI v8), some (vI (x4 + (1 : Int32)))]) ?_ (And.intro rfl (And.intro rfl (And.intro rfl (And.intro rfl trivial))))
        exact ih _ _ _ _ _ hw
theorem s_Bu_lowerChild {o : Nat} {x1 : Int32} {x2 : Int32} {h : tpH} {R : Int32 → tpH → Prop} (hw : w_Bu_lowerChild o x1 x2 h R) : tpC Bu_lowerChild 1 [vR (some o), vI x1, vI x2] h (tpOi R (fun _ _ => False)) := by
  refine tpC_of mv_Bu_lowerChild.2.2.2.1 rfl rfl (Nat.le_of_ble_eq_true rfl) ?_
  show tpR Bu_lowerChild 1 h _ _ 0 [some (vR (some o)), some (vI x1), some (vI x2), none, none] [] h
  unfold w_Bu_lowerChild at hw
  refine tq_aload_n dBu_lowerChild_0 rfl rfl ?_
  obtain ⟨f1, hw⟩ := hw
  refine te_getr dBu_lowerChild_1 fBu_29 rfl rfl f1 ?_
  refine tq_iload_n dBu_lowerChild_4 rfl rfl ?_
  obtain ⟨a2, e3, f4, hw⟩ := hw
  refine te_callV mv_Ro_at (ci := 7) (dc := 0) (as := [vI x1]) (rest := []) kBu_46 rfl (Nat.le_of_ble_eq_true rfl) (Nat.le_of_ble_eq_true rfl) rfl rfl e3 f4 (Nat.le_of_ble_eq_true rfl) dBu_lowerChild_5 (s_Ro_at hw) (fun _ _ hx => False.elim hx) (tk_i fun v6 h5 hw => ?_)
  refine tq_istore_n (ls' := [some (vR (some o)), some (vI x1), some (vI x2), some (vI v6), none]) dBu_lowerChild_8 rfl (Nat.le_of_ble_eq_true rfl) rfl ?_
  refine tq_iconst (v := (0 : Int32)) dBu_lowerChild_9 tni_0 ?_
  refine tq_istore (ls' := [some (vR (some o)), some (vI x1), some (vI x2), some (vI v6), some (vI (0 : Int32))]) dBu_lowerChild_10 (Nat.le_of_ble_eq_true rfl) rfl ?_
  refine tpR.fo (ls' := [some (vR (some o)), none, some (vI x2), some (vI v6), some (vI (0 : Int32))]) ?_ (And.intro rfl (And.intro rfl (And.intro rfl (And.intro rfl trivial))))
  obtain ⟨n, hw⟩ := hw
  exact s_Bu_lowerChild_12 n _ _ _ _ _ hw
/-! T$Bush.join -/
theorem dBu_join_0 : decode (mB Bu_join) 0 = .ok (.iload_n 2, 1) := by decide +kernel
theorem dBu_join_1 : decode (mB Bu_join) 1 = .ok (.iconst (-1), 1) := by decide +kernel
theorem dBu_join_2 : decode (mB Bu_join) 2 = .ok (.if_icmp .ne 15, 3) := by decide +kernel
theorem dBu_join_5 : decode (mB Bu_join) 5 = .ok (.aload_n 0, 1) := by decide +kernel
theorem dBu_join_6 : decode (mB Bu_join) 6 = .ok (.getfield 26, 3) := by decide +kernel
theorem dBu_join_9 : decode (mB Bu_join) 9 = .ok (.iload_n 1, 1) := by decide +kernel
theorem dBu_join_10 : decode (mB Bu_join) 10 = .ok (.iload_n 3, 1) := by decide +kernel
theorem dBu_join_11 : decode (mB Bu_join) 11 = .ok (.invokevirtual 50, 3) := by decide +kernel
theorem dBu_join_14 : decode (mB Bu_join) 14 = .ok (.goto 12, 3) := by decide +kernel
theorem dBu_join_17 : decode (mB Bu_join) 17 = .ok (.aload_n 0, 1) := by decide +kernel
theorem dBu_join_18 : decode (mB Bu_join) 18 = .ok (.getfield 35, 3) := by decide +kernel
theorem dBu_join_21 : decode (mB Bu_join) 21 = .ok (.iload_n 2, 1) := by decide +kernel
theorem dBu_join_22 : decode (mB Bu_join) 22 = .ok (.iload_n 3, 1) := by decide +kernel
theorem dBu_join_23 : decode (mB Bu_join) 23 = .ok (.invokevirtual 50, 3) := by decide +kernel
theorem dBu_join_26 : decode (mB Bu_join) 26 = .ok (.iload_n 3, 1) := by decide +kernel
theorem dBu_join_27 : decode (mB Bu_join) 27 = .ok (.iconst (-1), 1) := by decide +kernel
theorem dBu_join_28 : decode (mB Bu_join) 28 = .ok (.if_icmp .ne 15, 3) := by decide +kernel
theorem dBu_join_31 : decode (mB Bu_join) 31 = .ok (.aload_n 0, 1) := by decide +kernel
theorem dBu_join_32 : decode (mB Bu_join) 32 = .ok (.getfield 29, 3) := by decide +kernel
theorem dBu_join_35 : decode (mB Bu_join) 35 = .ok (.iload_n 1, 1) := by decide +kernel
theorem dBu_join_36 : decode (mB Bu_join) 36 = .ok (.iload_n 2, 1) := by decide +kernel
theorem dBu_join_37 : decode (mB Bu_join) 37 = .ok (.invokevirtual 50, 3) := by decide +kernel
theorem dBu_join_40 : decode (mB Bu_join) 40 = .ok (.goto 12, 3) := by decide +kernel
theorem dBu_join_43 : decode (mB Bu_join) 43 = .ok (.aload_n 0, 1) := by decide +kernel
theorem dBu_join_44 : decode (mB Bu_join) 44 = .ok (.getfield 32, 3) := by decide +kernel
theorem dBu_join_47 : decode (mB Bu_join) 47 = .ok (.iload_n 3, 1) := by decide +kernel
theorem dBu_join_48 : decode (mB Bu_join) 48 = .ok (.iload_n 2, 1) := by decide +kernel
theorem dBu_join_49 : decode (mB Bu_join) 49 = .ok (.invokevirtual 50, 3) := by decide +kernel
theorem dBu_join_52 : decode (mB Bu_join) 52 = .ok (.return_, 1) := by decide +kernel
def w_Bu_join_26 (R : tpH → Prop) (o : Nat) (x1 : Int32) (x2 : Int32) (x3 : Int32) (h : tpH) : Prop :=
  (¬ x3 = (-1 : Int32) → (hT h o = 1 ∧ (∃ a3, (hR h o 6) = some a3 ∧ hT h a3 = 8 ∧ (w_Ro_put a3 x3 x2 h (fun h6 => R h6))))) ∧ (x3 = (-1 : Int32) → (hT h o = 1 ∧ (∃ a8, (hR h o 5) = some a8 ∧ hT h a8 = 8 ∧ (w_Ro_put a8 x1 x2 h (fun h11 => R h11)))))
def w_Bu_join (o : Nat) (x1 : Int32) (x2 : Int32) (x3 : Int32) (h : tpH) (R : tpH → Prop) : Prop :=
  (¬ x2 = (-1 : Int32) → (hT h o = 1 ∧ (∃ a3, (hR h o 7) = some a3 ∧ hT h a3 = 8 ∧ (w_Ro_put a3 x2 x3 h (fun h6 => w_Bu_join_26 R o x1 x2 x3 h6))))) ∧ (x2 = (-1 : Int32) → (hT h o = 1 ∧ (∃ a8, (hR h o 4) = some a8 ∧ hT h a8 = 8 ∧ (w_Ro_put a8 x1 x3 h (fun h11 => w_Bu_join_26 R o x1 x2 x3 h11)))))
theorem s_Bu_join_26 {h0 : tpH} {av : List tpV} {R : tpH → Prop} : ∀ (o : Nat) (x1 : Int32) (x2 : Int32) (x3 : Int32) (h : tpH), w_Bu_join_26 R o x1 x2 x3 h → tpR Bu_join 1 h0 av (tpOv R (fun _ _ => False)) 26 [some (vR (some o)), some (vI x1), some (vI x2), some (vI x3)] [] h := by
  intro o x1 x2 x3 h hw
  unfold w_Bu_join_26 at hw
  refine tq_iload_n dBu_join_26 rfl rfl ?_
  refine tq_iconst (v := (-1 : Int32)) dBu_join_27 tni_m1 ?_
  refine tq_icmpne (tgt := 43) dBu_join_28 (by decide) (fun c1 => ?_) (fun c1 => ?_)
  · have hw := hw.1 c1
    refine tq_aload_n dBu_join_43 rfl rfl ?_
    obtain ⟨f2, hw⟩ := hw
    refine te_getr dBu_join_44 fBu_32 rfl rfl f2 ?_
    refine tq_iload_n dBu_join_47 rfl rfl ?_
    refine tq_iload_n dBu_join_48 rfl rfl ?_
    obtain ⟨a3, e4, f5, hw⟩ := hw
    refine te_callV mv_Ro_put (ci := 7) (dc := 0) (as := [vI x3, vI x2]) (rest := []) kBu_50 rfl (Nat.le_of_ble_eq_true rfl) (Nat.le_of_ble_eq_true rfl) rfl rfl e4 f5 (Nat.le_of_ble_eq_true rfl) dBu_join_49 (s_Ro_put hw) (fun _ _ hx => False.elim hx) (tk_v fun h6 hw => ?_)
    exact tq_vret rfl dBu_join_52 hw
  · have hw := hw.2 c1
    refine tq_aload_n dBu_join_31 rfl rfl ?_
    obtain ⟨f7, hw⟩ := hw
    refine te_getr dBu_join_32 fBu_29 rfl rfl f7 ?_
    refine tq_iload_n dBu_join_35 rfl rfl ?_
    refine tq_iload_n dBu_join_36 rfl rfl ?_
    obtain ⟨a8, e9, f10, hw⟩ := hw
    refine te_callV mv_Ro_put (ci := 7) (dc := 0) (as := [vI x1, vI x2]) (rest := []) kBu_50 rfl (Nat.le_of_ble_eq_true rfl) (Nat.le_of_ble_eq_true rfl) rfl rfl e9 f10 (Nat.le_of_ble_eq_true rfl) dBu_join_37 (s_Ro_put hw) (fun _ _ hx => False.elim hx) (tk_v fun h11 hw => ?_)
    refine tq_goto (tgt := 52) dBu_join_40 (by decide) ?_
    exact tq_vret rfl dBu_join_52 hw
theorem s_Bu_join {o : Nat} {x1 : Int32} {x2 : Int32} {x3 : Int32} {h : tpH} {R : tpH → Prop} (hw : w_Bu_join o x1 x2 x3 h R) : tpC Bu_join 1 [vR (some o), vI x1, vI x2, vI x3] h (tpOv R (fun _ _ => False)) := by
  refine tpC_of mv_Bu_join.2.2.2.1 rfl rfl (Nat.le_of_ble_eq_true rfl) ?_
  show tpR Bu_join 1 h _ _ 0 [some (vR (some o)), some (vI x1), some (vI x2), some (vI x3)] [] h
  unfold w_Bu_join at hw
  refine tq_iload_n dBu_join_0 rfl rfl ?_
  refine tq_iconst (v := (-1 : Int32)) dBu_join_1 tni_m1 ?_
  refine tq_icmpne (tgt := 17) dBu_join_2 (by decide) (fun c1 => ?_) (fun c1 => ?_)
  · have hw := hw.1 c1
    refine tq_aload_n dBu_join_17 rfl rfl ?_
    obtain ⟨f2, hw⟩ := hw
    refine te_getr dBu_join_18 fBu_35 rfl rfl f2 ?_
    refine tq_iload_n dBu_join_21 rfl rfl ?_
    refine tq_iload_n dBu_join_22 rfl rfl ?_
    obtain ⟨a3, e4, f5, hw⟩ := hw
    refine te_callV mv_Ro_put (ci := 7) (dc := 0) (as := [vI x2, vI x3]) (rest := []) kBu_50 rfl (Nat.le_of_ble_eq_true rfl) (Nat.le_of_ble_eq_true rfl) rfl rfl e4 f5 (Nat.le_of_ble_eq_true rfl) dBu_join_23 (s_Ro_put hw) (fun _ _ hx => False.elim hx) (tk_v fun h6 hw => ?_)
    refine tpR.fo (ls' := [some (vR (some o)), some (vI x1), some (vI x2), some (vI x3)]) ?_ (And.intro rfl (And.intro rfl (And.intro rfl (And.intro rfl trivial))))
    exact s_Bu_join_26 _ _ _ _ _ hw
  · have hw := hw.2 c1
    refine tq_aload_n dBu_join_5 rfl rfl ?_
    obtain ⟨f7, hw⟩ := hw
    refine te_getr dBu_join_6 fBu_26 rfl rfl f7 ?_
    refine tq_iload_n dBu_join_9 rfl rfl ?_
    refine tq_iload_n dBu_join_10 rfl rfl ?_
    obtain ⟨a8, e9, f10, hw⟩ := hw
    refine te_callV mv_Ro_put (ci := 7) (dc := 0) (as := [vI x1, vI x3]) (rest := []) kBu_50 rfl (Nat.le_of_ble_eq_true rfl) (Nat.le_of_ble_eq_true rfl) rfl rfl e9 f10 (Nat.le_of_ble_eq_true rfl) dBu_join_11 (s_Ro_put hw) (fun _ _ hx => False.elim hx) (tk_v fun h11 hw => ?_)
    refine tq_goto (tgt := 26) dBu_join_14 (by decide) ?_
    refine tpR.fo (ls' := [some (vR (some o)), some (vI x1), some (vI x2), some (vI x3)]) ?_ (And.intro rfl (And.intro rfl (And.intro rfl (And.intro rfl trivial))))
    exact s_Bu_join_26 _ _ _ _ _ hw
/-! T$Bush.hang -/
theorem dBu_hang_0 : decode (mB Bu_hang) 0 = .ok (.aload_n 0, 1) := by decide +kernel
theorem dBu_hang_1 : decode (mB Bu_hang) 1 = .ok (.getfield 42, 3) := by decide +kernel
theorem dBu_hang_4 : decode (mB Bu_hang) 4 = .ok (.iload_n 2, 1) := by decide +kernel
theorem dBu_hang_5 : decode (mB Bu_hang) 5 = .ok (.invokevirtual 68, 3) := by decide +kernel
theorem dBu_hang_8 : decode (mB Bu_hang) 8 = .ok (.ifCond .eq 12, 3) := by decide +kernel
theorem dBu_hang_11 : decode (mB Bu_hang) 11 = .ok (.aload_n 0, 1) := by decide +kernel
theorem dBu_hang_12 : decode (mB Bu_hang) 12 = .ok (.iload_n 2, 1) := by decide +kernel
theorem dBu_hang_13 : decode (mB Bu_hang) 13 = .ok (.iload_n 1, 1) := by decide +kernel
theorem dBu_hang_14 : decode (mB Bu_hang) 14 = .ok (.invokevirtual 74, 3) := by decide +kernel
theorem dBu_hang_17 : decode (mB Bu_hang) 17 = .ok (.goto 4, 3) := by decide +kernel
theorem dBu_hang_20 : decode (mB Bu_hang) 20 = .ok (.iload_n 3, 1) := by decide +kernel
theorem dBu_hang_21 : decode (mB Bu_hang) 21 = .ok (.istore 4, 2) := by decide +kernel
theorem dBu_hang_23 : decode (mB Bu_hang) 23 = .ok (.iload 4, 2) := by decide +kernel
theorem dBu_hang_25 : decode (mB Bu_hang) 25 = .ok (.iconst (-1), 1) := by decide +kernel
theorem dBu_hang_26 : decode (mB Bu_hang) 26 = .ok (.if_icmp .ne 14, 3) := by decide +kernel
theorem dBu_hang_29 : decode (mB Bu_hang) 29 = .ok (.aload_n 0, 1) := by decide +kernel
theorem dBu_hang_30 : decode (mB Bu_hang) 30 = .ok (.getfield 26, 3) := by decide +kernel
theorem dBu_hang_33 : decode (mB Bu_hang) 33 = .ok (.iload_n 2, 1) := by decide +kernel
theorem dBu_hang_34 : decode (mB Bu_hang) 34 = .ok (.invokevirtual 46, 3) := by decide +kernel
theorem dBu_hang_37 : decode (mB Bu_hang) 37 = .ok (.goto 12, 3) := by decide +kernel
theorem dBu_hang_40 : decode (mB Bu_hang) 40 = .ok (.aload_n 0, 1) := by decide +kernel
theorem dBu_hang_41 : decode (mB Bu_hang) 41 = .ok (.getfield 35, 3) := by decide +kernel
theorem dBu_hang_44 : decode (mB Bu_hang) 44 = .ok (.iload 4, 2) := by decide +kernel
theorem dBu_hang_46 : decode (mB Bu_hang) 46 = .ok (.invokevirtual 46, 3) := by decide +kernel
theorem dBu_hang_49 : decode (mB Bu_hang) 49 = .ok (.istore 5, 2) := by decide +kernel
theorem dBu_hang_51 : decode (mB Bu_hang) 51 = .ok (.aload_n 0, 1) := by decide +kernel
theorem dBu_hang_52 : decode (mB Bu_hang) 52 = .ok (.getfield 23, 3) := by decide +kernel
theorem dBu_hang_55 : decode (mB Bu_hang) 55 = .ok (.iload_n 1, 1) := by decide +kernel
theorem dBu_hang_56 : decode (mB Bu_hang) 56 = .ok (.iload_n 2, 1) := by decide +kernel
theorem dBu_hang_57 : decode (mB Bu_hang) 57 = .ok (.invokevirtual 50, 3) := by decide +kernel
theorem dBu_hang_60 : decode (mB Bu_hang) 60 = .ok (.aload_n 0, 1) := by decide +kernel
theorem dBu_hang_61 : decode (mB Bu_hang) 61 = .ok (.iload_n 2, 1) := by decide +kernel
theorem dBu_hang_62 : decode (mB Bu_hang) 62 = .ok (.iload 4, 2) := by decide +kernel
theorem dBu_hang_64 : decode (mB Bu_hang) 64 = .ok (.iload_n 1, 1) := by decide +kernel
theorem dBu_hang_65 : decode (mB Bu_hang) 65 = .ok (.invokevirtual 78, 3) := by decide +kernel
theorem dBu_hang_68 : decode (mB Bu_hang) 68 = .ok (.aload_n 0, 1) := by decide +kernel
theorem dBu_hang_69 : decode (mB Bu_hang) 69 = .ok (.iload_n 2, 1) := by decide +kernel
theorem dBu_hang_70 : decode (mB Bu_hang) 70 = .ok (.iload_n 1, 1) := by decide +kernel
theorem dBu_hang_71 : decode (mB Bu_hang) 71 = .ok (.iload 5, 2) := by decide +kernel
theorem dBu_hang_73 : decode (mB Bu_hang) 73 = .ok (.invokevirtual 78, 3) := by decide +kernel
theorem dBu_hang_76 : decode (mB Bu_hang) 76 = .ok (.return_, 1) := by decide +kernel
def w_Bu_hang_49 (R : tpH → Prop) (o : Nat) (x1 : Int32) (x2 : Int32) (x4 : Int32) (t0 : Int32) (h : tpH) : Prop :=
  hT h o = 1 ∧ (∃ a2, (hR h o 3) = some a2 ∧ hT h a2 = 8 ∧ (w_Ro_put a2 x1 x2 h (fun h5 => hT h5 o = 1 ∧ (w_Bu_join o x2 x4 x1 h5 (fun h7 => hT h7 o = 1 ∧ (w_Bu_join o x2 x1 t0 h7 (fun h9 => R h9)))))))
def w_Bu_hang_21 (R : tpH → Prop) (o : Nat) (x1 : Int32) (x2 : Int32) (t0 : Int32) (h : tpH) : Prop :=
  (¬ t0 = (-1 : Int32) → (hT h o = 1 ∧ (∃ a3, (hR h o 7) = some a3 ∧ hT h a3 = 8 ∧ (w_Ro_at a3 t0 h (fun v7 h6 => w_Bu_hang_49 R o x1 x2 t0 v7 h6))))) ∧ (t0 = (-1 : Int32) → (hT h o = 1 ∧ (∃ a9, (hR h o 4) = some a9 ∧ hT h a9 = 8 ∧ (w_Ro_at a9 x2 h (fun v13 h12 => w_Bu_hang_49 R o x1 x2 t0 v13 h12)))))
def w_Bu_hang (o : Nat) (x1 : Int32) (x2 : Int32) (x3 : Int32) (h : tpH) (R : tpH → Prop) : Prop :=
  hT h o = 1 ∧ (∃ a2, (hR h o 0) = some a2 ∧ hT h a2 = 5 ∧ (w_Ma_isLoose a2 x2 h (fun v6 h5 => (v6 = 0 → (w_Bu_hang_21 R o x1 x2 x3 h5)) ∧ (¬ v6 = 0 → (hT h5 o = 1 ∧ (w_Bu_lowerChild o x2 x1 h5 (fun v10 h9 => w_Bu_hang_21 R o x1 x2 v10 h9)))))))
theorem s_Bu_hang_49 {h0 : tpH} {av : List tpV} {R : tpH → Prop} : ∀ (o : Nat) (x1 : Int32) (x2 : Int32) (x4 : Int32) (t0 : Int32) (h : tpH), w_Bu_hang_49 R o x1 x2 x4 t0 h → tpR Bu_hang 2 h0 av (tpOv R (fun _ _ => False)) 49 [some (vR (some o)), some (vI x1), some (vI x2), none, some (vI x4), none] [vI t0] h := by
  intro o x1 x2 x4 t0 h hw
  unfold w_Bu_hang_49 at hw
  refine tq_istore (ls' := [some (vR (some o)), some (vI x1), some (vI x2), none, some (vI x4), some (vI t0)]) dBu_hang_49 (Nat.le_of_ble_eq_true rfl) rfl ?_
  refine tq_aload_n dBu_hang_51 rfl rfl ?_
  obtain ⟨f1, hw⟩ := hw
  refine te_getr dBu_hang_52 fBu_23 rfl rfl f1 ?_
  refine tq_iload_n dBu_hang_55 rfl rfl ?_
  refine tq_iload_n dBu_hang_56 rfl rfl ?_
  obtain ⟨a2, e3, f4, hw⟩ := hw
  refine te_callV mv_Ro_put (ci := 7) (dc := 0) (as := [vI x1, vI x2]) (rest := []) kBu_50 rfl (Nat.le_of_ble_eq_true rfl) (Nat.le_of_ble_eq_true rfl) rfl rfl e3 f4 (Nat.le_of_ble_eq_true rfl) dBu_hang_57 (s_Ro_put hw) (fun _ _ hx => False.elim hx) (tk_v fun h5 hw => ?_)
  refine tq_aload_n dBu_hang_60 rfl rfl ?_
  refine tq_iload_n dBu_hang_61 rfl rfl ?_
  refine tq_iload dBu_hang_62 rfl ?_
  refine tq_iload_n dBu_hang_64 rfl rfl ?_
  obtain ⟨f6, hw⟩ := hw
  refine te_callV mv_Bu_join (ci := 0) (dc := 1) (as := [vI x2, vI x4, vI x1]) (rest := []) kBu_78 rfl (Nat.le_of_ble_eq_true rfl) (Nat.le_of_ble_eq_true rfl) rfl rfl rfl f6 (Nat.le_of_ble_eq_true rfl) dBu_hang_65 (s_Bu_join hw) (fun _ _ hx => False.elim hx) (tk_v fun h7 hw => ?_)
  refine tq_aload_n dBu_hang_68 rfl rfl ?_
  refine tq_iload_n dBu_hang_69 rfl rfl ?_
  refine tq_iload_n dBu_hang_70 rfl rfl ?_
  refine tq_iload dBu_hang_71 rfl ?_
  obtain ⟨f8, hw⟩ := hw
  refine te_callV mv_Bu_join (ci := 0) (dc := 1) (as := [vI x2, vI x1, vI t0]) (rest := []) kBu_78 rfl (Nat.le_of_ble_eq_true rfl) (Nat.le_of_ble_eq_true rfl) rfl rfl rfl f8 (Nat.le_of_ble_eq_true rfl) dBu_hang_73 (s_Bu_join hw) (fun _ _ hx => False.elim hx) (tk_v fun h9 hw => ?_)
  exact tq_vret rfl dBu_hang_76 hw
theorem s_Bu_hang_21 {h0 : tpH} {av : List tpV} {R : tpH → Prop} : ∀ (o : Nat) (x1 : Int32) (x2 : Int32) (t0 : Int32) (h : tpH), w_Bu_hang_21 R o x1 x2 t0 h → tpR Bu_hang 2 h0 av (tpOv R (fun _ _ => False)) 21 [some (vR (some o)), some (vI x1), some (vI x2), none, none, none] [vI t0] h := by
  intro o x1 x2 t0 h hw
  unfold w_Bu_hang_21 at hw
  refine tq_istore (ls' := [some (vR (some o)), some (vI x1), some (vI x2), none, some (vI t0), none]) dBu_hang_21 (Nat.le_of_ble_eq_true rfl) rfl ?_
  refine tq_iload dBu_hang_23 rfl ?_
  refine tq_iconst (v := (-1 : Int32)) dBu_hang_25 tni_m1 ?_
  refine tq_icmpne (tgt := 40) dBu_hang_26 (by decide) (fun c1 => ?_) (fun c1 => ?_)
  · have hw := hw.1 c1
    refine tq_aload_n dBu_hang_40 rfl rfl ?_
    obtain ⟨f2, hw⟩ := hw
    refine te_getr dBu_hang_41 fBu_35 rfl rfl f2 ?_
    refine tq_iload dBu_hang_44 rfl ?_
    obtain ⟨a3, e4, f5, hw⟩ := hw
    refine te_callV mv_Ro_at (ci := 7) (dc := 0) (as := [vI t0]) (rest := []) kBu_46 rfl (Nat.le_of_ble_eq_true rfl) (Nat.le_of_ble_eq_true rfl) rfl rfl e4 f5 (Nat.le_of_ble_eq_true rfl) dBu_hang_46 (s_Ro_at hw) (fun _ _ hx => False.elim hx) (tk_i fun v7 h6 hw => ?_)
    refine tpR.fo (ls' := [some (vR (some o)), some (vI x1), some (vI x2), none, some (vI t0), none]) ?_ (And.intro rfl (And.intro rfl (And.intro rfl (And.intro rfl trivial))))
    exact s_Bu_hang_49 _ _ _ _ _ _ hw
  · have hw := hw.2 c1
    refine tq_aload_n dBu_hang_29 rfl rfl ?_
    obtain ⟨f8, hw⟩ := hw
    refine te_getr dBu_hang_30 fBu_26 rfl rfl f8 ?_
    refine tq_iload_n dBu_hang_33 rfl rfl ?_
    obtain ⟨a9, e10, f11, hw⟩ := hw
    refine te_callV mv_Ro_at (ci := 7) (dc := 0) (as := [vI x2]) (rest := []) kBu_46 rfl (Nat.le_of_ble_eq_true rfl) (Nat.le_of_ble_eq_true rfl) rfl rfl e10 f11 (Nat.le_of_ble_eq_true rfl) dBu_hang_34 (s_Ro_at hw) (fun _ _ hx => False.elim hx) (tk_i fun v13 h12 hw => ?_)
    refine tq_goto (tgt := 49) dBu_hang_37 (by decide) ?_
    refine tpR.fo (ls' := [some (vR (some o)), some (vI x1), some (vI x2), none, some (vI t0), none]) ?_ (And.intro rfl (And.intro rfl (And.intro rfl (And.intro rfl trivial))))
    exact s_Bu_hang_49 _ _ _ _ _ _ hw
theorem s_Bu_hang {o : Nat} {x1 : Int32} {x2 : Int32} {x3 : Int32} {h : tpH} {R : tpH → Prop} (hw : w_Bu_hang o x1 x2 x3 h R) : tpC Bu_hang 2 [vR (some o), vI x1, vI x2, vI x3] h (tpOv R (fun _ _ => False)) := by
  refine tpC_of mv_Bu_hang.2.2.2.1 rfl rfl (Nat.le_of_ble_eq_true rfl) ?_
  show tpR Bu_hang 2 h _ _ 0 [some (vR (some o)), some (vI x1), some (vI x2), some (vI x3), none, none] [] h
  unfold w_Bu_hang at hw
  refine tq_aload_n dBu_hang_0 rfl rfl ?_
  obtain ⟨f1, hw⟩ := hw
  refine te_getr dBu_hang_1 fBu_42 rfl rfl f1 ?_
  refine tq_iload_n dBu_hang_4 rfl rfl ?_
  obtain ⟨a2, e3, f4, hw⟩ := hw
  refine te_callV mv_Ma_isLoose (ci := 4) (dc := 1) (as := [vI x2]) (rest := []) kBu_68 rfl (Nat.le_of_ble_eq_true rfl) (Nat.le_of_ble_eq_true rfl) rfl rfl e3 f4 (Nat.le_of_ble_eq_true rfl) dBu_hang_5 (s_Ma_isLoose hw) (fun _ _ hx => False.elim hx) (tk_i fun v6 h5 hw => ?_)
  refine tq_ifeq (tgt := 20) dBu_hang_8 (by decide) (fun c7 => ?_) (fun c7 => ?_)
  · have hw := hw.1 c7
    refine tq_iload_n dBu_hang_20 rfl rfl ?_
    refine tpR.fo (ls' := [some (vR (some o)), some (vI x1), some (vI x2), none, none, none]) ?_ (And.intro rfl (And.intro rfl (And.intro rfl trivial)))
    exact s_Bu_hang_21 _ _ _ _ _ hw
  · have hw := hw.2 c7
    refine tq_aload_n dBu_hang_11 rfl rfl ?_
    refine tq_iload_n dBu_hang_12 rfl rfl ?_
    refine tq_iload_n dBu_hang_13 rfl rfl ?_
    obtain ⟨f8, hw⟩ := hw
    refine te_callV mv_Bu_lowerChild (ci := 0) (dc := 1) (as := [vI x2, vI x1]) (rest := []) kBu_74 rfl (Nat.le_of_ble_eq_true rfl) (Nat.le_of_ble_eq_true rfl) rfl rfl rfl f8 (Nat.le_of_ble_eq_true rfl) dBu_hang_14 (s_Bu_lowerChild hw) (fun _ _ hx => False.elim hx) (tk_i fun v10 h9 hw => ?_)
    refine tq_goto (tgt := 21) dBu_hang_17 (by decide) ?_
    refine tpR.fo (ls' := [some (vR (some o)), some (vI x1), some (vI x2), none, none, none]) ?_ (And.intro rfl (And.intro rfl (And.intro rfl trivial)))
    exact s_Bu_hang_21 _ _ _ _ _ hw
/-! T$Bush.cut -/
theorem dBu_cut_0 : decode (mB Bu_cut) 0 = .ok (.aload_n 0, 1) := by decide +kernel
theorem dBu_cut_1 : decode (mB Bu_cut) 1 = .ok (.aload_n 0, 1) := by decide +kernel
theorem dBu_cut_2 : decode (mB Bu_cut) 2 = .ok (.getfield 23, 3) := by decide +kernel
theorem dBu_cut_5 : decode (mB Bu_cut) 5 = .ok (.iload_n 1, 1) := by decide +kernel
theorem dBu_cut_6 : decode (mB Bu_cut) 6 = .ok (.invokevirtual 46, 3) := by decide +kernel
theorem dBu_cut_9 : decode (mB Bu_cut) 9 = .ok (.aload_n 0, 1) := by decide +kernel
theorem dBu_cut_10 : decode (mB Bu_cut) 10 = .ok (.getfield 32, 3) := by decide +kernel
theorem dBu_cut_13 : decode (mB Bu_cut) 13 = .ok (.iload_n 1, 1) := by decide +kernel
theorem dBu_cut_14 : decode (mB Bu_cut) 14 = .ok (.invokevirtual 46, 3) := by decide +kernel
theorem dBu_cut_17 : decode (mB Bu_cut) 17 = .ok (.aload_n 0, 1) := by decide +kernel
theorem dBu_cut_18 : decode (mB Bu_cut) 18 = .ok (.getfield 35, 3) := by decide +kernel
theorem dBu_cut_21 : decode (mB Bu_cut) 21 = .ok (.iload_n 1, 1) := by decide +kernel
theorem dBu_cut_22 : decode (mB Bu_cut) 22 = .ok (.invokevirtual 46, 3) := by decide +kernel
theorem dBu_cut_25 : decode (mB Bu_cut) 25 = .ok (.invokevirtual 78, 3) := by decide +kernel
theorem dBu_cut_28 : decode (mB Bu_cut) 28 = .ok (.aload_n 0, 1) := by decide +kernel
theorem dBu_cut_29 : decode (mB Bu_cut) 29 = .ok (.getfield 23, 3) := by decide +kernel
theorem dBu_cut_32 : decode (mB Bu_cut) 32 = .ok (.iload_n 1, 1) := by decide +kernel
theorem dBu_cut_33 : decode (mB Bu_cut) 33 = .ok (.iconst (-1), 1) := by decide +kernel
theorem dBu_cut_34 : decode (mB Bu_cut) 34 = .ok (.invokevirtual 50, 3) := by decide +kernel
theorem dBu_cut_37 : decode (mB Bu_cut) 37 = .ok (.aload_n 0, 1) := by decide +kernel
theorem dBu_cut_38 : decode (mB Bu_cut) 38 = .ok (.getfield 32, 3) := by decide +kernel
theorem dBu_cut_41 : decode (mB Bu_cut) 41 = .ok (.iload_n 1, 1) := by decide +kernel
theorem dBu_cut_42 : decode (mB Bu_cut) 42 = .ok (.iconst (-1), 1) := by decide +kernel
theorem dBu_cut_43 : decode (mB Bu_cut) 43 = .ok (.invokevirtual 50, 3) := by decide +kernel
theorem dBu_cut_46 : decode (mB Bu_cut) 46 = .ok (.aload_n 0, 1) := by decide +kernel
theorem dBu_cut_47 : decode (mB Bu_cut) 47 = .ok (.getfield 35, 3) := by decide +kernel
theorem dBu_cut_50 : decode (mB Bu_cut) 50 = .ok (.iload_n 1, 1) := by decide +kernel
theorem dBu_cut_51 : decode (mB Bu_cut) 51 = .ok (.iconst (-1), 1) := by decide +kernel
theorem dBu_cut_52 : decode (mB Bu_cut) 52 = .ok (.invokevirtual 50, 3) := by decide +kernel
theorem dBu_cut_55 : decode (mB Bu_cut) 55 = .ok (.return_, 1) := by decide +kernel
def w_Bu_cut (o : Nat) (x1 : Int32) (h : tpH) (R : tpH → Prop) : Prop :=
  hT h o = 1 ∧ (∃ a2, (hR h o 3) = some a2 ∧ hT h a2 = 8 ∧ (w_Ro_at a2 x1 h (fun v6 h5 => hT h5 o = 1 ∧ (∃ a8, (hR h5 o 6) = some a8 ∧ hT h5 a8 = 8 ∧ (w_Ro_at a8 x1 h5 (fun v12 h11 => hT h11 o = 1 ∧ (∃ a14, (hR h11 o 7) = some a14 ∧ hT h11 a14 = 8 ∧ (w_Ro_at a14 x1 h11 (fun v18 h17 => hT h17 o = 1 ∧ (w_Bu_join o v6 v12 v18 h17 (fun h20 => hT h20 o = 1 ∧ (∃ a22, (hR h20 o 3) = some a22 ∧ hT h20 a22 = 8 ∧ (w_Ro_put a22 x1 (-1 : Int32) h20 (fun h25 => hT h25 o = 1 ∧ (∃ a27, (hR h25 o 6) = some a27 ∧ hT h25 a27 = 8 ∧ (w_Ro_put a27 x1 (-1 : Int32) h25 (fun h30 => hT h30 o = 1 ∧ (∃ a32, (hR h30 o 7) = some a32 ∧ hT h30 a32 = 8 ∧ (w_Ro_put a32 x1 (-1 : Int32) h30 (fun h35 => R h35))))))))))))))))))))
theorem s_Bu_cut {o : Nat} {x1 : Int32} {h : tpH} {R : tpH → Prop} (hw : w_Bu_cut o x1 h R) : tpC Bu_cut 2 [vR (some o), vI x1] h (tpOv R (fun _ _ => False)) := by
  refine tpC_of mv_Bu_cut.2.2.2.1 rfl rfl (Nat.le_of_ble_eq_true rfl) ?_
  show tpR Bu_cut 2 h _ _ 0 [some (vR (some o)), some (vI x1)] [] h
  unfold w_Bu_cut at hw
  refine tq_aload_n dBu_cut_0 rfl rfl ?_
  refine tq_aload_n dBu_cut_1 rfl rfl ?_
  obtain ⟨f1, hw⟩ := hw
  refine te_getr dBu_cut_2 fBu_23 rfl rfl f1 ?_
  refine tq_iload_n dBu_cut_5 rfl rfl ?_
  obtain ⟨a2, e3, f4, hw⟩ := hw
  refine te_callV mv_Ro_at (ci := 7) (dc := 0) (as := [vI x1]) (rest := [vR (some o)]) kBu_46 rfl (Nat.le_of_ble_eq_true rfl) (Nat.le_of_ble_eq_true rfl) rfl rfl e3 f4 (Nat.le_of_ble_eq_true rfl) dBu_cut_6 (s_Ro_at hw) (fun _ _ hx => False.elim hx) (tk_i fun v6 h5 hw => ?_)
  refine tq_aload_n dBu_cut_9 rfl rfl ?_
  obtain ⟨f7, hw⟩ := hw
  refine te_getr dBu_cut_10 fBu_32 rfl rfl f7 ?_
  refine tq_iload_n dBu_cut_13 rfl rfl ?_
  obtain ⟨a8, e9, f10, hw⟩ := hw
  refine te_callV mv_Ro_at (ci := 7) (dc := 0) (as := [vI x1]) (rest := [vI v6, vR (some o)]) kBu_46 rfl (Nat.le_of_ble_eq_true rfl) (Nat.le_of_ble_eq_true rfl) rfl rfl e9 f10 (Nat.le_of_ble_eq_true rfl) dBu_cut_14 (s_Ro_at hw) (fun _ _ hx => False.elim hx) (tk_i fun v12 h11 hw => ?_)
  refine tq_aload_n dBu_cut_17 rfl rfl ?_
  obtain ⟨f13, hw⟩ := hw
  refine te_getr dBu_cut_18 fBu_35 rfl rfl f13 ?_
  refine tq_iload_n dBu_cut_21 rfl rfl ?_
  obtain ⟨a14, e15, f16, hw⟩ := hw
  refine te_callV mv_Ro_at (ci := 7) (dc := 0) (as := [vI x1]) (rest := [vI v12, vI v6, vR (some o)]) kBu_46 rfl (Nat.le_of_ble_eq_true rfl) (Nat.le_of_ble_eq_true rfl) rfl rfl e15 f16 (Nat.le_of_ble_eq_true rfl) dBu_cut_22 (s_Ro_at hw) (fun _ _ hx => False.elim hx) (tk_i fun v18 h17 hw => ?_)
  obtain ⟨f19, hw⟩ := hw
  refine te_callV mv_Bu_join (ci := 0) (dc := 1) (as := [vI v6, vI v12, vI v18]) (rest := []) kBu_78 rfl (Nat.le_of_ble_eq_true rfl) (Nat.le_of_ble_eq_true rfl) rfl rfl rfl f19 (Nat.le_of_ble_eq_true rfl) dBu_cut_25 (s_Bu_join hw) (fun _ _ hx => False.elim hx) (tk_v fun h20 hw => ?_)
  refine tq_aload_n dBu_cut_28 rfl rfl ?_
  obtain ⟨f21, hw⟩ := hw
  refine te_getr dBu_cut_29 fBu_23 rfl rfl f21 ?_
  refine tq_iload_n dBu_cut_32 rfl rfl ?_
  refine tq_iconst (v := (-1 : Int32)) dBu_cut_33 tni_m1 ?_
  obtain ⟨a22, e23, f24, hw⟩ := hw
  refine te_callV mv_Ro_put (ci := 7) (dc := 0) (as := [vI x1, vI (-1 : Int32)]) (rest := []) kBu_50 rfl (Nat.le_of_ble_eq_true rfl) (Nat.le_of_ble_eq_true rfl) rfl rfl e23 f24 (Nat.le_of_ble_eq_true rfl) dBu_cut_34 (s_Ro_put hw) (fun _ _ hx => False.elim hx) (tk_v fun h25 hw => ?_)
  refine tq_aload_n dBu_cut_37 rfl rfl ?_
  obtain ⟨f26, hw⟩ := hw
  refine te_getr dBu_cut_38 fBu_32 rfl rfl f26 ?_
  refine tq_iload_n dBu_cut_41 rfl rfl ?_
  refine tq_iconst (v := (-1 : Int32)) dBu_cut_42 tni_m1 ?_
  obtain ⟨a27, e28, f29, hw⟩ := hw
  refine te_callV mv_Ro_put (ci := 7) (dc := 0) (as := [vI x1, vI (-1 : Int32)]) (rest := []) kBu_50 rfl (Nat.le_of_ble_eq_true rfl) (Nat.le_of_ble_eq_true rfl) rfl rfl e28 f29 (Nat.le_of_ble_eq_true rfl) dBu_cut_43 (s_Ro_put hw) (fun _ _ hx => False.elim hx) (tk_v fun h30 hw => ?_)
  refine tq_aload_n dBu_cut_46 rfl rfl ?_
  obtain ⟨f31, hw⟩ := hw
  refine te_getr dBu_cut_47 fBu_35 rfl rfl f31 ?_
  refine tq_iload_n dBu_cut_50 rfl rfl ?_
  refine tq_iconst (v := (-1 : Int32)) dBu_cut_51 tni_m1 ?_
  obtain ⟨a32, e33, f34, hw⟩ := hw
  refine te_callV mv_Ro_put (ci := 7) (dc := 0) (as := [vI x1, vI (-1 : Int32)]) (rest := []) kBu_50 rfl (Nat.le_of_ble_eq_true rfl) (Nat.le_of_ble_eq_true rfl) rfl rfl e33 f34 (Nat.le_of_ble_eq_true rfl) dBu_cut_52 (s_Ro_put hw) (fun _ _ hx => False.elim hx) (tk_v fun h35 hw => ?_)
  exact tq_vret rfl dBu_cut_55 hw
/-! T$Bush.erase -/
theorem dBu_erase_0 : decode (mB Bu_erase) 0 = .ok (.aload_n 0, 1) := by decide +kernel
theorem dBu_erase_1 : decode (mB Bu_erase) 1 = .ok (.iload_n 1, 1) := by decide +kernel
theorem dBu_erase_2 : decode (mB Bu_erase) 2 = .ok (.invokevirtual 81, 3) := by decide +kernel
theorem dBu_erase_5 : decode (mB Bu_erase) 5 = .ok (.iconst 0, 1) := by decide +kernel
theorem dBu_erase_6 : decode (mB Bu_erase) 6 = .ok (.istore_n 2, 1) := by decide +kernel
theorem dBu_erase_7 : decode (mB Bu_erase) 7 = .ok (.iload_n 1, 1) := by decide +kernel
theorem dBu_erase_8 : decode (mB Bu_erase) 8 = .ok (.istore_n 3, 1) := by decide +kernel
theorem dBu_erase_9 : decode (mB Bu_erase) 9 = .ok (.iconst 0, 1) := by decide +kernel
theorem dBu_erase_10 : decode (mB Bu_erase) 10 = .ok (.istore 4, 2) := by decide +kernel
theorem dBu_erase_12 : decode (mB Bu_erase) 12 = .ok (.iload 4, 2) := by decide +kernel
theorem dBu_erase_14 : decode (mB Bu_erase) 14 = .ok (.sipush 300, 3) := by decide +kernel
theorem dBu_erase_17 : decode (mB Bu_erase) 17 = .ok (.if_icmp .ge 33, 3) := by decide +kernel
theorem dBu_erase_20 : decode (mB Bu_erase) 20 = .ok (.iload_n 3, 1) := by decide +kernel
theorem dBu_erase_21 : decode (mB Bu_erase) 21 = .ok (.iconst (-1), 1) := by decide +kernel
theorem dBu_erase_22 : decode (mB Bu_erase) 22 = .ok (.if_icmp .eq 28, 3) := by decide +kernel
theorem dBu_erase_25 : decode (mB Bu_erase) 25 = .ok (.aload_n 0, 1) := by decide +kernel
theorem dBu_erase_26 : decode (mB Bu_erase) 26 = .ok (.getfield 14, 3) := by decide +kernel
theorem dBu_erase_29 : decode (mB Bu_erase) 29 = .ok (.iload_n 3, 1) := by decide +kernel
theorem dBu_erase_30 : decode (mB Bu_erase) 30 = .ok (.iconst 0, 1) := by decide +kernel
theorem dBu_erase_31 : decode (mB Bu_erase) 31 = .ok (.invokevirtual 50, 3) := by decide +kernel
theorem dBu_erase_34 : decode (mB Bu_erase) 34 = .ok (.iinc 2 1, 3) := by decide +kernel
theorem dBu_erase_37 : decode (mB Bu_erase) 37 = .ok (.aload_n 0, 1) := by decide +kernel
theorem dBu_erase_38 : decode (mB Bu_erase) 38 = .ok (.iload_n 3, 1) := by decide +kernel
theorem dBu_erase_39 : decode (mB Bu_erase) 39 = .ok (.iload_n 1, 1) := by decide +kernel
theorem dBu_erase_40 : decode (mB Bu_erase) 40 = .ok (.invokevirtual 84, 3) := by decide +kernel
theorem dBu_erase_43 : decode (mB Bu_erase) 43 = .ok (.istore_n 3, 1) := by decide +kernel
theorem dBu_erase_44 : decode (mB Bu_erase) 44 = .ok (.iinc 4 1, 3) := by decide +kernel
theorem dBu_erase_47 : decode (mB Bu_erase) 47 = .ok (.goto (-35), 3) := by decide +kernel
theorem dBu_erase_50 : decode (mB Bu_erase) 50 = .ok (.aload_n 0, 1) := by decide +kernel
theorem dBu_erase_51 : decode (mB Bu_erase) 51 = .ok (.dup, 1) := by decide +kernel
theorem dBu_erase_52 : decode (mB Bu_erase) 52 = .ok (.getfield 59, 3) := by decide +kernel
theorem dBu_erase_55 : decode (mB Bu_erase) 55 = .ok (.iload_n 2, 1) := by decide +kernel
theorem dBu_erase_56 : decode (mB Bu_erase) 56 = .ok (.isub, 1) := by decide +kernel
theorem dBu_erase_57 : decode (mB Bu_erase) 57 = .ok (.putfield 59, 3) := by decide +kernel
theorem dBu_erase_60 : decode (mB Bu_erase) 60 = .ok (.iload_n 2, 1) := by decide +kernel
theorem dBu_erase_61 : decode (mB Bu_erase) 61 = .ok (.ireturn, 1) := by decide +kernel
def w_Bu_erase_50 (R : Int32 → tpH → Prop) (o : Nat) (x2 : Int32) (h : tpH) : Prop :=
  hT h o = 1 ∧ (∀ h2, h2 = sI h o 9 ((hI h o 9) - x2) → (R x2 h2))
def b_Bu_erase_12 (R : Int32 → tpH → Prop) (Y : Nat → Int32 → Int32 → Int32 → Int32 → tpH → Prop) (o : Nat) (x1 : Int32) (x2 : Int32) (x3 : Int32) (x4 : Int32) (h : tpH) : Prop :=
  ((300 : Int32) ≤ x4 → (w_Bu_erase_50 R o x2 h)) ∧ (¬ (300 : Int32) ≤ x4 → ((x3 = (-1 : Int32) → (w_Bu_erase_50 R o x2 h)) ∧ (¬ x3 = (-1 : Int32) → (hT h o = 1 ∧ (∃ a4, (hR h o 1) = some a4 ∧ hT h a4 = 8 ∧ (w_Ro_put a4 x3 (0 : Int32) h (fun h7 => hT h7 o = 1 ∧ (w_Bu_nextInOrder o x3 x1 h7 (fun v10 h9 => Y o x1 (x2 + (1 : Int32)) v10 (x4 + (1 : Int32)) h9)))))))))
def w_Bu_erase_12 (R : Int32 → tpH → Prop) : Nat → Nat → Int32 → Int32 → Int32 → Int32 → tpH → Prop
  | 0 => fun _ _ _ _ _ _ => False
  | n + 1 => b_Bu_erase_12 R (w_Bu_erase_12 R n)
def w_Bu_erase (o : Nat) (x1 : Int32) (h : tpH) (R : Int32 → tpH → Prop) : Prop :=
  hT h o = 1 ∧ (w_Bu_cut o x1 h (fun h2 => ∃ n, w_Bu_erase_12 R n o x1 (0 : Int32) x1 (0 : Int32) h2))
theorem s_Bu_erase_50 {h0 : tpH} {av : List tpV} {R : Int32 → tpH → Prop} : ∀ (o : Nat) (x2 : Int32) (h : tpH), w_Bu_erase_50 R o x2 h → tpR Bu_erase 3 h0 av (tpOi R (fun _ _ => False)) 50 [some (vR (some o)), none, some (vI x2), none, none] [] h := by
  intro o x2 h hw
  unfold w_Bu_erase_50 at hw
  refine tq_aload_n dBu_erase_50 rfl rfl ?_
  refine tq_dup dBu_erase_51 rfl ?_
  obtain ⟨f1, hw⟩ := hw
  refine te_geti dBu_erase_52 fBu_59 rfl rfl f1 ?_
  refine tq_iload_n dBu_erase_55 rfl rfl ?_
  refine tq_isub dBu_erase_56 ?_
  refine te_puti dBu_erase_57 pBu_59 rfl rfl rfl f1 ⟨rfl, rfl⟩ (fun h2 e3 => ?_)
  have hw := hw h2 e3
  refine tq_iload_n dBu_erase_60 rfl rfl ?_
  exact tq_iret rfl rfl dBu_erase_61 hw
theorem s_Bu_erase_12 {h0 : tpH} {av : List tpV} {R : Int32 → tpH → Prop} : ∀ (n : Nat) (o : Nat) (x1 : Int32) (x2 : Int32) (x3 : Int32) (x4 : Int32) (h : tpH), w_Bu_erase_12 R n o x1 x2 x3 x4 h → tpR Bu_erase 3 h0 av (tpOi R (fun _ _ => False)) 12 [some (vR (some o)), some (vI x1), some (vI x2), some (vI x3), some (vI x4)] [] h := by
  intro n
  induction n with
  | zero => intro o x1 x2 x3 x4 h hw; exact False.elim hw
  | succ n ih =>
    intro o x1 x2 x3 x4 h hw
    change b_Bu_erase_12 R (w_Bu_erase_12 R n) o x1 x2 x3 x4 h at hw
    unfold b_Bu_erase_12 at hw
    refine tq_iload dBu_erase_12 rfl ?_
    refine tq_sipush (v := (300 : Int32)) dBu_erase_14 tns_300 ?_
    refine tq_icmpge (tgt := 50) dBu_erase_17 (by decide) (fun c1 => ?_) (fun c1 => ?_)
    · have hw := hw.1 c1
      refine tpR.fo (ls' := [some (vR (some o)), none, some (vI x2), none, none]) ?_ (And.intro rfl (And.intro rfl trivial))
      exact s_Bu_erase_50 _ _ _ hw
    · have hw := hw.2 c1
      refine tq_iload_n dBu_erase_20 rfl rfl ?_
      refine tq_iconst (v := (-1 : Int32)) dBu_erase_21 tni_m1 ?_
      refine tq_icmpeq (tgt := 50) dBu_erase_22 (by decide) (fun c2 => ?_) (fun c2 => ?_)
      · have hw := hw.1 c2
        refine tpR.fo (ls' := [some (vR (some o)), none, some (vI x2), none, none]) ?_ (And.intro rfl (And.intro rfl trivial))
        exact s_Bu_erase_50 _ _ _ hw
      · have hw := hw.2 c2
        refine tq_aload_n dBu_erase_25 rfl rfl ?_
        obtain ⟨f3, hw⟩ := hw
        refine te_getr dBu_erase_26 fBu_14 rfl rfl f3 ?_
        refine tq_iload_n dBu_erase_29 rfl rfl ?_
        refine tq_iconst (v := (0 : Int32)) dBu_erase_30 tni_0 ?_
        obtain ⟨a4, e5, f6, hw⟩ := hw
        refine te_callV mv_Ro_put (ci := 7) (dc := 0) (as := [vI x3, vI (0 : Int32)]) (rest := []) kBu_50 rfl (Nat.le_of_ble_eq_true rfl) (Nat.le_of_ble_eq_true rfl) rfl rfl e5 f6 (Nat.le_of_ble_eq_true rfl) dBu_erase_31 (s_Ro_put hw) (fun _ _ hx => False.elim hx) (tk_v fun h7 hw => ?_)
        refine tq_inc (k := (1 : Int32)) (ls' := [some (vR (some o)), some (vI x1), some (vI (x2 + (1 : Int32))), some (vI x3), some (vI x4)]) dBu_erase_34 rfl tni_1 (Nat.le_of_ble_eq_true rfl) rfl ?_
        refine tq_aload_n dBu_erase_37 rfl rfl ?_
        refine tq_iload_n dBu_erase_38 rfl rfl ?_
        refine tq_iload_n dBu_erase_39 rfl rfl ?_
        obtain ⟨f8, hw⟩ := hw
        refine te_callV mv_Bu_nextInOrder (ci := 0) (dc := 1) (as := [vI x3, vI x1]) (rest := []) kBu_84 rfl (Nat.le_of_ble_eq_true rfl) (Nat.le_of_ble_eq_true rfl) rfl rfl rfl f8 (Nat.le_of_ble_eq_true rfl) dBu_erase_40 (s_Bu_nextInOrder hw) (fun _ _ hx => False.elim hx) (tk_i fun v10 h9 hw => ?_)
        refine tq_istore_n (ls' := [some (vR (some o)), some (vI x1), some (vI (x2 + (1 : Int32))), some (vI v10), some (vI x4)]) dBu_erase_43 rfl (Nat.le_of_ble_eq_true rfl) rfl ?_
        refine tq_inc (k := (1 : Int32)) (ls' := [some (vR (some o)), some (vI x1), some (vI (x2 + (1 : Int32))), some (vI v10), some (vI (x4 + (1 : Int32)))]) dBu_erase_44 rfl tni_1 (Nat.le_of_ble_eq_true rfl) rfl ?_
        refine tq_goto (tgt := 12) dBu_erase_47 (by decide) ?_
        refine tpR.fo (ls' := [some (vR (some o)), some (vI x1), some (vI (x2 + (1 : Int32))), some (vI v10), some (vI (x4 + (1 : Int32)))]) ?_ (And.intro rfl (And.intro rfl (And.intro rfl (And.intro rfl (And.intro rfl trivial)))))
        exact ih _ _ _ _ _ _ hw
theorem s_Bu_erase {o : Nat} {x1 : Int32} {h : tpH} {R : Int32 → tpH → Prop} (hw : w_Bu_erase o x1 h R) : tpC Bu_erase 3 [vR (some o), vI x1] h (tpOi R (fun _ _ => False)) := by
  refine tpC_of mv_Bu_erase.2.2.2.1 rfl rfl (Nat.le_of_ble_eq_true rfl) ?_
  show tpR Bu_erase 3 h _ _ 0 [some (vR (some o)), some (vI x1), none, none, none] [] h
  unfold w_Bu_erase at hw
  refine tq_aload_n dBu_erase_0 rfl rfl ?_
  refine tq_iload_n dBu_erase_1 rfl rfl ?_
  obtain ⟨f1, hw⟩ := hw
  refine te_callV mv_Bu_cut (ci := 0) (dc := 2) (as := [vI x1]) (rest := []) kBu_81 rfl (Nat.le_of_ble_eq_true rfl) (Nat.le_of_ble_eq_true rfl) rfl rfl rfl f1 (Nat.le_of_ble_eq_true rfl) dBu_erase_2 (s_Bu_cut hw) (fun _ _ hx => False.elim hx) (tk_v fun h2 hw => ?_)
  refine tq_iconst (v := (0 : Int32)) dBu_erase_5 tni_0 ?_
  refine tq_istore_n (ls' := [some (vR (some o)), some (vI x1), some (vI (0 : Int32)), none, none]) dBu_erase_6 rfl (Nat.le_of_ble_eq_true rfl) rfl ?_
  refine tq_iload_n dBu_erase_7 rfl rfl ?_
  refine tq_istore_n (ls' := [some (vR (some o)), some (vI x1), some (vI (0 : Int32)), some (vI x1), none]) dBu_erase_8 rfl (Nat.le_of_ble_eq_true rfl) rfl ?_
  refine tq_iconst (v := (0 : Int32)) dBu_erase_9 tni_0 ?_
  refine tq_istore (ls' := [some (vR (some o)), some (vI x1), some (vI (0 : Int32)), some (vI x1), some (vI (0 : Int32))]) dBu_erase_10 (Nat.le_of_ble_eq_true rfl) rfl ?_
  refine tpR.fo (ls' := [some (vR (some o)), some (vI x1), some (vI (0 : Int32)), some (vI x1), some (vI (0 : Int32))]) ?_ (And.intro rfl (And.intro rfl (And.intro rfl (And.intro rfl (And.intro rfl trivial)))))
  obtain ⟨n, hw⟩ := hw
  exact s_Bu_erase_12 n _ _ _ _ _ _ hw
/-! T$Bush.takeOver -/
theorem dBu_takeOver_0 : decode (mB Bu_takeOver) 0 = .ok (.aload_n 0, 1) := by decide +kernel
theorem dBu_takeOver_1 : decode (mB Bu_takeOver) 1 = .ok (.aload_n 1, 1) := by decide +kernel
theorem dBu_takeOver_2 : decode (mB Bu_takeOver) 2 = .ok (.iconst 0, 1) := by decide +kernel
theorem dBu_takeOver_3 : decode (mB Bu_takeOver) 3 = .ok (.invokevirtual 87, 3) := by decide +kernel
theorem dBu_takeOver_6 : decode (mB Bu_takeOver) 6 = .ok (.aload_n 1, 1) := by decide +kernel
theorem dBu_takeOver_7 : decode (mB Bu_takeOver) 7 = .ok (.iconst 0, 1) := by decide +kernel
theorem dBu_takeOver_8 : decode (mB Bu_takeOver) 8 = .ok (.invokevirtual 92, 3) := by decide +kernel
theorem dBu_takeOver_11 : decode (mB Bu_takeOver) 11 = .ok (.invokevirtual 95, 3) := by decide +kernel
theorem dBu_takeOver_14 : decode (mB Bu_takeOver) 14 = .ok (.iconst 1, 1) := by decide +kernel
theorem dBu_takeOver_15 : decode (mB Bu_takeOver) 15 = .ok (.istore_n 2, 1) := by decide +kernel
theorem dBu_takeOver_16 : decode (mB Bu_takeOver) 16 = .ok (.iload_n 2, 1) := by decide +kernel
theorem dBu_takeOver_17 : decode (mB Bu_takeOver) 17 = .ok (.aload_n 1, 1) := by decide +kernel
theorem dBu_takeOver_18 : decode (mB Bu_takeOver) 18 = .ok (.getfield 98, 3) := by decide +kernel
theorem dBu_takeOver_21 : decode (mB Bu_takeOver) 21 = .ok (.if_icmp .ge 52, 3) := by decide +kernel
theorem dBu_takeOver_24 : decode (mB Bu_takeOver) 24 = .ok (.aload_n 1, 1) := by decide +kernel
theorem dBu_takeOver_25 : decode (mB Bu_takeOver) 25 = .ok (.iload_n 2, 1) := by decide +kernel
theorem dBu_takeOver_26 : decode (mB Bu_takeOver) 26 = .ok (.invokevirtual 87, 3) := by decide +kernel
theorem dBu_takeOver_29 : decode (mB Bu_takeOver) 29 = .ok (.istore_n 3, 1) := by decide +kernel
theorem dBu_takeOver_30 : decode (mB Bu_takeOver) 30 = .ok (.aload_n 1, 1) := by decide +kernel
theorem dBu_takeOver_31 : decode (mB Bu_takeOver) 31 = .ok (.aload_n 1, 1) := by decide +kernel
theorem dBu_takeOver_32 : decode (mB Bu_takeOver) 32 = .ok (.iload_n 2, 1) := by decide +kernel
theorem dBu_takeOver_33 : decode (mB Bu_takeOver) 33 = .ok (.invokevirtual 99, 3) := by decide +kernel
theorem dBu_takeOver_36 : decode (mB Bu_takeOver) 36 = .ok (.invokevirtual 87, 3) := by decide +kernel
theorem dBu_takeOver_39 : decode (mB Bu_takeOver) 39 = .ok (.istore 4, 2) := by decide +kernel
theorem dBu_takeOver_41 : decode (mB Bu_takeOver) 41 = .ok (.aload_n 0, 1) := by decide +kernel
theorem dBu_takeOver_42 : decode (mB Bu_takeOver) 42 = .ok (.iload_n 3, 1) := by decide +kernel
theorem dBu_takeOver_43 : decode (mB Bu_takeOver) 43 = .ok (.aload_n 1, 1) := by decide +kernel
theorem dBu_takeOver_44 : decode (mB Bu_takeOver) 44 = .ok (.iload_n 2, 1) := by decide +kernel
theorem dBu_takeOver_45 : decode (mB Bu_takeOver) 45 = .ok (.invokevirtual 92, 3) := by decide +kernel
theorem dBu_takeOver_48 : decode (mB Bu_takeOver) 48 = .ok (.invokevirtual 65, 3) := by decide +kernel
theorem dBu_takeOver_51 : decode (mB Bu_takeOver) 51 = .ok (.aload_n 0, 1) := by decide +kernel
theorem dBu_takeOver_52 : decode (mB Bu_takeOver) 52 = .ok (.iload_n 3, 1) := by decide +kernel
theorem dBu_takeOver_53 : decode (mB Bu_takeOver) 53 = .ok (.iload 4, 2) := by decide +kernel
theorem dBu_takeOver_55 : decode (mB Bu_takeOver) 55 = .ok (.aload_n 0, 1) := by decide +kernel
theorem dBu_takeOver_56 : decode (mB Bu_takeOver) 56 = .ok (.getfield 29, 3) := by decide +kernel
theorem dBu_takeOver_59 : decode (mB Bu_takeOver) 59 = .ok (.iload 4, 2) := by decide +kernel
theorem dBu_takeOver_61 : decode (mB Bu_takeOver) 61 = .ok (.invokevirtual 46, 3) := by decide +kernel
theorem dBu_takeOver_64 : decode (mB Bu_takeOver) 64 = .ok (.invokevirtual 102, 3) := by decide +kernel
theorem dBu_takeOver_67 : decode (mB Bu_takeOver) 67 = .ok (.iinc 2 1, 3) := by decide +kernel
theorem dBu_takeOver_70 : decode (mB Bu_takeOver) 70 = .ok (.goto (-54), 3) := by decide +kernel
theorem dBu_takeOver_73 : decode (mB Bu_takeOver) 73 = .ok (.return_, 1) := by decide +kernel
def b_Bu_takeOver_16 (R : tpH → Prop) (Y : Nat → (Option Nat) → Int32 → tpH → Prop) (o : Nat) (x1 : Option Nat) (x2 : Int32) (h : tpH) : Prop :=
  ∃ a1, x1 = some a1 ∧ hT h a1 = 12 ∧ (((hI h a1 0) ≤ x2 → (R h)) ∧ (¬ (hI h a1 0) ≤ x2 → (w_Tr_markOf a1 x2 h (fun v6 h5 => hT h5 a1 = 12 ∧ (w_Tr_upOf a1 x2 h5 (fun v9 h8 => hT h8 a1 = 12 ∧ (w_Tr_markOf a1 v9 h8 (fun v12 h11 => hT h11 a1 = 12 ∧ (w_Tr_worthOf a1 x2 h11 (fun v15 h14 => hT h14 o = 1 ∧ (w_Bu_sprout o v6 v15 h14 (fun h17 => hT h17 o = 1 ∧ (∃ a19, (hR h17 o 5) = some a19 ∧ hT h17 a19 = 8 ∧ (w_Ro_at a19 v12 h17 (fun v23 h22 => hT h22 o = 1 ∧ (w_Bu_hang o v6 v12 v23 h22 (fun h25 => Y o x1 (x2 + (1 : Int32)) h25)))))))))))))))))
def w_Bu_takeOver_16 (R : tpH → Prop) : Nat → Nat → (Option Nat) → Int32 → tpH → Prop
  | 0 => fun _ _ _ _ => False
  | n + 1 => b_Bu_takeOver_16 R (w_Bu_takeOver_16 R n)
def w_Bu_takeOver (o : Nat) (x1 : Option Nat) (h : tpH) (R : tpH → Prop) : Prop :=
  ∃ a1, x1 = some a1 ∧ hT h a1 = 12 ∧ (w_Tr_markOf a1 (0 : Int32) h (fun v5 h4 => hT h4 a1 = 12 ∧ (w_Tr_worthOf a1 (0 : Int32) h4 (fun v8 h7 => hT h7 o = 1 ∧ (w_Bu_plant o v5 v8 h7 (fun h10 => ∃ n, w_Bu_takeOver_16 R n o x1 (1 : Int32) h10))))))
theorem s_Bu_takeOver_16 {h0 : tpH} {av : List tpV} {R : tpH → Prop} : ∀ (n : Nat) (o : Nat) (x1 : Option Nat) (x2 : Int32) (h : tpH), w_Bu_takeOver_16 R n o x1 x2 h → tpR Bu_takeOver 3 h0 av (tpOv R (fun _ _ => False)) 16 [some (vR (some o)), some (vR x1), some (vI x2), none, none] [] h := by
  intro n
  induction n with
  | zero => intro o x1 x2 h hw; exact False.elim hw
  | succ n ih =>
    intro o x1 x2 h hw
    change b_Bu_takeOver_16 R (w_Bu_takeOver_16 R n) o x1 x2 h at hw
    unfold b_Bu_takeOver_16 at hw
    refine tq_iload_n dBu_takeOver_16 rfl rfl ?_
    refine tq_aload_n dBu_takeOver_17 rfl rfl ?_
    obtain ⟨a1, e2, f3, hw⟩ := hw
    refine te_geti dBu_takeOver_18 fBu_98 rfl e2 f3 ?_
    refine tq_icmpge (tgt := 73) dBu_takeOver_21 (by decide) (fun c4 => ?_) (fun c4 => ?_)
    · have hw := hw.1 c4
      exact tq_vret rfl dBu_takeOver_73 hw
    · have hw := hw.2 c4
      refine tq_aload_n dBu_takeOver_24 rfl rfl ?_
      refine tq_iload_n dBu_takeOver_25 rfl rfl ?_
      refine te_callV mv_Tr_markOf (ci := 11) (dc := 1) (as := [vI x2]) (rest := []) kBu_87 rfl (Nat.le_of_ble_eq_true rfl) (Nat.le_of_ble_eq_true rfl) rfl rfl e2 f3 (Nat.le_of_ble_eq_true rfl) dBu_takeOver_26 (s_Tr_markOf hw) (fun _ _ hx => False.elim hx) (tk_i fun v6 h5 hw => ?_)
      refine tq_istore_n (ls' := [some (vR (some o)), some (vR x1), some (vI x2), some (vI v6), none]) dBu_takeOver_29 rfl (Nat.le_of_ble_eq_true rfl) rfl ?_
      refine tq_aload_n dBu_takeOver_30 rfl rfl ?_
      refine tq_aload_n dBu_takeOver_31 rfl rfl ?_
      refine tq_iload_n dBu_takeOver_32 rfl rfl ?_
      obtain ⟨f7, hw⟩ := hw
      refine te_callV mv_Tr_upOf (ci := 11) (dc := 1) (as := [vI x2]) (rest := [vR x1]) kBu_99 rfl (Nat.le_of_ble_eq_true rfl) (Nat.le_of_ble_eq_true rfl) rfl rfl e2 f7 (Nat.le_of_ble_eq_true rfl) dBu_takeOver_33 (s_Tr_upOf hw) (fun _ _ hx => False.elim hx) (tk_i fun v9 h8 hw => ?_)
      obtain ⟨f10, hw⟩ := hw
      refine te_callV mv_Tr_markOf (ci := 11) (dc := 1) (as := [vI v9]) (rest := []) kBu_87 rfl (Nat.le_of_ble_eq_true rfl) (Nat.le_of_ble_eq_true rfl) rfl rfl e2 f10 (Nat.le_of_ble_eq_true rfl) dBu_takeOver_36 (s_Tr_markOf hw) (fun _ _ hx => False.elim hx) (tk_i fun v12 h11 hw => ?_)
      refine tq_istore (ls' := [some (vR (some o)), some (vR x1), some (vI x2), some (vI v6), some (vI v12)]) dBu_takeOver_39 (Nat.le_of_ble_eq_true rfl) rfl ?_
      refine tq_aload_n dBu_takeOver_41 rfl rfl ?_
      refine tq_iload_n dBu_takeOver_42 rfl rfl ?_
      refine tq_aload_n dBu_takeOver_43 rfl rfl ?_
      refine tq_iload_n dBu_takeOver_44 rfl rfl ?_
      obtain ⟨f13, hw⟩ := hw
      refine te_callV mv_Tr_worthOf (ci := 11) (dc := 1) (as := [vI x2]) (rest := [vI v6, vR (some o)]) kBu_92 rfl (Nat.le_of_ble_eq_true rfl) (Nat.le_of_ble_eq_true rfl) rfl rfl e2 f13 (Nat.le_of_ble_eq_true rfl) dBu_takeOver_45 (s_Tr_worthOf hw) (fun _ _ hx => False.elim hx) (tk_i fun v15 h14 hw => ?_)
      obtain ⟨f16, hw⟩ := hw
      refine te_callV mv_Bu_sprout (ci := 0) (dc := 1) (as := [vI v6, vI v15]) (rest := []) kBu_65 rfl (Nat.le_of_ble_eq_true rfl) (Nat.le_of_ble_eq_true rfl) rfl rfl rfl f16 (Nat.le_of_ble_eq_true rfl) dBu_takeOver_48 (s_Bu_sprout hw) (fun _ _ hx => False.elim hx) (tk_v fun h17 hw => ?_)
      refine tq_aload_n dBu_takeOver_51 rfl rfl ?_
      refine tq_iload_n dBu_takeOver_52 rfl rfl ?_
      refine tq_iload dBu_takeOver_53 rfl ?_
      refine tq_aload_n dBu_takeOver_55 rfl rfl ?_
      obtain ⟨f18, hw⟩ := hw
      refine te_getr dBu_takeOver_56 fBu_29 rfl rfl f18 ?_
      refine tq_iload dBu_takeOver_59 rfl ?_
      obtain ⟨a19, e20, f21, hw⟩ := hw
      refine te_callV mv_Ro_at (ci := 7) (dc := 0) (as := [vI v12]) (rest := [vI v12, vI v6, vR (some o)]) kBu_46 rfl (Nat.le_of_ble_eq_true rfl) (Nat.le_of_ble_eq_true rfl) rfl rfl e20 f21 (Nat.le_of_ble_eq_true rfl) dBu_takeOver_61 (s_Ro_at hw) (fun _ _ hx => False.elim hx) (tk_i fun v23 h22 hw => ?_)
      obtain ⟨f24, hw⟩ := hw
      refine te_callV mv_Bu_hang (ci := 0) (dc := 2) (as := [vI v6, vI v12, vI v23]) (rest := []) kBu_102 rfl (Nat.le_of_ble_eq_true rfl) (Nat.le_of_ble_eq_true rfl) rfl rfl rfl f24 (Nat.le_of_ble_eq_true rfl) dBu_takeOver_64 (s_Bu_hang hw) (fun _ _ hx => False.elim hx) (tk_v fun h25 hw => ?_)
      refine tq_inc (k := (1 : Int32)) (ls' := [some (vR (some o)), some (vR x1), some (vI (x2 + (1 : Int32))), some (vI v6), some (vI v12)]) dBu_takeOver_67 rfl tni_1 (Nat.le_of_ble_eq_true rfl) rfl ?_
      refine tq_goto (tgt := 16) dBu_takeOver_70 (by decide) ?_
      refine tpR.fo (ls' := [some (vR (some o)), some (vR x1), some (vI (x2 + (1 : Int32))), none, none]) ?_ (And.intro rfl (And.intro rfl (And.intro rfl trivial)))
      exact ih _ _ _ _ hw
theorem s_Bu_takeOver {o : Nat} {x1 : Option Nat} {h : tpH} {R : tpH → Prop} (hw : w_Bu_takeOver o x1 h R) : tpC Bu_takeOver 3 [vR (some o), vR x1] h (tpOv R (fun _ _ => False)) := by
  refine tpC_of mv_Bu_takeOver.2.2.2.1 rfl rfl (Nat.le_of_ble_eq_true rfl) ?_
  show tpR Bu_takeOver 3 h _ _ 0 [some (vR (some o)), some (vR x1), none, none, none] [] h
  unfold w_Bu_takeOver at hw
  refine tq_aload_n dBu_takeOver_0 rfl rfl ?_
  refine tq_aload_n dBu_takeOver_1 rfl rfl ?_
  refine tq_iconst (v := (0 : Int32)) dBu_takeOver_2 tni_0 ?_
  obtain ⟨a1, e2, f3, hw⟩ := hw
  refine te_callV mv_Tr_markOf (ci := 11) (dc := 1) (as := [vI (0 : Int32)]) (rest := [vR (some o)]) kBu_87 rfl (Nat.le_of_ble_eq_true rfl) (Nat.le_of_ble_eq_true rfl) rfl rfl e2 f3 (Nat.le_of_ble_eq_true rfl) dBu_takeOver_3 (s_Tr_markOf hw) (fun _ _ hx => False.elim hx) (tk_i fun v5 h4 hw => ?_)
  refine tq_aload_n dBu_takeOver_6 rfl rfl ?_
  refine tq_iconst (v := (0 : Int32)) dBu_takeOver_7 tni_0 ?_
  obtain ⟨f6, hw⟩ := hw
  refine te_callV mv_Tr_worthOf (ci := 11) (dc := 1) (as := [vI (0 : Int32)]) (rest := [vI v5, vR (some o)]) kBu_92 rfl (Nat.le_of_ble_eq_true rfl) (Nat.le_of_ble_eq_true rfl) rfl rfl e2 f6 (Nat.le_of_ble_eq_true rfl) dBu_takeOver_8 (s_Tr_worthOf hw) (fun _ _ hx => False.elim hx) (tk_i fun v8 h7 hw => ?_)
  obtain ⟨f9, hw⟩ := hw
  refine te_callV mv_Bu_plant (ci := 0) (dc := 2) (as := [vI v5, vI v8]) (rest := []) kBu_95 rfl (Nat.le_of_ble_eq_true rfl) (Nat.le_of_ble_eq_true rfl) rfl rfl rfl f9 (Nat.le_of_ble_eq_true rfl) dBu_takeOver_11 (s_Bu_plant hw) (fun _ _ hx => False.elim hx) (tk_v fun h10 hw => ?_)
  refine tq_iconst (v := (1 : Int32)) dBu_takeOver_14 tni_1 ?_
  refine tq_istore_n (ls' := [some (vR (some o)), some (vR x1), some (vI (1 : Int32)), none, none]) dBu_takeOver_15 rfl (Nat.le_of_ble_eq_true rfl) rfl ?_
  refine tpR.fo (ls' := [some (vR (some o)), some (vR x1), some (vI (1 : Int32)), none, none]) ?_ (And.intro rfl (And.intro rfl (And.intro rfl trivial)))
  obtain ⟨n, hw⟩ := hw
  exact s_Bu_takeOver_16 n _ _ _ _ hw
/-! T$Bush.freeze -/
theorem dBu_freeze_0 : decode (mB Bu_freeze) 0 = .ok (.new 88, 3) := by decide +kernel
theorem dBu_freeze_3 : decode (mB Bu_freeze) 3 = .ok (.dup, 1) := by decide +kernel
theorem dBu_freeze_4 : decode (mB Bu_freeze) 4 = .ok (.aload_n 0, 1) := by decide +kernel
theorem dBu_freeze_5 : decode (mB Bu_freeze) 5 = .ok (.getfield 59, 3) := by decide +kernel
theorem dBu_freeze_8 : decode (mB Bu_freeze) 8 = .ok (.aload_n 0, 1) := by decide +kernel
theorem dBu_freeze_9 : decode (mB Bu_freeze) 9 = .ok (.getfield 42, 3) := by decide +kernel
theorem dBu_freeze_12 : decode (mB Bu_freeze) 12 = .ok (.getfield 105, 3) := by decide +kernel
theorem dBu_freeze_15 : decode (mB Bu_freeze) 15 = .ok (.invokespecial 108, 3) := by decide +kernel
theorem dBu_freeze_18 : decode (mB Bu_freeze) 18 = .ok (.astore_n 1, 1) := by decide +kernel
theorem dBu_freeze_19 : decode (mB Bu_freeze) 19 = .ok (.aload_n 0, 1) := by decide +kernel
theorem dBu_freeze_20 : decode (mB Bu_freeze) 20 = .ok (.getfield 38, 3) := by decide +kernel
theorem dBu_freeze_23 : decode (mB Bu_freeze) 23 = .ok (.istore_n 2, 1) := by decide +kernel
theorem dBu_freeze_24 : decode (mB Bu_freeze) 24 = .ok (.iconst 0, 1) := by decide +kernel
theorem dBu_freeze_25 : decode (mB Bu_freeze) 25 = .ok (.istore_n 3, 1) := by decide +kernel
theorem dBu_freeze_26 : decode (mB Bu_freeze) 26 = .ok (.iload_n 3, 1) := by decide +kernel
theorem dBu_freeze_27 : decode (mB Bu_freeze) 27 = .ok (.aload_n 0, 1) := by decide +kernel
theorem dBu_freeze_28 : decode (mB Bu_freeze) 28 = .ok (.getfield 59, 3) := by decide +kernel
theorem dBu_freeze_31 : decode (mB Bu_freeze) 31 = .ok (.if_icmp .ge 46, 3) := by decide +kernel
theorem dBu_freeze_34 : decode (mB Bu_freeze) 34 = .ok (.iload_n 2, 1) := by decide +kernel
theorem dBu_freeze_35 : decode (mB Bu_freeze) 35 = .ok (.iconst (-1), 1) := by decide +kernel
theorem dBu_freeze_36 : decode (mB Bu_freeze) 36 = .ok (.if_icmp .eq 41, 3) := by decide +kernel
theorem dBu_freeze_39 : decode (mB Bu_freeze) 39 = .ok (.aload_n 1, 1) := by decide +kernel
theorem dBu_freeze_40 : decode (mB Bu_freeze) 40 = .ok (.iload_n 3, 1) := by decide +kernel
theorem dBu_freeze_41 : decode (mB Bu_freeze) 41 = .ok (.iload_n 2, 1) := by decide +kernel
theorem dBu_freeze_42 : decode (mB Bu_freeze) 42 = .ok (.aload_n 0, 1) := by decide +kernel
theorem dBu_freeze_43 : decode (mB Bu_freeze) 43 = .ok (.getfield 20, 3) := by decide +kernel
theorem dBu_freeze_46 : decode (mB Bu_freeze) 46 = .ok (.iload_n 2, 1) := by decide +kernel
theorem dBu_freeze_47 : decode (mB Bu_freeze) 47 = .ok (.invokevirtual 46, 3) := by decide +kernel
theorem dBu_freeze_50 : decode (mB Bu_freeze) 50 = .ok (.aload_n 0, 1) := by decide +kernel
theorem dBu_freeze_51 : decode (mB Bu_freeze) 51 = .ok (.getfield 23, 3) := by decide +kernel
theorem dBu_freeze_54 : decode (mB Bu_freeze) 54 = .ok (.iload_n 2, 1) := by decide +kernel
theorem dBu_freeze_55 : decode (mB Bu_freeze) 55 = .ok (.invokevirtual 46, 3) := by decide +kernel
theorem dBu_freeze_58 : decode (mB Bu_freeze) 58 = .ok (.invokevirtual 110, 3) := by decide +kernel
theorem dBu_freeze_61 : decode (mB Bu_freeze) 61 = .ok (.aload_n 0, 1) := by decide +kernel
theorem dBu_freeze_62 : decode (mB Bu_freeze) 62 = .ok (.iload_n 2, 1) := by decide +kernel
theorem dBu_freeze_63 : decode (mB Bu_freeze) 63 = .ok (.aload_n 0, 1) := by decide +kernel
theorem dBu_freeze_64 : decode (mB Bu_freeze) 64 = .ok (.getfield 38, 3) := by decide +kernel
theorem dBu_freeze_67 : decode (mB Bu_freeze) 67 = .ok (.invokevirtual 84, 3) := by decide +kernel
theorem dBu_freeze_70 : decode (mB Bu_freeze) 70 = .ok (.istore_n 2, 1) := by decide +kernel
theorem dBu_freeze_71 : decode (mB Bu_freeze) 71 = .ok (.iinc 3 1, 3) := by decide +kernel
theorem dBu_freeze_74 : decode (mB Bu_freeze) 74 = .ok (.goto (-48), 3) := by decide +kernel
theorem dBu_freeze_77 : decode (mB Bu_freeze) 77 = .ok (.aload_n 1, 1) := by decide +kernel
theorem dBu_freeze_78 : decode (mB Bu_freeze) 78 = .ok (.invokevirtual 114, 3) := by decide +kernel
theorem dBu_freeze_81 : decode (mB Bu_freeze) 81 = .ok (.aload_n 1, 1) := by decide +kernel
theorem dBu_freeze_82 : decode (mB Bu_freeze) 82 = .ok (.areturn, 1) := by decide +kernel
def w_Bu_freeze_77 (R : Option Nat → tpH → Prop) (x1 : Option Nat) (h : tpH) : Prop :=
  ∃ a1, x1 = some a1 ∧ hT h a1 = 12 ∧ (w_Tr_close a1 h (fun h4 => R x1 h4))
def b_Bu_freeze_26 (R : Option Nat → tpH → Prop) (Y : Nat → (Option Nat) → Int32 → Int32 → tpH → Prop) (o : Nat) (x1 : Option Nat) (x2 : Int32) (x3 : Int32) (h : tpH) : Prop :=
  hT h o = 1 ∧ (((hI h o 9) ≤ x3 → (w_Bu_freeze_77 R x1 h)) ∧ (¬ (hI h o 9) ≤ x3 → ((x2 = (-1 : Int32) → (w_Bu_freeze_77 R x1 h)) ∧ (¬ x2 = (-1 : Int32) → (∃ a4, (hR h o 2) = some a4 ∧ hT h a4 = 8 ∧ (w_Ro_at a4 x2 h (fun v8 h7 => hT h7 o = 1 ∧ (∃ a10, (hR h7 o 3) = some a10 ∧ hT h7 a10 = 8 ∧ (w_Ro_at a10 x2 h7 (fun v14 h13 => ∃ a15, x1 = some a15 ∧ hT h13 a15 = 12 ∧ (w_Tr_fillPlace a15 x3 x2 v8 v14 h13 (fun h18 => hT h18 o = 1 ∧ (w_Bu_nextInOrder o x2 (hI h18 o 8) h18 (fun v21 h20 => Y o x1 v21 (x3 + (1 : Int32)) h20))))))))))))))
def w_Bu_freeze_26 (R : Option Nat → tpH → Prop) : Nat → Nat → (Option Nat) → Int32 → Int32 → tpH → Prop
  | 0 => fun _ _ _ _ _ => False
  | n + 1 => b_Bu_freeze_26 R (w_Bu_freeze_26 R n)
def w_Bu_freeze (o : Nat) (h : tpH) (R : Option Nat → tpH → Prop) : Prop :=
  ∀ a1 h2, a1 = hZ h → h2 = nC h 12 0 10 → (hT h2 o = 1 ∧ (∃ a6, (hR h2 o 0) = some a6 ∧ hT h2 a6 = 5 ∧ (w_Tr_init a1 (hI h2 o 9) (hI h2 a6 2) h2 (fun h9 => hT h9 o = 1 ∧ (∃ n, w_Bu_freeze_26 R n o (some a1) (hI h9 o 8) (0 : Int32) h9)))))
theorem s_Bu_freeze_77 {h0 : tpH} {av : List tpV} {R : Option Nat → tpH → Prop} : ∀ (x1 : Option Nat) (h : tpH), w_Bu_freeze_77 R x1 h → tpR Bu_freeze 3 h0 av (tpOr R (fun _ _ => False)) 77 [none, some (vR x1), none, none] [] h := by
  intro x1 h hw
  unfold w_Bu_freeze_77 at hw
  refine tq_aload_n dBu_freeze_77 rfl rfl ?_
  obtain ⟨a1, e2, f3, hw⟩ := hw
  refine te_callV mv_Tr_close (ci := 11) (dc := 1) (as := []) (rest := []) kBu_114 rfl (Nat.le_of_ble_eq_true rfl) (Nat.le_of_ble_eq_true rfl) rfl rfl e2 f3 (Nat.le_of_ble_eq_true rfl) dBu_freeze_78 (s_Tr_close hw) (fun _ _ hx => False.elim hx) (tk_v fun h4 hw => ?_)
  refine tq_aload_n dBu_freeze_81 rfl rfl ?_
  exact tq_aret rfl rfl dBu_freeze_82 hw
theorem s_Bu_freeze_26 {h0 : tpH} {av : List tpV} {R : Option Nat → tpH → Prop} : ∀ (n : Nat) (o : Nat) (x1 : Option Nat) (x2 : Int32) (x3 : Int32) (h : tpH), w_Bu_freeze_26 R n o x1 x2 x3 h → tpR Bu_freeze 3 h0 av (tpOr R (fun _ _ => False)) 26 [some (vR (some o)), some (vR x1), some (vI x2), some (vI x3)] [] h := by
  intro n
  induction n with
  | zero => intro o x1 x2 x3 h hw; exact False.elim hw
  | succ n ih =>
    intro o x1 x2 x3 h hw
    change b_Bu_freeze_26 R (w_Bu_freeze_26 R n) o x1 x2 x3 h at hw
    unfold b_Bu_freeze_26 at hw
    refine tq_iload_n dBu_freeze_26 rfl rfl ?_
    refine tq_aload_n dBu_freeze_27 rfl rfl ?_
    obtain ⟨f1, hw⟩ := hw
    refine te_geti dBu_freeze_28 fBu_59 rfl rfl f1 ?_
    refine tq_icmpge (tgt := 77) dBu_freeze_31 (by decide) (fun c2 => ?_) (fun c2 => ?_)
    · have hw := hw.1 c2
      refine tpR.fo (ls' := [none, some (vR x1), none, none]) ?_ (And.intro rfl trivial)
      exact s_Bu_freeze_77 _ _ hw
    · have hw := hw.2 c2
      refine tq_iload_n dBu_freeze_34 rfl rfl ?_
      refine tq_iconst (v := (-1 : Int32)) dBu_freeze_35 tni_m1 ?_
      refine tq_icmpeq (tgt := 77) dBu_freeze_36 (by decide) (fun c3 => ?_) (fun c3 => ?_)
      · have hw := hw.1 c3
        refine tpR.fo (ls' := [none, some (vR x1), none, none]) ?_ (And.intro rfl trivial)
        exact s_Bu_freeze_77 _ _ hw
      · have hw := hw.2 c3
        refine tq_aload_n dBu_freeze_39 rfl rfl ?_
        refine tq_iload_n dBu_freeze_40 rfl rfl ?_
        refine tq_iload_n dBu_freeze_41 rfl rfl ?_
        refine tq_aload_n dBu_freeze_42 rfl rfl ?_
        refine te_getr dBu_freeze_43 fBu_20 rfl rfl f1 ?_
        refine tq_iload_n dBu_freeze_46 rfl rfl ?_
        obtain ⟨a4, e5, f6, hw⟩ := hw
        refine te_callV mv_Ro_at (ci := 7) (dc := 0) (as := [vI x2]) (rest := [vI x2, vI x3, vR x1]) kBu_46 rfl (Nat.le_of_ble_eq_true rfl) (Nat.le_of_ble_eq_true rfl) rfl rfl e5 f6 (Nat.le_of_ble_eq_true rfl) dBu_freeze_47 (s_Ro_at hw) (fun _ _ hx => False.elim hx) (tk_i fun v8 h7 hw => ?_)
        refine tq_aload_n dBu_freeze_50 rfl rfl ?_
        obtain ⟨f9, hw⟩ := hw
        refine te_getr dBu_freeze_51 fBu_23 rfl rfl f9 ?_
        refine tq_iload_n dBu_freeze_54 rfl rfl ?_
        obtain ⟨a10, e11, f12, hw⟩ := hw
        refine te_callV mv_Ro_at (ci := 7) (dc := 0) (as := [vI x2]) (rest := [vI v8, vI x2, vI x3, vR x1]) kBu_46 rfl (Nat.le_of_ble_eq_true rfl) (Nat.le_of_ble_eq_true rfl) rfl rfl e11 f12 (Nat.le_of_ble_eq_true rfl) dBu_freeze_55 (s_Ro_at hw) (fun _ _ hx => False.elim hx) (tk_i fun v14 h13 hw => ?_)
        obtain ⟨a15, e16, f17, hw⟩ := hw
        refine te_callV mv_Tr_fillPlace (ci := 11) (dc := 2) (as := [vI x3, vI x2, vI v8, vI v14]) (rest := []) kBu_110 rfl (Nat.le_of_ble_eq_true rfl) (Nat.le_of_ble_eq_true rfl) rfl rfl e16 f17 (Nat.le_of_ble_eq_true rfl) dBu_freeze_58 (s_Tr_fillPlace hw) (fun _ _ hx => False.elim hx) (tk_v fun h18 hw => ?_)
        refine tq_aload_n dBu_freeze_61 rfl rfl ?_
        refine tq_iload_n dBu_freeze_62 rfl rfl ?_
        refine tq_aload_n dBu_freeze_63 rfl rfl ?_
        obtain ⟨f19, hw⟩ := hw
        refine te_geti dBu_freeze_64 fBu_38 rfl rfl f19 ?_
        refine te_callV mv_Bu_nextInOrder (ci := 0) (dc := 1) (as := [vI x2, vI (hI h18 o 8)]) (rest := []) kBu_84 rfl (Nat.le_of_ble_eq_true rfl) (Nat.le_of_ble_eq_true rfl) rfl rfl rfl f19 (Nat.le_of_ble_eq_true rfl) dBu_freeze_67 (s_Bu_nextInOrder hw) (fun _ _ hx => False.elim hx) (tk_i fun v21 h20 hw => ?_)
        refine tq_istore_n (ls' := [some (vR (some o)), some (vR x1), some (vI v21), some (vI x3)]) dBu_freeze_70 rfl (Nat.le_of_ble_eq_true rfl) rfl ?_
        refine tq_inc (k := (1 : Int32)) (ls' := [some (vR (some o)), some (vR x1), some (vI v21), some (vI (x3 + (1 : Int32)))]) dBu_freeze_71 rfl tni_1 (Nat.le_of_ble_eq_true rfl) rfl ?_
        refine tq_goto (tgt := 26) dBu_freeze_74 (by decide) ?_
        refine tpR.fo (ls' := [some (vR (some o)), some (vR x1), some (vI v21), some (vI (x3 + (1 : Int32)))]) ?_ (And.intro rfl (And.intro rfl (And.intro rfl (And.intro rfl trivial))))
        exact ih _ _ _ _ _ hw
theorem s_Bu_freeze {o : Nat} {h : tpH} {R : Option Nat → tpH → Prop} (hw : w_Bu_freeze o h R) : tpC Bu_freeze 3 [vR (some o)] h (tpOr R (fun _ _ => False)) := by
  refine tpC_of mv_Bu_freeze.2.2.2.1 rfl rfl (Nat.le_of_ble_eq_true rfl) ?_
  show tpR Bu_freeze 3 h _ _ 0 [some (vR (some o)), none, none, none] [] h
  unfold w_Bu_freeze at hw
  refine tq_new (ci := 11) cBu_88 ti_11 rfl dBu_freeze_0 (fun a1 h2 e3 e4 => ?_)
  have hw := hw a1 h2 e3 e4
  refine tq_dup dBu_freeze_3 rfl ?_
  refine tq_aload_n dBu_freeze_4 rfl rfl ?_
  obtain ⟨f5, hw⟩ := hw
  refine te_geti dBu_freeze_5 fBu_59 rfl rfl f5 ?_
  refine tq_aload_n dBu_freeze_8 rfl rfl ?_
  refine te_getr dBu_freeze_9 fBu_42 rfl rfl f5 ?_
  obtain ⟨a6, e7, f8, hw⟩ := hw
  refine te_geti dBu_freeze_12 fBu_105 rfl e7 f8 ?_
  refine te_init mi_Tr_init (dc := 2) (as := [vI (hI h2 o 9), vI (hI h2 a6 2)]) (rest := [vR (some a1)]) (Or.inl kBu_108) (Nat.le_of_ble_eq_true rfl) (Nat.le_of_ble_eq_true rfl) rfl rfl rfl (Nat.le_of_ble_eq_true rfl) dBu_freeze_15 (s_Tr_init hw) (fun _ _ hx => hx) (tk_v fun h9 hw => ?_)
  refine tq_astore_n (ls' := [some (vR (some o)), some (vR (some a1)), none, none]) dBu_freeze_18 rfl (Nat.le_of_ble_eq_true rfl) rfl ?_
  refine tq_aload_n dBu_freeze_19 rfl rfl ?_
  obtain ⟨f10, hw⟩ := hw
  refine te_geti dBu_freeze_20 fBu_38 rfl rfl f10 ?_
  refine tq_istore_n (ls' := [some (vR (some o)), some (vR (some a1)), some (vI (hI h9 o 8)), none]) dBu_freeze_23 rfl (Nat.le_of_ble_eq_true rfl) rfl ?_
  refine tq_iconst (v := (0 : Int32)) dBu_freeze_24 tni_0 ?_
  refine tq_istore_n (ls' := [some (vR (some o)), some (vR (some a1)), some (vI (hI h9 o 8)), some (vI (0 : Int32))]) dBu_freeze_25 rfl (Nat.le_of_ble_eq_true rfl) rfl ?_
  refine tpR.fo (ls' := [some (vR (some o)), some (vR (some a1)), some (vI (hI h9 o 8)), some (vI (0 : Int32))]) ?_ (And.intro rfl (And.intro rfl (And.intro rfl (And.intro rfl trivial))))
  obtain ⟨n, hw⟩ := hw
  exact s_Bu_freeze_26 n _ _ _ _ _ hw
