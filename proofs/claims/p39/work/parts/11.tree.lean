/-! T$Tree.markOf -/
theorem dTr_markOf_0 : decode (mB Tr_markOf) 0 = .ok (.aload_n 0, 1) := by decide +kernel
theorem dTr_markOf_1 : decode (mB Tr_markOf) 1 = .ok (.getfield 20, 3) := by decide +kernel
theorem dTr_markOf_4 : decode (mB Tr_markOf) 4 = .ok (.iload_n 1, 1) := by decide +kernel
theorem dTr_markOf_5 : decode (mB Tr_markOf) 5 = .ok (.invokevirtual 56, 3) := by decide +kernel
theorem dTr_markOf_8 : decode (mB Tr_markOf) 8 = .ok (.ireturn, 1) := by decide +kernel
def w_Tr_markOf (o : Nat) (x1 : Int32) (h : tpH) (R : Int32 → tpH → Prop) : Prop :=
  hT h o = 12 ∧ (∃ a2, (hR h o 1) = some a2 ∧ hT h a2 = 8 ∧ (w_Ro_at a2 x1 h (fun v6 h5 => R v6 h5)))
theorem s_Tr_markOf {o : Nat} {x1 : Int32} {h : tpH} {R : Int32 → tpH → Prop} (hw : w_Tr_markOf o x1 h R) : tpC Tr_markOf 1 [vR (some o), vI x1] h (tpOi R (fun _ _ => False)) := by
  refine tpC_of mv_Tr_markOf.2.2.2.1 rfl rfl (Nat.le_of_ble_eq_true rfl) ?_
  show tpR Tr_markOf 1 h _ _ 0 [some (vR (some o)), some (vI x1)] [] h
  unfold w_Tr_markOf at hw
  refine tq_aload_n dTr_markOf_0 rfl rfl ?_
  obtain ⟨f1, hw⟩ := hw
  refine te_getr dTr_markOf_1 fTr_20 rfl rfl f1 ?_
  refine tq_iload_n dTr_markOf_4 rfl rfl ?_
  obtain ⟨a2, e3, f4, hw⟩ := hw
  refine te_callV mv_Ro_at (ci := 7) (dc := 0) (as := [vI x1]) (rest := []) kTr_56 rfl (Nat.le_of_ble_eq_true rfl) (Nat.le_of_ble_eq_true rfl) rfl rfl e3 f4 (Nat.le_of_ble_eq_true rfl) dTr_markOf_5 (s_Ro_at hw) (fun _ _ hx => False.elim hx) (tk_i fun v6 h5 hw => ?_)
  exact tq_iret rfl rfl dTr_markOf_8 hw
/-! T$Tree.worthOf -/
theorem dTr_worthOf_0 : decode (mB Tr_worthOf) 0 = .ok (.aload_n 0, 1) := by decide +kernel
theorem dTr_worthOf_1 : decode (mB Tr_worthOf) 1 = .ok (.getfield 24, 3) := by decide +kernel
theorem dTr_worthOf_4 : decode (mB Tr_worthOf) 4 = .ok (.iload_n 1, 1) := by decide +kernel
theorem dTr_worthOf_5 : decode (mB Tr_worthOf) 5 = .ok (.invokevirtual 56, 3) := by decide +kernel
theorem dTr_worthOf_8 : decode (mB Tr_worthOf) 8 = .ok (.ireturn, 1) := by decide +kernel
def w_Tr_worthOf (o : Nat) (x1 : Int32) (h : tpH) (R : Int32 → tpH → Prop) : Prop :=
  hT h o = 12 ∧ (∃ a2, (hR h o 2) = some a2 ∧ hT h a2 = 8 ∧ (w_Ro_at a2 x1 h (fun v6 h5 => R v6 h5)))
theorem s_Tr_worthOf {o : Nat} {x1 : Int32} {h : tpH} {R : Int32 → tpH → Prop} (hw : w_Tr_worthOf o x1 h R) : tpC Tr_worthOf 1 [vR (some o), vI x1] h (tpOi R (fun _ _ => False)) := by
  refine tpC_of mv_Tr_worthOf.2.2.2.1 rfl rfl (Nat.le_of_ble_eq_true rfl) ?_
  show tpR Tr_worthOf 1 h _ _ 0 [some (vR (some o)), some (vI x1)] [] h
  unfold w_Tr_worthOf at hw
  refine tq_aload_n dTr_worthOf_0 rfl rfl ?_
  obtain ⟨f1, hw⟩ := hw
  refine te_getr dTr_worthOf_1 fTr_24 rfl rfl f1 ?_
  refine tq_iload_n dTr_worthOf_4 rfl rfl ?_
  obtain ⟨a2, e3, f4, hw⟩ := hw
  refine te_callV mv_Ro_at (ci := 7) (dc := 0) (as := [vI x1]) (rest := []) kTr_56 rfl (Nat.le_of_ble_eq_true rfl) (Nat.le_of_ble_eq_true rfl) rfl rfl e3 f4 (Nat.le_of_ble_eq_true rfl) dTr_worthOf_5 (s_Ro_at hw) (fun _ _ hx => False.elim hx) (tk_i fun v6 h5 hw => ?_)
  exact tq_iret rfl rfl dTr_worthOf_8 hw
/-! T$Tree.upOf -/
theorem dTr_upOf_0 : decode (mB Tr_upOf) 0 = .ok (.aload_n 0, 1) := by decide +kernel
theorem dTr_upOf_1 : decode (mB Tr_upOf) 1 = .ok (.getfield 27, 3) := by decide +kernel
theorem dTr_upOf_4 : decode (mB Tr_upOf) 4 = .ok (.iload_n 1, 1) := by decide +kernel
theorem dTr_upOf_5 : decode (mB Tr_upOf) 5 = .ok (.invokevirtual 56, 3) := by decide +kernel
theorem dTr_upOf_8 : decode (mB Tr_upOf) 8 = .ok (.ireturn, 1) := by decide +kernel
def w_Tr_upOf (o : Nat) (x1 : Int32) (h : tpH) (R : Int32 → tpH → Prop) : Prop :=
  hT h o = 12 ∧ (∃ a2, (hR h o 3) = some a2 ∧ hT h a2 = 8 ∧ (w_Ro_at a2 x1 h (fun v6 h5 => R v6 h5)))
theorem s_Tr_upOf {o : Nat} {x1 : Int32} {h : tpH} {R : Int32 → tpH → Prop} (hw : w_Tr_upOf o x1 h R) : tpC Tr_upOf 1 [vR (some o), vI x1] h (tpOi R (fun _ _ => False)) := by
  refine tpC_of mv_Tr_upOf.2.2.2.1 rfl rfl (Nat.le_of_ble_eq_true rfl) ?_
  show tpR Tr_upOf 1 h _ _ 0 [some (vR (some o)), some (vI x1)] [] h
  unfold w_Tr_upOf at hw
  refine tq_aload_n dTr_upOf_0 rfl rfl ?_
  obtain ⟨f1, hw⟩ := hw
  refine te_getr dTr_upOf_1 fTr_27 rfl rfl f1 ?_
  refine tq_iload_n dTr_upOf_4 rfl rfl ?_
  obtain ⟨a2, e3, f4, hw⟩ := hw
  refine te_callV mv_Ro_at (ci := 7) (dc := 0) (as := [vI x1]) (rest := []) kTr_56 rfl (Nat.le_of_ble_eq_true rfl) (Nat.le_of_ble_eq_true rfl) rfl rfl e3 f4 (Nat.le_of_ble_eq_true rfl) dTr_upOf_5 (s_Ro_at hw) (fun _ _ hx => False.elim hx) (tk_i fun v6 h5 hw => ?_)
  exact tq_iret rfl rfl dTr_upOf_8 hw
/-! T$Tree.<init> -/
theorem dTr_init_0 : decode (mB Tr_init) 0 = .ok (.aload_n 0, 1) := by decide +kernel
theorem dTr_init_1 : decode (mB Tr_init) 1 = .ok (.invokespecial 3, 3) := by decide +kernel
theorem dTr_init_4 : decode (mB Tr_init) 4 = .ok (.aload_n 0, 1) := by decide +kernel
theorem dTr_init_5 : decode (mB Tr_init) 5 = .ok (.iload_n 1, 1) := by decide +kernel
theorem dTr_init_6 : decode (mB Tr_init) 6 = .ok (.putfield 9, 3) := by decide +kernel
theorem dTr_init_9 : decode (mB Tr_init) 9 = .ok (.aload_n 0, 1) := by decide +kernel
theorem dTr_init_10 : decode (mB Tr_init) 10 = .ok (.new 15, 3) := by decide +kernel
theorem dTr_init_13 : decode (mB Tr_init) 13 = .ok (.dup, 1) := by decide +kernel
theorem dTr_init_14 : decode (mB Tr_init) 14 = .ok (.iload_n 1, 1) := by decide +kernel
theorem dTr_init_15 : decode (mB Tr_init) 15 = .ok (.invokespecial 17, 3) := by decide +kernel
theorem dTr_init_18 : decode (mB Tr_init) 18 = .ok (.putfield 20, 3) := by decide +kernel
theorem dTr_init_21 : decode (mB Tr_init) 21 = .ok (.aload_n 0, 1) := by decide +kernel
theorem dTr_init_22 : decode (mB Tr_init) 22 = .ok (.new 15, 3) := by decide +kernel
theorem dTr_init_25 : decode (mB Tr_init) 25 = .ok (.dup, 1) := by decide +kernel
theorem dTr_init_26 : decode (mB Tr_init) 26 = .ok (.iload_n 1, 1) := by decide +kernel
theorem dTr_init_27 : decode (mB Tr_init) 27 = .ok (.invokespecial 17, 3) := by decide +kernel
theorem dTr_init_30 : decode (mB Tr_init) 30 = .ok (.putfield 24, 3) := by decide +kernel
theorem dTr_init_33 : decode (mB Tr_init) 33 = .ok (.aload_n 0, 1) := by decide +kernel
theorem dTr_init_34 : decode (mB Tr_init) 34 = .ok (.new 15, 3) := by decide +kernel
theorem dTr_init_37 : decode (mB Tr_init) 37 = .ok (.dup, 1) := by decide +kernel
theorem dTr_init_38 : decode (mB Tr_init) 38 = .ok (.iload_n 1, 1) := by decide +kernel
theorem dTr_init_39 : decode (mB Tr_init) 39 = .ok (.invokespecial 17, 3) := by decide +kernel
theorem dTr_init_42 : decode (mB Tr_init) 42 = .ok (.putfield 27, 3) := by decide +kernel
theorem dTr_init_45 : decode (mB Tr_init) 45 = .ok (.aload_n 0, 1) := by decide +kernel
theorem dTr_init_46 : decode (mB Tr_init) 46 = .ok (.new 15, 3) := by decide +kernel
theorem dTr_init_49 : decode (mB Tr_init) 49 = .ok (.dup, 1) := by decide +kernel
theorem dTr_init_50 : decode (mB Tr_init) 50 = .ok (.iload_n 1, 1) := by decide +kernel
theorem dTr_init_51 : decode (mB Tr_init) 51 = .ok (.invokespecial 17, 3) := by decide +kernel
theorem dTr_init_54 : decode (mB Tr_init) 54 = .ok (.putfield 30, 3) := by decide +kernel
theorem dTr_init_57 : decode (mB Tr_init) 57 = .ok (.aload_n 0, 1) := by decide +kernel
theorem dTr_init_58 : decode (mB Tr_init) 58 = .ok (.new 15, 3) := by decide +kernel
theorem dTr_init_61 : decode (mB Tr_init) 61 = .ok (.dup, 1) := by decide +kernel
theorem dTr_init_62 : decode (mB Tr_init) 62 = .ok (.iload_n 1, 1) := by decide +kernel
theorem dTr_init_63 : decode (mB Tr_init) 63 = .ok (.invokespecial 17, 3) := by decide +kernel
theorem dTr_init_66 : decode (mB Tr_init) 66 = .ok (.putfield 33, 3) := by decide +kernel
theorem dTr_init_69 : decode (mB Tr_init) 69 = .ok (.aload_n 0, 1) := by decide +kernel
theorem dTr_init_70 : decode (mB Tr_init) 70 = .ok (.new 15, 3) := by decide +kernel
theorem dTr_init_73 : decode (mB Tr_init) 73 = .ok (.dup, 1) := by decide +kernel
theorem dTr_init_74 : decode (mB Tr_init) 74 = .ok (.iload_n 1, 1) := by decide +kernel
theorem dTr_init_75 : decode (mB Tr_init) 75 = .ok (.invokespecial 17, 3) := by decide +kernel
theorem dTr_init_78 : decode (mB Tr_init) 78 = .ok (.putfield 36, 3) := by decide +kernel
theorem dTr_init_81 : decode (mB Tr_init) 81 = .ok (.aload_n 0, 1) := by decide +kernel
theorem dTr_init_82 : decode (mB Tr_init) 82 = .ok (.new 15, 3) := by decide +kernel
theorem dTr_init_85 : decode (mB Tr_init) 85 = .ok (.dup, 1) := by decide +kernel
theorem dTr_init_86 : decode (mB Tr_init) 86 = .ok (.iload_n 1, 1) := by decide +kernel
theorem dTr_init_87 : decode (mB Tr_init) 87 = .ok (.invokespecial 17, 3) := by decide +kernel
theorem dTr_init_90 : decode (mB Tr_init) 90 = .ok (.putfield 39, 3) := by decide +kernel
theorem dTr_init_93 : decode (mB Tr_init) 93 = .ok (.aload_n 0, 1) := by decide +kernel
theorem dTr_init_94 : decode (mB Tr_init) 94 = .ok (.new 15, 3) := by decide +kernel
theorem dTr_init_97 : decode (mB Tr_init) 97 = .ok (.dup, 1) := by decide +kernel
theorem dTr_init_98 : decode (mB Tr_init) 98 = .ok (.iload_n 1, 1) := by decide +kernel
theorem dTr_init_99 : decode (mB Tr_init) 99 = .ok (.invokespecial 17, 3) := by decide +kernel
theorem dTr_init_102 : decode (mB Tr_init) 102 = .ok (.putfield 42, 3) := by decide +kernel
theorem dTr_init_105 : decode (mB Tr_init) 105 = .ok (.aload_n 0, 1) := by decide +kernel
theorem dTr_init_106 : decode (mB Tr_init) 106 = .ok (.new 15, 3) := by decide +kernel
theorem dTr_init_109 : decode (mB Tr_init) 109 = .ok (.dup, 1) := by decide +kernel
theorem dTr_init_110 : decode (mB Tr_init) 110 = .ok (.iload_n 2, 1) := by decide +kernel
theorem dTr_init_111 : decode (mB Tr_init) 111 = .ok (.invokespecial 17, 3) := by decide +kernel
theorem dTr_init_114 : decode (mB Tr_init) 114 = .ok (.putfield 45, 3) := by decide +kernel
theorem dTr_init_117 : decode (mB Tr_init) 117 = .ok (.aload_n 0, 1) := by decide +kernel
theorem dTr_init_118 : decode (mB Tr_init) 118 = .ok (.getfield 45, 3) := by decide +kernel
theorem dTr_init_121 : decode (mB Tr_init) 121 = .ok (.iload_n 2, 1) := by decide +kernel
theorem dTr_init_122 : decode (mB Tr_init) 122 = .ok (.iconst (-1), 1) := by decide +kernel
theorem dTr_init_123 : decode (mB Tr_init) 123 = .ok (.invokevirtual 48, 3) := by decide +kernel
theorem dTr_init_126 : decode (mB Tr_init) 126 = .ok (.return_, 1) := by decide +kernel
def w_Tr_init (o : Nat) (x1 : Int32) (x2 : Int32) (h : tpH) (R : tpH → Prop) : Prop :=
  hT h o = 12 ∧ (∀ h2, h2 = sI h o 0 x1 → (∀ a4 h5, a4 = hZ h2 → h5 = nC h2 8 0 2 → (w_Ro_init a4 x1 h5 (fun h8 => hT h8 o = 12 ∧ (∀ h10, h10 = sR h8 o 1 (some a4) → (∀ a12 h13, a12 = hZ h10 → h13 = nC h10 8 0 2 → (w_Ro_init a12 x1 h13 (fun h16 => hT h16 o = 12 ∧ (∀ h18, h18 = sR h16 o 2 (some a12) → (∀ a20 h21, a20 = hZ h18 → h21 = nC h18 8 0 2 → (w_Ro_init a20 x1 h21 (fun h24 => hT h24 o = 12 ∧ (∀ h26, h26 = sR h24 o 3 (some a20) → (∀ a28 h29, a28 = hZ h26 → h29 = nC h26 8 0 2 → (w_Ro_init a28 x1 h29 (fun h32 => hT h32 o = 12 ∧ (∀ h34, h34 = sR h32 o 4 (some a28) → (∀ a36 h37, a36 = hZ h34 → h37 = nC h34 8 0 2 → (w_Ro_init a36 x1 h37 (fun h40 => hT h40 o = 12 ∧ (∀ h42, h42 = sR h40 o 5 (some a36) → (∀ a44 h45, a44 = hZ h42 → h45 = nC h42 8 0 2 → (w_Ro_init a44 x1 h45 (fun h48 => hT h48 o = 12 ∧ (∀ h50, h50 = sR h48 o 6 (some a44) → (∀ a52 h53, a52 = hZ h50 → h53 = nC h50 8 0 2 → (w_Ro_init a52 x1 h53 (fun h56 => hT h56 o = 12 ∧ (∀ h58, h58 = sR h56 o 7 (some a52) → (∀ a60 h61, a60 = hZ h58 → h61 = nC h58 8 0 2 → (w_Ro_init a60 x1 h61 (fun h64 => hT h64 o = 12 ∧ (∀ h66, h66 = sR h64 o 8 (some a60) → (∀ a68 h69, a68 = hZ h66 → h69 = nC h66 8 0 2 → (w_Ro_init a68 x2 h69 (fun h72 => hT h72 o = 12 ∧ (∀ h74, h74 = sR h72 o 9 (some a68) → (∃ a76, (hR h74 o 9) = some a76 ∧ hT h74 a76 = 8 ∧ (w_Ro_fill a76 x2 (-1 : Int32) h74 (fun h79 => R h79))))))))))))))))))))))))))))))))))))))))
theorem s_Tr_init {o : Nat} {x1 : Int32} {x2 : Int32} {h : tpH} {R : tpH → Prop} (hw : w_Tr_init o x1 x2 h R) : tpC Tr_init 2 [vR (some o), vI x1, vI x2] h (tpOv R (fun _ _ => False)) := by
  refine tpC_of mi_Tr_init.2.2.2.1 rfl rfl (Nat.le_of_ble_eq_true rfl) ?_
  show tpR Tr_init 2 h _ _ 0 [some (vR (some o)), some (vI x1), some (vI x2)] [] h
  unfold w_Tr_init at hw
  refine tq_aload_n dTr_init_0 rfl rfl ?_
  refine tq_obj oTr_3 (Nat.le_of_ble_eq_true rfl) (Nat.le_of_ble_eq_true rfl) dTr_init_1 ?_
  refine tq_aload_n dTr_init_4 rfl rfl ?_
  refine tq_iload_n dTr_init_5 rfl rfl ?_
  obtain ⟨f1, hw⟩ := hw
  refine te_puti dTr_init_6 pTr_9 rfl rfl rfl f1 ⟨rfl, rfl⟩ (fun h2 e3 => ?_)
  have hw := hw h2 e3
  refine tq_aload_n dTr_init_9 rfl rfl ?_
  refine tq_new (ci := 7) cTr_15 ti_7 rfl dTr_init_10 (fun a4 h5 e6 e7 => ?_)
  have hw := hw a4 h5 e6 e7
  refine tq_dup dTr_init_13 rfl ?_
  refine tq_iload_n dTr_init_14 rfl rfl ?_
  refine te_init mi_Ro_init (dc := 1) (as := [vI x1]) (rest := [vR (some a4), vR (some o)]) (Or.inl kTr_17) (Nat.le_of_ble_eq_true rfl) (Nat.le_of_ble_eq_true rfl) rfl rfl rfl (Nat.le_of_ble_eq_true rfl) dTr_init_15 (s_Ro_init hw) (fun _ _ hx => hx) (tk_v fun h8 hw => ?_)
  obtain ⟨f9, hw⟩ := hw
  refine te_putr dTr_init_18 pTr_20 rfl rfl rfl f9 (fun h10 e11 => ?_)
  have hw := hw h10 e11
  refine tq_aload_n dTr_init_21 rfl rfl ?_
  refine tq_new (ci := 7) cTr_15 ti_7 rfl dTr_init_22 (fun a12 h13 e14 e15 => ?_)
  have hw := hw a12 h13 e14 e15
  refine tq_dup dTr_init_25 rfl ?_
  refine tq_iload_n dTr_init_26 rfl rfl ?_
  refine te_init mi_Ro_init (dc := 1) (as := [vI x1]) (rest := [vR (some a12), vR (some o)]) (Or.inl kTr_17) (Nat.le_of_ble_eq_true rfl) (Nat.le_of_ble_eq_true rfl) rfl rfl rfl (Nat.le_of_ble_eq_true rfl) dTr_init_27 (s_Ro_init hw) (fun _ _ hx => hx) (tk_v fun h16 hw => ?_)
  obtain ⟨f17, hw⟩ := hw
  refine te_putr dTr_init_30 pTr_24 rfl rfl rfl f17 (fun h18 e19 => ?_)
  have hw := hw h18 e19
  refine tq_aload_n dTr_init_33 rfl rfl ?_
  refine tq_new (ci := 7) cTr_15 ti_7 rfl dTr_init_34 (fun a20 h21 e22 e23 => ?_)
  have hw := hw a20 h21 e22 e23
  refine tq_dup dTr_init_37 rfl ?_
  refine tq_iload_n dTr_init_38 rfl rfl ?_
  refine te_init mi_Ro_init (dc := 1) (as := [vI x1]) (rest := [vR (some a20), vR (some o)]) (Or.inl kTr_17) (Nat.le_of_ble_eq_true rfl) (Nat.le_of_ble_eq_true rfl) rfl rfl rfl (Nat.le_of_ble_eq_true rfl) dTr_init_39 (s_Ro_init hw) (fun _ _ hx => hx) (tk_v fun h24 hw => ?_)
  obtain ⟨f25, hw⟩ := hw
  refine te_putr dTr_init_42 pTr_27 rfl rfl rfl f25 (fun h26 e27 => ?_)
  have hw := hw h26 e27
  refine tq_aload_n dTr_init_45 rfl rfl ?_
  refine tq_new (ci := 7) cTr_15 ti_7 rfl dTr_init_46 (fun a28 h29 e30 e31 => ?_)
  have hw := hw a28 h29 e30 e31
  refine tq_dup dTr_init_49 rfl ?_
  refine tq_iload_n dTr_init_50 rfl rfl ?_
  refine te_init mi_Ro_init (dc := 1) (as := [vI x1]) (rest := [vR (some a28), vR (some o)]) (Or.inl kTr_17) (Nat.le_of_ble_eq_true rfl) (Nat.le_of_ble_eq_true rfl) rfl rfl rfl (Nat.le_of_ble_eq_true rfl) dTr_init_51 (s_Ro_init hw) (fun _ _ hx => hx) (tk_v fun h32 hw => ?_)
  obtain ⟨f33, hw⟩ := hw
  refine te_putr dTr_init_54 pTr_30 rfl rfl rfl f33 (fun h34 e35 => ?_)
  have hw := hw h34 e35
  refine tq_aload_n dTr_init_57 rfl rfl ?_
  refine tq_new (ci := 7) cTr_15 ti_7 rfl dTr_init_58 (fun a36 h37 e38 e39 => ?_)
  have hw := hw a36 h37 e38 e39
  refine tq_dup dTr_init_61 rfl ?_
  refine tq_iload_n dTr_init_62 rfl rfl ?_
  refine te_init mi_Ro_init (dc := 1) (as := [vI x1]) (rest := [vR (some a36), vR (some o)]) (Or.inl kTr_17) (Nat.le_of_ble_eq_true rfl) (Nat.le_of_ble_eq_true rfl) rfl rfl rfl (Nat.le_of_ble_eq_true rfl) dTr_init_63 (s_Ro_init hw) (fun _ _ hx => hx) (tk_v fun h40 hw => ?_)
  obtain ⟨f41, hw⟩ := hw
  refine te_putr dTr_init_66 pTr_33 rfl rfl rfl f41 (fun h42 e43 => ?_)
  have hw := hw h42 e43
  refine tq_aload_n dTr_init_69 rfl rfl ?_
  refine tq_new (ci := 7) cTr_15 ti_7 rfl dTr_init_70 (fun a44 h45 e46 e47 => ?_)
  have hw := hw a44 h45 e46 e47
  refine tq_dup dTr_init_73 rfl ?_
  refine tq_iload_n dTr_init_74 rfl rfl ?_
  refine te_init mi_Ro_init (dc := 1) (as := [vI x1]) (rest := [vR (some a44), vR (some o)]) (Or.inl kTr_17) (Nat.le_of_ble_eq_true rfl) (Nat.le_of_ble_eq_true rfl) rfl rfl rfl (Nat.le_of_ble_eq_true rfl) dTr_init_75 (s_Ro_init hw) (fun _ _ hx => hx) (tk_v fun h48 hw => ?_)
  obtain ⟨f49, hw⟩ := hw
  refine te_putr dTr_init_78 pTr_36 rfl rfl rfl f49 (fun h50 e51 => ?_)
  have hw := hw h50 e51
  refine tq_aload_n dTr_init_81 rfl rfl ?_
  refine tq_new (ci := 7) cTr_15 ti_7 rfl dTr_init_82 (fun a52 h53 e54 e55 => ?_)
  have hw := hw a52 h53 e54 e55
  refine tq_dup dTr_init_85 rfl ?_
  refine tq_iload_n dTr_init_86 rfl rfl ?_
  refine te_init mi_Ro_init (dc := 1) (as := [vI x1]) (rest := [vR (some a52), vR (some o)]) (Or.inl kTr_17) (Nat.le_of_ble_eq_true rfl) (Nat.le_of_ble_eq_true rfl) rfl rfl rfl (Nat.le_of_ble_eq_true rfl) dTr_init_87 (s_Ro_init hw) (fun _ _ hx => hx) (tk_v fun h56 hw => ?_)
  obtain ⟨f57, hw⟩ := hw
  refine te_putr dTr_init_90 pTr_39 rfl rfl rfl f57 (fun h58 e59 => ?_)
  have hw := hw h58 e59
  refine tq_aload_n dTr_init_93 rfl rfl ?_
  refine tq_new (ci := 7) cTr_15 ti_7 rfl dTr_init_94 (fun a60 h61 e62 e63 => ?_)
  have hw := hw a60 h61 e62 e63
  refine tq_dup dTr_init_97 rfl ?_
  refine tq_iload_n dTr_init_98 rfl rfl ?_
  refine te_init mi_Ro_init (dc := 1) (as := [vI x1]) (rest := [vR (some a60), vR (some o)]) (Or.inl kTr_17) (Nat.le_of_ble_eq_true rfl) (Nat.le_of_ble_eq_true rfl) rfl rfl rfl (Nat.le_of_ble_eq_true rfl) dTr_init_99 (s_Ro_init hw) (fun _ _ hx => hx) (tk_v fun h64 hw => ?_)
  obtain ⟨f65, hw⟩ := hw
  refine te_putr dTr_init_102 pTr_42 rfl rfl rfl f65 (fun h66 e67 => ?_)
  have hw := hw h66 e67
  refine tq_aload_n dTr_init_105 rfl rfl ?_
  refine tq_new (ci := 7) cTr_15 ti_7 rfl dTr_init_106 (fun a68 h69 e70 e71 => ?_)
  have hw := hw a68 h69 e70 e71
  refine tq_dup dTr_init_109 rfl ?_
  refine tq_iload_n dTr_init_110 rfl rfl ?_
  refine te_init mi_Ro_init (dc := 1) (as := [vI x2]) (rest := [vR (some a68), vR (some o)]) (Or.inl kTr_17) (Nat.le_of_ble_eq_true rfl) (Nat.le_of_ble_eq_true rfl) rfl rfl rfl (Nat.le_of_ble_eq_true rfl) dTr_init_111 (s_Ro_init hw) (fun _ _ hx => hx) (tk_v fun h72 hw => ?_)
  obtain ⟨f73, hw⟩ := hw
  refine te_putr dTr_init_114 pTr_45 rfl rfl rfl f73 (fun h74 e75 => ?_)
  have hw := hw h74 e75
  refine tq_aload_n dTr_init_117 rfl rfl ?_
  refine te_getr dTr_init_118 fTr_45 rfl rfl (by rw [e75]; exact f73) ?_
  refine tq_iload_n dTr_init_121 rfl rfl ?_
  refine tq_iconst (v := (-1 : Int32)) dTr_init_122 tni_m1 ?_
  obtain ⟨a76, e77, f78, hw⟩ := hw
  refine te_callV mv_Ro_fill (ci := 7) (dc := 0) (as := [vI x2, vI (-1 : Int32)]) (rest := []) kTr_48 rfl (Nat.le_of_ble_eq_true rfl) (Nat.le_of_ble_eq_true rfl) rfl rfl e77 f78 (Nat.le_of_ble_eq_true rfl) dTr_init_123 (s_Ro_fill hw) (fun _ _ hx => False.elim hx) (tk_v fun h79 hw => ?_)
  exact tq_vret rfl dTr_init_126 hw
/-! T$Tree.placeOf -/
theorem dTr_placeOf_0 : decode (mB Tr_placeOf) 0 = .ok (.aload_n 0, 1) := by decide +kernel
theorem dTr_placeOf_1 : decode (mB Tr_placeOf) 1 = .ok (.getfield 45, 3) := by decide +kernel
theorem dTr_placeOf_4 : decode (mB Tr_placeOf) 4 = .ok (.iload_n 1, 1) := by decide +kernel
theorem dTr_placeOf_5 : decode (mB Tr_placeOf) 5 = .ok (.invokevirtual 56, 3) := by decide +kernel
theorem dTr_placeOf_8 : decode (mB Tr_placeOf) 8 = .ok (.ireturn, 1) := by decide +kernel
def w_Tr_placeOf (o : Nat) (x1 : Int32) (h : tpH) (R : Int32 → tpH → Prop) : Prop :=
  hT h o = 12 ∧ (∃ a2, (hR h o 9) = some a2 ∧ hT h a2 = 8 ∧ (w_Ro_at a2 x1 h (fun v6 h5 => R v6 h5)))
theorem s_Tr_placeOf {o : Nat} {x1 : Int32} {h : tpH} {R : Int32 → tpH → Prop} (hw : w_Tr_placeOf o x1 h R) : tpC Tr_placeOf 1 [vR (some o), vI x1] h (tpOi R (fun _ _ => False)) := by
  refine tpC_of mv_Tr_placeOf.2.2.2.1 rfl rfl (Nat.le_of_ble_eq_true rfl) ?_
  show tpR Tr_placeOf 1 h _ _ 0 [some (vR (some o)), some (vI x1)] [] h
  unfold w_Tr_placeOf at hw
  refine tq_aload_n dTr_placeOf_0 rfl rfl ?_
  obtain ⟨f1, hw⟩ := hw
  refine te_getr dTr_placeOf_1 fTr_45 rfl rfl f1 ?_
  refine tq_iload_n dTr_placeOf_4 rfl rfl ?_
  obtain ⟨a2, e3, f4, hw⟩ := hw
  refine te_callV mv_Ro_at (ci := 7) (dc := 0) (as := [vI x1]) (rest := []) kTr_56 rfl (Nat.le_of_ble_eq_true rfl) (Nat.le_of_ble_eq_true rfl) rfl rfl e3 f4 (Nat.le_of_ble_eq_true rfl) dTr_placeOf_5 (s_Ro_at hw) (fun _ _ hx => False.elim hx) (tk_i fun v6 h5 hw => ?_)
  exact tq_iret rfl rfl dTr_placeOf_8 hw
/-! T$Tree.fillPlace -/
theorem dTr_fillPlace_0 : decode (mB Tr_fillPlace) 0 = .ok (.aload_n 0, 1) := by decide +kernel
theorem dTr_fillPlace_1 : decode (mB Tr_fillPlace) 1 = .ok (.iload 4, 2) := by decide +kernel
theorem dTr_fillPlace_3 : decode (mB Tr_fillPlace) 3 = .ok (.invokevirtual 52, 3) := by decide +kernel
theorem dTr_fillPlace_6 : decode (mB Tr_fillPlace) 6 = .ok (.istore 5, 2) := by decide +kernel
theorem dTr_fillPlace_8 : decode (mB Tr_fillPlace) 8 = .ok (.iload 5, 2) := by decide +kernel
theorem dTr_fillPlace_10 : decode (mB Tr_fillPlace) 10 = .ok (.iconst (-1), 1) := by decide +kernel
theorem dTr_fillPlace_11 : decode (mB Tr_fillPlace) 11 = .ok (.if_icmp .ne 7, 3) := by decide +kernel
theorem dTr_fillPlace_14 : decode (mB Tr_fillPlace) 14 = .ok (.iconst 0, 1) := by decide +kernel
theorem dTr_fillPlace_15 : decode (mB Tr_fillPlace) 15 = .ok (.goto 12, 3) := by decide +kernel
theorem dTr_fillPlace_18 : decode (mB Tr_fillPlace) 18 = .ok (.aload_n 0, 1) := by decide +kernel
theorem dTr_fillPlace_19 : decode (mB Tr_fillPlace) 19 = .ok (.getfield 39, 3) := by decide +kernel
theorem dTr_fillPlace_22 : decode (mB Tr_fillPlace) 22 = .ok (.iload 5, 2) := by decide +kernel
theorem dTr_fillPlace_24 : decode (mB Tr_fillPlace) 24 = .ok (.invokevirtual 56, 3) := by decide +kernel
theorem dTr_fillPlace_27 : decode (mB Tr_fillPlace) 27 = .ok (.istore 6, 2) := by decide +kernel
theorem dTr_fillPlace_29 : decode (mB Tr_fillPlace) 29 = .ok (.aload_n 0, 1) := by decide +kernel
theorem dTr_fillPlace_30 : decode (mB Tr_fillPlace) 30 = .ok (.getfield 20, 3) := by decide +kernel
theorem dTr_fillPlace_33 : decode (mB Tr_fillPlace) 33 = .ok (.iload_n 1, 1) := by decide +kernel
theorem dTr_fillPlace_34 : decode (mB Tr_fillPlace) 34 = .ok (.iload_n 2, 1) := by decide +kernel
theorem dTr_fillPlace_35 : decode (mB Tr_fillPlace) 35 = .ok (.invokevirtual 59, 3) := by decide +kernel
theorem dTr_fillPlace_38 : decode (mB Tr_fillPlace) 38 = .ok (.aload_n 0, 1) := by decide +kernel
theorem dTr_fillPlace_39 : decode (mB Tr_fillPlace) 39 = .ok (.getfield 24, 3) := by decide +kernel
theorem dTr_fillPlace_42 : decode (mB Tr_fillPlace) 42 = .ok (.iload_n 1, 1) := by decide +kernel
theorem dTr_fillPlace_43 : decode (mB Tr_fillPlace) 43 = .ok (.iload_n 3, 1) := by decide +kernel
theorem dTr_fillPlace_44 : decode (mB Tr_fillPlace) 44 = .ok (.invokevirtual 59, 3) := by decide +kernel
theorem dTr_fillPlace_47 : decode (mB Tr_fillPlace) 47 = .ok (.aload_n 0, 1) := by decide +kernel
theorem dTr_fillPlace_48 : decode (mB Tr_fillPlace) 48 = .ok (.getfield 27, 3) := by decide +kernel
theorem dTr_fillPlace_51 : decode (mB Tr_fillPlace) 51 = .ok (.iload_n 1, 1) := by decide +kernel
theorem dTr_fillPlace_52 : decode (mB Tr_fillPlace) 52 = .ok (.iload 5, 2) := by decide +kernel
theorem dTr_fillPlace_54 : decode (mB Tr_fillPlace) 54 = .ok (.invokevirtual 59, 3) := by decide +kernel
theorem dTr_fillPlace_57 : decode (mB Tr_fillPlace) 57 = .ok (.aload_n 0, 1) := by decide +kernel
theorem dTr_fillPlace_58 : decode (mB Tr_fillPlace) 58 = .ok (.getfield 33, 3) := by decide +kernel
theorem dTr_fillPlace_61 : decode (mB Tr_fillPlace) 61 = .ok (.iload_n 1, 1) := by decide +kernel
theorem dTr_fillPlace_62 : decode (mB Tr_fillPlace) 62 = .ok (.iload 6, 2) := by decide +kernel
theorem dTr_fillPlace_64 : decode (mB Tr_fillPlace) 64 = .ok (.invokevirtual 59, 3) := by decide +kernel
theorem dTr_fillPlace_67 : decode (mB Tr_fillPlace) 67 = .ok (.aload_n 0, 1) := by decide +kernel
theorem dTr_fillPlace_68 : decode (mB Tr_fillPlace) 68 = .ok (.getfield 30, 3) := by decide +kernel
theorem dTr_fillPlace_71 : decode (mB Tr_fillPlace) 71 = .ok (.iload_n 1, 1) := by decide +kernel
theorem dTr_fillPlace_72 : decode (mB Tr_fillPlace) 72 = .ok (.iload_n 1, 1) := by decide +kernel
theorem dTr_fillPlace_73 : decode (mB Tr_fillPlace) 73 = .ok (.iconst 1, 1) := by decide +kernel
theorem dTr_fillPlace_74 : decode (mB Tr_fillPlace) 74 = .ok (.iadd, 1) := by decide +kernel
theorem dTr_fillPlace_75 : decode (mB Tr_fillPlace) 75 = .ok (.invokevirtual 59, 3) := by decide +kernel
theorem dTr_fillPlace_78 : decode (mB Tr_fillPlace) 78 = .ok (.aload_n 0, 1) := by decide +kernel
theorem dTr_fillPlace_79 : decode (mB Tr_fillPlace) 79 = .ok (.getfield 39, 3) := by decide +kernel
theorem dTr_fillPlace_82 : decode (mB Tr_fillPlace) 82 = .ok (.iload 5, 2) := by decide +kernel
theorem dTr_fillPlace_84 : decode (mB Tr_fillPlace) 84 = .ok (.iload 6, 2) := by decide +kernel
theorem dTr_fillPlace_86 : decode (mB Tr_fillPlace) 86 = .ok (.iconst 1, 1) := by decide +kernel
theorem dTr_fillPlace_87 : decode (mB Tr_fillPlace) 87 = .ok (.iadd, 1) := by decide +kernel
theorem dTr_fillPlace_88 : decode (mB Tr_fillPlace) 88 = .ok (.invokevirtual 59, 3) := by decide +kernel
theorem dTr_fillPlace_91 : decode (mB Tr_fillPlace) 91 = .ok (.aload_n 0, 1) := by decide +kernel
theorem dTr_fillPlace_92 : decode (mB Tr_fillPlace) 92 = .ok (.getfield 45, 3) := by decide +kernel
theorem dTr_fillPlace_95 : decode (mB Tr_fillPlace) 95 = .ok (.iload_n 2, 1) := by decide +kernel
theorem dTr_fillPlace_96 : decode (mB Tr_fillPlace) 96 = .ok (.iload_n 1, 1) := by decide +kernel
theorem dTr_fillPlace_97 : decode (mB Tr_fillPlace) 97 = .ok (.invokevirtual 59, 3) := by decide +kernel
theorem dTr_fillPlace_100 : decode (mB Tr_fillPlace) 100 = .ok (.return_, 1) := by decide +kernel
def w_Tr_fillPlace_27 (R : tpH → Prop) (o : Nat) (x1 : Int32) (x2 : Int32) (x3 : Int32) (x5 : Int32) (t0 : Int32) (h : tpH) : Prop :=
  hT h o = 12 ∧ (∃ a2, (hR h o 1) = some a2 ∧ hT h a2 = 8 ∧ (w_Ro_put a2 x1 x2 h (fun h5 => hT h5 o = 12 ∧ (∃ a7, (hR h5 o 2) = some a7 ∧ hT h5 a7 = 8 ∧ (w_Ro_put a7 x1 x3 h5 (fun h10 => hT h10 o = 12 ∧ (∃ a12, (hR h10 o 3) = some a12 ∧ hT h10 a12 = 8 ∧ (w_Ro_put a12 x1 x5 h10 (fun h15 => hT h15 o = 12 ∧ (∃ a17, (hR h15 o 5) = some a17 ∧ hT h15 a17 = 8 ∧ (w_Ro_put a17 x1 t0 h15 (fun h20 => hT h20 o = 12 ∧ (∃ a22, (hR h20 o 4) = some a22 ∧ hT h20 a22 = 8 ∧ (w_Ro_put a22 x1 (x1 + (1 : Int32)) h20 (fun h25 => hT h25 o = 12 ∧ (∃ a27, (hR h25 o 7) = some a27 ∧ hT h25 a27 = 8 ∧ (w_Ro_put a27 x5 (t0 + (1 : Int32)) h25 (fun h30 => hT h30 o = 12 ∧ (∃ a32, (hR h30 o 9) = some a32 ∧ hT h30 a32 = 8 ∧ (w_Ro_put a32 x2 x1 h30 (fun h35 => R h35)))))))))))))))))))))
def w_Tr_fillPlace (o : Nat) (x1 : Int32) (x2 : Int32) (x3 : Int32) (x4 : Int32) (h : tpH) (R : tpH → Prop) : Prop :=
  hT h o = 12 ∧ (w_Tr_placeOf o x4 h (fun v3 h2 => (¬ v3 = (-1 : Int32) → (hT h2 o = 12 ∧ (∃ a6, (hR h2 o 7) = some a6 ∧ hT h2 a6 = 8 ∧ (w_Ro_at a6 v3 h2 (fun v10 h9 => w_Tr_fillPlace_27 R o x1 x2 x3 v3 v10 h9))))) ∧ (v3 = (-1 : Int32) → (w_Tr_fillPlace_27 R o x1 x2 x3 v3 (0 : Int32) h2))))
theorem s_Tr_fillPlace_27 {h0 : tpH} {av : List tpV} {R : tpH → Prop} : ∀ (o : Nat) (x1 : Int32) (x2 : Int32) (x3 : Int32) (x5 : Int32) (t0 : Int32) (h : tpH), w_Tr_fillPlace_27 R o x1 x2 x3 x5 t0 h → tpR Tr_fillPlace 2 h0 av (tpOv R (fun _ _ => False)) 27 [some (vR (some o)), some (vI x1), some (vI x2), some (vI x3), none, some (vI x5), none] [vI t0] h := by
  intro o x1 x2 x3 x5 t0 h hw
  unfold w_Tr_fillPlace_27 at hw
  refine tq_istore (ls' := [some (vR (some o)), some (vI x1), some (vI x2), some (vI x3), none, some (vI x5), some (vI t0)]) dTr_fillPlace_27 (Nat.le_of_ble_eq_true rfl) rfl ?_
  refine tq_aload_n dTr_fillPlace_29 rfl rfl ?_
  obtain ⟨f1, hw⟩ := hw
  refine te_getr dTr_fillPlace_30 fTr_20 rfl rfl f1 ?_
  refine tq_iload_n dTr_fillPlace_33 rfl rfl ?_
  refine tq_iload_n dTr_fillPlace_34 rfl rfl ?_
  obtain ⟨a2, e3, f4, hw⟩ := hw
  refine te_callV mv_Ro_put (ci := 7) (dc := 0) (as := [vI x1, vI x2]) (rest := []) kTr_59 rfl (Nat.le_of_ble_eq_true rfl) (Nat.le_of_ble_eq_true rfl) rfl rfl e3 f4 (Nat.le_of_ble_eq_true rfl) dTr_fillPlace_35 (s_Ro_put hw) (fun _ _ hx => False.elim hx) (tk_v fun h5 hw => ?_)
  refine tq_aload_n dTr_fillPlace_38 rfl rfl ?_
  obtain ⟨f6, hw⟩ := hw
  refine te_getr dTr_fillPlace_39 fTr_24 rfl rfl f6 ?_
  refine tq_iload_n dTr_fillPlace_42 rfl rfl ?_
  refine tq_iload_n dTr_fillPlace_43 rfl rfl ?_
  obtain ⟨a7, e8, f9, hw⟩ := hw
  refine te_callV mv_Ro_put (ci := 7) (dc := 0) (as := [vI x1, vI x3]) (rest := []) kTr_59 rfl (Nat.le_of_ble_eq_true rfl) (Nat.le_of_ble_eq_true rfl) rfl rfl e8 f9 (Nat.le_of_ble_eq_true rfl) dTr_fillPlace_44 (s_Ro_put hw) (fun _ _ hx => False.elim hx) (tk_v fun h10 hw => ?_)
  refine tq_aload_n dTr_fillPlace_47 rfl rfl ?_
  obtain ⟨f11, hw⟩ := hw
  refine te_getr dTr_fillPlace_48 fTr_27 rfl rfl f11 ?_
  refine tq_iload_n dTr_fillPlace_51 rfl rfl ?_
  refine tq_iload dTr_fillPlace_52 rfl ?_
  obtain ⟨a12, e13, f14, hw⟩ := hw
  refine te_callV mv_Ro_put (ci := 7) (dc := 0) (as := [vI x1, vI x5]) (rest := []) kTr_59 rfl (Nat.le_of_ble_eq_true rfl) (Nat.le_of_ble_eq_true rfl) rfl rfl e13 f14 (Nat.le_of_ble_eq_true rfl) dTr_fillPlace_54 (s_Ro_put hw) (fun _ _ hx => False.elim hx) (tk_v fun h15 hw => ?_)
  refine tq_aload_n dTr_fillPlace_57 rfl rfl ?_
  obtain ⟨f16, hw⟩ := hw
  refine te_getr dTr_fillPlace_58 fTr_33 rfl rfl f16 ?_
  refine tq_iload_n dTr_fillPlace_61 rfl rfl ?_
  refine tq_iload dTr_fillPlace_62 rfl ?_
  obtain ⟨a17, e18, f19, hw⟩ := hw
  refine te_callV mv_Ro_put (ci := 7) (dc := 0) (as := [vI x1, vI t0]) (rest := []) kTr_59 rfl (Nat.le_of_ble_eq_true rfl) (Nat.le_of_ble_eq_true rfl) rfl rfl e18 f19 (Nat.le_of_ble_eq_true rfl) dTr_fillPlace_64 (s_Ro_put hw) (fun _ _ hx => False.elim hx) (tk_v fun h20 hw => ?_)
  refine tq_aload_n dTr_fillPlace_67 rfl rfl ?_
  obtain ⟨f21, hw⟩ := hw
  refine te_getr dTr_fillPlace_68 fTr_30 rfl rfl f21 ?_
  refine tq_iload_n dTr_fillPlace_71 rfl rfl ?_
  refine tq_iload_n dTr_fillPlace_72 rfl rfl ?_
  refine tq_iconst (v := (1 : Int32)) dTr_fillPlace_73 tni_1 ?_
  refine tq_iadd dTr_fillPlace_74 ?_
  obtain ⟨a22, e23, f24, hw⟩ := hw
  refine te_callV mv_Ro_put (ci := 7) (dc := 0) (as := [vI x1, vI (x1 + (1 : Int32))]) (rest := []) kTr_59 rfl (Nat.le_of_ble_eq_true rfl) (Nat.le_of_ble_eq_true rfl) rfl rfl e23 f24 (Nat.le_of_ble_eq_true rfl) dTr_fillPlace_75 (s_Ro_put hw) (fun _ _ hx => False.elim hx) (tk_v fun h25 hw => ?_)
  refine tq_aload_n dTr_fillPlace_78 rfl rfl ?_
  obtain ⟨f26, hw⟩ := hw
  refine te_getr dTr_fillPlace_79 fTr_39 rfl rfl f26 ?_
  refine tq_iload dTr_fillPlace_82 rfl ?_
  refine tq_iload dTr_fillPlace_84 rfl ?_
  refine tq_iconst (v := (1 : Int32)) dTr_fillPlace_86 tni_1 ?_
  refine tq_iadd dTr_fillPlace_87 ?_
  obtain ⟨a27, e28, f29, hw⟩ := hw
  refine te_callV mv_Ro_put (ci := 7) (dc := 0) (as := [vI x5, vI (t0 + (1 : Int32))]) (rest := []) kTr_59 rfl (Nat.le_of_ble_eq_true rfl) (Nat.le_of_ble_eq_true rfl) rfl rfl e28 f29 (Nat.le_of_ble_eq_true rfl) dTr_fillPlace_88 (s_Ro_put hw) (fun _ _ hx => False.elim hx) (tk_v fun h30 hw => ?_)
  refine tq_aload_n dTr_fillPlace_91 rfl rfl ?_
  obtain ⟨f31, hw⟩ := hw
  refine te_getr dTr_fillPlace_92 fTr_45 rfl rfl f31 ?_
  refine tq_iload_n dTr_fillPlace_95 rfl rfl ?_
  refine tq_iload_n dTr_fillPlace_96 rfl rfl ?_
  obtain ⟨a32, e33, f34, hw⟩ := hw
  refine te_callV mv_Ro_put (ci := 7) (dc := 0) (as := [vI x2, vI x1]) (rest := []) kTr_59 rfl (Nat.le_of_ble_eq_true rfl) (Nat.le_of_ble_eq_true rfl) rfl rfl e33 f34 (Nat.le_of_ble_eq_true rfl) dTr_fillPlace_97 (s_Ro_put hw) (fun _ _ hx => False.elim hx) (tk_v fun h35 hw => ?_)
  exact tq_vret rfl dTr_fillPlace_100 hw
theorem s_Tr_fillPlace {o : Nat} {x1 : Int32} {x2 : Int32} {x3 : Int32} {x4 : Int32} {h : tpH} {R : tpH → Prop} (hw : w_Tr_fillPlace o x1 x2 x3 x4 h R) : tpC Tr_fillPlace 2 [vR (some o), vI x1, vI x2, vI x3, vI x4] h (tpOv R (fun _ _ => False)) := by
  refine tpC_of mv_Tr_fillPlace.2.2.2.1 rfl rfl (Nat.le_of_ble_eq_true rfl) ?_
  show tpR Tr_fillPlace 2 h _ _ 0 [some (vR (some o)), some (vI x1), some (vI x2), some (vI x3), some (vI x4), none, none] [] h
  unfold w_Tr_fillPlace at hw
  refine tq_aload_n dTr_fillPlace_0 rfl rfl ?_
  refine tq_iload dTr_fillPlace_1 rfl ?_
  obtain ⟨f1, hw⟩ := hw
  refine te_callV mv_Tr_placeOf (ci := 11) (dc := 1) (as := [vI x4]) (rest := []) kTr_52 rfl (Nat.le_of_ble_eq_true rfl) (Nat.le_of_ble_eq_true rfl) rfl rfl rfl f1 (Nat.le_of_ble_eq_true rfl) dTr_fillPlace_3 (s_Tr_placeOf hw) (fun _ _ hx => False.elim hx) (tk_i fun v3 h2 hw => ?_)
  refine tq_istore (ls' := [some (vR (some o)), some (vI x1), some (vI x2), some (vI x3), some (vI x4), some (vI v3), none]) dTr_fillPlace_6 (Nat.le_of_ble_eq_true rfl) rfl ?_
  refine tq_iload dTr_fillPlace_8 rfl ?_
  refine tq_iconst (v := (-1 : Int32)) dTr_fillPlace_10 tni_m1 ?_
  refine tq_icmpne (tgt := 18) dTr_fillPlace_11 (by decide) (fun c4 => ?_) (fun c4 => ?_)
  · have hw := hw.1 c4
    refine tq_aload_n dTr_fillPlace_18 rfl rfl ?_
    obtain ⟨f5, hw⟩ := hw
    refine te_getr dTr_fillPlace_19 fTr_39 rfl rfl f5 ?_
    refine tq_iload dTr_fillPlace_22 rfl ?_
    obtain ⟨a6, e7, f8, hw⟩ := hw
    refine te_callV mv_Ro_at (ci := 7) (dc := 0) (as := [vI v3]) (rest := []) kTr_56 rfl (Nat.le_of_ble_eq_true rfl) (Nat.le_of_ble_eq_true rfl) rfl rfl e7 f8 (Nat.le_of_ble_eq_true rfl) dTr_fillPlace_24 (s_Ro_at hw) (fun _ _ hx => False.elim hx) (tk_i fun v10 h9 hw => ?_)
    refine tpR.fo (ls' := [some (vR (some o)), some (vI x1), some (vI x2), some (vI x3), none, some (vI v3), none]) ?_ (And.intro rfl (And.intro rfl (And.intro rfl (And.intro rfl (And.intro rfl trivial)))))
    exact s_Tr_fillPlace_27 _ _ _ _ _ _ _ hw
  · have hw := hw.2 c4
    refine tq_iconst (v := (0 : Int32)) dTr_fillPlace_14 tni_0 ?_
    refine tq_goto (tgt := 27) dTr_fillPlace_15 (by decide) ?_
    refine tpR.fo (ls' := [some (vR (some o)), some (vI x1), some (vI x2), some (vI x3), none, some (vI v3), none]) ?_ (And.intro rfl (And.intro rfl (And.intro rfl (And.intro rfl (And.intro rfl trivial)))))
    exact s_Tr_fillPlace_27 _ _ _ _ _ _ _ hw
/-! T$Tree.close -/
theorem dTr_close_0 : decode (mB Tr_close) 0 = .ok (.iconst 0, 1) := by decide +kernel
theorem dTr_close_1 : decode (mB Tr_close) 1 = .ok (.istore_n 1, 1) := by decide +kernel
theorem dTr_close_2 : decode (mB Tr_close) 2 = .ok (.iconst 0, 1) := by decide +kernel
theorem dTr_close_3 : decode (mB Tr_close) 3 = .ok (.istore_n 2, 1) := by decide +kernel
theorem dTr_close_4 : decode (mB Tr_close) 4 = .ok (.iload_n 2, 1) := by decide +kernel
theorem dTr_close_5 : decode (mB Tr_close) 5 = .ok (.aload_n 0, 1) := by decide +kernel
theorem dTr_close_6 : decode (mB Tr_close) 6 = .ok (.getfield 9, 3) := by decide +kernel
theorem dTr_close_9 : decode (mB Tr_close) 9 = .ok (.if_icmp .ge 29, 3) := by decide +kernel
theorem dTr_close_12 : decode (mB Tr_close) 12 = .ok (.aload_n 0, 1) := by decide +kernel
theorem dTr_close_13 : decode (mB Tr_close) 13 = .ok (.getfield 36, 3) := by decide +kernel
theorem dTr_close_16 : decode (mB Tr_close) 16 = .ok (.iload_n 2, 1) := by decide +kernel
theorem dTr_close_17 : decode (mB Tr_close) 17 = .ok (.iload_n 1, 1) := by decide +kernel
theorem dTr_close_18 : decode (mB Tr_close) 18 = .ok (.invokevirtual 59, 3) := by decide +kernel
theorem dTr_close_21 : decode (mB Tr_close) 21 = .ok (.iload_n 1, 1) := by decide +kernel
theorem dTr_close_22 : decode (mB Tr_close) 22 = .ok (.aload_n 0, 1) := by decide +kernel
theorem dTr_close_23 : decode (mB Tr_close) 23 = .ok (.getfield 39, 3) := by decide +kernel
theorem dTr_close_26 : decode (mB Tr_close) 26 = .ok (.iload_n 2, 1) := by decide +kernel
theorem dTr_close_27 : decode (mB Tr_close) 27 = .ok (.invokevirtual 56, 3) := by decide +kernel
theorem dTr_close_30 : decode (mB Tr_close) 30 = .ok (.iadd, 1) := by decide +kernel
theorem dTr_close_31 : decode (mB Tr_close) 31 = .ok (.istore_n 1, 1) := by decide +kernel
theorem dTr_close_32 : decode (mB Tr_close) 32 = .ok (.iinc 2 1, 3) := by decide +kernel
theorem dTr_close_35 : decode (mB Tr_close) 35 = .ok (.goto (-31), 3) := by decide +kernel
theorem dTr_close_38 : decode (mB Tr_close) 38 = .ok (.iconst 1, 1) := by decide +kernel
theorem dTr_close_39 : decode (mB Tr_close) 39 = .ok (.istore_n 2, 1) := by decide +kernel
theorem dTr_close_40 : decode (mB Tr_close) 40 = .ok (.iload_n 2, 1) := by decide +kernel
theorem dTr_close_41 : decode (mB Tr_close) 41 = .ok (.aload_n 0, 1) := by decide +kernel
theorem dTr_close_42 : decode (mB Tr_close) 42 = .ok (.getfield 9, 3) := by decide +kernel
theorem dTr_close_45 : decode (mB Tr_close) 45 = .ok (.if_icmp .ge 41, 3) := by decide +kernel
theorem dTr_close_48 : decode (mB Tr_close) 48 = .ok (.aload_n 0, 1) := by decide +kernel
theorem dTr_close_49 : decode (mB Tr_close) 49 = .ok (.getfield 42, 3) := by decide +kernel
theorem dTr_close_52 : decode (mB Tr_close) 52 = .ok (.aload_n 0, 1) := by decide +kernel
theorem dTr_close_53 : decode (mB Tr_close) 53 = .ok (.getfield 36, 3) := by decide +kernel
theorem dTr_close_56 : decode (mB Tr_close) 56 = .ok (.aload_n 0, 1) := by decide +kernel
theorem dTr_close_57 : decode (mB Tr_close) 57 = .ok (.getfield 27, 3) := by decide +kernel
theorem dTr_close_60 : decode (mB Tr_close) 60 = .ok (.iload_n 2, 1) := by decide +kernel
theorem dTr_close_61 : decode (mB Tr_close) 61 = .ok (.invokevirtual 56, 3) := by decide +kernel
theorem dTr_close_64 : decode (mB Tr_close) 64 = .ok (.invokevirtual 56, 3) := by decide +kernel
theorem dTr_close_67 : decode (mB Tr_close) 67 = .ok (.aload_n 0, 1) := by decide +kernel
theorem dTr_close_68 : decode (mB Tr_close) 68 = .ok (.getfield 33, 3) := by decide +kernel
theorem dTr_close_71 : decode (mB Tr_close) 71 = .ok (.iload_n 2, 1) := by decide +kernel
theorem dTr_close_72 : decode (mB Tr_close) 72 = .ok (.invokevirtual 56, 3) := by decide +kernel
theorem dTr_close_75 : decode (mB Tr_close) 75 = .ok (.iadd, 1) := by decide +kernel
theorem dTr_close_76 : decode (mB Tr_close) 76 = .ok (.iload_n 2, 1) := by decide +kernel
theorem dTr_close_77 : decode (mB Tr_close) 77 = .ok (.invokevirtual 59, 3) := by decide +kernel
theorem dTr_close_80 : decode (mB Tr_close) 80 = .ok (.iinc 2 1, 3) := by decide +kernel
theorem dTr_close_83 : decode (mB Tr_close) 83 = .ok (.goto (-43), 3) := by decide +kernel
theorem dTr_close_86 : decode (mB Tr_close) 86 = .ok (.aload_n 0, 1) := by decide +kernel
theorem dTr_close_87 : decode (mB Tr_close) 87 = .ok (.getfield 9, 3) := by decide +kernel
theorem dTr_close_90 : decode (mB Tr_close) 90 = .ok (.iconst 1, 1) := by decide +kernel
theorem dTr_close_91 : decode (mB Tr_close) 91 = .ok (.isub, 1) := by decide +kernel
theorem dTr_close_92 : decode (mB Tr_close) 92 = .ok (.istore_n 2, 1) := by decide +kernel
theorem dTr_close_93 : decode (mB Tr_close) 93 = .ok (.iload_n 2, 1) := by decide +kernel
theorem dTr_close_94 : decode (mB Tr_close) 94 = .ok (.ifCond .le 45, 3) := by decide +kernel
theorem dTr_close_97 : decode (mB Tr_close) 97 = .ok (.aload_n 0, 1) := by decide +kernel
theorem dTr_close_98 : decode (mB Tr_close) 98 = .ok (.getfield 27, 3) := by decide +kernel
theorem dTr_close_101 : decode (mB Tr_close) 101 = .ok (.iload_n 2, 1) := by decide +kernel
theorem dTr_close_102 : decode (mB Tr_close) 102 = .ok (.invokevirtual 56, 3) := by decide +kernel
theorem dTr_close_105 : decode (mB Tr_close) 105 = .ok (.istore_n 3, 1) := by decide +kernel
theorem dTr_close_106 : decode (mB Tr_close) 106 = .ok (.aload_n 0, 1) := by decide +kernel
theorem dTr_close_107 : decode (mB Tr_close) 107 = .ok (.getfield 30, 3) := by decide +kernel
theorem dTr_close_110 : decode (mB Tr_close) 110 = .ok (.iload_n 3, 1) := by decide +kernel
theorem dTr_close_111 : decode (mB Tr_close) 111 = .ok (.aload_n 0, 1) := by decide +kernel
theorem dTr_close_112 : decode (mB Tr_close) 112 = .ok (.getfield 30, 3) := by decide +kernel
theorem dTr_close_115 : decode (mB Tr_close) 115 = .ok (.iload_n 3, 1) := by decide +kernel
theorem dTr_close_116 : decode (mB Tr_close) 116 = .ok (.invokevirtual 56, 3) := by decide +kernel
theorem dTr_close_119 : decode (mB Tr_close) 119 = .ok (.aload_n 0, 1) := by decide +kernel
theorem dTr_close_120 : decode (mB Tr_close) 120 = .ok (.getfield 30, 3) := by decide +kernel
theorem dTr_close_123 : decode (mB Tr_close) 123 = .ok (.iload_n 2, 1) := by decide +kernel
theorem dTr_close_124 : decode (mB Tr_close) 124 = .ok (.invokevirtual 56, 3) := by decide +kernel
theorem dTr_close_127 : decode (mB Tr_close) 127 = .ok (.invokestatic 62, 3) := by decide +kernel
theorem dTr_close_130 : decode (mB Tr_close) 130 = .ok (.invokevirtual 59, 3) := by decide +kernel
theorem dTr_close_133 : decode (mB Tr_close) 133 = .ok (.iinc 2 (-1), 3) := by decide +kernel
theorem dTr_close_136 : decode (mB Tr_close) 136 = .ok (.goto (-43), 3) := by decide +kernel
theorem dTr_close_139 : decode (mB Tr_close) 139 = .ok (.return_, 1) := by decide +kernel
def b_Tr_close_93 (R : tpH → Prop) (Y : Nat → Int32 → tpH → Prop) (o : Nat) (x2 : Int32) (h : tpH) : Prop :=
  (x2 ≤ 0 → (R h)) ∧ (¬ x2 ≤ 0 → (hT h o = 12 ∧ (∃ a3, (hR h o 3) = some a3 ∧ hT h a3 = 8 ∧ (w_Ro_at a3 x2 h (fun v7 h6 => hT h6 o = 12 ∧ (∃ a9, (hR h6 o 4) = some a9 ∧ hT h6 a9 = 8 ∧ (w_Ro_at a9 v7 h6 (fun v13 h12 => hT h12 o = 12 ∧ (∃ a15, (hR h12 o 4) = some a15 ∧ hT h12 a15 = 8 ∧ (w_Ro_at a15 x2 h12 (fun v19 h18 => hT h18 a9 = 8 ∧ (w_Ro_put a9 v7 (if v13 < v19 then v19 else v13) h18 (fun h21 => Y o (x2 + (-1 : Int32)) h21)))))))))))))
def w_Tr_close_93 (R : tpH → Prop) : Nat → Nat → Int32 → tpH → Prop
  | 0 => fun _ _ _ => False
  | n + 1 => b_Tr_close_93 R (w_Tr_close_93 R n)
def b_Tr_close_40 (R : tpH → Prop) (Y : Nat → Int32 → tpH → Prop) (o : Nat) (x2 : Int32) (h : tpH) : Prop :=
  hT h o = 12 ∧ (((hI h o 0) ≤ x2 → (∃ n, w_Tr_close_93 R n o ((hI h o 0) - (1 : Int32)) h)) ∧ (¬ (hI h o 0) ≤ x2 → (∃ a3, (hR h o 3) = some a3 ∧ hT h a3 = 8 ∧ (w_Ro_at a3 x2 h (fun v7 h6 => ∃ a8, (hR h o 6) = some a8 ∧ hT h6 a8 = 8 ∧ (w_Ro_at a8 v7 h6 (fun v12 h11 => hT h11 o = 12 ∧ (∃ a14, (hR h11 o 5) = some a14 ∧ hT h11 a14 = 8 ∧ (w_Ro_at a14 x2 h11 (fun v18 h17 => ∃ a19, (hR h o 8) = some a19 ∧ hT h17 a19 = 8 ∧ (w_Ro_put a19 (v12 + v18) x2 h17 (fun h22 => Y o (x2 + (1 : Int32)) h22))))))))))))
def w_Tr_close_40 (R : tpH → Prop) : Nat → Nat → Int32 → tpH → Prop
  | 0 => fun _ _ _ => False
  | n + 1 => b_Tr_close_40 R (w_Tr_close_40 R n)
def b_Tr_close_4 (R : tpH → Prop) (Y : Nat → Int32 → Int32 → tpH → Prop) (o : Nat) (x1 : Int32) (x2 : Int32) (h : tpH) : Prop :=
  hT h o = 12 ∧ (((hI h o 0) ≤ x2 → (∃ n, w_Tr_close_40 R n o (1 : Int32) h)) ∧ (¬ (hI h o 0) ≤ x2 → (∃ a3, (hR h o 6) = some a3 ∧ hT h a3 = 8 ∧ (w_Ro_put a3 x2 x1 h (fun h6 => hT h6 o = 12 ∧ (∃ a8, (hR h6 o 7) = some a8 ∧ hT h6 a8 = 8 ∧ (w_Ro_at a8 x2 h6 (fun v12 h11 => Y o (x1 + v12) (x2 + (1 : Int32)) h11))))))))
def w_Tr_close_4 (R : tpH → Prop) : Nat → Nat → Int32 → Int32 → tpH → Prop
  | 0 => fun _ _ _ _ => False
  | n + 1 => b_Tr_close_4 R (w_Tr_close_4 R n)
def w_Tr_close (o : Nat) (h : tpH) (R : tpH → Prop) : Prop :=
  ∃ n, w_Tr_close_4 R n o (0 : Int32) (0 : Int32) h
theorem s_Tr_close_93 {h0 : tpH} {av : List tpV} {R : tpH → Prop} : ∀ (n : Nat) (o : Nat) (x2 : Int32) (h : tpH), w_Tr_close_93 R n o x2 h → tpR Tr_close 1 h0 av (tpOv R (fun _ _ => False)) 93 [some (vR (some o)), none, some (vI x2), none] [] h := by
  intro n
  induction n with
  | zero => intro o x2 h hw; exact False.elim hw
  | succ n ih =>
    intro o x2 h hw
    change b_Tr_close_93 R (w_Tr_close_93 R n) o x2 h at hw
    unfold b_Tr_close_93 at hw
    refine tq_iload_n dTr_close_93 rfl rfl ?_
    refine tq_ifle (tgt := 139) dTr_close_94 (by decide) (fun c1 => ?_) (fun c1 => ?_)
    · have hw := hw.1 c1
      exact tq_vret rfl dTr_close_139 hw
    · have hw := hw.2 c1
      refine tq_aload_n dTr_close_97 rfl rfl ?_
      obtain ⟨f2, hw⟩ := hw
      refine te_getr dTr_close_98 fTr_27 rfl rfl f2 ?_
      refine tq_iload_n dTr_close_101 rfl rfl ?_
      obtain ⟨a3, e4, f5, hw⟩ := hw
      refine te_callV mv_Ro_at (ci := 7) (dc := 0) (as := [vI x2]) (rest := []) kTr_56 rfl (Nat.le_of_ble_eq_true rfl) (Nat.le_of_ble_eq_true rfl) rfl rfl e4 f5 (Nat.le_of_ble_eq_true rfl) dTr_close_102 (s_Ro_at hw) (fun _ _ hx => False.elim hx) (tk_i fun v7 h6 hw => ?_)
      refine tq_istore_n (ls' := [some (vR (some o)), none, some (vI x2), some (vI v7)]) dTr_close_105 rfl (Nat.le_of_ble_eq_true rfl) rfl ?_
      refine tq_aload_n dTr_close_106 rfl rfl ?_
      obtain ⟨f8, hw⟩ := hw
      refine te_getr dTr_close_107 fTr_30 rfl rfl f8 ?_
      refine tq_iload_n dTr_close_110 rfl rfl ?_
      refine tq_aload_n dTr_close_111 rfl rfl ?_
      refine te_getr dTr_close_112 fTr_30 rfl rfl f8 ?_
      refine tq_iload_n dTr_close_115 rfl rfl ?_
      obtain ⟨a9, e10, f11, hw⟩ := hw
      refine te_callV mv_Ro_at (ci := 7) (dc := 0) (as := [vI v7]) (rest := [vI v7, vR (hR h6 o 4)]) kTr_56 rfl (Nat.le_of_ble_eq_true rfl) (Nat.le_of_ble_eq_true rfl) rfl rfl e10 f11 (Nat.le_of_ble_eq_true rfl) dTr_close_116 (s_Ro_at hw) (fun _ _ hx => False.elim hx) (tk_i fun v13 h12 hw => ?_)
      refine tq_aload_n dTr_close_119 rfl rfl ?_
      obtain ⟨f14, hw⟩ := hw
      refine te_getr dTr_close_120 fTr_30 rfl rfl f14 ?_
      refine tq_iload_n dTr_close_123 rfl rfl ?_
      obtain ⟨a15, e16, f17, hw⟩ := hw
      refine te_callV mv_Ro_at (ci := 7) (dc := 0) (as := [vI x2]) (rest := [vI v13, vI v7, vR (hR h6 o 4)]) kTr_56 rfl (Nat.le_of_ble_eq_true rfl) (Nat.le_of_ble_eq_true rfl) rfl rfl e16 f17 (Nat.le_of_ble_eq_true rfl) dTr_close_124 (s_Ro_at hw) (fun _ _ hx => False.elim hx) (tk_i fun v19 h18 hw => ?_)
      refine tq_max mTr_62 (Nat.le_of_ble_eq_true rfl) (Nat.le_of_ble_eq_true rfl) dTr_close_127 ?_
      obtain ⟨f20, hw⟩ := hw
      refine te_callV mv_Ro_put (ci := 7) (dc := 0) (as := [vI v7, vI (if v13 < v19 then v19 else v13)]) (rest := []) kTr_59 rfl (Nat.le_of_ble_eq_true rfl) (Nat.le_of_ble_eq_true rfl) rfl rfl e10 f20 (Nat.le_of_ble_eq_true rfl) dTr_close_130 (s_Ro_put hw) (fun _ _ hx => False.elim hx) (tk_v fun h21 hw => ?_)
      refine tq_inc (k := (-1 : Int32)) (ls' := [some (vR (some o)), none, some (vI (x2 + (-1 : Int32))), some (vI v7)]) dTr_close_133 rfl tni_m1 (Nat.le_of_ble_eq_true rfl) rfl ?_
      refine tq_goto (tgt := 93) dTr_close_136 (by decide) ?_
      refine tpR.fo (ls' := [some (vR (some o)), none, some (vI (x2 + (-1 : Int32))), none]) ?_ (And.intro rfl (And.intro rfl trivial))
      exact ih _ _ _ hw
theorem s_Tr_close_40 {h0 : tpH} {av : List tpV} {R : tpH → Prop} : ∀ (n : Nat) (o : Nat) (x2 : Int32) (h : tpH), w_Tr_close_40 R n o x2 h → tpR Tr_close 1 h0 av (tpOv R (fun _ _ => False)) 40 [some (vR (some o)), none, some (vI x2), none] [] h := by
  intro n
  induction n with
  | zero => intro o x2 h hw; exact False.elim hw
  | succ n ih =>
    intro o x2 h hw
    change b_Tr_close_40 R (w_Tr_close_40 R n) o x2 h at hw
    unfold b_Tr_close_40 at hw
    refine tq_iload_n dTr_close_40 rfl rfl ?_
    refine tq_aload_n dTr_close_41 rfl rfl ?_
    obtain ⟨f1, hw⟩ := hw
    refine te_geti dTr_close_42 fTr_9 rfl rfl f1 ?_
    refine tq_icmpge (tgt := 86) dTr_close_45 (by decide) (fun c2 => ?_) (fun c2 => ?_)
    · have hw := hw.1 c2
      refine tq_aload_n dTr_close_86 rfl rfl ?_
      refine te_geti dTr_close_87 fTr_9 rfl rfl f1 ?_
      refine tq_iconst (v := (1 : Int32)) dTr_close_90 tni_1 ?_
      refine tq_isub dTr_close_91 ?_
      refine tq_istore_n (ls' := [some (vR (some o)), none, some (vI ((hI h o 0) - (1 : Int32))), none]) dTr_close_92 rfl (Nat.le_of_ble_eq_true rfl) rfl ?_
      refine tpR.fo (ls' := [some (vR (some o)), none, some (vI ((hI h o 0) - (1 : Int32))), none]) ?_ (And.intro rfl (And.intro rfl trivial))
      obtain ⟨n, hw⟩ := hw
      exact s_Tr_close_93 n _ _ _ hw
    · have hw := hw.2 c2
      refine tq_aload_n dTr_close_48 rfl rfl ?_
      refine te_getr dTr_close_49 fTr_42 rfl rfl f1 ?_
      refine tq_aload_n dTr_close_52 rfl rfl ?_
      refine te_getr dTr_close_53 fTr_36 rfl rfl f1 ?_
      refine tq_aload_n dTr_close_56 rfl rfl ?_
      refine te_getr dTr_close_57 fTr_27 rfl rfl f1 ?_
      refine tq_iload_n dTr_close_60 rfl rfl ?_
      obtain ⟨a3, e4, f5, hw⟩ := hw
      refine te_callV mv_Ro_at (ci := 7) (dc := 0) (as := [vI x2]) (rest := [vR (hR h o 6), vR (hR h o 8)]) kTr_56 rfl (Nat.le_of_ble_eq_true rfl) (Nat.le_of_ble_eq_true rfl) rfl rfl e4 f5 (Nat.le_of_ble_eq_true rfl) dTr_close_61 (s_Ro_at hw) (fun _ _ hx => False.elim hx) (tk_i fun v7 h6 hw => ?_)
      obtain ⟨a8, e9, f10, hw⟩ := hw
      refine te_callV mv_Ro_at (ci := 7) (dc := 0) (as := [vI v7]) (rest := [vR (hR h o 8)]) kTr_56 rfl (Nat.le_of_ble_eq_true rfl) (Nat.le_of_ble_eq_true rfl) rfl rfl e9 f10 (Nat.le_of_ble_eq_true rfl) dTr_close_64 (s_Ro_at hw) (fun _ _ hx => False.elim hx) (tk_i fun v12 h11 hw => ?_)
      refine tq_aload_n dTr_close_67 rfl rfl ?_
      obtain ⟨f13, hw⟩ := hw
      refine te_getr dTr_close_68 fTr_33 rfl rfl f13 ?_
      refine tq_iload_n dTr_close_71 rfl rfl ?_
      obtain ⟨a14, e15, f16, hw⟩ := hw
      refine te_callV mv_Ro_at (ci := 7) (dc := 0) (as := [vI x2]) (rest := [vI v12, vR (hR h o 8)]) kTr_56 rfl (Nat.le_of_ble_eq_true rfl) (Nat.le_of_ble_eq_true rfl) rfl rfl e15 f16 (Nat.le_of_ble_eq_true rfl) dTr_close_72 (s_Ro_at hw) (fun _ _ hx => False.elim hx) (tk_i fun v18 h17 hw => ?_)
      refine tq_iadd dTr_close_75 ?_
      refine tq_iload_n dTr_close_76 rfl rfl ?_
      obtain ⟨a19, e20, f21, hw⟩ := hw
      refine te_callV mv_Ro_put (ci := 7) (dc := 0) (as := [vI (v12 + v18), vI x2]) (rest := []) kTr_59 rfl (Nat.le_of_ble_eq_true rfl) (Nat.le_of_ble_eq_true rfl) rfl rfl e20 f21 (Nat.le_of_ble_eq_true rfl) dTr_close_77 (s_Ro_put hw) (fun _ _ hx => False.elim hx) (tk_v fun h22 hw => ?_)
      refine tq_inc (k := (1 : Int32)) (ls' := [some (vR (some o)), none, some (vI (x2 + (1 : Int32))), none]) dTr_close_80 rfl tni_1 (Nat.le_of_ble_eq_true rfl) rfl ?_
      refine tq_goto (tgt := 40) dTr_close_83 (by decide) ?_
      refine tpR.fo (ls' := [some (vR (some o)), none, some (vI (x2 + (1 : Int32))), none]) ?_ (And.intro rfl (And.intro rfl trivial))
      exact ih _ _ _ hw
theorem s_Tr_close_4 {h0 : tpH} {av : List tpV} {R : tpH → Prop} : ∀ (n : Nat) (o : Nat) (x1 : Int32) (x2 : Int32) (h : tpH), w_Tr_close_4 R n o x1 x2 h → tpR Tr_close 1 h0 av (tpOv R (fun _ _ => False)) 4 [some (vR (some o)), some (vI x1), some (vI x2), none] [] h := by
  intro n
  induction n with
  | zero => intro o x1 x2 h hw; exact False.elim hw
  | succ n ih =>
    intro o x1 x2 h hw
    change b_Tr_close_4 R (w_Tr_close_4 R n) o x1 x2 h at hw
    unfold b_Tr_close_4 at hw
    refine tq_iload_n dTr_close_4 rfl rfl ?_
    refine tq_aload_n dTr_close_5 rfl rfl ?_
    obtain ⟨f1, hw⟩ := hw
    refine te_geti dTr_close_6 fTr_9 rfl rfl f1 ?_
    refine tq_icmpge (tgt := 38) dTr_close_9 (by decide) (fun c2 => ?_) (fun c2 => ?_)
    · have hw := hw.1 c2
      refine tq_iconst (v := (1 : Int32)) dTr_close_38 tni_1 ?_
      refine tq_istore_n (ls' := [some (vR (some o)), some (vI x1), some (vI (1 : Int32)), none]) dTr_close_39 rfl (Nat.le_of_ble_eq_true rfl) rfl ?_
      refine tpR.fo (ls' := [some (vR (some o)), none, some (vI (1 : Int32)), none]) ?_ (And.intro rfl (And.intro rfl trivial))
      obtain ⟨n, hw⟩ := hw
      exact s_Tr_close_40 n _ _ _ hw
    · have hw := hw.2 c2
      refine tq_aload_n dTr_close_12 rfl rfl ?_
      refine te_getr dTr_close_13 fTr_36 rfl rfl f1 ?_
      refine tq_iload_n dTr_close_16 rfl rfl ?_
      refine tq_iload_n dTr_close_17 rfl rfl ?_
      obtain ⟨a3, e4, f5, hw⟩ := hw
      refine te_callV mv_Ro_put (ci := 7) (dc := 0) (as := [vI x2, vI x1]) (rest := []) kTr_59 rfl (Nat.le_of_ble_eq_true rfl) (Nat.le_of_ble_eq_true rfl) rfl rfl e4 f5 (Nat.le_of_ble_eq_true rfl) dTr_close_18 (s_Ro_put hw) (fun _ _ hx => False.elim hx) (tk_v fun h6 hw => ?_)
      refine tq_iload_n dTr_close_21 rfl rfl ?_
      refine tq_aload_n dTr_close_22 rfl rfl ?_
      obtain ⟨f7, hw⟩ := hw
      refine te_getr dTr_close_23 fTr_39 rfl rfl f7 ?_
      refine tq_iload_n dTr_close_26 rfl rfl ?_
      obtain ⟨a8, e9, f10, hw⟩ := hw
      refine te_callV mv_Ro_at (ci := 7) (dc := 0) (as := [vI x2]) (rest := [vI x1]) kTr_56 rfl (Nat.le_of_ble_eq_true rfl) (Nat.le_of_ble_eq_true rfl) rfl rfl e9 f10 (Nat.le_of_ble_eq_true rfl) dTr_close_27 (s_Ro_at hw) (fun _ _ hx => False.elim hx) (tk_i fun v12 h11 hw => ?_)
      refine tq_iadd dTr_close_30 ?_
      refine tq_istore_n (ls' := [some (vR (some o)), some (vI (x1 + v12)), some (vI x2), none]) dTr_close_31 rfl (Nat.le_of_ble_eq_true rfl) rfl ?_
      refine tq_inc (k := (1 : Int32)) (ls' := [some (vR (some o)), some (vI (x1 + v12)), some (vI (x2 + (1 : Int32))), none]) dTr_close_32 rfl tni_1 (Nat.le_of_ble_eq_true rfl) rfl ?_
      refine tq_goto (tgt := 4) dTr_close_35 (by decide) ?_
      refine tpR.fo (ls' := [some (vR (some o)), some (vI (x1 + v12)), some (vI (x2 + (1 : Int32))), none]) ?_ (And.intro rfl (And.intro rfl (And.intro rfl trivial)))
      exact ih _ _ _ _ hw
theorem s_Tr_close {o : Nat} {h : tpH} {R : tpH → Prop} (hw : w_Tr_close o h R) : tpC Tr_close 1 [vR (some o)] h (tpOv R (fun _ _ => False)) := by
  refine tpC_of mv_Tr_close.2.2.2.1 rfl rfl (Nat.le_of_ble_eq_true rfl) ?_
  show tpR Tr_close 1 h _ _ 0 [some (vR (some o)), none, none, none] [] h
  unfold w_Tr_close at hw
  refine tq_iconst (v := (0 : Int32)) dTr_close_0 tni_0 ?_
  refine tq_istore_n (ls' := [some (vR (some o)), some (vI (0 : Int32)), none, none]) dTr_close_1 rfl (Nat.le_of_ble_eq_true rfl) rfl ?_
  refine tq_iconst (v := (0 : Int32)) dTr_close_2 tni_0 ?_
  refine tq_istore_n (ls' := [some (vR (some o)), some (vI (0 : Int32)), some (vI (0 : Int32)), none]) dTr_close_3 rfl (Nat.le_of_ble_eq_true rfl) rfl ?_
  refine tpR.fo (ls' := [some (vR (some o)), some (vI (0 : Int32)), some (vI (0 : Int32)), none]) ?_ (And.intro rfl (And.intro rfl (And.intro rfl trivial)))
  obtain ⟨n, hw⟩ := hw
  exact s_Tr_close_4 n _ _ _ _ hw
/-! T$Tree.holds -/
theorem dTr_holds_0 : decode (mB Tr_holds) 0 = .ok (.aload_n 0, 1) := by decide +kernel
theorem dTr_holds_1 : decode (mB Tr_holds) 1 = .ok (.getfield 45, 3) := by decide +kernel
theorem dTr_holds_4 : decode (mB Tr_holds) 4 = .ok (.iload_n 1, 1) := by decide +kernel
theorem dTr_holds_5 : decode (mB Tr_holds) 5 = .ok (.invokevirtual 56, 3) := by decide +kernel
theorem dTr_holds_8 : decode (mB Tr_holds) 8 = .ok (.iconst (-1), 1) := by decide +kernel
theorem dTr_holds_9 : decode (mB Tr_holds) 9 = .ok (.if_icmp .eq 7, 3) := by decide +kernel
theorem dTr_holds_12 : decode (mB Tr_holds) 12 = .ok (.iconst 1, 1) := by decide +kernel
theorem dTr_holds_13 : decode (mB Tr_holds) 13 = .ok (.goto 4, 3) := by decide +kernel
theorem dTr_holds_16 : decode (mB Tr_holds) 16 = .ok (.iconst 0, 1) := by decide +kernel
theorem dTr_holds_17 : decode (mB Tr_holds) 17 = .ok (.ireturn, 1) := by decide +kernel
def w_Tr_holds (o : Nat) (x1 : Int32) (h : tpH) (R : Int32 → tpH → Prop) : Prop :=
  hT h o = 12 ∧ (∃ a2, (hR h o 9) = some a2 ∧ hT h a2 = 8 ∧ (w_Ro_at a2 x1 h (fun v6 h5 => (v6 = (-1 : Int32) → (R (0 : Int32) h5)) ∧ (¬ v6 = (-1 : Int32) → (R (1 : Int32) h5)))))
theorem s_Tr_holds {o : Nat} {x1 : Int32} {h : tpH} {R : Int32 → tpH → Prop} (hw : w_Tr_holds o x1 h R) : tpC Tr_holds 1 [vR (some o), vI x1] h (tpOi R (fun _ _ => False)) := by
  refine tpC_of mv_Tr_holds.2.2.2.1 rfl rfl (Nat.le_of_ble_eq_true rfl) ?_
  show tpR Tr_holds 1 h _ _ 0 [some (vR (some o)), some (vI x1)] [] h
  unfold w_Tr_holds at hw
  refine tq_aload_n dTr_holds_0 rfl rfl ?_
  obtain ⟨f1, hw⟩ := hw
  refine te_getr dTr_holds_1 fTr_45 rfl rfl f1 ?_
  refine tq_iload_n dTr_holds_4 rfl rfl ?_
  obtain ⟨a2, e3, f4, hw⟩ := hw
  refine te_callV mv_Ro_at (ci := 7) (dc := 0) (as := [vI x1]) (rest := []) kTr_56 rfl (Nat.le_of_ble_eq_true rfl) (Nat.le_of_ble_eq_true rfl) rfl rfl e3 f4 (Nat.le_of_ble_eq_true rfl) dTr_holds_5 (s_Ro_at hw) (fun _ _ hx => False.elim hx) (tk_i fun v6 h5 hw => ?_)
  refine tq_iconst (v := (-1 : Int32)) dTr_holds_8 tni_m1 ?_
  refine tq_icmpeq (tgt := 16) dTr_holds_9 (by decide) (fun c7 => ?_) (fun c7 => ?_)
  · have hw := hw.1 c7
    refine tq_iconst (v := (0 : Int32)) dTr_holds_16 tni_0 ?_
    exact tq_iret rfl (by decide) dTr_holds_17 hw
  · have hw := hw.2 c7
    refine tq_iconst (v := (1 : Int32)) dTr_holds_12 tni_1 ?_
    refine tq_goto (tgt := 17) dTr_holds_13 (by decide) ?_
    exact tq_iret rfl (by decide) dTr_holds_17 hw
/-! T$Tree.worthOfMark -/
theorem dTr_worthOfMark_0 : decode (mB Tr_worthOfMark) 0 = .ok (.aload_n 0, 1) := by decide +kernel
theorem dTr_worthOfMark_1 : decode (mB Tr_worthOfMark) 1 = .ok (.getfield 24, 3) := by decide +kernel
theorem dTr_worthOfMark_4 : decode (mB Tr_worthOfMark) 4 = .ok (.aload_n 0, 1) := by decide +kernel
theorem dTr_worthOfMark_5 : decode (mB Tr_worthOfMark) 5 = .ok (.getfield 45, 3) := by decide +kernel
theorem dTr_worthOfMark_8 : decode (mB Tr_worthOfMark) 8 = .ok (.iload_n 1, 1) := by decide +kernel
theorem dTr_worthOfMark_9 : decode (mB Tr_worthOfMark) 9 = .ok (.invokevirtual 56, 3) := by decide +kernel
theorem dTr_worthOfMark_12 : decode (mB Tr_worthOfMark) 12 = .ok (.invokevirtual 56, 3) := by decide +kernel
theorem dTr_worthOfMark_15 : decode (mB Tr_worthOfMark) 15 = .ok (.ireturn, 1) := by decide +kernel
def w_Tr_worthOfMark (o : Nat) (x1 : Int32) (h : tpH) (R : Int32 → tpH → Prop) : Prop :=
  hT h o = 12 ∧ (∃ a2, (hR h o 9) = some a2 ∧ hT h a2 = 8 ∧ (w_Ro_at a2 x1 h (fun v6 h5 => ∃ a7, (hR h o 2) = some a7 ∧ hT h5 a7 = 8 ∧ (w_Ro_at a7 v6 h5 (fun v11 h10 => R v11 h10)))))
theorem s_Tr_worthOfMark {o : Nat} {x1 : Int32} {h : tpH} {R : Int32 → tpH → Prop} (hw : w_Tr_worthOfMark o x1 h R) : tpC Tr_worthOfMark 1 [vR (some o), vI x1] h (tpOi R (fun _ _ => False)) := by
  refine tpC_of mv_Tr_worthOfMark.2.2.2.1 rfl rfl (Nat.le_of_ble_eq_true rfl) ?_
  show tpR Tr_worthOfMark 1 h _ _ 0 [some (vR (some o)), some (vI x1)] [] h
  unfold w_Tr_worthOfMark at hw
  refine tq_aload_n dTr_worthOfMark_0 rfl rfl ?_
  obtain ⟨f1, hw⟩ := hw
  refine te_getr dTr_worthOfMark_1 fTr_24 rfl rfl f1 ?_
  refine tq_aload_n dTr_worthOfMark_4 rfl rfl ?_
  refine te_getr dTr_worthOfMark_5 fTr_45 rfl rfl f1 ?_
  refine tq_iload_n dTr_worthOfMark_8 rfl rfl ?_
  obtain ⟨a2, e3, f4, hw⟩ := hw
  refine te_callV mv_Ro_at (ci := 7) (dc := 0) (as := [vI x1]) (rest := [vR (hR h o 2)]) kTr_56 rfl (Nat.le_of_ble_eq_true rfl) (Nat.le_of_ble_eq_true rfl) rfl rfl e3 f4 (Nat.le_of_ble_eq_true rfl) dTr_worthOfMark_9 (s_Ro_at hw) (fun _ _ hx => False.elim hx) (tk_i fun v6 h5 hw => ?_)
  obtain ⟨a7, e8, f9, hw⟩ := hw
  refine te_callV mv_Ro_at (ci := 7) (dc := 0) (as := [vI v6]) (rest := []) kTr_56 rfl (Nat.le_of_ble_eq_true rfl) (Nat.le_of_ble_eq_true rfl) rfl rfl e8 f9 (Nat.le_of_ble_eq_true rfl) dTr_worthOfMark_12 (s_Ro_at hw) (fun _ _ hx => False.elim hx) (tk_i fun v11 h10 hw => ?_)
  exact tq_iret rfl rfl dTr_worthOfMark_15 hw
/-! T$Tree.parentOfMark -/
theorem dTr_parentOfMark_0 : decode (mB Tr_parentOfMark) 0 = .ok (.aload_n 0, 1) := by decide +kernel
theorem dTr_parentOfMark_1 : decode (mB Tr_parentOfMark) 1 = .ok (.getfield 20, 3) := by decide +kernel
theorem dTr_parentOfMark_4 : decode (mB Tr_parentOfMark) 4 = .ok (.aload_n 0, 1) := by decide +kernel
theorem dTr_parentOfMark_5 : decode (mB Tr_parentOfMark) 5 = .ok (.getfield 27, 3) := by decide +kernel
theorem dTr_parentOfMark_8 : decode (mB Tr_parentOfMark) 8 = .ok (.aload_n 0, 1) := by decide +kernel
theorem dTr_parentOfMark_9 : decode (mB Tr_parentOfMark) 9 = .ok (.getfield 45, 3) := by decide +kernel
theorem dTr_parentOfMark_12 : decode (mB Tr_parentOfMark) 12 = .ok (.iload_n 1, 1) := by decide +kernel
theorem dTr_parentOfMark_13 : decode (mB Tr_parentOfMark) 13 = .ok (.invokevirtual 56, 3) := by decide +kernel
theorem dTr_parentOfMark_16 : decode (mB Tr_parentOfMark) 16 = .ok (.invokevirtual 56, 3) := by decide +kernel
theorem dTr_parentOfMark_19 : decode (mB Tr_parentOfMark) 19 = .ok (.invokevirtual 56, 3) := by decide +kernel
theorem dTr_parentOfMark_22 : decode (mB Tr_parentOfMark) 22 = .ok (.ireturn, 1) := by decide +kernel
def w_Tr_parentOfMark (o : Nat) (x1 : Int32) (h : tpH) (R : Int32 → tpH → Prop) : Prop :=
  hT h o = 12 ∧ (∃ a2, (hR h o 9) = some a2 ∧ hT h a2 = 8 ∧ (w_Ro_at a2 x1 h (fun v6 h5 => ∃ a7, (hR h o 3) = some a7 ∧ hT h5 a7 = 8 ∧ (w_Ro_at a7 v6 h5 (fun v11 h10 => ∃ a12, (hR h o 1) = some a12 ∧ hT h10 a12 = 8 ∧ (w_Ro_at a12 v11 h10 (fun v16 h15 => R v16 h15)))))))
theorem s_Tr_parentOfMark {o : Nat} {x1 : Int32} {h : tpH} {R : Int32 → tpH → Prop} (hw : w_Tr_parentOfMark o x1 h R) : tpC Tr_parentOfMark 1 [vR (some o), vI x1] h (tpOi R (fun _ _ => False)) := by
  refine tpC_of mv_Tr_parentOfMark.2.2.2.1 rfl rfl (Nat.le_of_ble_eq_true rfl) ?_
  show tpR Tr_parentOfMark 1 h _ _ 0 [some (vR (some o)), some (vI x1)] [] h
  unfold w_Tr_parentOfMark at hw
  refine tq_aload_n dTr_parentOfMark_0 rfl rfl ?_
  obtain ⟨f1, hw⟩ := hw
  refine te_getr dTr_parentOfMark_1 fTr_20 rfl rfl f1 ?_
  refine tq_aload_n dTr_parentOfMark_4 rfl rfl ?_
  refine te_getr dTr_parentOfMark_5 fTr_27 rfl rfl f1 ?_
  refine tq_aload_n dTr_parentOfMark_8 rfl rfl ?_
  refine te_getr dTr_parentOfMark_9 fTr_45 rfl rfl f1 ?_
  refine tq_iload_n dTr_parentOfMark_12 rfl rfl ?_
  obtain ⟨a2, e3, f4, hw⟩ := hw
  refine te_callV mv_Ro_at (ci := 7) (dc := 0) (as := [vI x1]) (rest := [vR (hR h o 3), vR (hR h o 1)]) kTr_56 rfl (Nat.le_of_ble_eq_true rfl) (Nat.le_of_ble_eq_true rfl) rfl rfl e3 f4 (Nat.le_of_ble_eq_true rfl) dTr_parentOfMark_13 (s_Ro_at hw) (fun _ _ hx => False.elim hx) (tk_i fun v6 h5 hw => ?_)
  obtain ⟨a7, e8, f9, hw⟩ := hw
  refine te_callV mv_Ro_at (ci := 7) (dc := 0) (as := [vI v6]) (rest := [vR (hR h o 1)]) kTr_56 rfl (Nat.le_of_ble_eq_true rfl) (Nat.le_of_ble_eq_true rfl) rfl rfl e8 f9 (Nat.le_of_ble_eq_true rfl) dTr_parentOfMark_16 (s_Ro_at hw) (fun _ _ hx => False.elim hx) (tk_i fun v11 h10 hw => ?_)
  obtain ⟨a12, e13, f14, hw⟩ := hw
  refine te_callV mv_Ro_at (ci := 7) (dc := 0) (as := [vI v11]) (rest := []) kTr_56 rfl (Nat.le_of_ble_eq_true rfl) (Nat.le_of_ble_eq_true rfl) rfl rfl e13 f14 (Nat.le_of_ble_eq_true rfl) dTr_parentOfMark_19 (s_Ro_at hw) (fun _ _ hx => False.elim hx) (tk_i fun v16 h15 hw => ?_)
  exact tq_iret rfl rfl dTr_parentOfMark_22 hw
/-! T$Tree.hasSame -/
theorem dTr_hasSame_0 : decode (mB Tr_hasSame) 0 = .ok (.aload_n 0, 1) := by decide +kernel
theorem dTr_hasSame_1 : decode (mB Tr_hasSame) 1 = .ok (.getfield 45, 3) := by decide +kernel
theorem dTr_hasSame_4 : decode (mB Tr_hasSame) 4 = .ok (.iload_n 2, 1) := by decide +kernel
theorem dTr_hasSame_5 : decode (mB Tr_hasSame) 5 = .ok (.invokevirtual 56, 3) := by decide +kernel
theorem dTr_hasSame_8 : decode (mB Tr_hasSame) 8 = .ok (.istore_n 3, 1) := by decide +kernel
theorem dTr_hasSame_9 : decode (mB Tr_hasSame) 9 = .ok (.aload_n 1, 1) := by decide +kernel
theorem dTr_hasSame_10 : decode (mB Tr_hasSame) 10 = .ok (.getfield 45, 3) := by decide +kernel
theorem dTr_hasSame_13 : decode (mB Tr_hasSame) 13 = .ok (.iload_n 2, 1) := by decide +kernel
theorem dTr_hasSame_14 : decode (mB Tr_hasSame) 14 = .ok (.invokevirtual 56, 3) := by decide +kernel
theorem dTr_hasSame_17 : decode (mB Tr_hasSame) 17 = .ok (.istore 4, 2) := by decide +kernel
theorem dTr_hasSame_19 : decode (mB Tr_hasSame) 19 = .ok (.iload_n 3, 1) := by decide +kernel
theorem dTr_hasSame_20 : decode (mB Tr_hasSame) 20 = .ok (.iconst (-1), 1) := by decide +kernel
theorem dTr_hasSame_21 : decode (mB Tr_hasSame) 21 = .ok (.if_icmp .eq 67, 3) := by decide +kernel
theorem dTr_hasSame_24 : decode (mB Tr_hasSame) 24 = .ok (.iload 4, 2) := by decide +kernel
theorem dTr_hasSame_26 : decode (mB Tr_hasSame) 26 = .ok (.iconst (-1), 1) := by decide +kernel
theorem dTr_hasSame_27 : decode (mB Tr_hasSame) 27 = .ok (.if_icmp .eq 61, 3) := by decide +kernel
theorem dTr_hasSame_30 : decode (mB Tr_hasSame) 30 = .ok (.aload_n 0, 1) := by decide +kernel
theorem dTr_hasSame_31 : decode (mB Tr_hasSame) 31 = .ok (.getfield 24, 3) := by decide +kernel
theorem dTr_hasSame_34 : decode (mB Tr_hasSame) 34 = .ok (.iload_n 3, 1) := by decide +kernel
theorem dTr_hasSame_35 : decode (mB Tr_hasSame) 35 = .ok (.invokevirtual 56, 3) := by decide +kernel
theorem dTr_hasSame_38 : decode (mB Tr_hasSame) 38 = .ok (.aload_n 1, 1) := by decide +kernel
theorem dTr_hasSame_39 : decode (mB Tr_hasSame) 39 = .ok (.getfield 24, 3) := by decide +kernel
theorem dTr_hasSame_42 : decode (mB Tr_hasSame) 42 = .ok (.iload 4, 2) := by decide +kernel
theorem dTr_hasSame_44 : decode (mB Tr_hasSame) 44 = .ok (.invokevirtual 56, 3) := by decide +kernel
theorem dTr_hasSame_47 : decode (mB Tr_hasSame) 47 = .ok (.if_icmp .ne 41, 3) := by decide +kernel
theorem dTr_hasSame_50 : decode (mB Tr_hasSame) 50 = .ok (.aload_n 0, 1) := by decide +kernel
theorem dTr_hasSame_51 : decode (mB Tr_hasSame) 51 = .ok (.getfield 20, 3) := by decide +kernel
theorem dTr_hasSame_54 : decode (mB Tr_hasSame) 54 = .ok (.aload_n 0, 1) := by decide +kernel
theorem dTr_hasSame_55 : decode (mB Tr_hasSame) 55 = .ok (.getfield 27, 3) := by decide +kernel
theorem dTr_hasSame_58 : decode (mB Tr_hasSame) 58 = .ok (.iload_n 3, 1) := by decide +kernel
theorem dTr_hasSame_59 : decode (mB Tr_hasSame) 59 = .ok (.invokevirtual 56, 3) := by decide +kernel
theorem dTr_hasSame_62 : decode (mB Tr_hasSame) 62 = .ok (.invokevirtual 56, 3) := by decide +kernel
theorem dTr_hasSame_65 : decode (mB Tr_hasSame) 65 = .ok (.aload_n 1, 1) := by decide +kernel
theorem dTr_hasSame_66 : decode (mB Tr_hasSame) 66 = .ok (.getfield 20, 3) := by decide +kernel
theorem dTr_hasSame_69 : decode (mB Tr_hasSame) 69 = .ok (.aload_n 1, 1) := by decide +kernel
theorem dTr_hasSame_70 : decode (mB Tr_hasSame) 70 = .ok (.getfield 27, 3) := by decide +kernel
theorem dTr_hasSame_73 : decode (mB Tr_hasSame) 73 = .ok (.iload 4, 2) := by decide +kernel
theorem dTr_hasSame_75 : decode (mB Tr_hasSame) 75 = .ok (.invokevirtual 56, 3) := by decide +kernel
theorem dTr_hasSame_78 : decode (mB Tr_hasSame) 78 = .ok (.invokevirtual 56, 3) := by decide +kernel
theorem dTr_hasSame_81 : decode (mB Tr_hasSame) 81 = .ok (.if_icmp .ne 7, 3) := by decide +kernel
theorem dTr_hasSame_84 : decode (mB Tr_hasSame) 84 = .ok (.iconst 1, 1) := by decide +kernel
theorem dTr_hasSame_85 : decode (mB Tr_hasSame) 85 = .ok (.goto 4, 3) := by decide +kernel
theorem dTr_hasSame_88 : decode (mB Tr_hasSame) 88 = .ok (.iconst 0, 1) := by decide +kernel
theorem dTr_hasSame_89 : decode (mB Tr_hasSame) 89 = .ok (.ireturn, 1) := by decide +kernel
def w_Tr_hasSame (o : Nat) (x1 : Option Nat) (x2 : Int32) (h : tpH) (R : Int32 → tpH → Prop) : Prop :=
  hT h o = 12 ∧ (∃ a2, (hR h o 9) = some a2 ∧ hT h a2 = 8 ∧ (w_Ro_at a2 x2 h (fun v6 h5 => ∃ a7, x1 = some a7 ∧ hT h5 a7 = 12 ∧ (∃ a10, (hR h5 a7 9) = some a10 ∧ hT h5 a10 = 8 ∧ (w_Ro_at a10 x2 h5 (fun v14 h13 => (v6 = (-1 : Int32) → (R (0 : Int32) h13)) ∧ (¬ v6 = (-1 : Int32) → ((v14 = (-1 : Int32) → (R (0 : Int32) h13)) ∧ (¬ v14 = (-1 : Int32) → (hT h13 o = 12 ∧ (∃ a18, (hR h13 o 2) = some a18 ∧ hT h13 a18 = 8 ∧ (w_Ro_at a18 v6 h13 (fun v22 h21 => hT h21 a7 = 12 ∧ (∃ a24, (hR h21 a7 2) = some a24 ∧ hT h21 a24 = 8 ∧ (w_Ro_at a24 v14 h21 (fun v28 h27 => (¬ v22 = v28 → (R (0 : Int32) h27)) ∧ (v22 = v28 → (hT h27 o = 12 ∧ (∃ a31, (hR h27 o 3) = some a31 ∧ hT h27 a31 = 8 ∧ (w_Ro_at a31 v6 h27 (fun v35 h34 => ∃ a36, (hR h27 o 1) = some a36 ∧ hT h34 a36 = 8 ∧ (w_Ro_at a36 v35 h34 (fun v40 h39 => hT h39 a7 = 12 ∧ (∃ a42, (hR h39 a7 3) = some a42 ∧ hT h39 a42 = 8 ∧ (w_Ro_at a42 v14 h39 (fun v46 h45 => ∃ a47, (hR h39 a7 1) = some a47 ∧ hT h45 a47 = 8 ∧ (w_Ro_at a47 v46 h45 (fun v51 h50 => (¬ v40 = v51 → (R (0 : Int32) h50)) ∧ (v40 = v51 → (R (1 : Int32) h50))))))))))))))))))))))))))))))
theorem s_Tr_hasSame {o : Nat} {x1 : Option Nat} {x2 : Int32} {h : tpH} {R : Int32 → tpH → Prop} (hw : w_Tr_hasSame o x1 x2 h R) : tpC Tr_hasSame 1 [vR (some o), vR x1, vI x2] h (tpOi R (fun _ _ => False)) := by
  refine tpC_of mv_Tr_hasSame.2.2.2.1 rfl rfl (Nat.le_of_ble_eq_true rfl) ?_
  show tpR Tr_hasSame 1 h _ _ 0 [some (vR (some o)), some (vR x1), some (vI x2), none, none] [] h
  unfold w_Tr_hasSame at hw
  refine tq_aload_n dTr_hasSame_0 rfl rfl ?_
  obtain ⟨f1, hw⟩ := hw
  refine te_getr dTr_hasSame_1 fTr_45 rfl rfl f1 ?_
  refine tq_iload_n dTr_hasSame_4 rfl rfl ?_
  obtain ⟨a2, e3, f4, hw⟩ := hw
  refine te_callV mv_Ro_at (ci := 7) (dc := 0) (as := [vI x2]) (rest := []) kTr_56 rfl (Nat.le_of_ble_eq_true rfl) (Nat.le_of_ble_eq_true rfl) rfl rfl e3 f4 (Nat.le_of_ble_eq_true rfl) dTr_hasSame_5 (s_Ro_at hw) (fun _ _ hx => False.elim hx) (tk_i fun v6 h5 hw => ?_)
  refine tq_istore_n (ls' := [some (vR (some o)), some (vR x1), some (vI x2), some (vI v6), none]) dTr_hasSame_8 rfl (Nat.le_of_ble_eq_true rfl) rfl ?_
  refine tq_aload_n dTr_hasSame_9 rfl rfl ?_
  obtain ⟨a7, e8, f9, hw⟩ := hw
  refine te_getr dTr_hasSame_10 fTr_45 rfl e8 f9 ?_
  refine tq_iload_n dTr_hasSame_13 rfl rfl ?_
  obtain ⟨a10, e11, f12, hw⟩ := hw
  refine te_callV mv_Ro_at (ci := 7) (dc := 0) (as := [vI x2]) (rest := []) kTr_56 rfl (Nat.le_of_ble_eq_true rfl) (Nat.le_of_ble_eq_true rfl) rfl rfl e11 f12 (Nat.le_of_ble_eq_true rfl) dTr_hasSame_14 (s_Ro_at hw) (fun _ _ hx => False.elim hx) (tk_i fun v14 h13 hw => ?_)
  refine tq_istore (ls' := [some (vR (some o)), some (vR x1), some (vI x2), some (vI v6), some (vI v14)]) dTr_hasSame_17 (Nat.le_of_ble_eq_true rfl) rfl ?_
  refine tq_iload_n dTr_hasSame_19 rfl rfl ?_
  refine tq_iconst (v := (-1 : Int32)) dTr_hasSame_20 tni_m1 ?_
  refine tq_icmpeq (tgt := 88) dTr_hasSame_21 (by decide) (fun c15 => ?_) (fun c15 => ?_)
  · have hw := hw.1 c15
    refine tq_iconst (v := (0 : Int32)) dTr_hasSame_88 tni_0 ?_
    exact tq_iret rfl (by decide) dTr_hasSame_89 hw
  · have hw := hw.2 c15
    refine tq_iload dTr_hasSame_24 rfl ?_
    refine tq_iconst (v := (-1 : Int32)) dTr_hasSame_26 tni_m1 ?_
    refine tq_icmpeq (tgt := 88) dTr_hasSame_27 (by decide) (fun c16 => ?_) (fun c16 => ?_)
    · have hw := hw.1 c16
      refine tq_iconst (v := (0 : Int32)) dTr_hasSame_88 tni_0 ?_
      exact tq_iret rfl (by decide) dTr_hasSame_89 hw
    · have hw := hw.2 c16
      refine tq_aload_n dTr_hasSame_30 rfl rfl ?_
      obtain ⟨f17, hw⟩ := hw
      refine te_getr dTr_hasSame_31 fTr_24 rfl rfl f17 ?_
      refine tq_iload_n dTr_hasSame_34 rfl rfl ?_
      obtain ⟨a18, e19, f20, hw⟩ := hw
      refine te_callV mv_Ro_at (ci := 7) (dc := 0) (as := [vI v6]) (rest := []) kTr_56 rfl (Nat.le_of_ble_eq_true rfl) (Nat.le_of_ble_eq_true rfl) rfl rfl e19 f20 (Nat.le_of_ble_eq_true rfl) dTr_hasSame_35 (s_Ro_at hw) (fun _ _ hx => False.elim hx) (tk_i fun v22 h21 hw => ?_)
      refine tq_aload_n dTr_hasSame_38 rfl rfl ?_
      obtain ⟨f23, hw⟩ := hw
      refine te_getr dTr_hasSame_39 fTr_24 rfl e8 f23 ?_
      refine tq_iload dTr_hasSame_42 rfl ?_
      obtain ⟨a24, e25, f26, hw⟩ := hw
      refine te_callV mv_Ro_at (ci := 7) (dc := 0) (as := [vI v14]) (rest := [vI v22]) kTr_56 rfl (Nat.le_of_ble_eq_true rfl) (Nat.le_of_ble_eq_true rfl) rfl rfl e25 f26 (Nat.le_of_ble_eq_true rfl) dTr_hasSame_44 (s_Ro_at hw) (fun _ _ hx => False.elim hx) (tk_i fun v28 h27 hw => ?_)
      refine tq_icmpne (tgt := 88) dTr_hasSame_47 (by decide) (fun c29 => ?_) (fun c29 => ?_)
      · have hw := hw.1 c29
        refine tq_iconst (v := (0 : Int32)) dTr_hasSame_88 tni_0 ?_
        exact tq_iret rfl (by decide) dTr_hasSame_89 hw
      · have hw := hw.2 c29
        refine tq_aload_n dTr_hasSame_50 rfl rfl ?_
        obtain ⟨f30, hw⟩ := hw
        refine te_getr dTr_hasSame_51 fTr_20 rfl rfl f30 ?_
        refine tq_aload_n dTr_hasSame_54 rfl rfl ?_
        refine te_getr dTr_hasSame_55 fTr_27 rfl rfl f30 ?_
        refine tq_iload_n dTr_hasSame_58 rfl rfl ?_
        obtain ⟨a31, e32, f33, hw⟩ := hw
        refine te_callV mv_Ro_at (ci := 7) (dc := 0) (as := [vI v6]) (rest := [vR (hR h27 o 1)]) kTr_56 rfl (Nat.le_of_ble_eq_true rfl) (Nat.le_of_ble_eq_true rfl) rfl rfl e32 f33 (Nat.le_of_ble_eq_true rfl) dTr_hasSame_59 (s_Ro_at hw) (fun _ _ hx => False.elim hx) (tk_i fun v35 h34 hw => ?_)
        obtain ⟨a36, e37, f38, hw⟩ := hw
        refine te_callV mv_Ro_at (ci := 7) (dc := 0) (as := [vI v35]) (rest := []) kTr_56 rfl (Nat.le_of_ble_eq_true rfl) (Nat.le_of_ble_eq_true rfl) rfl rfl e37 f38 (Nat.le_of_ble_eq_true rfl) dTr_hasSame_62 (s_Ro_at hw) (fun _ _ hx => False.elim hx) (tk_i fun v40 h39 hw => ?_)
        refine tq_aload_n dTr_hasSame_65 rfl rfl ?_
        obtain ⟨f41, hw⟩ := hw
        refine te_getr dTr_hasSame_66 fTr_20 rfl e8 f41 ?_
        refine tq_aload_n dTr_hasSame_69 rfl rfl ?_
        refine te_getr dTr_hasSame_70 fTr_27 rfl e8 f41 ?_
        refine tq_iload dTr_hasSame_73 rfl ?_
        obtain ⟨a42, e43, f44, hw⟩ := hw
        refine te_callV mv_Ro_at (ci := 7) (dc := 0) (as := [vI v14]) (rest := [vR (hR h39 a7 1), vI v40]) kTr_56 rfl (Nat.le_of_ble_eq_true rfl) (Nat.le_of_ble_eq_true rfl) rfl rfl e43 f44 (Nat.le_of_ble_eq_true rfl) dTr_hasSame_75 (s_Ro_at hw) (fun _ _ hx => False.elim hx) (tk_i fun v46 h45 hw => ?_)
        obtain ⟨a47, e48, f49, hw⟩ := hw
        refine te_callV mv_Ro_at (ci := 7) (dc := 0) (as := [vI v46]) (rest := [vI v40]) kTr_56 rfl (Nat.le_of_ble_eq_true rfl) (Nat.le_of_ble_eq_true rfl) rfl rfl e48 f49 (Nat.le_of_ble_eq_true rfl) dTr_hasSame_78 (s_Ro_at hw) (fun _ _ hx => False.elim hx) (tk_i fun v51 h50 hw => ?_)
        refine tq_icmpne (tgt := 88) dTr_hasSame_81 (by decide) (fun c52 => ?_) (fun c52 => ?_)
        · have hw := hw.1 c52
          refine tq_iconst (v := (0 : Int32)) dTr_hasSame_88 tni_0 ?_
          exact tq_iret rfl (by decide) dTr_hasSame_89 hw
        · have hw := hw.2 c52
          refine tq_iconst (v := (1 : Int32)) dTr_hasSame_84 tni_1 ?_
          refine tq_goto (tgt := 89) dTr_hasSame_85 (by decide) ?_
          exact tq_iret rfl (by decide) dTr_hasSame_89 hw
/-! T$Tree.kidsOf -/
theorem dTr_kidsOf_0 : decode (mB Tr_kidsOf) 0 = .ok (.aload_n 0, 1) := by decide +kernel
theorem dTr_kidsOf_1 : decode (mB Tr_kidsOf) 1 = .ok (.getfield 39, 3) := by decide +kernel
theorem dTr_kidsOf_4 : decode (mB Tr_kidsOf) 4 = .ok (.iload_n 1, 1) := by decide +kernel
theorem dTr_kidsOf_5 : decode (mB Tr_kidsOf) 5 = .ok (.invokevirtual 56, 3) := by decide +kernel
theorem dTr_kidsOf_8 : decode (mB Tr_kidsOf) 8 = .ok (.ireturn, 1) := by decide +kernel
def w_Tr_kidsOf (o : Nat) (x1 : Int32) (h : tpH) (R : Int32 → tpH → Prop) : Prop :=
  hT h o = 12 ∧ (∃ a2, (hR h o 7) = some a2 ∧ hT h a2 = 8 ∧ (w_Ro_at a2 x1 h (fun v6 h5 => R v6 h5)))
theorem s_Tr_kidsOf {o : Nat} {x1 : Int32} {h : tpH} {R : Int32 → tpH → Prop} (hw : w_Tr_kidsOf o x1 h R) : tpC Tr_kidsOf 1 [vR (some o), vI x1] h (tpOi R (fun _ _ => False)) := by
  refine tpC_of mv_Tr_kidsOf.2.2.2.1 rfl rfl (Nat.le_of_ble_eq_true rfl) ?_
  show tpR Tr_kidsOf 1 h _ _ 0 [some (vR (some o)), some (vI x1)] [] h
  unfold w_Tr_kidsOf at hw
  refine tq_aload_n dTr_kidsOf_0 rfl rfl ?_
  obtain ⟨f1, hw⟩ := hw
  refine te_getr dTr_kidsOf_1 fTr_39 rfl rfl f1 ?_
  refine tq_iload_n dTr_kidsOf_4 rfl rfl ?_
  obtain ⟨a2, e3, f4, hw⟩ := hw
  refine te_callV mv_Ro_at (ci := 7) (dc := 0) (as := [vI x1]) (rest := []) kTr_56 rfl (Nat.le_of_ble_eq_true rfl) (Nat.le_of_ble_eq_true rfl) rfl rfl e3 f4 (Nat.le_of_ble_eq_true rfl) dTr_kidsOf_5 (s_Ro_at hw) (fun _ _ hx => False.elim hx) (tk_i fun v6 h5 hw => ?_)
  exact tq_iret rfl rfl dTr_kidsOf_8 hw
/-! T$Tree.kid -/
theorem dTr_kid_0 : decode (mB Tr_kid) 0 = .ok (.iload_n 2, 1) := by decide +kernel
theorem dTr_kid_1 : decode (mB Tr_kid) 1 = .ok (.ifCond .lt 35, 3) := by decide +kernel
theorem dTr_kid_4 : decode (mB Tr_kid) 4 = .ok (.iload_n 2, 1) := by decide +kernel
theorem dTr_kid_5 : decode (mB Tr_kid) 5 = .ok (.aload_n 0, 1) := by decide +kernel
theorem dTr_kid_6 : decode (mB Tr_kid) 6 = .ok (.getfield 39, 3) := by decide +kernel
theorem dTr_kid_9 : decode (mB Tr_kid) 9 = .ok (.iload_n 1, 1) := by decide +kernel
theorem dTr_kid_10 : decode (mB Tr_kid) 10 = .ok (.invokevirtual 56, 3) := by decide +kernel
theorem dTr_kid_13 : decode (mB Tr_kid) 13 = .ok (.if_icmp .ge 23, 3) := by decide +kernel
theorem dTr_kid_16 : decode (mB Tr_kid) 16 = .ok (.aload_n 0, 1) := by decide +kernel
theorem dTr_kid_17 : decode (mB Tr_kid) 17 = .ok (.getfield 42, 3) := by decide +kernel
theorem dTr_kid_20 : decode (mB Tr_kid) 20 = .ok (.aload_n 0, 1) := by decide +kernel
theorem dTr_kid_21 : decode (mB Tr_kid) 21 = .ok (.getfield 36, 3) := by decide +kernel
theorem dTr_kid_24 : decode (mB Tr_kid) 24 = .ok (.iload_n 1, 1) := by decide +kernel
theorem dTr_kid_25 : decode (mB Tr_kid) 25 = .ok (.invokevirtual 56, 3) := by decide +kernel
theorem dTr_kid_28 : decode (mB Tr_kid) 28 = .ok (.iload_n 2, 1) := by decide +kernel
theorem dTr_kid_29 : decode (mB Tr_kid) 29 = .ok (.iadd, 1) := by decide +kernel
theorem dTr_kid_30 : decode (mB Tr_kid) 30 = .ok (.invokevirtual 56, 3) := by decide +kernel
theorem dTr_kid_33 : decode (mB Tr_kid) 33 = .ok (.goto 4, 3) := by decide +kernel
theorem dTr_kid_36 : decode (mB Tr_kid) 36 = .ok (.iconst (-1), 1) := by decide +kernel
theorem dTr_kid_37 : decode (mB Tr_kid) 37 = .ok (.ireturn, 1) := by decide +kernel
def w_Tr_kid (o : Nat) (x1 : Int32) (x2 : Int32) (h : tpH) (R : Int32 → tpH → Prop) : Prop :=
  (x2 < 0 → (R (-1 : Int32) h)) ∧ (¬ x2 < 0 → (hT h o = 12 ∧ (∃ a3, (hR h o 7) = some a3 ∧ hT h a3 = 8 ∧ (w_Ro_at a3 x1 h (fun v7 h6 => (v7 ≤ x2 → (R (-1 : Int32) h6)) ∧ (¬ v7 ≤ x2 → (hT h6 o = 12 ∧ (∃ a10, (hR h6 o 6) = some a10 ∧ hT h6 a10 = 8 ∧ (w_Ro_at a10 x1 h6 (fun v14 h13 => ∃ a15, (hR h6 o 8) = some a15 ∧ hT h13 a15 = 8 ∧ (w_Ro_at a15 (v14 + x2) h13 (fun v19 h18 => R v19 h18))))))))))))
theorem s_Tr_kid {o : Nat} {x1 : Int32} {x2 : Int32} {h : tpH} {R : Int32 → tpH → Prop} (hw : w_Tr_kid o x1 x2 h R) : tpC Tr_kid 1 [vR (some o), vI x1, vI x2] h (tpOi R (fun _ _ => False)) := by
  refine tpC_of mv_Tr_kid.2.2.2.1 rfl rfl (Nat.le_of_ble_eq_true rfl) ?_
  show tpR Tr_kid 1 h _ _ 0 [some (vR (some o)), some (vI x1), some (vI x2)] [] h
  unfold w_Tr_kid at hw
  refine tq_iload_n dTr_kid_0 rfl rfl ?_
  refine tq_iflt (tgt := 36) dTr_kid_1 (by decide) (fun c1 => ?_) (fun c1 => ?_)
  · have hw := hw.1 c1
    refine tq_iconst (v := (-1 : Int32)) dTr_kid_36 tni_m1 ?_
    exact tq_iret rfl rfl dTr_kid_37 hw
  · have hw := hw.2 c1
    refine tq_iload_n dTr_kid_4 rfl rfl ?_
    refine tq_aload_n dTr_kid_5 rfl rfl ?_
    obtain ⟨f2, hw⟩ := hw
    refine te_getr dTr_kid_6 fTr_39 rfl rfl f2 ?_
    refine tq_iload_n dTr_kid_9 rfl rfl ?_
    obtain ⟨a3, e4, f5, hw⟩ := hw
    refine te_callV mv_Ro_at (ci := 7) (dc := 0) (as := [vI x1]) (rest := [vI x2]) kTr_56 rfl (Nat.le_of_ble_eq_true rfl) (Nat.le_of_ble_eq_true rfl) rfl rfl e4 f5 (Nat.le_of_ble_eq_true rfl) dTr_kid_10 (s_Ro_at hw) (fun _ _ hx => False.elim hx) (tk_i fun v7 h6 hw => ?_)
    refine tq_icmpge (tgt := 36) dTr_kid_13 (by decide) (fun c8 => ?_) (fun c8 => ?_)
    · have hw := hw.1 c8
      refine tq_iconst (v := (-1 : Int32)) dTr_kid_36 tni_m1 ?_
      exact tq_iret rfl rfl dTr_kid_37 hw
    · have hw := hw.2 c8
      refine tq_aload_n dTr_kid_16 rfl rfl ?_
      obtain ⟨f9, hw⟩ := hw
      refine te_getr dTr_kid_17 fTr_42 rfl rfl f9 ?_
      refine tq_aload_n dTr_kid_20 rfl rfl ?_
      refine te_getr dTr_kid_21 fTr_36 rfl rfl f9 ?_
      refine tq_iload_n dTr_kid_24 rfl rfl ?_
      obtain ⟨a10, e11, f12, hw⟩ := hw
      refine te_callV mv_Ro_at (ci := 7) (dc := 0) (as := [vI x1]) (rest := [vR (hR h6 o 8)]) kTr_56 rfl (Nat.le_of_ble_eq_true rfl) (Nat.le_of_ble_eq_true rfl) rfl rfl e11 f12 (Nat.le_of_ble_eq_true rfl) dTr_kid_25 (s_Ro_at hw) (fun _ _ hx => False.elim hx) (tk_i fun v14 h13 hw => ?_)
      refine tq_iload_n dTr_kid_28 rfl rfl ?_
      refine tq_iadd dTr_kid_29 ?_
      obtain ⟨a15, e16, f17, hw⟩ := hw
      refine te_callV mv_Ro_at (ci := 7) (dc := 0) (as := [vI (v14 + x2)]) (rest := []) kTr_56 rfl (Nat.le_of_ble_eq_true rfl) (Nat.le_of_ble_eq_true rfl) rfl rfl e16 f17 (Nat.le_of_ble_eq_true rfl) dTr_kid_30 (s_Ro_at hw) (fun _ _ hx => False.elim hx) (tk_i fun v19 h18 hw => ?_)
      refine tq_goto (tgt := 37) dTr_kid_33 (by decide) ?_
      exact tq_iret rfl rfl dTr_kid_37 hw
/-! T$Tree.hasUnder -/
theorem dTr_hasUnder_0 : decode (mB Tr_hasUnder) 0 = .ok (.aload_n 0, 1) := by decide +kernel
theorem dTr_hasUnder_1 : decode (mB Tr_hasUnder) 1 = .ok (.getfield 45, 3) := by decide +kernel
theorem dTr_hasUnder_4 : decode (mB Tr_hasUnder) 4 = .ok (.iload_n 1, 1) := by decide +kernel
theorem dTr_hasUnder_5 : decode (mB Tr_hasUnder) 5 = .ok (.invokevirtual 56, 3) := by decide +kernel
theorem dTr_hasUnder_8 : decode (mB Tr_hasUnder) 8 = .ok (.istore_n 3, 1) := by decide +kernel
theorem dTr_hasUnder_9 : decode (mB Tr_hasUnder) 9 = .ok (.iload_n 3, 1) := by decide +kernel
theorem dTr_hasUnder_10 : decode (mB Tr_hasUnder) 10 = .ok (.iconst (-1), 1) := by decide +kernel
theorem dTr_hasUnder_11 : decode (mB Tr_hasUnder) 11 = .ok (.if_icmp .eq 26, 3) := by decide +kernel
theorem dTr_hasUnder_14 : decode (mB Tr_hasUnder) 14 = .ok (.aload_n 0, 1) := by decide +kernel
theorem dTr_hasUnder_15 : decode (mB Tr_hasUnder) 15 = .ok (.getfield 20, 3) := by decide +kernel
theorem dTr_hasUnder_18 : decode (mB Tr_hasUnder) 18 = .ok (.aload_n 0, 1) := by decide +kernel
theorem dTr_hasUnder_19 : decode (mB Tr_hasUnder) 19 = .ok (.getfield 27, 3) := by decide +kernel
theorem dTr_hasUnder_22 : decode (mB Tr_hasUnder) 22 = .ok (.iload_n 3, 1) := by decide +kernel
theorem dTr_hasUnder_23 : decode (mB Tr_hasUnder) 23 = .ok (.invokevirtual 56, 3) := by decide +kernel
theorem dTr_hasUnder_26 : decode (mB Tr_hasUnder) 26 = .ok (.invokevirtual 56, 3) := by decide +kernel
theorem dTr_hasUnder_29 : decode (mB Tr_hasUnder) 29 = .ok (.iload_n 2, 1) := by decide +kernel
theorem dTr_hasUnder_30 : decode (mB Tr_hasUnder) 30 = .ok (.if_icmp .ne 7, 3) := by decide +kernel
theorem dTr_hasUnder_33 : decode (mB Tr_hasUnder) 33 = .ok (.iconst 1, 1) := by decide +kernel
theorem dTr_hasUnder_34 : decode (mB Tr_hasUnder) 34 = .ok (.goto 4, 3) := by decide +kernel
theorem dTr_hasUnder_37 : decode (mB Tr_hasUnder) 37 = .ok (.iconst 0, 1) := by decide +kernel
theorem dTr_hasUnder_38 : decode (mB Tr_hasUnder) 38 = .ok (.ireturn, 1) := by decide +kernel
def w_Tr_hasUnder (o : Nat) (x1 : Int32) (x2 : Int32) (h : tpH) (R : Int32 → tpH → Prop) : Prop :=
  hT h o = 12 ∧ (∃ a2, (hR h o 9) = some a2 ∧ hT h a2 = 8 ∧ (w_Ro_at a2 x1 h (fun v6 h5 => (v6 = (-1 : Int32) → (R (0 : Int32) h5)) ∧ (¬ v6 = (-1 : Int32) → (hT h5 o = 12 ∧ (∃ a9, (hR h5 o 3) = some a9 ∧ hT h5 a9 = 8 ∧ (w_Ro_at a9 v6 h5 (fun v13 h12 => ∃ a14, (hR h5 o 1) = some a14 ∧ hT h12 a14 = 8 ∧ (w_Ro_at a14 v13 h12 (fun v18 h17 => (¬ v18 = x2 → (R (0 : Int32) h17)) ∧ (v18 = x2 → (R (1 : Int32) h17))))))))))))
theorem s_Tr_hasUnder {o : Nat} {x1 : Int32} {x2 : Int32} {h : tpH} {R : Int32 → tpH → Prop} (hw : w_Tr_hasUnder o x1 x2 h R) : tpC Tr_hasUnder 1 [vR (some o), vI x1, vI x2] h (tpOi R (fun _ _ => False)) := by
  refine tpC_of mv_Tr_hasUnder.2.2.2.1 rfl rfl (Nat.le_of_ble_eq_true rfl) ?_
  show tpR Tr_hasUnder 1 h _ _ 0 [some (vR (some o)), some (vI x1), some (vI x2), none] [] h
  unfold w_Tr_hasUnder at hw
  refine tq_aload_n dTr_hasUnder_0 rfl rfl ?_
  obtain ⟨f1, hw⟩ := hw
  refine te_getr dTr_hasUnder_1 fTr_45 rfl rfl f1 ?_
  refine tq_iload_n dTr_hasUnder_4 rfl rfl ?_
  obtain ⟨a2, e3, f4, hw⟩ := hw
  refine te_callV mv_Ro_at (ci := 7) (dc := 0) (as := [vI x1]) (rest := []) kTr_56 rfl (Nat.le_of_ble_eq_true rfl) (Nat.le_of_ble_eq_true rfl) rfl rfl e3 f4 (Nat.le_of_ble_eq_true rfl) dTr_hasUnder_5 (s_Ro_at hw) (fun _ _ hx => False.elim hx) (tk_i fun v6 h5 hw => ?_)
  refine tq_istore_n (ls' := [some (vR (some o)), some (vI x1), some (vI x2), some (vI v6)]) dTr_hasUnder_8 rfl (Nat.le_of_ble_eq_true rfl) rfl ?_
  refine tq_iload_n dTr_hasUnder_9 rfl rfl ?_
  refine tq_iconst (v := (-1 : Int32)) dTr_hasUnder_10 tni_m1 ?_
  refine tq_icmpeq (tgt := 37) dTr_hasUnder_11 (by decide) (fun c7 => ?_) (fun c7 => ?_)
  · have hw := hw.1 c7
    refine tq_iconst (v := (0 : Int32)) dTr_hasUnder_37 tni_0 ?_
    exact tq_iret rfl (by decide) dTr_hasUnder_38 hw
  · have hw := hw.2 c7
    refine tq_aload_n dTr_hasUnder_14 rfl rfl ?_
    obtain ⟨f8, hw⟩ := hw
    refine te_getr dTr_hasUnder_15 fTr_20 rfl rfl f8 ?_
    refine tq_aload_n dTr_hasUnder_18 rfl rfl ?_
    refine te_getr dTr_hasUnder_19 fTr_27 rfl rfl f8 ?_
    refine tq_iload_n dTr_hasUnder_22 rfl rfl ?_
    obtain ⟨a9, e10, f11, hw⟩ := hw
    refine te_callV mv_Ro_at (ci := 7) (dc := 0) (as := [vI v6]) (rest := [vR (hR h5 o 1)]) kTr_56 rfl (Nat.le_of_ble_eq_true rfl) (Nat.le_of_ble_eq_true rfl) rfl rfl e10 f11 (Nat.le_of_ble_eq_true rfl) dTr_hasUnder_23 (s_Ro_at hw) (fun _ _ hx => False.elim hx) (tk_i fun v13 h12 hw => ?_)
    obtain ⟨a14, e15, f16, hw⟩ := hw
    refine te_callV mv_Ro_at (ci := 7) (dc := 0) (as := [vI v13]) (rest := []) kTr_56 rfl (Nat.le_of_ble_eq_true rfl) (Nat.le_of_ble_eq_true rfl) rfl rfl e15 f16 (Nat.le_of_ble_eq_true rfl) dTr_hasUnder_26 (s_Ro_at hw) (fun _ _ hx => False.elim hx) (tk_i fun v18 h17 hw => ?_)
    refine tq_iload_n dTr_hasUnder_29 rfl rfl ?_
    refine tq_icmpne (tgt := 37) dTr_hasUnder_30 (by decide) (fun c19 => ?_) (fun c19 => ?_)
    · have hw := hw.1 c19
      refine tq_iconst (v := (0 : Int32)) dTr_hasUnder_37 tni_0 ?_
      exact tq_iret rfl (by decide) dTr_hasUnder_38 hw
    · have hw := hw.2 c19
      refine tq_iconst (v := (1 : Int32)) dTr_hasUnder_33 tni_1 ?_
      refine tq_goto (tgt := 38) dTr_hasUnder_34 (by decide) ?_
      exact tq_iret rfl (by decide) dTr_hasUnder_38 hw
/-! T$Tree.rankOf -/
theorem dTr_rankOf_0 : decode (mB Tr_rankOf) 0 = .ok (.aload_n 0, 1) := by decide +kernel
theorem dTr_rankOf_1 : decode (mB Tr_rankOf) 1 = .ok (.getfield 33, 3) := by decide +kernel
theorem dTr_rankOf_4 : decode (mB Tr_rankOf) 4 = .ok (.iload_n 1, 1) := by decide +kernel
theorem dTr_rankOf_5 : decode (mB Tr_rankOf) 5 = .ok (.invokevirtual 56, 3) := by decide +kernel
theorem dTr_rankOf_8 : decode (mB Tr_rankOf) 8 = .ok (.ireturn, 1) := by decide +kernel
def w_Tr_rankOf (o : Nat) (x1 : Int32) (h : tpH) (R : Int32 → tpH → Prop) : Prop :=
  hT h o = 12 ∧ (∃ a2, (hR h o 5) = some a2 ∧ hT h a2 = 8 ∧ (w_Ro_at a2 x1 h (fun v6 h5 => R v6 h5)))
theorem s_Tr_rankOf {o : Nat} {x1 : Int32} {h : tpH} {R : Int32 → tpH → Prop} (hw : w_Tr_rankOf o x1 h R) : tpC Tr_rankOf 1 [vR (some o), vI x1] h (tpOi R (fun _ _ => False)) := by
  refine tpC_of mv_Tr_rankOf.2.2.2.1 rfl rfl (Nat.le_of_ble_eq_true rfl) ?_
  show tpR Tr_rankOf 1 h _ _ 0 [some (vR (some o)), some (vI x1)] [] h
  unfold w_Tr_rankOf at hw
  refine tq_aload_n dTr_rankOf_0 rfl rfl ?_
  obtain ⟨f1, hw⟩ := hw
  refine te_getr dTr_rankOf_1 fTr_33 rfl rfl f1 ?_
  refine tq_iload_n dTr_rankOf_4 rfl rfl ?_
  obtain ⟨a2, e3, f4, hw⟩ := hw
  refine te_callV mv_Ro_at (ci := 7) (dc := 0) (as := [vI x1]) (rest := []) kTr_56 rfl (Nat.le_of_ble_eq_true rfl) (Nat.le_of_ble_eq_true rfl) rfl rfl e3 f4 (Nat.le_of_ble_eq_true rfl) dTr_rankOf_5 (s_Ro_at hw) (fun _ _ hx => False.elim hx) (tk_i fun v6 h5 hw => ?_)
  exact tq_iret rfl rfl dTr_rankOf_8 hw
