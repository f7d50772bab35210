/-! T$Likes.<init> -/
theorem dLi_init_0 : decode (mB Li_init) 0 = .ok (.aload_n 0, 1) := by decide +kernel
theorem dLi_init_1 : decode (mB Li_init) 1 = .ok (.invokespecial 3, 3) := by decide +kernel
theorem dLi_init_4 : decode (mB Li_init) 4 = .ok (.aload_n 0, 1) := by decide +kernel
theorem dLi_init_5 : decode (mB Li_init) 5 = .ok (.new 9, 3) := by decide +kernel
theorem dLi_init_8 : decode (mB Li_init) 8 = .ok (.dup, 1) := by decide +kernel
theorem dLi_init_9 : decode (mB Li_init) 9 = .ok (.sipush 600, 3) := by decide +kernel
theorem dLi_init_12 : decode (mB Li_init) 12 = .ok (.invokespecial 11, 3) := by decide +kernel
theorem dLi_init_15 : decode (mB Li_init) 15 = .ok (.putfield 14, 3) := by decide +kernel
theorem dLi_init_18 : decode (mB Li_init) 18 = .ok (.aload_n 0, 1) := by decide +kernel
theorem dLi_init_19 : decode (mB Li_init) 19 = .ok (.new 9, 3) := by decide +kernel
theorem dLi_init_22 : decode (mB Li_init) 22 = .ok (.dup, 1) := by decide +kernel
theorem dLi_init_23 : decode (mB Li_init) 23 = .ok (.sipush 600, 3) := by decide +kernel
theorem dLi_init_26 : decode (mB Li_init) 26 = .ok (.invokespecial 11, 3) := by decide +kernel
theorem dLi_init_29 : decode (mB Li_init) 29 = .ok (.putfield 20, 3) := by decide +kernel
theorem dLi_init_32 : decode (mB Li_init) 32 = .ok (.aload_n 0, 1) := by decide +kernel
theorem dLi_init_33 : decode (mB Li_init) 33 = .ok (.new 9, 3) := by decide +kernel
theorem dLi_init_36 : decode (mB Li_init) 36 = .ok (.dup, 1) := by decide +kernel
theorem dLi_init_37 : decode (mB Li_init) 37 = .ok (.sipush 600, 3) := by decide +kernel
theorem dLi_init_40 : decode (mB Li_init) 40 = .ok (.invokespecial 11, 3) := by decide +kernel
theorem dLi_init_43 : decode (mB Li_init) 43 = .ok (.putfield 23, 3) := by decide +kernel
theorem dLi_init_46 : decode (mB Li_init) 46 = .ok (.aload_n 0, 1) := by decide +kernel
theorem dLi_init_47 : decode (mB Li_init) 47 = .ok (.new 9, 3) := by decide +kernel
theorem dLi_init_50 : decode (mB Li_init) 50 = .ok (.dup, 1) := by decide +kernel
theorem dLi_init_51 : decode (mB Li_init) 51 = .ok (.sipush 600, 3) := by decide +kernel
theorem dLi_init_54 : decode (mB Li_init) 54 = .ok (.invokespecial 11, 3) := by decide +kernel
theorem dLi_init_57 : decode (mB Li_init) 57 = .ok (.putfield 26, 3) := by decide +kernel
theorem dLi_init_60 : decode (mB Li_init) 60 = .ok (.aload_n 0, 1) := by decide +kernel
theorem dLi_init_61 : decode (mB Li_init) 61 = .ok (.new 9, 3) := by decide +kernel
theorem dLi_init_64 : decode (mB Li_init) 64 = .ok (.dup, 1) := by decide +kernel
theorem dLi_init_65 : decode (mB Li_init) 65 = .ok (.sipush 600, 3) := by decide +kernel
theorem dLi_init_68 : decode (mB Li_init) 68 = .ok (.invokespecial 11, 3) := by decide +kernel
theorem dLi_init_71 : decode (mB Li_init) 71 = .ok (.putfield 29, 3) := by decide +kernel
theorem dLi_init_74 : decode (mB Li_init) 74 = .ok (.aload_n 0, 1) := by decide +kernel
theorem dLi_init_75 : decode (mB Li_init) 75 = .ok (.new 9, 3) := by decide +kernel
theorem dLi_init_78 : decode (mB Li_init) 78 = .ok (.dup, 1) := by decide +kernel
theorem dLi_init_79 : decode (mB Li_init) 79 = .ok (.sipush 600, 3) := by decide +kernel
theorem dLi_init_82 : decode (mB Li_init) 82 = .ok (.invokespecial 11, 3) := by decide +kernel
theorem dLi_init_85 : decode (mB Li_init) 85 = .ok (.putfield 32, 3) := by decide +kernel
theorem dLi_init_88 : decode (mB Li_init) 88 = .ok (.aload_n 0, 1) := by decide +kernel
theorem dLi_init_89 : decode (mB Li_init) 89 = .ok (.aload_n 1, 1) := by decide +kernel
theorem dLi_init_90 : decode (mB Li_init) 90 = .ok (.putfield 35, 3) := by decide +kernel
theorem dLi_init_93 : decode (mB Li_init) 93 = .ok (.return_, 1) := by decide +kernel
def w_Li_init (o : Nat) (x1 : Option Nat) (h : tpH) (R : tpH → Prop) : Prop :=
  ∀ a1 h2, a1 = hZ h → h2 = nC h 8 0 2 → (w_Ro_init a1 (600 : Int32) h2 (fun h5 => hT h5 o = 4 ∧ (∀ h7, h7 = sR h5 o 1 (some a1) → (∀ a9 h10, a9 = hZ h7 → h10 = nC h7 8 0 2 → (w_Ro_init a9 (600 : Int32) h10 (fun h13 => hT h13 o = 4 ∧ (∀ h15, h15 = sR h13 o 2 (some a9) → (∀ a17 h18, a17 = hZ h15 → h18 = nC h15 8 0 2 → (w_Ro_init a17 (600 : Int32) h18 (fun h21 => hT h21 o = 4 ∧ (∀ h23, h23 = sR h21 o 3 (some a17) → (∀ a25 h26, a25 = hZ h23 → h26 = nC h23 8 0 2 → (w_Ro_init a25 (600 : Int32) h26 (fun h29 => hT h29 o = 4 ∧ (∀ h31, h31 = sR h29 o 4 (some a25) → (∀ a33 h34, a33 = hZ h31 → h34 = nC h31 8 0 2 → (w_Ro_init a33 (600 : Int32) h34 (fun h37 => hT h37 o = 4 ∧ (∀ h39, h39 = sR h37 o 5 (some a33) → (∀ a41 h42, a41 = hZ h39 → h42 = nC h39 8 0 2 → (w_Ro_init a41 (600 : Int32) h42 (fun h45 => hT h45 o = 4 ∧ (∀ h47, h47 = sR h45 o 6 (some a41) → (∀ h49, h49 = sR h47 o 0 x1 → (R h49)))))))))))))))))))))))))
theorem s_Li_init {o : Nat} {x1 : Option Nat} {h : tpH} {R : tpH → Prop} (hw : w_Li_init o x1 h R) : tpC Li_init 2 [vR (some o), vR x1] h (tpOv R (fun _ _ => False)) := by
  refine tpC_of mi_Li_init.2.2.2.1 rfl rfl (Nat.le_of_ble_eq_true rfl) ?_
  show tpR Li_init 2 h _ _ 0 [some (vR (some o)), some (vR x1)] [] h
  unfold w_Li_init at hw
  refine tq_aload_n dLi_init_0 rfl rfl ?_
  refine tq_obj oLi_3 (Nat.le_of_ble_eq_true rfl) (Nat.le_of_ble_eq_true rfl) dLi_init_1 ?_
  refine tq_aload_n dLi_init_4 rfl rfl ?_
  refine tq_new (ci := 7) cLi_9 ti_7 rfl dLi_init_5 (fun a1 h2 e3 e4 => ?_)
  have hw := hw a1 h2 e3 e4
  refine tq_dup dLi_init_8 rfl ?_
  refine tq_sipush (v := (600 : Int32)) dLi_init_9 tns_600 ?_
  refine te_init mi_Ro_init (dc := 1) (as := [vI (600 : Int32)]) (rest := [vR (some a1), vR (some o)]) (Or.inl kLi_11) (Nat.le_of_ble_eq_true rfl) (Nat.le_of_ble_eq_true rfl) rfl rfl rfl (Nat.le_of_ble_eq_true rfl) dLi_init_12 (s_Ro_init hw) (fun _ _ hx => hx) (tk_v fun h5 hw => ?_)
  obtain ⟨f6, hw⟩ := hw
  refine te_putr dLi_init_15 pLi_14 rfl rfl rfl f6 (fun h7 e8 => ?_)
  have hw := hw h7 e8
  refine tq_aload_n dLi_init_18 rfl rfl ?_
  refine tq_new (ci := 7) cLi_9 ti_7 rfl dLi_init_19 (fun a9 h10 e11 e12 => ?_)
  have hw := hw a9 h10 e11 e12
  refine tq_dup dLi_init_22 rfl ?_
  refine tq_sipush (v := (600 : Int32)) dLi_init_23 tns_600 ?_
  refine te_init mi_Ro_init (dc := 1) (as := [vI (600 : Int32)]) (rest := [vR (some a9), vR (some o)]) (Or.inl kLi_11) (Nat.le_of_ble_eq_true rfl) (Nat.le_of_ble_eq_true rfl) rfl rfl rfl (Nat.le_of_ble_eq_true rfl) dLi_init_26 (s_Ro_init hw) (fun _ _ hx => hx) (tk_v fun h13 hw => ?_)
  obtain ⟨f14, hw⟩ := hw
  refine te_putr dLi_init_29 pLi_20 rfl rfl rfl f14 (fun h15 e16 => ?_)
  have hw := hw h15 e16
  refine tq_aload_n dLi_init_32 rfl rfl ?_
  refine tq_new (ci := 7) cLi_9 ti_7 rfl dLi_init_33 (fun a17 h18 e19 e20 => ?_)
  have hw := hw a17 h18 e19 e20
  refine tq_dup dLi_init_36 rfl ?_
  refine tq_sipush (v := (600 : Int32)) dLi_init_37 tns_600 ?_
  refine te_init mi_Ro_init (dc := 1) (as := [vI (600 : Int32)]) (rest := [vR (some a17), vR (some o)]) (Or.inl kLi_11) (Nat.le_of_ble_eq_true rfl) (Nat.le_of_ble_eq_true rfl) rfl rfl rfl (Nat.le_of_ble_eq_true rfl) dLi_init_40 (s_Ro_init hw) (fun _ _ hx => hx) (tk_v fun h21 hw => ?_)
  obtain ⟨f22, hw⟩ := hw
  refine te_putr dLi_init_43 pLi_23 rfl rfl rfl f22 (fun h23 e24 => ?_)
  have hw := hw h23 e24
  refine tq_aload_n dLi_init_46 rfl rfl ?_
  refine tq_new (ci := 7) cLi_9 ti_7 rfl dLi_init_47 (fun a25 h26 e27 e28 => ?_)
  have hw := hw a25 h26 e27 e28
  refine tq_dup dLi_init_50 rfl ?_
  refine tq_sipush (v := (600 : Int32)) dLi_init_51 tns_600 ?_
  refine te_init mi_Ro_init (dc := 1) (as := [vI (600 : Int32)]) (rest := [vR (some a25), vR (some o)]) (Or.inl kLi_11) (Nat.le_of_ble_eq_true rfl) (Nat.le_of_ble_eq_true rfl) rfl rfl rfl (Nat.le_of_ble_eq_true rfl) dLi_init_54 (s_Ro_init hw) (fun _ _ hx => hx) (tk_v fun h29 hw => ?_)
  obtain ⟨f30, hw⟩ := hw
  refine te_putr dLi_init_57 pLi_26 rfl rfl rfl f30 (fun h31 e32 => ?_)
  have hw := hw h31 e32
  refine tq_aload_n dLi_init_60 rfl rfl ?_
  refine tq_new (ci := 7) cLi_9 ti_7 rfl dLi_init_61 (fun a33 h34 e35 e36 => ?_)
  have hw := hw a33 h34 e35 e36
  refine tq_dup dLi_init_64 rfl ?_
  refine tq_sipush (v := (600 : Int32)) dLi_init_65 tns_600 ?_
  refine te_init mi_Ro_init (dc := 1) (as := [vI (600 : Int32)]) (rest := [vR (some a33), vR (some o)]) (Or.inl kLi_11) (Nat.le_of_ble_eq_true rfl) (Nat.le_of_ble_eq_true rfl) rfl rfl rfl (Nat.le_of_ble_eq_true rfl) dLi_init_68 (s_Ro_init hw) (fun _ _ hx => hx) (tk_v fun h37 hw => ?_)
  obtain ⟨f38, hw⟩ := hw
  refine te_putr dLi_init_71 pLi_29 rfl rfl rfl f38 (fun h39 e40 => ?_)
  have hw := hw h39 e40
  refine tq_aload_n dLi_init_74 rfl rfl ?_
  refine tq_new (ci := 7) cLi_9 ti_7 rfl dLi_init_75 (fun a41 h42 e43 e44 => ?_)
  have hw := hw a41 h42 e43 e44
  refine tq_dup dLi_init_78 rfl ?_
  refine tq_sipush (v := (600 : Int32)) dLi_init_79 tns_600 ?_
  refine te_init mi_Ro_init (dc := 1) (as := [vI (600 : Int32)]) (rest := [vR (some a41), vR (some o)]) (Or.inl kLi_11) (Nat.le_of_ble_eq_true rfl) (Nat.le_of_ble_eq_true rfl) rfl rfl rfl (Nat.le_of_ble_eq_true rfl) dLi_init_82 (s_Ro_init hw) (fun _ _ hx => hx) (tk_v fun h45 hw => ?_)
  obtain ⟨f46, hw⟩ := hw
  refine te_putr dLi_init_85 pLi_32 rfl rfl rfl f46 (fun h47 e48 => ?_)
  have hw := hw h47 e48
  refine tq_aload_n dLi_init_88 rfl rfl ?_
  refine tq_aload_n dLi_init_89 rfl rfl ?_
  refine te_putr dLi_init_90 pLi_35 rfl rfl rfl (by rw [e48]; exact f46) (fun h49 e50 => ?_)
  have hw := hw h49 e50
  exact tq_vret rfl dLi_init_93 hw
/-! T$Likes.clear -/
theorem dLi_clear_0 : decode (mB Li_clear) 0 = .ok (.aload_n 0, 1) := by decide +kernel
theorem dLi_clear_1 : decode (mB Li_clear) 1 = .ok (.iconst 0, 1) := by decide +kernel
theorem dLi_clear_2 : decode (mB Li_clear) 2 = .ok (.putfield 39, 3) := by decide +kernel
theorem dLi_clear_5 : decode (mB Li_clear) 5 = .ok (.aload_n 0, 1) := by decide +kernel
theorem dLi_clear_6 : decode (mB Li_clear) 6 = .ok (.iconst 0, 1) := by decide +kernel
theorem dLi_clear_7 : decode (mB Li_clear) 7 = .ok (.putfield 43, 3) := by decide +kernel
theorem dLi_clear_10 : decode (mB Li_clear) 10 = .ok (.return_, 1) := by decide +kernel
def w_Li_clear (o : Nat) (h : tpH) (R : tpH → Prop) : Prop :=
  hT h o = 4 ∧ (∀ h2, h2 = sI h o 7 (0 : Int32) → (∀ h4, h4 = sI h2 o 8 (0 : Int32) → (R h4)))
theorem s_Li_clear {o : Nat} {h : tpH} {R : tpH → Prop} (hw : w_Li_clear o h R) : tpC Li_clear 0 [vR (some o)] h (tpOv R (fun _ _ => False)) := by
  refine tpC_of mv_Li_clear.2.2.2.1 rfl rfl (Nat.le_of_ble_eq_true rfl) ?_
  show tpR Li_clear 0 h _ _ 0 [some (vR (some o))] [] h
  unfold w_Li_clear at hw
  refine tq_aload_n dLi_clear_0 rfl rfl ?_
  refine tq_iconst (v := (0 : Int32)) dLi_clear_1 tni_0 ?_
  obtain ⟨f1, hw⟩ := hw
  refine te_puti dLi_clear_2 pLi_39 rfl rfl rfl f1 ⟨rfl, rfl⟩ (fun h2 e3 => ?_)
  have hw := hw h2 e3
  refine tq_aload_n dLi_clear_5 rfl rfl ?_
  refine tq_iconst (v := (0 : Int32)) dLi_clear_6 tni_0 ?_
  refine te_puti dLi_clear_7 pLi_43 rfl rfl rfl (by rw [e3]; exact f1) ⟨rfl, rfl⟩ (fun h4 e5 => ?_)
  have hw := hw h4 e5
  exact tq_vret rfl dLi_clear_10 hw
/-! T$Likes.layDown -/
theorem dLi_layDown_0 : decode (mB Li_layDown) 0 = .ok (.iload_n 3, 1) := by decide +kernel
theorem dLi_layDown_1 : decode (mB Li_layDown) 1 = .ok (.istore 5, 2) := by decide +kernel
theorem dLi_layDown_3 : decode (mB Li_layDown) 3 = .ok (.iload_n 3, 1) := by decide +kernel
theorem dLi_layDown_4 : decode (mB Li_layDown) 4 = .ok (.istore 6, 2) := by decide +kernel
theorem dLi_layDown_6 : decode (mB Li_layDown) 6 = .ok (.iload 4, 2) := by decide +kernel
theorem dLi_layDown_8 : decode (mB Li_layDown) 8 = .ok (.ifCond .eq 56, 3) := by decide +kernel
theorem dLi_layDown_11 : decode (mB Li_layDown) 11 = .ok (.iload 6, 2) := by decide +kernel
theorem dLi_layDown_13 : decode (mB Li_layDown) 13 = .ok (.iload_n 2, 1) := by decide +kernel
theorem dLi_layDown_14 : decode (mB Li_layDown) 14 = .ok (.if_icmp .le 50, 3) := by decide +kernel
theorem dLi_layDown_17 : decode (mB Li_layDown) 17 = .ok (.aload_n 0, 1) := by decide +kernel
theorem dLi_layDown_18 : decode (mB Li_layDown) 18 = .ok (.getfield 32, 3) := by decide +kernel
theorem dLi_layDown_21 : decode (mB Li_layDown) 21 = .ok (.iload 6, 2) := by decide +kernel
theorem dLi_layDown_23 : decode (mB Li_layDown) 23 = .ok (.iconst 1, 1) := by decide +kernel
theorem dLi_layDown_24 : decode (mB Li_layDown) 24 = .ok (.isub, 1) := by decide +kernel
theorem dLi_layDown_25 : decode (mB Li_layDown) 25 = .ok (.invokevirtual 62, 3) := by decide +kernel
theorem dLi_layDown_28 : decode (mB Li_layDown) 28 = .ok (.iload_n 1, 1) := by decide +kernel
theorem dLi_layDown_29 : decode (mB Li_layDown) 29 = .ok (.if_icmp .le 35, 3) := by decide +kernel
theorem dLi_layDown_32 : decode (mB Li_layDown) 32 = .ok (.aload_n 0, 1) := by decide +kernel
theorem dLi_layDown_33 : decode (mB Li_layDown) 33 = .ok (.getfield 32, 3) := by decide +kernel
theorem dLi_layDown_36 : decode (mB Li_layDown) 36 = .ok (.iload 6, 2) := by decide +kernel
theorem dLi_layDown_38 : decode (mB Li_layDown) 38 = .ok (.aload_n 0, 1) := by decide +kernel
theorem dLi_layDown_39 : decode (mB Li_layDown) 39 = .ok (.getfield 32, 3) := by decide +kernel
theorem dLi_layDown_42 : decode (mB Li_layDown) 42 = .ok (.iload 6, 2) := by decide +kernel
theorem dLi_layDown_44 : decode (mB Li_layDown) 44 = .ok (.iconst 1, 1) := by decide +kernel
theorem dLi_layDown_45 : decode (mB Li_layDown) 45 = .ok (.isub, 1) := by decide +kernel
theorem dLi_layDown_46 : decode (mB Li_layDown) 46 = .ok (.invokevirtual 62, 3) := by decide +kernel
theorem dLi_layDown_49 : decode (mB Li_layDown) 49 = .ok (.invokevirtual 97, 3) := by decide +kernel
theorem dLi_layDown_52 : decode (mB Li_layDown) 52 = .ok (.iload 6, 2) := by decide +kernel
theorem dLi_layDown_54 : decode (mB Li_layDown) 54 = .ok (.iconst 1, 1) := by decide +kernel
theorem dLi_layDown_55 : decode (mB Li_layDown) 55 = .ok (.isub, 1) := by decide +kernel
theorem dLi_layDown_56 : decode (mB Li_layDown) 56 = .ok (.istore 5, 2) := by decide +kernel
theorem dLi_layDown_58 : decode (mB Li_layDown) 58 = .ok (.iinc 6 (-1), 3) := by decide +kernel
theorem dLi_layDown_61 : decode (mB Li_layDown) 61 = .ok (.goto (-55), 3) := by decide +kernel
theorem dLi_layDown_64 : decode (mB Li_layDown) 64 = .ok (.aload_n 0, 1) := by decide +kernel
theorem dLi_layDown_65 : decode (mB Li_layDown) 65 = .ok (.getfield 32, 3) := by decide +kernel
theorem dLi_layDown_68 : decode (mB Li_layDown) 68 = .ok (.iload 5, 2) := by decide +kernel
theorem dLi_layDown_70 : decode (mB Li_layDown) 70 = .ok (.iload_n 1, 1) := by decide +kernel
theorem dLi_layDown_71 : decode (mB Li_layDown) 71 = .ok (.invokevirtual 97, 3) := by decide +kernel
theorem dLi_layDown_74 : decode (mB Li_layDown) 74 = .ok (.return_, 1) := by decide +kernel
def w_Li_layDown_64 (R : tpH → Prop) (o : Nat) (x1 : Int32) (x5 : Int32) (h : tpH) : Prop :=
  hT h o = 4 ∧ (∃ a2, (hR h o 6) = some a2 ∧ hT h a2 = 8 ∧ (w_Ro_put a2 x5 x1 h (fun h5 => R h5)))
def b_Li_layDown_6 (R : tpH → Prop) (Y : Nat → Int32 → Int32 → Int32 → Int32 → Int32 → tpH → Prop) (o : Nat) (x1 : Int32) (x2 : Int32) (x4 : Int32) (x5 : Int32) (x6 : Int32) (h : tpH) : Prop :=
  (x4 = 0 → (w_Li_layDown_64 R o x1 x5 h)) ∧ (¬ x4 = 0 → ((x6 ≤ x2 → (w_Li_layDown_64 R o x1 x5 h)) ∧ (¬ x6 ≤ x2 → (hT h o = 4 ∧ (∃ a4, (hR h o 6) = some a4 ∧ hT h a4 = 8 ∧ (w_Ro_at a4 (x6 - (1 : Int32)) h (fun v8 h7 => (v8 ≤ x1 → (w_Li_layDown_64 R o x1 x5 h7)) ∧ (¬ v8 ≤ x1 → (hT h7 o = 4 ∧ (∃ a11, (hR h7 o 6) = some a11 ∧ hT h7 a11 = 8 ∧ (w_Ro_at a11 (x6 - (1 : Int32)) h7 (fun v15 h14 => hT h14 a11 = 8 ∧ (w_Ro_put a11 x6 v15 h14 (fun h17 => Y o x1 x2 x4 (x6 - (1 : Int32)) (x6 + (-1 : Int32)) h17))))))))))))))
def w_Li_layDown_6 (R : tpH → Prop) : Nat → Nat → Int32 → Int32 → Int32 → Int32 → Int32 → tpH → Prop
  | 0 => fun _ _ _ _ _ _ _ => False
  | n + 1 => b_Li_layDown_6 R (w_Li_layDown_6 R n)
def w_Li_layDown (o : Nat) (x1 : Int32) (x2 : Int32) (x3 : Int32) (x4 : Int32) (h : tpH) (R : tpH → Prop) : Prop :=
  ∃ n, w_Li_layDown_6 R n o x1 x2 x4 x3 x3 h
theorem s_Li_layDown_64 {h0 : tpH} {av : List tpV} {R : tpH → Prop} : ∀ (o : Nat) (x1 : Int32) (x5 : Int32) (h : tpH), w_Li_layDown_64 R o x1 x5 h → tpR Li_layDown 1 h0 av (tpOv R (fun _ _ => False)) 64 [some (vR (some o)), some (vI x1), none, none, none, some (vI x5), none] [] h := by
  intro o x1 x5 h hw
  unfold w_Li_layDown_64 at hw
  refine tq_aload_n dLi_layDown_64 rfl rfl ?_
  obtain ⟨f1, hw⟩ := hw
  refine te_getr dLi_layDown_65 fLi_32 rfl rfl f1 ?_
  refine tq_iload dLi_layDown_68 rfl ?_
  refine tq_iload_n dLi_layDown_70 rfl rfl ?_
  obtain ⟨a2, e3, f4, hw⟩ := hw
  refine te_callV mv_Ro_put (ci := 7) (dc := 0) (as := [vI x5, vI x1]) (rest := []) kLi_97 rfl (Nat.le_of_ble_eq_true rfl) (Nat.le_of_ble_eq_true rfl) rfl rfl e3 f4 (Nat.le_of_ble_eq_true rfl) dLi_layDown_71 (s_Ro_put hw) (fun _ _ hx => False.elim hx) (tk_v fun h5 hw => ?_)
  exact tq_vret rfl dLi_layDown_74 hw
theorem s_Li_layDown_6 {h0 : tpH} {av : List tpV} {R : tpH → Prop} : ∀ (n : Nat) (o : Nat) (x1 : Int32) (x2 : Int32) (x4 : Int32) (x5 : Int32) (x6 : Int32) (h : tpH), w_Li_layDown_6 R n o x1 x2 x4 x5 x6 h → tpR Li_layDown 1 h0 av (tpOv R (fun _ _ => False)) 6 [some (vR (some o)), some (vI x1), some (vI x2), none, some (vI x4), some (vI x5), some (vI x6)] [] h := by
  intro n
  induction n with
  | zero => intro o x1 x2 x4 x5 x6 h hw; exact False.elim hw
  | succ n ih =>
    intro o x1 x2 x4 x5 x6 h hw
    change b_Li_layDown_6 R (w_Li_layDown_6 R n) o x1 x2 x4 x5 x6 h at hw
    unfold b_Li_layDown_6 at hw
    refine tq_iload dLi_layDown_6 rfl ?_
    refine tq_ifeq (tgt := 64) dLi_layDown_8 (by decide) (fun c1 => ?_) (fun c1 => ?_)
    · have hw := hw.1 c1
      refine tpR.fo (ls' := [some (vR (some o)), some (vI x1), none, none, none, some (vI x5), none]) ?_ (And.intro rfl (And.intro rfl (And.intro rfl trivial)))
      exact s_Li_layDown_64 _ _ _ _ hw
    · have hw := hw.2 c1
      refine tq_iload dLi_layDown_11 rfl ?_
      refine tq_iload_n dLi_layDown_13 rfl rfl ?_
      refine tq_icmple (tgt := 64) dLi_layDown_14 (by decide) (fun c2 => ?_) (fun c2 => ?_)
      · have hw := hw.1 c2
        refine tpR.fo (ls' := [some (vR (some o)), some (vI x1), none, none, none, some (vI x5), none]) ?_ (And.intro rfl (And.intro rfl (And.intro rfl trivial)))
        exact s_Li_layDown_64 _ _ _ _ hw
      · have hw := hw.2 c2
        refine tq_aload_n dLi_layDown_17 rfl rfl ?_
        obtain ⟨f3, hw⟩ := hw
        refine te_getr dLi_layDown_18 fLi_32 rfl rfl f3 ?_
        refine tq_iload dLi_layDown_21 rfl ?_
        refine tq_iconst (v := (1 : Int32)) dLi_layDown_23 tni_1 ?_
        refine tq_isub dLi_layDown_24 ?_
        obtain ⟨a4, e5, f6, hw⟩ := hw
        refine te_callV mv_Ro_at (ci := 7) (dc := 0) (as := [vI (x6 - (1 : Int32))]) (rest := []) kLi_62 rfl (Nat.le_of_ble_eq_true rfl) (Nat.le_of_ble_eq_true rfl) rfl rfl e5 f6 (Nat.le_of_ble_eq_true rfl) dLi_layDown_25 (s_Ro_at hw) (fun _ _ hx => False.elim hx) (tk_i fun v8 h7 hw => ?_)
        refine tq_iload_n dLi_layDown_28 rfl rfl ?_
        refine tq_icmple (tgt := 64) dLi_layDown_29 (by decide) (fun c9 => ?_) (fun c9 => ?_)
        · have hw := hw.1 c9
          refine tpR.fo (ls' := [some (vR (some o)), some (vI x1), none, none, none, some (vI x5), none]) ?_ (And.intro rfl (And.intro rfl (And.intro rfl trivial)))
          exact s_Li_layDown_64 _ _ _ _ hw
        · have hw := hw.2 c9
          refine tq_aload_n dLi_layDown_32 rfl rfl ?_
          obtain ⟨f10, hw⟩ := hw
          refine te_getr dLi_layDown_33 fLi_32 rfl rfl f10 ?_
          refine tq_iload dLi_layDown_36 rfl ?_
          refine tq_aload_n dLi_layDown_38 rfl rfl ?_
          refine te_getr dLi_layDown_39 fLi_32 rfl rfl f10 ?_
          refine tq_iload dLi_layDown_42 rfl ?_
          refine tq_iconst (v := (1 : Int32)) dLi_layDown_44 tni_1 ?_
          refine tq_isub dLi_layDown_45 ?_
          obtain ⟨a11, e12, f13, hw⟩ := hw
          refine te_callV mv_Ro_at (ci := 7) (dc := 0) (as := [vI (x6 - (1 : Int32))]) (rest := [vI x6, vR (hR h7 o 6)]) kLi_62 rfl (Nat.le_of_ble_eq_true rfl) (Nat.le_of_ble_eq_true rfl) rfl rfl e12 f13 (Nat.le_of_ble_eq_true rfl) dLi_layDown_46 (s_Ro_at hw) (fun _ _ hx => False.elim hx) (tk_i fun v15 h14 hw => ?_)
          obtain ⟨f16, hw⟩ := hw
          refine te_callV mv_Ro_put (ci := 7) (dc := 0) (as := [vI x6, vI v15]) (rest := []) kLi_97 rfl (Nat.le_of_ble_eq_true rfl) (Nat.le_of_ble_eq_true rfl) rfl rfl e12 f16 (Nat.le_of_ble_eq_true rfl) dLi_layDown_49 (s_Ro_put hw) (fun _ _ hx => False.elim hx) (tk_v fun h17 hw => ?_)
          refine tq_iload dLi_layDown_52 rfl ?_
          refine tq_iconst (v := (1 : Int32)) dLi_layDown_54 tni_1 ?_
          refine tq_isub dLi_layDown_55 ?_
          refine tq_istore (ls' := [some (vR (some o)), some (vI x1), some (vI x2), none, some (vI x4), some (vI (x6 - (1 : Int32))), some (vI x6)]) dLi_layDown_56 (Nat.le_of_ble_eq_true rfl) rfl ?_
          refine tq_inc (k := (-1 : Int32)) (ls' := [some (vR (some o)), some (vI x1), some (vI x2), none, some (vI x4), some (vI (x6 - (1 : Int32))), some (vI (x6 + (-1 : Int32)))]) dLi_layDown_58 rfl tni_m1 (Nat.le_of_ble_eq_true rfl) rfl ?_
          refine tq_goto (tgt := 6) dLi_layDown_61 (by decide) ?_
          refine tpR.fo (ls' := [some (vR (some o)), some (vI x1), some (vI x2), none, some (vI x4), some (vI (x6 - (1 : Int32))), some (vI (x6 + (-1 : Int32)))]) ?_ (And.intro rfl (And.intro rfl (And.intro rfl (And.intro rfl (And.intro rfl (And.intro rfl trivial))))))
          exact ih _ _ _ _ _ _ _ hw
theorem s_Li_layDown {o : Nat} {x1 : Int32} {x2 : Int32} {x3 : Int32} {x4 : Int32} {h : tpH} {R : tpH → Prop} (hw : w_Li_layDown o x1 x2 x3 x4 h R) : tpC Li_layDown 1 [vR (some o), vI x1, vI x2, vI x3, vI x4] h (tpOv R (fun _ _ => False)) := by
  refine tpC_of mv_Li_layDown.2.2.2.1 rfl rfl (Nat.le_of_ble_eq_true rfl) ?_
  show tpR Li_layDown 1 h _ _ 0 [some (vR (some o)), some (vI x1), some (vI x2), some (vI x3), some (vI x4), none, none] [] h
  unfold w_Li_layDown at hw
  refine tq_iload_n dLi_layDown_0 rfl rfl ?_
  refine tq_istore (ls' := [some (vR (some o)), some (vI x1), some (vI x2), some (vI x3), some (vI x4), some (vI x3), none]) dLi_layDown_1 (Nat.le_of_ble_eq_true rfl) rfl ?_
  refine tq_iload_n dLi_layDown_3 rfl rfl ?_
  refine tq_istore (ls' := [some (vR (some o)), some (vI x1), some (vI x2), some (vI x3), some (vI x4), some (vI x3), some (vI x3)]) dLi_layDown_4 (Nat.le_of_ble_eq_true rfl) rfl ?_
  refine tpR.fo (ls' := [some (vR (some o)), some (vI x1), some (vI x2), none, some (vI x4), some (vI x3), some (vI x3)]) ?_ (And.intro rfl (And.intro rfl (And.intro rfl (And.intro rfl (And.intro rfl (And.intro rfl trivial))))))
  obtain ⟨n, hw⟩ := hw
  exact s_Li_layDown_6 n _ _ _ _ _ _ _ hw
/-! T$Likes.hasRun -/
theorem dLi_hasRun_0 : decode (mB Li_hasRun) 0 = .ok (.aload_n 0, 1) := by decide +kernel
theorem dLi_hasRun_1 : decode (mB Li_hasRun) 1 = .ok (.getfield 26, 3) := by decide +kernel
theorem dLi_hasRun_4 : decode (mB Li_hasRun) 4 = .ok (.iload_n 1, 1) := by decide +kernel
theorem dLi_hasRun_5 : decode (mB Li_hasRun) 5 = .ok (.invokevirtual 62, 3) := by decide +kernel
theorem dLi_hasRun_8 : decode (mB Li_hasRun) 8 = .ok (.istore_n 3, 1) := by decide +kernel
theorem dLi_hasRun_9 : decode (mB Li_hasRun) 9 = .ok (.iconst 0, 1) := by decide +kernel
theorem dLi_hasRun_10 : decode (mB Li_hasRun) 10 = .ok (.istore 4, 2) := by decide +kernel
theorem dLi_hasRun_12 : decode (mB Li_hasRun) 12 = .ok (.iload 4, 2) := by decide +kernel
theorem dLi_hasRun_14 : decode (mB Li_hasRun) 14 = .ok (.iload_n 2, 1) := by decide +kernel
theorem dLi_hasRun_15 : decode (mB Li_hasRun) 15 = .ok (.if_icmp .ge 39, 3) := by decide +kernel
theorem dLi_hasRun_18 : decode (mB Li_hasRun) 18 = .ok (.aload_n 0, 1) := by decide +kernel
theorem dLi_hasRun_19 : decode (mB Li_hasRun) 19 = .ok (.getfield 32, 3) := by decide +kernel
theorem dLi_hasRun_22 : decode (mB Li_hasRun) 22 = .ok (.iload_n 3, 1) := by decide +kernel
theorem dLi_hasRun_23 : decode (mB Li_hasRun) 23 = .ok (.iload 4, 2) := by decide +kernel
theorem dLi_hasRun_25 : decode (mB Li_hasRun) 25 = .ok (.iadd, 1) := by decide +kernel
theorem dLi_hasRun_26 : decode (mB Li_hasRun) 26 = .ok (.invokevirtual 62, 3) := by decide +kernel
theorem dLi_hasRun_29 : decode (mB Li_hasRun) 29 = .ok (.aload_n 0, 1) := by decide +kernel
theorem dLi_hasRun_30 : decode (mB Li_hasRun) 30 = .ok (.getfield 32, 3) := by decide +kernel
theorem dLi_hasRun_33 : decode (mB Li_hasRun) 33 = .ok (.aload_n 0, 1) := by decide +kernel
theorem dLi_hasRun_34 : decode (mB Li_hasRun) 34 = .ok (.getfield 43, 3) := by decide +kernel
theorem dLi_hasRun_37 : decode (mB Li_hasRun) 37 = .ok (.iload 4, 2) := by decide +kernel
theorem dLi_hasRun_39 : decode (mB Li_hasRun) 39 = .ok (.iadd, 1) := by decide +kernel
theorem dLi_hasRun_40 : decode (mB Li_hasRun) 40 = .ok (.invokevirtual 62, 3) := by decide +kernel
theorem dLi_hasRun_43 : decode (mB Li_hasRun) 43 = .ok (.if_icmp .eq 5, 3) := by decide +kernel
theorem dLi_hasRun_46 : decode (mB Li_hasRun) 46 = .ok (.iconst 0, 1) := by decide +kernel
theorem dLi_hasRun_47 : decode (mB Li_hasRun) 47 = .ok (.ireturn, 1) := by decide +kernel
theorem dLi_hasRun_48 : decode (mB Li_hasRun) 48 = .ok (.iinc 4 1, 3) := by decide +kernel
theorem dLi_hasRun_51 : decode (mB Li_hasRun) 51 = .ok (.goto (-39), 3) := by decide +kernel
theorem dLi_hasRun_54 : decode (mB Li_hasRun) 54 = .ok (.iconst 1, 1) := by decide +kernel
theorem dLi_hasRun_55 : decode (mB Li_hasRun) 55 = .ok (.ireturn, 1) := by decide +kernel
def b_Li_hasRun_12 (R : Int32 → tpH → Prop) (Y : Nat → Int32 → Int32 → Int32 → tpH → Prop) (o : Nat) (x2 : Int32) (x3 : Int32) (x4 : Int32) (h : tpH) : Prop :=
  (x2 ≤ x4 → (R (1 : Int32) h)) ∧ (¬ x2 ≤ x4 → (hT h o = 4 ∧ (∃ a3, (hR h o 6) = some a3 ∧ hT h a3 = 8 ∧ (w_Ro_at a3 (x3 + x4) h (fun v7 h6 => hT h6 o = 4 ∧ (∃ a9, (hR h6 o 6) = some a9 ∧ hT h6 a9 = 8 ∧ (w_Ro_at a9 ((hI h6 o 8) + x4) h6 (fun v13 h12 => (v7 = v13 → (Y o x2 x3 (x4 + (1 : Int32)) h12)) ∧ (¬ v7 = v13 → (R (0 : Int32) h12))))))))))
def w_Li_hasRun_12 (R : Int32 → tpH → Prop) : Nat → Nat → Int32 → Int32 → Int32 → tpH → Prop
  | 0 => fun _ _ _ _ _ => False
  | n + 1 => b_Li_hasRun_12 R (w_Li_hasRun_12 R n)
def w_Li_hasRun (o : Nat) (x1 : Int32) (x2 : Int32) (h : tpH) (R : Int32 → tpH → Prop) : Prop :=
  hT h o = 4 ∧ (∃ a2, (hR h o 4) = some a2 ∧ hT h a2 = 8 ∧ (w_Ro_at a2 x1 h (fun v6 h5 => ∃ n, w_Li_hasRun_12 R n o x2 v6 (0 : Int32) h5)))
theorem s_Li_hasRun_12 {h0 : tpH} {av : List tpV} {R : Int32 → tpH → Prop} : ∀ (n : Nat) (o : Nat) (x2 : Int32) (x3 : Int32) (x4 : Int32) (h : tpH), w_Li_hasRun_12 R n o x2 x3 x4 h → tpR Li_hasRun 1 h0 av (tpOi R (fun _ _ => False)) 12 [some (vR (some o)), none, some (vI x2), some (vI x3), some (vI x4)] [] h := by
  intro n
  induction n with
  | zero => intro o x2 x3 x4 h hw; exact False.elim hw
  | succ n ih =>
    intro o x2 x3 x4 h hw
    change b_Li_hasRun_12 R (w_Li_hasRun_12 R n) o x2 x3 x4 h at hw
    unfold b_Li_hasRun_12 at hw
    refine tq_iload dLi_hasRun_12 rfl ?_
    refine tq_iload_n dLi_hasRun_14 rfl rfl ?_
    refine tq_icmpge (tgt := 54) dLi_hasRun_15 (by decide) (fun c1 => ?_) (fun c1 => ?_)
    · have hw := hw.1 c1
      refine tq_iconst (v := (1 : Int32)) dLi_hasRun_54 tni_1 ?_
      exact tq_iret rfl (by decide) dLi_hasRun_55 hw
    · have hw := hw.2 c1
      refine tq_aload_n dLi_hasRun_18 rfl rfl ?_
      obtain ⟨f2, hw⟩ := hw
      refine te_getr dLi_hasRun_19 fLi_32 rfl rfl f2 ?_
      refine tq_iload_n dLi_hasRun_22 rfl rfl ?_
      refine tq_iload dLi_hasRun_23 rfl ?_
      refine tq_iadd dLi_hasRun_25 ?_
      obtain ⟨a3, e4, f5, hw⟩ := hw
      refine te_callV mv_Ro_at (ci := 7) (dc := 0) (as := [vI (x3 + x4)]) (rest := []) kLi_62 rfl (Nat.le_of_ble_eq_true rfl) (Nat.le_of_ble_eq_true rfl) rfl rfl e4 f5 (Nat.le_of_ble_eq_true rfl) dLi_hasRun_26 (s_Ro_at hw) (fun _ _ hx => False.elim hx) (tk_i fun v7 h6 hw => ?_)
      refine tq_aload_n dLi_hasRun_29 rfl rfl ?_
      obtain ⟨f8, hw⟩ := hw
      refine te_getr dLi_hasRun_30 fLi_32 rfl rfl f8 ?_
      refine tq_aload_n dLi_hasRun_33 rfl rfl ?_
      refine te_geti dLi_hasRun_34 fLi_43 rfl rfl f8 ?_
      refine tq_iload dLi_hasRun_37 rfl ?_
      refine tq_iadd dLi_hasRun_39 ?_
      obtain ⟨a9, e10, f11, hw⟩ := hw
      refine te_callV mv_Ro_at (ci := 7) (dc := 0) (as := [vI ((hI h6 o 8) + x4)]) (rest := [vI v7]) kLi_62 rfl (Nat.le_of_ble_eq_true rfl) (Nat.le_of_ble_eq_true rfl) rfl rfl e10 f11 (Nat.le_of_ble_eq_true rfl) dLi_hasRun_40 (s_Ro_at hw) (fun _ _ hx => False.elim hx) (tk_i fun v13 h12 hw => ?_)
      refine tq_icmpeq (tgt := 48) dLi_hasRun_43 (by decide) (fun c14 => ?_) (fun c14 => ?_)
      · have hw := hw.1 c14
        refine tq_inc (k := (1 : Int32)) (ls' := [some (vR (some o)), none, some (vI x2), some (vI x3), some (vI (x4 + (1 : Int32)))]) dLi_hasRun_48 rfl tni_1 (Nat.le_of_ble_eq_true rfl) rfl ?_
        refine tq_goto (tgt := 12) dLi_hasRun_51 (by decide) ?_
        refine tpR.fo (ls' := [some (vR (some o)), none, some (vI x2), some (vI x3), some (vI (x4 + (1 : Int32)))]) ?_ (And.intro rfl (And.intro rfl (And.intro rfl (And.intro rfl trivial))))
        exact ih _ _ _ _ _ hw
      · have hw := hw.2 c14
        refine tq_iconst (v := (0 : Int32)) dLi_hasRun_46 tni_0 ?_
        exact tq_iret rfl (by decide) dLi_hasRun_47 hw
theorem s_Li_hasRun {o : Nat} {x1 : Int32} {x2 : Int32} {h : tpH} {R : Int32 → tpH → Prop} (hw : w_Li_hasRun o x1 x2 h R) : tpC Li_hasRun 1 [vR (some o), vI x1, vI x2] h (tpOi R (fun _ _ => False)) := by
  refine tpC_of mv_Li_hasRun.2.2.2.1 rfl rfl (Nat.le_of_ble_eq_true rfl) ?_
  show tpR Li_hasRun 1 h _ _ 0 [some (vR (some o)), some (vI x1), some (vI x2), none, none] [] h
  unfold w_Li_hasRun at hw
  refine tq_aload_n dLi_hasRun_0 rfl rfl ?_
  obtain ⟨f1, hw⟩ := hw
  refine te_getr dLi_hasRun_1 fLi_26 rfl rfl f1 ?_
  refine tq_iload_n dLi_hasRun_4 rfl rfl ?_
  obtain ⟨a2, e3, f4, hw⟩ := hw
  refine te_callV mv_Ro_at (ci := 7) (dc := 0) (as := [vI x1]) (rest := []) kLi_62 rfl (Nat.le_of_ble_eq_true rfl) (Nat.le_of_ble_eq_true rfl) rfl rfl e3 f4 (Nat.le_of_ble_eq_true rfl) dLi_hasRun_5 (s_Ro_at hw) (fun _ _ hx => False.elim hx) (tk_i fun v6 h5 hw => ?_)
  refine tq_istore_n (ls' := [some (vR (some o)), some (vI x1), some (vI x2), some (vI v6), none]) dLi_hasRun_8 rfl (Nat.le_of_ble_eq_true rfl) rfl ?_
  refine tq_iconst (v := (0 : Int32)) dLi_hasRun_9 tni_0 ?_
  refine tq_istore (ls' := [some (vR (some o)), some (vI x1), some (vI x2), some (vI v6), some (vI (0 : Int32))]) dLi_hasRun_10 (Nat.le_of_ble_eq_true rfl) rfl ?_
  refine tpR.fo (ls' := [some (vR (some o)), none, some (vI x2), some (vI v6), some (vI (0 : Int32))]) ?_ (And.intro rfl (And.intro rfl (And.intro rfl (And.intro rfl trivial))))
  obtain ⟨n, hw⟩ := hw
  exact s_Li_hasRun_12 n _ _ _ _ _ hw
/-! T$Likes.knownFamily -/
theorem dLi_knownFamily_0 : decode (mB Li_knownFamily) 0 = .ok (.iconst 0, 1) := by decide +kernel
theorem dLi_knownFamily_1 : decode (mB Li_knownFamily) 1 = .ok (.istore 4, 2) := by decide +kernel
theorem dLi_knownFamily_3 : decode (mB Li_knownFamily) 3 = .ok (.iload 4, 2) := by decide +kernel
theorem dLi_knownFamily_5 : decode (mB Li_knownFamily) 5 = .ok (.aload_n 0, 1) := by decide +kernel
theorem dLi_knownFamily_6 : decode (mB Li_knownFamily) 6 = .ok (.getfield 39, 3) := by decide +kernel
theorem dLi_knownFamily_9 : decode (mB Li_knownFamily) 9 = .ok (.if_icmp .ge 68, 3) := by decide +kernel
theorem dLi_knownFamily_12 : decode (mB Li_knownFamily) 12 = .ok (.aload_n 0, 1) := by decide +kernel
theorem dLi_knownFamily_13 : decode (mB Li_knownFamily) 13 = .ok (.getfield 23, 3) := by decide +kernel
theorem dLi_knownFamily_16 : decode (mB Li_knownFamily) 16 = .ok (.iload 4, 2) := by decide +kernel
theorem dLi_knownFamily_18 : decode (mB Li_knownFamily) 18 = .ok (.invokevirtual 62, 3) := by decide +kernel
theorem dLi_knownFamily_21 : decode (mB Li_knownFamily) 21 = .ok (.iload_n 2, 1) := by decide +kernel
theorem dLi_knownFamily_22 : decode (mB Li_knownFamily) 22 = .ok (.if_icmp .ne 49, 3) := by decide +kernel
theorem dLi_knownFamily_25 : decode (mB Li_knownFamily) 25 = .ok (.aload_n 0, 1) := by decide +kernel
theorem dLi_knownFamily_26 : decode (mB Li_knownFamily) 26 = .ok (.getfield 29, 3) := by decide +kernel
theorem dLi_knownFamily_29 : decode (mB Li_knownFamily) 29 = .ok (.iload 4, 2) := by decide +kernel
theorem dLi_knownFamily_31 : decode (mB Li_knownFamily) 31 = .ok (.invokevirtual 62, 3) := by decide +kernel
theorem dLi_knownFamily_34 : decode (mB Li_knownFamily) 34 = .ok (.iload_n 3, 1) := by decide +kernel
theorem dLi_knownFamily_35 : decode (mB Li_knownFamily) 35 = .ok (.if_icmp .ne 36, 3) := by decide +kernel
theorem dLi_knownFamily_38 : decode (mB Li_knownFamily) 38 = .ok (.aload_n 0, 1) := by decide +kernel
theorem dLi_knownFamily_39 : decode (mB Li_knownFamily) 39 = .ok (.getfield 35, 3) := by decide +kernel
theorem dLi_knownFamily_42 : decode (mB Li_knownFamily) 42 = .ok (.aload_n 0, 1) := by decide +kernel
theorem dLi_knownFamily_43 : decode (mB Li_knownFamily) 43 = .ok (.getfield 20, 3) := by decide +kernel
theorem dLi_knownFamily_46 : decode (mB Li_knownFamily) 46 = .ok (.iload 4, 2) := by decide +kernel
theorem dLi_knownFamily_48 : decode (mB Li_knownFamily) 48 = .ok (.invokevirtual 62, 3) := by decide +kernel
theorem dLi_knownFamily_51 : decode (mB Li_knownFamily) 51 = .ok (.iload_n 1, 1) := by decide +kernel
theorem dLi_knownFamily_52 : decode (mB Li_knownFamily) 52 = .ok (.invokevirtual 101, 3) := by decide +kernel
theorem dLi_knownFamily_55 : decode (mB Li_knownFamily) 55 = .ok (.ifCond .eq 16, 3) := by decide +kernel
theorem dLi_knownFamily_58 : decode (mB Li_knownFamily) 58 = .ok (.aload_n 0, 1) := by decide +kernel
theorem dLi_knownFamily_59 : decode (mB Li_knownFamily) 59 = .ok (.iload 4, 2) := by decide +kernel
theorem dLi_knownFamily_61 : decode (mB Li_knownFamily) 61 = .ok (.iload_n 3, 1) := by decide +kernel
theorem dLi_knownFamily_62 : decode (mB Li_knownFamily) 62 = .ok (.invokevirtual 104, 3) := by decide +kernel
theorem dLi_knownFamily_65 : decode (mB Li_knownFamily) 65 = .ok (.ifCond .eq 6, 3) := by decide +kernel
theorem dLi_knownFamily_68 : decode (mB Li_knownFamily) 68 = .ok (.iload 4, 2) := by decide +kernel
theorem dLi_knownFamily_70 : decode (mB Li_knownFamily) 70 = .ok (.ireturn, 1) := by decide +kernel
theorem dLi_knownFamily_71 : decode (mB Li_knownFamily) 71 = .ok (.iinc 4 1, 3) := by decide +kernel
theorem dLi_knownFamily_74 : decode (mB Li_knownFamily) 74 = .ok (.goto (-71), 3) := by decide +kernel
theorem dLi_knownFamily_77 : decode (mB Li_knownFamily) 77 = .ok (.iconst (-1), 1) := by decide +kernel
theorem dLi_knownFamily_78 : decode (mB Li_knownFamily) 78 = .ok (.ireturn, 1) := by decide +kernel
def b_Li_knownFamily_3 (R : Int32 → tpH → Prop) (Y : Nat → Int32 → Int32 → Int32 → Int32 → tpH → Prop) (o : Nat) (x1 : Int32) (x2 : Int32) (x3 : Int32) (x4 : Int32) (h : tpH) : Prop :=
  hT h o = 4 ∧ (((hI h o 7) ≤ x4 → (R (-1 : Int32) h)) ∧ (¬ (hI h o 7) ≤ x4 → (∃ a3, (hR h o 3) = some a3 ∧ hT h a3 = 8 ∧ (w_Ro_at a3 x4 h (fun v7 h6 => (¬ v7 = x2 → (Y o x1 x2 x3 (x4 + (1 : Int32)) h6)) ∧ (v7 = x2 → (hT h6 o = 4 ∧ (∃ a10, (hR h6 o 5) = some a10 ∧ hT h6 a10 = 8 ∧ (w_Ro_at a10 x4 h6 (fun v14 h13 => (¬ v14 = x3 → (Y o x1 x2 x3 (x4 + (1 : Int32)) h13)) ∧ (v14 = x3 → (hT h13 o = 4 ∧ (∃ a17, (hR h13 o 2) = some a17 ∧ hT h13 a17 = 8 ∧ (w_Ro_at a17 x4 h13 (fun v21 h20 => ∃ a22, (hR h13 o 0) = some a22 ∧ hT h20 a22 = 5 ∧ (w_Ma_agree a22 v21 x1 h20 (fun v26 h25 => (v26 = 0 → (Y o x1 x2 x3 (x4 + (1 : Int32)) h25)) ∧ (¬ v26 = 0 → (hT h25 o = 4 ∧ (w_Li_hasRun o x4 x3 h25 (fun v30 h29 => (v30 = 0 → (Y o x1 x2 x3 (x4 + (1 : Int32)) h29)) ∧ (¬ v30 = 0 → (R x4 h29)))))))))))))))))))))))
def w_Li_knownFamily_3 (R : Int32 → tpH → Prop) : Nat → Nat → Int32 → Int32 → Int32 → Int32 → tpH → Prop
  | 0 => fun _ _ _ _ _ _ => False
  | n + 1 => b_Li_knownFamily_3 R (w_Li_knownFamily_3 R n)
def w_Li_knownFamily (o : Nat) (x1 : Int32) (x2 : Int32) (x3 : Int32) (h : tpH) (R : Int32 → tpH → Prop) : Prop :=
  ∃ n, w_Li_knownFamily_3 R n o x1 x2 x3 (0 : Int32) h
theorem s_Li_knownFamily_3 {h0 : tpH} {av : List tpV} {R : Int32 → tpH → Prop} : ∀ (n : Nat) (o : Nat) (x1 : Int32) (x2 : Int32) (x3 : Int32) (x4 : Int32) (h : tpH), w_Li_knownFamily_3 R n o x1 x2 x3 x4 h → tpR Li_knownFamily 2 h0 av (tpOi R (fun _ _ => False)) 3 [some (vR (some o)), some (vI x1), some (vI x2), some (vI x3), some (vI x4)] [] h := by
  intro n
  induction n with
  | zero => intro o x1 x2 x3 x4 h hw; exact False.elim hw
  | succ n ih =>
    intro o x1 x2 x3 x4 h hw
    change b_Li_knownFamily_3 R (w_Li_knownFamily_3 R n) o x1 x2 x3 x4 h at hw
    unfold b_Li_knownFamily_3 at hw
    refine tq_iload dLi_knownFamily_3 rfl ?_
    refine tq_aload_n dLi_knownFamily_5 rfl rfl ?_
    obtain ⟨f1, hw⟩ := hw
    refine te_geti dLi_knownFamily_6 fLi_39 rfl rfl f1 ?_
    refine tq_icmpge (tgt := 77) dLi_knownFamily_9 (by decide) (fun c2 => ?_) (fun c2 => ?_)
    · have hw := hw.1 c2
      refine tq_iconst (v := (-1 : Int32)) dLi_knownFamily_77 tni_m1 ?_
      exact tq_iret rfl rfl dLi_knownFamily_78 hw
    · have hw := hw.2 c2
      refine tq_aload_n dLi_knownFamily_12 rfl rfl ?_
      refine te_getr dLi_knownFamily_13 fLi_23 rfl rfl f1 ?_
      refine tq_iload dLi_knownFamily_16 rfl ?_
      obtain ⟨a3, e4, f5, hw⟩ := hw
      refine te_callV mv_Ro_at (ci := 7) (dc := 0) (as := [vI x4]) (rest := []) kLi_62 rfl (Nat.le_of_ble_eq_true rfl) (Nat.le_of_ble_eq_true rfl) rfl rfl e4 f5 (Nat.le_of_ble_eq_true rfl) dLi_knownFamily_18 (s_Ro_at hw) (fun _ _ hx => False.elim hx) (tk_i fun v7 h6 hw => ?_)
      refine tq_iload_n dLi_knownFamily_21 rfl rfl ?_
      refine tq_icmpne (tgt := 71) dLi_knownFamily_22 (by decide) (fun c8 => ?_) (fun c8 => ?_)
      · have hw := hw.1 c8
        refine tq_inc (k := (1 : Int32)) (ls' := [some (vR (some o)), some (vI x1), some (vI x2), some (vI x3), some (vI (x4 + (1 : Int32)))]) dLi_knownFamily_71 rfl tni_1 (Nat.le_of_ble_eq_true rfl) rfl ?_
        refine tq_goto (tgt := 3) dLi_knownFamily_74 (by decide) ?_
        refine tpR.fo (ls' := [some (vR (some o)), some (vI x1), some (vI x2), some (vI x3), some (vI (x4 + (1 : Int32)))]) ?_ (And.intro rfl (And.intro rfl (And.intro rfl (And.intro rfl (And.intro rfl trivial)))))
        exact ih _ _ _ _ _ _ hw
      · have hw := hw.2 c8
        refine tq_aload_n dLi_knownFamily_25 rfl rfl ?_
        obtain ⟨f9, hw⟩ := hw
        refine te_getr dLi_knownFamily_26 fLi_29 rfl rfl f9 ?_
        refine tq_iload dLi_knownFamily_29 rfl ?_
        obtain ⟨a10, e11, f12, hw⟩ := hw
        refine te_callV mv_Ro_at (ci := 7) (dc := 0) (as := [vI x4]) (rest := []) kLi_62 rfl (Nat.le_of_ble_eq_true rfl) (Nat.le_of_ble_eq_true rfl) rfl rfl e11 f12 (Nat.le_of_ble_eq_true rfl) dLi_knownFamily_31 (s_Ro_at hw) (fun _ _ hx => False.elim hx) (tk_i fun v14 h13 hw => ?_)
        refine tq_iload_n dLi_knownFamily_34 rfl rfl ?_
        refine tq_icmpne (tgt := 71) dLi_knownFamily_35 (by decide) (fun c15 => ?_) (fun c15 => ?_)
        · have hw := hw.1 c15
          refine tq_inc (k := (1 : Int32)) (ls' := [some (vR (some o)), some (vI x1), some (vI x2), some (vI x3), some (vI (x4 + (1 : Int32)))]) dLi_knownFamily_71 rfl tni_1 (Nat.le_of_ble_eq_true rfl) rfl ?_
          refine tq_goto (tgt := 3) dLi_knownFamily_74 (by decide) ?_
          refine tpR.fo (ls' := [some (vR (some o)), some (vI x1), some (vI x2), some (vI x3), some (vI (x4 + (1 : Int32)))]) ?_ (And.intro rfl (And.intro rfl (And.intro rfl (And.intro rfl (And.intro rfl trivial)))))
          exact ih _ _ _ _ _ _ hw
        · have hw := hw.2 c15
          refine tq_aload_n dLi_knownFamily_38 rfl rfl ?_
          obtain ⟨f16, hw⟩ := hw
          refine te_getr dLi_knownFamily_39 fLi_35 rfl rfl f16 ?_
          refine tq_aload_n dLi_knownFamily_42 rfl rfl ?_
          refine te_getr dLi_knownFamily_43 fLi_20 rfl rfl f16 ?_
          refine tq_iload dLi_knownFamily_46 rfl ?_
          obtain ⟨a17, e18, f19, hw⟩ := hw
          refine te_callV mv_Ro_at (ci := 7) (dc := 0) (as := [vI x4]) (rest := [vR (hR h13 o 0)]) kLi_62 rfl (Nat.le_of_ble_eq_true rfl) (Nat.le_of_ble_eq_true rfl) rfl rfl e18 f19 (Nat.le_of_ble_eq_true rfl) dLi_knownFamily_48 (s_Ro_at hw) (fun _ _ hx => False.elim hx) (tk_i fun v21 h20 hw => ?_)
          refine tq_iload_n dLi_knownFamily_51 rfl rfl ?_
          obtain ⟨a22, e23, f24, hw⟩ := hw
          refine te_callV mv_Ma_agree (ci := 4) (dc := 1) (as := [vI v21, vI x1]) (rest := []) kLi_101 rfl (Nat.le_of_ble_eq_true rfl) (Nat.le_of_ble_eq_true rfl) rfl rfl e23 f24 (Nat.le_of_ble_eq_true rfl) dLi_knownFamily_52 (s_Ma_agree hw) (fun _ _ hx => False.elim hx) (tk_i fun v26 h25 hw => ?_)
          refine tq_ifeq (tgt := 71) dLi_knownFamily_55 (by decide) (fun c27 => ?_) (fun c27 => ?_)
          · have hw := hw.1 c27
            refine tq_inc (k := (1 : Int32)) (ls' := [some (vR (some o)), some (vI x1), some (vI x2), some (vI x3), some (vI (x4 + (1 : Int32)))]) dLi_knownFamily_71 rfl tni_1 (Nat.le_of_ble_eq_true rfl) rfl ?_
            refine tq_goto (tgt := 3) dLi_knownFamily_74 (by decide) ?_
            refine tpR.fo (ls' := [some (vR (some o)), some (vI x1), some (vI x2), some (vI x3), some (vI (x4 + (1 : Int32)))]) ?_ (And.intro rfl (And.intro rfl (And.intro rfl (And.intro rfl (And.intro rfl trivial)))))
            exact ih _ _ _ _ _ _ hw
          · have hw := hw.2 c27
            refine tq_aload_n dLi_knownFamily_58 rfl rfl ?_
            refine tq_iload dLi_knownFamily_59 rfl ?_
            refine tq_iload_n dLi_knownFamily_61 rfl rfl ?_
            obtain ⟨f28, hw⟩ := hw
            refine te_callV mv_Li_hasRun (ci := 3) (dc := 1) (as := [vI x4, vI x3]) (rest := []) kLi_104 rfl (Nat.le_of_ble_eq_true rfl) (Nat.le_of_ble_eq_true rfl) rfl rfl rfl f28 (Nat.le_of_ble_eq_true rfl) dLi_knownFamily_62 (s_Li_hasRun hw) (fun _ _ hx => False.elim hx) (tk_i fun v30 h29 hw => ?_)
            refine tq_ifeq (tgt := 71) dLi_knownFamily_65 (by decide) (fun c31 => ?_) (fun c31 => ?_)
            · have hw := hw.1 c31
              refine tq_inc (k := (1 : Int32)) (ls' := [some (vR (some o)), some (vI x1), some (vI x2), some (vI x3), some (vI (x4 + (1 : Int32)))]) dLi_knownFamily_71 rfl tni_1 (Nat.le_of_ble_eq_true rfl) rfl ?_
              refine tq_goto (tgt := 3) dLi_knownFamily_74 (by decide) ?_
              refine tpR.fo (ls' := [some (vR (some o)), some (vI x1), some (vI x2), some (vI x3), some (vI (x4 + (1 : Int32)))]) ?_ (And.intro rfl (And.intro rfl (And.intro rfl (And.intro rfl (And.intro rfl trivial)))))
              exact ih _ _ _ _ _ _ hw
            · have hw := hw.2 c31
              refine tq_iload dLi_knownFamily_68 rfl ?_
              exact tq_iret rfl rfl dLi_knownFamily_70 hw
theorem s_Li_knownFamily {o : Nat} {x1 : Int32} {x2 : Int32} {x3 : Int32} {h : tpH} {R : Int32 → tpH → Prop} (hw : w_Li_knownFamily o x1 x2 x3 h R) : tpC Li_knownFamily 2 [vR (some o), vI x1, vI x2, vI x3] h (tpOi R (fun _ _ => False)) := by
  refine tpC_of mv_Li_knownFamily.2.2.2.1 rfl rfl (Nat.le_of_ble_eq_true rfl) ?_
  show tpR Li_knownFamily 2 h _ _ 0 [some (vR (some o)), some (vI x1), some (vI x2), some (vI x3), none] [] h
  unfold w_Li_knownFamily at hw
  refine tq_iconst (v := (0 : Int32)) dLi_knownFamily_0 tni_0 ?_
  refine tq_istore (ls' := [some (vR (some o)), some (vI x1), some (vI x2), some (vI x3), some (vI (0 : Int32))]) dLi_knownFamily_1 (Nat.le_of_ble_eq_true rfl) rfl ?_
  refine tpR.fo (ls' := [some (vR (some o)), some (vI x1), some (vI x2), some (vI x3), some (vI (0 : Int32))]) ?_ (And.intro rfl (And.intro rfl (And.intro rfl (And.intro rfl (And.intro rfl trivial)))))
  obtain ⟨n, hw⟩ := hw
  exact s_Li_knownFamily_3 n _ _ _ _ _ _ hw
/-! T$Likes.found -/
theorem dLi_found_0 : decode (mB Li_found) 0 = .ok (.aload_n 0, 1) := by decide +kernel
theorem dLi_found_1 : decode (mB Li_found) 1 = .ok (.getfield 39, 3) := by decide +kernel
theorem dLi_found_4 : decode (mB Li_found) 4 = .ok (.istore 4, 2) := by decide +kernel
theorem dLi_found_6 : decode (mB Li_found) 6 = .ok (.aload_n 0, 1) := by decide +kernel
theorem dLi_found_7 : decode (mB Li_found) 7 = .ok (.dup, 1) := by decide +kernel
theorem dLi_found_8 : decode (mB Li_found) 8 = .ok (.getfield 39, 3) := by decide +kernel
theorem dLi_found_11 : decode (mB Li_found) 11 = .ok (.iconst 1, 1) := by decide +kernel
theorem dLi_found_12 : decode (mB Li_found) 12 = .ok (.iadd, 1) := by decide +kernel
theorem dLi_found_13 : decode (mB Li_found) 13 = .ok (.putfield 39, 3) := by decide +kernel
theorem dLi_found_16 : decode (mB Li_found) 16 = .ok (.aload_n 0, 1) := by decide +kernel
theorem dLi_found_17 : decode (mB Li_found) 17 = .ok (.getfield 20, 3) := by decide +kernel
theorem dLi_found_20 : decode (mB Li_found) 20 = .ok (.iload 4, 2) := by decide +kernel
theorem dLi_found_22 : decode (mB Li_found) 22 = .ok (.aload_n 1, 1) := by decide +kernel
theorem dLi_found_23 : decode (mB Li_found) 23 = .ok (.iload_n 2, 1) := by decide +kernel
theorem dLi_found_24 : decode (mB Li_found) 24 = .ok (.invokevirtual 69, 3) := by decide +kernel
theorem dLi_found_27 : decode (mB Li_found) 27 = .ok (.invokevirtual 97, 3) := by decide +kernel
theorem dLi_found_30 : decode (mB Li_found) 30 = .ok (.aload_n 0, 1) := by decide +kernel
theorem dLi_found_31 : decode (mB Li_found) 31 = .ok (.getfield 23, 3) := by decide +kernel
theorem dLi_found_34 : decode (mB Li_found) 34 = .ok (.iload 4, 2) := by decide +kernel
theorem dLi_found_36 : decode (mB Li_found) 36 = .ok (.aload_n 1, 1) := by decide +kernel
theorem dLi_found_37 : decode (mB Li_found) 37 = .ok (.iload_n 2, 1) := by decide +kernel
theorem dLi_found_38 : decode (mB Li_found) 38 = .ok (.invokevirtual 86, 3) := by decide +kernel
theorem dLi_found_41 : decode (mB Li_found) 41 = .ok (.invokevirtual 97, 3) := by decide +kernel
theorem dLi_found_44 : decode (mB Li_found) 44 = .ok (.aload_n 0, 1) := by decide +kernel
theorem dLi_found_45 : decode (mB Li_found) 45 = .ok (.getfield 26, 3) := by decide +kernel
theorem dLi_found_48 : decode (mB Li_found) 48 = .ok (.iload 4, 2) := by decide +kernel
theorem dLi_found_50 : decode (mB Li_found) 50 = .ok (.aload_n 0, 1) := by decide +kernel
theorem dLi_found_51 : decode (mB Li_found) 51 = .ok (.getfield 43, 3) := by decide +kernel
theorem dLi_found_54 : decode (mB Li_found) 54 = .ok (.invokevirtual 97, 3) := by decide +kernel
theorem dLi_found_57 : decode (mB Li_found) 57 = .ok (.aload_n 0, 1) := by decide +kernel
theorem dLi_found_58 : decode (mB Li_found) 58 = .ok (.getfield 29, 3) := by decide +kernel
theorem dLi_found_61 : decode (mB Li_found) 61 = .ok (.iload 4, 2) := by decide +kernel
theorem dLi_found_63 : decode (mB Li_found) 63 = .ok (.iload_n 3, 1) := by decide +kernel
theorem dLi_found_64 : decode (mB Li_found) 64 = .ok (.invokevirtual 97, 3) := by decide +kernel
theorem dLi_found_67 : decode (mB Li_found) 67 = .ok (.aload_n 0, 1) := by decide +kernel
theorem dLi_found_68 : decode (mB Li_found) 68 = .ok (.dup, 1) := by decide +kernel
theorem dLi_found_69 : decode (mB Li_found) 69 = .ok (.getfield 43, 3) := by decide +kernel
theorem dLi_found_72 : decode (mB Li_found) 72 = .ok (.iload_n 3, 1) := by decide +kernel
theorem dLi_found_73 : decode (mB Li_found) 73 = .ok (.iadd, 1) := by decide +kernel
theorem dLi_found_74 : decode (mB Li_found) 74 = .ok (.putfield 43, 3) := by decide +kernel
theorem dLi_found_77 : decode (mB Li_found) 77 = .ok (.iload 4, 2) := by decide +kernel
theorem dLi_found_79 : decode (mB Li_found) 79 = .ok (.ireturn, 1) := by decide +kernel
def w_Li_found (o : Nat) (x1 : Option Nat) (x2 : Int32) (x3 : Int32) (h : tpH) (R : Int32 → tpH → Prop) : Prop :=
  hT h o = 4 ∧ (∀ h2, h2 = sI h o 7 ((hI h o 7) + (1 : Int32)) → (∃ a4, x1 = some a4 ∧ hT h2 a4 = 12 ∧ (w_Tr_markOf a4 x2 h2 (fun v8 h7 => ∃ a9, (hR h2 o 2) = some a9 ∧ hT h7 a9 = 8 ∧ (w_Ro_put a9 (hI h o 7) v8 h7 (fun h12 => hT h12 o = 4 ∧ (hT h12 a4 = 12 ∧ (w_Tr_worthOf a4 x2 h12 (fun v16 h15 => ∃ a17, (hR h12 o 3) = some a17 ∧ hT h15 a17 = 8 ∧ (w_Ro_put a17 (hI h o 7) v16 h15 (fun h20 => hT h20 o = 4 ∧ (∃ a22, (hR h20 o 4) = some a22 ∧ hT h20 a22 = 8 ∧ (w_Ro_put a22 (hI h o 7) (hI h20 o 8) h20 (fun h25 => hT h25 o = 4 ∧ (∃ a27, (hR h25 o 5) = some a27 ∧ hT h25 a27 = 8 ∧ (w_Ro_put a27 (hI h o 7) x3 h25 (fun h30 => hT h30 o = 4 ∧ (∀ h32, h32 = sI h30 o 8 ((hI h30 o 8) + x3) → (R (hI h o 7) h32)))))))))))))))))))
theorem s_Li_found {o : Nat} {x1 : Option Nat} {x2 : Int32} {x3 : Int32} {h : tpH} {R : Int32 → tpH → Prop} (hw : w_Li_found o x1 x2 x3 h R) : tpC Li_found 2 [vR (some o), vR x1, vI x2, vI x3] h (tpOi R (fun _ _ => False)) := by
  refine tpC_of mv_Li_found.2.2.2.1 rfl rfl (Nat.le_of_ble_eq_true rfl) ?_
  show tpR Li_found 2 h _ _ 0 [some (vR (some o)), some (vR x1), some (vI x2), some (vI x3), none] [] h
  unfold w_Li_found at hw
  refine tq_aload_n dLi_found_0 rfl rfl ?_
  obtain ⟨f1, hw⟩ := hw
  refine te_geti dLi_found_1 fLi_39 rfl rfl f1 ?_
  refine tq_istore (ls' := [some (vR (some o)), some (vR x1), some (vI x2), some (vI x3), some (vI (hI h o 7))]) dLi_found_4 (Nat.le_of_ble_eq_true rfl) rfl ?_
  refine tq_aload_n dLi_found_6 rfl rfl ?_
  refine tq_dup dLi_found_7 rfl ?_
  refine te_geti dLi_found_8 fLi_39 rfl rfl f1 ?_
  refine tq_iconst (v := (1 : Int32)) dLi_found_11 tni_1 ?_
  refine tq_iadd dLi_found_12 ?_
  refine te_puti dLi_found_13 pLi_39 rfl rfl rfl f1 ⟨rfl, rfl⟩ (fun h2 e3 => ?_)
  have hw := hw h2 e3
  refine tq_aload_n dLi_found_16 rfl rfl ?_
  refine te_getr dLi_found_17 fLi_20 rfl rfl (by rw [e3]; exact f1) ?_
  refine tq_iload dLi_found_20 rfl ?_
  refine tq_aload_n dLi_found_22 rfl rfl ?_
  refine tq_iload_n dLi_found_23 rfl rfl ?_
  obtain ⟨a4, e5, f6, hw⟩ := hw
  refine te_callV mv_Tr_markOf (ci := 11) (dc := 1) (as := [vI x2]) (rest := [vI (hI h o 7), vR (hR h2 o 2)]) kLi_69 rfl (Nat.le_of_ble_eq_true rfl) (Nat.le_of_ble_eq_true rfl) rfl rfl e5 f6 (Nat.le_of_ble_eq_true rfl) dLi_found_24 (s_Tr_markOf hw) (fun _ _ hx => False.elim hx) (tk_i fun v8 h7 hw => ?_)
  obtain ⟨a9, e10, f11, hw⟩ := hw
  refine te_callV mv_Ro_put (ci := 7) (dc := 0) (as := [vI (hI h o 7), vI v8]) (rest := []) kLi_97 rfl (Nat.le_of_ble_eq_true rfl) (Nat.le_of_ble_eq_true rfl) rfl rfl e10 f11 (Nat.le_of_ble_eq_true rfl) dLi_found_27 (s_Ro_put hw) (fun _ _ hx => False.elim hx) (tk_v fun h12 hw => ?_)
  refine tq_aload_n dLi_found_30 rfl rfl ?_
  obtain ⟨f13, hw⟩ := hw
  refine te_getr dLi_found_31 fLi_23 rfl rfl f13 ?_
  refine tq_iload dLi_found_34 rfl ?_
  refine tq_aload_n dLi_found_36 rfl rfl ?_
  refine tq_iload_n dLi_found_37 rfl rfl ?_
  obtain ⟨f14, hw⟩ := hw
  refine te_callV mv_Tr_worthOf (ci := 11) (dc := 1) (as := [vI x2]) (rest := [vI (hI h o 7), vR (hR h12 o 3)]) kLi_86 rfl (Nat.le_of_ble_eq_true rfl) (Nat.le_of_ble_eq_true rfl) rfl rfl e5 f14 (Nat.le_of_ble_eq_true rfl) dLi_found_38 (s_Tr_worthOf hw) (fun _ _ hx => False.elim hx) (tk_i fun v16 h15 hw => ?_)
  obtain ⟨a17, e18, f19, hw⟩ := hw
  refine te_callV mv_Ro_put (ci := 7) (dc := 0) (as := [vI (hI h o 7), vI v16]) (rest := []) kLi_97 rfl (Nat.le_of_ble_eq_true rfl) (Nat.le_of_ble_eq_true rfl) rfl rfl e18 f19 (Nat.le_of_ble_eq_true rfl) dLi_found_41 (s_Ro_put hw) (fun _ _ hx => False.elim hx) (tk_v fun h20 hw => ?_)
  refine tq_aload_n dLi_found_44 rfl rfl ?_
  obtain ⟨f21, hw⟩ := hw
  refine te_getr dLi_found_45 fLi_26 rfl rfl f21 ?_
  refine tq_iload dLi_found_48 rfl ?_
  refine tq_aload_n dLi_found_50 rfl rfl ?_
  refine te_geti dLi_found_51 fLi_43 rfl rfl f21 ?_
  obtain ⟨a22, e23, f24, hw⟩ := hw
  refine te_callV mv_Ro_put (ci := 7) (dc := 0) (as := [vI (hI h o 7), vI (hI h20 o 8)]) (rest := []) kLi_97 rfl (Nat.le_of_ble_eq_true rfl) (Nat.le_of_ble_eq_true rfl) rfl rfl e23 f24 (Nat.le_of_ble_eq_true rfl) dLi_found_54 (s_Ro_put hw) (fun _ _ hx => False.elim hx) (tk_v fun h25 hw => ?_)
  refine tq_aload_n dLi_found_57 rfl rfl ?_
  obtain ⟨f26, hw⟩ := hw
  refine te_getr dLi_found_58 fLi_29 rfl rfl f26 ?_
  refine tq_iload dLi_found_61 rfl ?_
  refine tq_iload_n dLi_found_63 rfl rfl ?_
  obtain ⟨a27, e28, f29, hw⟩ := hw
  refine te_callV mv_Ro_put (ci := 7) (dc := 0) (as := [vI (hI h o 7), vI x3]) (rest := []) kLi_97 rfl (Nat.le_of_ble_eq_true rfl) (Nat.le_of_ble_eq_true rfl) rfl rfl e28 f29 (Nat.le_of_ble_eq_true rfl) dLi_found_64 (s_Ro_put hw) (fun _ _ hx => False.elim hx) (tk_v fun h30 hw => ?_)
  refine tq_aload_n dLi_found_67 rfl rfl ?_
  refine tq_dup dLi_found_68 rfl ?_
  obtain ⟨f31, hw⟩ := hw
  refine te_geti dLi_found_69 fLi_43 rfl rfl f31 ?_
  refine tq_iload_n dLi_found_72 rfl rfl ?_
  refine tq_iadd dLi_found_73 ?_
  refine te_puti dLi_found_74 pLi_43 rfl rfl rfl f31 ⟨rfl, rfl⟩ (fun h32 e33 => ?_)
  have hw := hw h32 e33
  refine tq_iload dLi_found_77 rfl ?_
  exact tq_iret rfl rfl dLi_found_79 hw
/-! T$Likes.sortIn -/
theorem dLi_sortIn_0 : decode (mB Li_sortIn) 0 = .ok (.aload_n 1, 1) := by decide +kernel
theorem dLi_sortIn_1 : decode (mB Li_sortIn) 1 = .ok (.iload_n 2, 1) := by decide +kernel
theorem dLi_sortIn_2 : decode (mB Li_sortIn) 2 = .ok (.invokevirtual 66, 3) := by decide +kernel
theorem dLi_sortIn_5 : decode (mB Li_sortIn) 5 = .ok (.istore 4, 2) := by decide +kernel
theorem dLi_sortIn_7 : decode (mB Li_sortIn) 7 = .ok (.aload_n 0, 1) := by decide +kernel
theorem dLi_sortIn_8 : decode (mB Li_sortIn) 8 = .ok (.getfield 35, 3) := by decide +kernel
theorem dLi_sortIn_11 : decode (mB Li_sortIn) 11 = .ok (.aload_n 1, 1) := by decide +kernel
theorem dLi_sortIn_12 : decode (mB Li_sortIn) 12 = .ok (.iload_n 2, 1) := by decide +kernel
theorem dLi_sortIn_13 : decode (mB Li_sortIn) 13 = .ok (.invokevirtual 69, 3) := by decide +kernel
theorem dLi_sortIn_16 : decode (mB Li_sortIn) 16 = .ok (.invokevirtual 72, 3) := by decide +kernel
theorem dLi_sortIn_19 : decode (mB Li_sortIn) 19 = .ok (.istore 5, 2) := by decide +kernel
theorem dLi_sortIn_21 : decode (mB Li_sortIn) 21 = .ok (.iconst 0, 1) := by decide +kernel
theorem dLi_sortIn_22 : decode (mB Li_sortIn) 22 = .ok (.istore 6, 2) := by decide +kernel
theorem dLi_sortIn_24 : decode (mB Li_sortIn) 24 = .ok (.iload 6, 2) := by decide +kernel
theorem dLi_sortIn_26 : decode (mB Li_sortIn) 26 = .ok (.iload 4, 2) := by decide +kernel
theorem dLi_sortIn_28 : decode (mB Li_sortIn) 28 = .ok (.if_icmp .ge 46, 3) := by decide +kernel
theorem dLi_sortIn_31 : decode (mB Li_sortIn) 31 = .ok (.aload_n 0, 1) := by decide +kernel
theorem dLi_sortIn_32 : decode (mB Li_sortIn) 32 = .ok (.getfield 14, 3) := by decide +kernel
theorem dLi_sortIn_35 : decode (mB Li_sortIn) 35 = .ok (.iload_n 3, 1) := by decide +kernel
theorem dLi_sortIn_36 : decode (mB Li_sortIn) 36 = .ok (.aload_n 1, 1) := by decide +kernel
theorem dLi_sortIn_37 : decode (mB Li_sortIn) 37 = .ok (.iload_n 2, 1) := by decide +kernel
theorem dLi_sortIn_38 : decode (mB Li_sortIn) 38 = .ok (.iload 6, 2) := by decide +kernel
theorem dLi_sortIn_40 : decode (mB Li_sortIn) 40 = .ok (.invokevirtual 78, 3) := by decide +kernel
theorem dLi_sortIn_43 : decode (mB Li_sortIn) 43 = .ok (.iadd, 1) := by decide +kernel
theorem dLi_sortIn_44 : decode (mB Li_sortIn) 44 = .ok (.invokevirtual 62, 3) := by decide +kernel
theorem dLi_sortIn_47 : decode (mB Li_sortIn) 47 = .ok (.istore 7, 2) := by decide +kernel
theorem dLi_sortIn_49 : decode (mB Li_sortIn) 49 = .ok (.aload_n 0, 1) := by decide +kernel
theorem dLi_sortIn_50 : decode (mB Li_sortIn) 50 = .ok (.iload 7, 2) := by decide +kernel
theorem dLi_sortIn_52 : decode (mB Li_sortIn) 52 = .ok (.aload_n 0, 1) := by decide +kernel
theorem dLi_sortIn_53 : decode (mB Li_sortIn) 53 = .ok (.getfield 43, 3) := by decide +kernel
theorem dLi_sortIn_56 : decode (mB Li_sortIn) 56 = .ok (.aload_n 0, 1) := by decide +kernel
theorem dLi_sortIn_57 : decode (mB Li_sortIn) 57 = .ok (.getfield 43, 3) := by decide +kernel
theorem dLi_sortIn_60 : decode (mB Li_sortIn) 60 = .ok (.iload 6, 2) := by decide +kernel
theorem dLi_sortIn_62 : decode (mB Li_sortIn) 62 = .ok (.iadd, 1) := by decide +kernel
theorem dLi_sortIn_63 : decode (mB Li_sortIn) 63 = .ok (.iload 5, 2) := by decide +kernel
theorem dLi_sortIn_65 : decode (mB Li_sortIn) 65 = .ok (.invokevirtual 82, 3) := by decide +kernel
theorem dLi_sortIn_68 : decode (mB Li_sortIn) 68 = .ok (.iinc 6 1, 3) := by decide +kernel
theorem dLi_sortIn_71 : decode (mB Li_sortIn) 71 = .ok (.goto (-47), 3) := by decide +kernel
theorem dLi_sortIn_74 : decode (mB Li_sortIn) 74 = .ok (.aload_n 0, 1) := by decide +kernel
theorem dLi_sortIn_75 : decode (mB Li_sortIn) 75 = .ok (.aload_n 1, 1) := by decide +kernel
theorem dLi_sortIn_76 : decode (mB Li_sortIn) 76 = .ok (.iload_n 2, 1) := by decide +kernel
theorem dLi_sortIn_77 : decode (mB Li_sortIn) 77 = .ok (.invokevirtual 69, 3) := by decide +kernel
theorem dLi_sortIn_80 : decode (mB Li_sortIn) 80 = .ok (.aload_n 1, 1) := by decide +kernel
theorem dLi_sortIn_81 : decode (mB Li_sortIn) 81 = .ok (.iload_n 2, 1) := by decide +kernel
theorem dLi_sortIn_82 : decode (mB Li_sortIn) 82 = .ok (.invokevirtual 86, 3) := by decide +kernel
theorem dLi_sortIn_85 : decode (mB Li_sortIn) 85 = .ok (.iload 4, 2) := by decide +kernel
theorem dLi_sortIn_87 : decode (mB Li_sortIn) 87 = .ok (.invokevirtual 89, 3) := by decide +kernel
theorem dLi_sortIn_90 : decode (mB Li_sortIn) 90 = .ok (.istore 6, 2) := by decide +kernel
theorem dLi_sortIn_92 : decode (mB Li_sortIn) 92 = .ok (.aload_n 0, 1) := by decide +kernel
theorem dLi_sortIn_93 : decode (mB Li_sortIn) 93 = .ok (.getfield 14, 3) := by decide +kernel
theorem dLi_sortIn_96 : decode (mB Li_sortIn) 96 = .ok (.iload_n 3, 1) := by decide +kernel
theorem dLi_sortIn_97 : decode (mB Li_sortIn) 97 = .ok (.iload_n 2, 1) := by decide +kernel
theorem dLi_sortIn_98 : decode (mB Li_sortIn) 98 = .ok (.iadd, 1) := by decide +kernel
theorem dLi_sortIn_99 : decode (mB Li_sortIn) 99 = .ok (.iload 6, 2) := by decide +kernel
theorem dLi_sortIn_101 : decode (mB Li_sortIn) 101 = .ok (.iconst (-1), 1) := by decide +kernel
theorem dLi_sortIn_102 : decode (mB Li_sortIn) 102 = .ok (.if_icmp .ne 14, 3) := by decide +kernel
theorem dLi_sortIn_105 : decode (mB Li_sortIn) 105 = .ok (.aload_n 0, 1) := by decide +kernel
theorem dLi_sortIn_106 : decode (mB Li_sortIn) 106 = .ok (.aload_n 1, 1) := by decide +kernel
theorem dLi_sortIn_107 : decode (mB Li_sortIn) 107 = .ok (.iload_n 2, 1) := by decide +kernel
theorem dLi_sortIn_108 : decode (mB Li_sortIn) 108 = .ok (.iload 4, 2) := by decide +kernel
theorem dLi_sortIn_110 : decode (mB Li_sortIn) 110 = .ok (.invokevirtual 93, 3) := by decide +kernel
theorem dLi_sortIn_113 : decode (mB Li_sortIn) 113 = .ok (.goto 5, 3) := by decide +kernel
theorem dLi_sortIn_116 : decode (mB Li_sortIn) 116 = .ok (.iload 6, 2) := by decide +kernel
theorem dLi_sortIn_118 : decode (mB Li_sortIn) 118 = .ok (.invokevirtual 97, 3) := by decide +kernel
theorem dLi_sortIn_121 : decode (mB Li_sortIn) 121 = .ok (.return_, 1) := by decide +kernel
def w_Li_sortIn_118 (R : tpH → Prop) (t0 : Int32) (t1 : Int32) (t2 : Option Nat) (h : tpH) : Prop :=
  ∃ a1, t2 = some a1 ∧ hT h a1 = 8 ∧ (w_Ro_put a1 t1 t0 h (fun h4 => R h4))
def b_Li_sortIn_24 (R : tpH → Prop) (Y : Nat → (Option Nat) → Int32 → Int32 → Int32 → Int32 → Int32 → tpH → Prop) (o : Nat) (x1 : Option Nat) (x2 : Int32) (x3 : Int32) (x4 : Int32) (x5 : Int32) (x6 : Int32) (h : tpH) : Prop :=
  (x4 ≤ x6 → (∃ a2, x1 = some a2 ∧ hT h a2 = 12 ∧ (w_Tr_markOf a2 x2 h (fun v6 h5 => hT h5 a2 = 12 ∧ (w_Tr_worthOf a2 x2 h5 (fun v9 h8 => hT h8 o = 4 ∧ (w_Li_knownFamily o v6 v9 x4 h8 (fun v12 h11 => hT h11 o = 4 ∧ ((¬ v12 = (-1 : Int32) → (w_Li_sortIn_118 R v12 (x3 + x2) (hR h11 o 1) h11)) ∧ (v12 = (-1 : Int32) → (w_Li_found o x1 x2 x4 h11 (fun v16 h15 => w_Li_sortIn_118 R v16 (x3 + x2) (hR h11 o 1) h15)))))))))))) ∧ (¬ x4 ≤ x6 → (hT h o = 4 ∧ (∃ a18, x1 = some a18 ∧ hT h a18 = 12 ∧ (w_Tr_kid a18 x2 x6 h (fun v22 h21 => ∃ a23, (hR h o 1) = some a23 ∧ hT h21 a23 = 8 ∧ (w_Ro_at a23 (x3 + v22) h21 (fun v27 h26 => hT h26 o = 4 ∧ (w_Li_layDown o v27 (hI h26 o 8) ((hI h26 o 8) + x6) x5 h26 (fun h29 => Y o x1 x2 x3 x4 x5 (x6 + (1 : Int32)) h29)))))))))
def w_Li_sortIn_24 (R : tpH → Prop) : Nat → Nat → (Option Nat) → Int32 → Int32 → Int32 → Int32 → Int32 → tpH → Prop
  | 0 => fun _ _ _ _ _ _ _ _ => False
  | n + 1 => b_Li_sortIn_24 R (w_Li_sortIn_24 R n)
def w_Li_sortIn (o : Nat) (x1 : Option Nat) (x2 : Int32) (x3 : Int32) (h : tpH) (R : tpH → Prop) : Prop :=
  ∃ a1, x1 = some a1 ∧ hT h a1 = 12 ∧ (w_Tr_kidsOf a1 x2 h (fun v5 h4 => hT h4 o = 4 ∧ (hT h4 a1 = 12 ∧ (w_Tr_markOf a1 x2 h4 (fun v9 h8 => ∃ a10, (hR h4 o 0) = some a10 ∧ hT h8 a10 = 5 ∧ (w_Ma_isLoose a10 v9 h8 (fun v14 h13 => ∃ n, w_Li_sortIn_24 R n o x1 x2 x3 v5 v14 (0 : Int32) h13)))))))
theorem s_Li_sortIn_118 {h0 : tpH} {av : List tpV} {R : tpH → Prop} : ∀ (t0 : Int32) (t1 : Int32) (t2 : Option Nat) (h : tpH), w_Li_sortIn_118 R t0 t1 t2 h → tpR Li_sortIn 3 h0 av (tpOv R (fun _ _ => False)) 118 [none, none, none, none, none, none, none, none] [vI t0, vI t1, vR t2] h := by
  intro t0 t1 t2 h hw
  unfold w_Li_sortIn_118 at hw
  obtain ⟨a1, e2, f3, hw⟩ := hw
  refine te_callV mv_Ro_put (ci := 7) (dc := 0) (as := [vI t1, vI t0]) (rest := []) kLi_97 rfl (Nat.le_of_ble_eq_true rfl) (Nat.le_of_ble_eq_true rfl) rfl rfl e2 f3 (Nat.le_of_ble_eq_true rfl) dLi_sortIn_118 (s_Ro_put hw) (fun _ _ hx => False.elim hx) (tk_v fun h4 hw => ?_)
  exact tq_vret rfl dLi_sortIn_121 hw
theorem s_Li_sortIn_24 {h0 : tpH} {av : List tpV} {R : tpH → Prop} : ∀ (n : Nat) (o : Nat) (x1 : Option Nat) (x2 : Int32) (x3 : Int32) (x4 : Int32) (x5 : Int32) (x6 : Int32) (h : tpH), w_Li_sortIn_24 R n o x1 x2 x3 x4 x5 x6 h → tpR Li_sortIn 3 h0 av (tpOv R (fun _ _ => False)) 24 [some (vR (some o)), some (vR x1), some (vI x2), some (vI x3), some (vI x4), some (vI x5), some (vI x6), none] [] h := by
  intro n
  induction n with
  | zero => intro o x1 x2 x3 x4 x5 x6 h hw; exact False.elim hw
  | succ n ih =>
    intro o x1 x2 x3 x4 x5 x6 h hw
    change b_Li_sortIn_24 R (w_Li_sortIn_24 R n) o x1 x2 x3 x4 x5 x6 h at hw
    unfold b_Li_sortIn_24 at hw
    refine tq_iload dLi_sortIn_24 rfl ?_
    refine tq_iload dLi_sortIn_26 rfl ?_
    refine tq_icmpge (tgt := 74) dLi_sortIn_28 (by decide) (fun c1 => ?_) (fun c1 => ?_)
    · have hw := hw.1 c1
      refine tq_aload_n dLi_sortIn_74 rfl rfl ?_
      refine tq_aload_n dLi_sortIn_75 rfl rfl ?_
      refine tq_iload_n dLi_sortIn_76 rfl rfl ?_
      obtain ⟨a2, e3, f4, hw⟩ := hw
      refine te_callV mv_Tr_markOf (ci := 11) (dc := 1) (as := [vI x2]) (rest := [vR (some o)]) kLi_69 rfl (Nat.le_of_ble_eq_true rfl) (Nat.le_of_ble_eq_true rfl) rfl rfl e3 f4 (Nat.le_of_ble_eq_true rfl) dLi_sortIn_77 (s_Tr_markOf hw) (fun _ _ hx => False.elim hx) (tk_i fun v6 h5 hw => ?_)
      refine tq_aload_n dLi_sortIn_80 rfl rfl ?_
      refine tq_iload_n dLi_sortIn_81 rfl rfl ?_
      obtain ⟨f7, hw⟩ := hw
      refine te_callV mv_Tr_worthOf (ci := 11) (dc := 1) (as := [vI x2]) (rest := [vI v6, vR (some o)]) kLi_86 rfl (Nat.le_of_ble_eq_true rfl) (Nat.le_of_ble_eq_true rfl) rfl rfl e3 f7 (Nat.le_of_ble_eq_true rfl) dLi_sortIn_82 (s_Tr_worthOf hw) (fun _ _ hx => False.elim hx) (tk_i fun v9 h8 hw => ?_)
      refine tq_iload dLi_sortIn_85 rfl ?_
      obtain ⟨f10, hw⟩ := hw
      refine te_callV mv_Li_knownFamily (ci := 3) (dc := 2) (as := [vI v6, vI v9, vI x4]) (rest := []) kLi_89 rfl (Nat.le_of_ble_eq_true rfl) (Nat.le_of_ble_eq_true rfl) rfl rfl rfl f10 (Nat.le_of_ble_eq_true rfl) dLi_sortIn_87 (s_Li_knownFamily hw) (fun _ _ hx => False.elim hx) (tk_i fun v12 h11 hw => ?_)
      refine tq_istore (ls' := [some (vR (some o)), some (vR x1), some (vI x2), some (vI x3), some (vI x4), some (vI x5), some (vI v12), none]) dLi_sortIn_90 (Nat.le_of_ble_eq_true rfl) rfl ?_
      refine tq_aload_n dLi_sortIn_92 rfl rfl ?_
      obtain ⟨f13, hw⟩ := hw
      refine te_getr dLi_sortIn_93 fLi_14 rfl rfl f13 ?_
      refine tq_iload_n dLi_sortIn_96 rfl rfl ?_
      refine tq_iload_n dLi_sortIn_97 rfl rfl ?_
      refine tq_iadd dLi_sortIn_98 ?_
      refine tq_iload dLi_sortIn_99 rfl ?_
      refine tq_iconst (v := (-1 : Int32)) dLi_sortIn_101 tni_m1 ?_
      refine tq_icmpne (tgt := 116) dLi_sortIn_102 (by decide) (fun c14 => ?_) (fun c14 => ?_)
      · have hw := hw.1 c14
        refine tq_iload dLi_sortIn_116 rfl ?_
        refine tpR.fo (ls' := [none, none, none, none, none, none, none, none]) ?_ (trivial)
        exact s_Li_sortIn_118 _ _ _ _ hw
      · have hw := hw.2 c14
        refine tq_aload_n dLi_sortIn_105 rfl rfl ?_
        refine tq_aload_n dLi_sortIn_106 rfl rfl ?_
        refine tq_iload_n dLi_sortIn_107 rfl rfl ?_
        refine tq_iload dLi_sortIn_108 rfl ?_
        refine te_callV mv_Li_found (ci := 3) (dc := 2) (as := [vR x1, vI x2, vI x4]) (rest := [vI (x3 + x2), vR (hR h11 o 1)]) kLi_93 rfl (Nat.le_of_ble_eq_true rfl) (Nat.le_of_ble_eq_true rfl) rfl rfl rfl f13 (Nat.le_of_ble_eq_true rfl) dLi_sortIn_110 (s_Li_found hw) (fun _ _ hx => False.elim hx) (tk_i fun v16 h15 hw => ?_)
        refine tq_goto (tgt := 118) dLi_sortIn_113 (by decide) ?_
        refine tpR.fo (ls' := [none, none, none, none, none, none, none, none]) ?_ (trivial)
        exact s_Li_sortIn_118 _ _ _ _ hw
    · have hw := hw.2 c1
      refine tq_aload_n dLi_sortIn_31 rfl rfl ?_
      obtain ⟨f17, hw⟩ := hw
      refine te_getr dLi_sortIn_32 fLi_14 rfl rfl f17 ?_
      refine tq_iload_n dLi_sortIn_35 rfl rfl ?_
      refine tq_aload_n dLi_sortIn_36 rfl rfl ?_
      refine tq_iload_n dLi_sortIn_37 rfl rfl ?_
      refine tq_iload dLi_sortIn_38 rfl ?_
      obtain ⟨a18, e19, f20, hw⟩ := hw
      refine te_callV mv_Tr_kid (ci := 11) (dc := 1) (as := [vI x2, vI x6]) (rest := [vI x3, vR (hR h o 1)]) kLi_78 rfl (Nat.le_of_ble_eq_true rfl) (Nat.le_of_ble_eq_true rfl) rfl rfl e19 f20 (Nat.le_of_ble_eq_true rfl) dLi_sortIn_40 (s_Tr_kid hw) (fun _ _ hx => False.elim hx) (tk_i fun v22 h21 hw => ?_)
      refine tq_iadd dLi_sortIn_43 ?_
      obtain ⟨a23, e24, f25, hw⟩ := hw
      refine te_callV mv_Ro_at (ci := 7) (dc := 0) (as := [vI (x3 + v22)]) (rest := []) kLi_62 rfl (Nat.le_of_ble_eq_true rfl) (Nat.le_of_ble_eq_true rfl) rfl rfl e24 f25 (Nat.le_of_ble_eq_true rfl) dLi_sortIn_44 (s_Ro_at hw) (fun _ _ hx => False.elim hx) (tk_i fun v27 h26 hw => ?_)
      refine tq_istore (ls' := [some (vR (some o)), some (vR x1), some (vI x2), some (vI x3), some (vI x4), some (vI x5), some (vI x6), some (vI v27)]) dLi_sortIn_47 (Nat.le_of_ble_eq_true rfl) rfl ?_
      refine tq_aload_n dLi_sortIn_49 rfl rfl ?_
      refine tq_iload dLi_sortIn_50 rfl ?_
      refine tq_aload_n dLi_sortIn_52 rfl rfl ?_
      obtain ⟨f28, hw⟩ := hw
      refine te_geti dLi_sortIn_53 fLi_43 rfl rfl f28 ?_
      refine tq_aload_n dLi_sortIn_56 rfl rfl ?_
      refine te_geti dLi_sortIn_57 fLi_43 rfl rfl f28 ?_
      refine tq_iload dLi_sortIn_60 rfl ?_
      refine tq_iadd dLi_sortIn_62 ?_
      refine tq_iload dLi_sortIn_63 rfl ?_
      refine te_callV mv_Li_layDown (ci := 3) (dc := 1) (as := [vI v27, vI (hI h26 o 8), vI ((hI h26 o 8) + x6), vI x5]) (rest := []) kLi_82 rfl (Nat.le_of_ble_eq_true rfl) (Nat.le_of_ble_eq_true rfl) rfl rfl rfl f28 (Nat.le_of_ble_eq_true rfl) dLi_sortIn_65 (s_Li_layDown hw) (fun _ _ hx => False.elim hx) (tk_v fun h29 hw => ?_)
      refine tq_inc (k := (1 : Int32)) (ls' := [some (vR (some o)), some (vR x1), some (vI x2), some (vI x3), some (vI x4), some (vI x5), some (vI (x6 + (1 : Int32))), some (vI v27)]) dLi_sortIn_68 rfl tni_1 (Nat.le_of_ble_eq_true rfl) rfl ?_
      refine tq_goto (tgt := 24) dLi_sortIn_71 (by decide) ?_
      refine tpR.fo (ls' := [some (vR (some o)), some (vR x1), some (vI x2), some (vI x3), some (vI x4), some (vI x5), some (vI (x6 + (1 : Int32))), none]) ?_ (And.intro rfl (And.intro rfl (And.intro rfl (And.intro rfl (And.intro rfl (And.intro rfl (And.intro rfl trivial)))))))
      exact ih _ _ _ _ _ _ _ _ hw
theorem s_Li_sortIn {o : Nat} {x1 : Option Nat} {x2 : Int32} {x3 : Int32} {h : tpH} {R : tpH → Prop} (hw : w_Li_sortIn o x1 x2 x3 h R) : tpC Li_sortIn 3 [vR (some o), vR x1, vI x2, vI x3] h (tpOv R (fun _ _ => False)) := by
  refine tpC_of mv_Li_sortIn.2.2.2.1 rfl rfl (Nat.le_of_ble_eq_true rfl) ?_
  show tpR Li_sortIn 3 h _ _ 0 [some (vR (some o)), some (vR x1), some (vI x2), some (vI x3), none, none, none, none] [] h
  unfold w_Li_sortIn at hw
  refine tq_aload_n dLi_sortIn_0 rfl rfl ?_
  refine tq_iload_n dLi_sortIn_1 rfl rfl ?_
  obtain ⟨a1, e2, f3, hw⟩ := hw
  refine te_callV mv_Tr_kidsOf (ci := 11) (dc := 1) (as := [vI x2]) (rest := []) kLi_66 rfl (Nat.le_of_ble_eq_true rfl) (Nat.le_of_ble_eq_true rfl) rfl rfl e2 f3 (Nat.le_of_ble_eq_true rfl) dLi_sortIn_2 (s_Tr_kidsOf hw) (fun _ _ hx => False.elim hx) (tk_i fun v5 h4 hw => ?_)
  refine tq_istore (ls' := [some (vR (some o)), some (vR x1), some (vI x2), some (vI x3), some (vI v5), none, none, none]) dLi_sortIn_5 (Nat.le_of_ble_eq_true rfl) rfl ?_
  refine tq_aload_n dLi_sortIn_7 rfl rfl ?_
  obtain ⟨f6, hw⟩ := hw
  refine te_getr dLi_sortIn_8 fLi_35 rfl rfl f6 ?_
  refine tq_aload_n dLi_sortIn_11 rfl rfl ?_
  refine tq_iload_n dLi_sortIn_12 rfl rfl ?_
  obtain ⟨f7, hw⟩ := hw
  refine te_callV mv_Tr_markOf (ci := 11) (dc := 1) (as := [vI x2]) (rest := [vR (hR h4 o 0)]) kLi_69 rfl (Nat.le_of_ble_eq_true rfl) (Nat.le_of_ble_eq_true rfl) rfl rfl e2 f7 (Nat.le_of_ble_eq_true rfl) dLi_sortIn_13 (s_Tr_markOf hw) (fun _ _ hx => False.elim hx) (tk_i fun v9 h8 hw => ?_)
  obtain ⟨a10, e11, f12, hw⟩ := hw
  refine te_callV mv_Ma_isLoose (ci := 4) (dc := 1) (as := [vI v9]) (rest := []) kLi_72 rfl (Nat.le_of_ble_eq_true rfl) (Nat.le_of_ble_eq_true rfl) rfl rfl e11 f12 (Nat.le_of_ble_eq_true rfl) dLi_sortIn_16 (s_Ma_isLoose hw) (fun _ _ hx => False.elim hx) (tk_i fun v14 h13 hw => ?_)
  refine tq_istore (ls' := [some (vR (some o)), some (vR x1), some (vI x2), some (vI x3), some (vI v5), some (vI v14), none, none]) dLi_sortIn_19 (Nat.le_of_ble_eq_true rfl) rfl ?_
  refine tq_iconst (v := (0 : Int32)) dLi_sortIn_21 tni_0 ?_
  refine tq_istore (ls' := [some (vR (some o)), some (vR x1), some (vI x2), some (vI x3), some (vI v5), some (vI v14), some (vI (0 : Int32)), none]) dLi_sortIn_22 (Nat.le_of_ble_eq_true rfl) rfl ?_
  refine tpR.fo (ls' := [some (vR (some o)), some (vR x1), some (vI x2), some (vI x3), some (vI v5), some (vI v14), some (vI (0 : Int32)), none]) ?_ (And.intro rfl (And.intro rfl (And.intro rfl (And.intro rfl (And.intro rfl (And.intro rfl (And.intro rfl trivial)))))))
  obtain ⟨n, hw⟩ := hw
  exact s_Li_sortIn_24 n _ _ _ _ _ _ _ _ hw
/-! T$Likes.areOneFamily -/
theorem dLi_areOneFamily_0 : decode (mB Li_areOneFamily) 0 = .ok (.aload_n 0, 1) := by decide +kernel
theorem dLi_areOneFamily_1 : decode (mB Li_areOneFamily) 1 = .ok (.getfield 14, 3) := by decide +kernel
theorem dLi_areOneFamily_4 : decode (mB Li_areOneFamily) 4 = .ok (.iload_n 1, 1) := by decide +kernel
theorem dLi_areOneFamily_5 : decode (mB Li_areOneFamily) 5 = .ok (.invokevirtual 62, 3) := by decide +kernel
theorem dLi_areOneFamily_8 : decode (mB Li_areOneFamily) 8 = .ok (.aload_n 0, 1) := by decide +kernel
theorem dLi_areOneFamily_9 : decode (mB Li_areOneFamily) 9 = .ok (.getfield 14, 3) := by decide +kernel
theorem dLi_areOneFamily_12 : decode (mB Li_areOneFamily) 12 = .ok (.sipush 300, 3) := by decide +kernel
theorem dLi_areOneFamily_15 : decode (mB Li_areOneFamily) 15 = .ok (.iload_n 2, 1) := by decide +kernel
theorem dLi_areOneFamily_16 : decode (mB Li_areOneFamily) 16 = .ok (.iadd, 1) := by decide +kernel
theorem dLi_areOneFamily_17 : decode (mB Li_areOneFamily) 17 = .ok (.invokevirtual 62, 3) := by decide +kernel
theorem dLi_areOneFamily_20 : decode (mB Li_areOneFamily) 20 = .ok (.if_icmp .ne 7, 3) := by decide +kernel
theorem dLi_areOneFamily_23 : decode (mB Li_areOneFamily) 23 = .ok (.iconst 1, 1) := by decide +kernel
theorem dLi_areOneFamily_24 : decode (mB Li_areOneFamily) 24 = .ok (.goto 4, 3) := by decide +kernel
theorem dLi_areOneFamily_27 : decode (mB Li_areOneFamily) 27 = .ok (.iconst 0, 1) := by decide +kernel
theorem dLi_areOneFamily_28 : decode (mB Li_areOneFamily) 28 = .ok (.ireturn, 1) := by decide +kernel
def w_Li_areOneFamily (o : Nat) (x1 : Int32) (x2 : Int32) (h : tpH) (R : Int32 → tpH → Prop) : Prop :=
  hT h o = 4 ∧ (∃ a2, (hR h o 1) = some a2 ∧ hT h a2 = 8 ∧ (w_Ro_at a2 x1 h (fun v6 h5 => hT h5 o = 4 ∧ (∃ a8, (hR h5 o 1) = some a8 ∧ hT h5 a8 = 8 ∧ (w_Ro_at a8 ((300 : Int32) + x2) h5 (fun v12 h11 => (¬ v6 = v12 → (R (0 : Int32) h11)) ∧ (v6 = v12 → (R (1 : Int32) h11))))))))
theorem s_Li_areOneFamily {o : Nat} {x1 : Int32} {x2 : Int32} {h : tpH} {R : Int32 → tpH → Prop} (hw : w_Li_areOneFamily o x1 x2 h R) : tpC Li_areOneFamily 1 [vR (some o), vI x1, vI x2] h (tpOi R (fun _ _ => False)) := by
  refine tpC_of mv_Li_areOneFamily.2.2.2.1 rfl rfl (Nat.le_of_ble_eq_true rfl) ?_
  show tpR Li_areOneFamily 1 h _ _ 0 [some (vR (some o)), some (vI x1), some (vI x2)] [] h
  unfold w_Li_areOneFamily at hw
  refine tq_aload_n dLi_areOneFamily_0 rfl rfl ?_
  obtain ⟨f1, hw⟩ := hw
  refine te_getr dLi_areOneFamily_1 fLi_14 rfl rfl f1 ?_
  refine tq_iload_n dLi_areOneFamily_4 rfl rfl ?_
  obtain ⟨a2, e3, f4, hw⟩ := hw
  refine te_callV mv_Ro_at (ci := 7) (dc := 0) (as := [vI x1]) (rest := []) kLi_62 rfl (Nat.le_of_ble_eq_true rfl) (Nat.le_of_ble_eq_true rfl) rfl rfl e3 f4 (Nat.le_of_ble_eq_true rfl) dLi_areOneFamily_5 (s_Ro_at hw) (fun _ _ hx => False.elim hx) (tk_i fun v6 h5 hw => ?_)
  refine tq_aload_n dLi_areOneFamily_8 rfl rfl ?_
  obtain ⟨f7, hw⟩ := hw
  refine te_getr dLi_areOneFamily_9 fLi_14 rfl rfl f7 ?_
  refine tq_sipush (v := (300 : Int32)) dLi_areOneFamily_12 tns_300 ?_
  refine tq_iload_n dLi_areOneFamily_15 rfl rfl ?_
  refine tq_iadd dLi_areOneFamily_16 ?_
  obtain ⟨a8, e9, f10, hw⟩ := hw
  refine te_callV mv_Ro_at (ci := 7) (dc := 0) (as := [vI ((300 : Int32) + x2)]) (rest := [vI v6]) kLi_62 rfl (Nat.le_of_ble_eq_true rfl) (Nat.le_of_ble_eq_true rfl) rfl rfl e9 f10 (Nat.le_of_ble_eq_true rfl) dLi_areOneFamily_17 (s_Ro_at hw) (fun _ _ hx => False.elim hx) (tk_i fun v12 h11 hw => ?_)
  refine tq_icmpne (tgt := 27) dLi_areOneFamily_20 (by decide) (fun c13 => ?_) (fun c13 => ?_)
  · have hw := hw.1 c13
    refine tq_iconst (v := (0 : Int32)) dLi_areOneFamily_27 tni_0 ?_
    exact tq_iret rfl (by decide) dLi_areOneFamily_28 hw
  · have hw := hw.2 c13
    refine tq_iconst (v := (1 : Int32)) dLi_areOneFamily_23 tni_1 ?_
    refine tq_goto (tgt := 28) dLi_areOneFamily_24 (by decide) ?_
    exact tq_iret rfl (by decide) dLi_areOneFamily_28 hw
/-! T$Likes.rootsAlike -/
theorem dLi_rootsAlike_0 : decode (mB Li_rootsAlike) 0 = .ok (.aload_n 0, 1) := by decide +kernel
theorem dLi_rootsAlike_1 : decode (mB Li_rootsAlike) 1 = .ok (.invokevirtual 46, 3) := by decide +kernel
theorem dLi_rootsAlike_4 : decode (mB Li_rootsAlike) 4 = .ok (.aload_n 1, 1) := by decide +kernel
theorem dLi_rootsAlike_5 : decode (mB Li_rootsAlike) 5 = .ok (.getfield 49, 3) := by decide +kernel
theorem dLi_rootsAlike_8 : decode (mB Li_rootsAlike) 8 = .ok (.iconst 1, 1) := by decide +kernel
theorem dLi_rootsAlike_9 : decode (mB Li_rootsAlike) 9 = .ok (.isub, 1) := by decide +kernel
theorem dLi_rootsAlike_10 : decode (mB Li_rootsAlike) 10 = .ok (.istore_n 3, 1) := by decide +kernel
theorem dLi_rootsAlike_11 : decode (mB Li_rootsAlike) 11 = .ok (.iload_n 3, 1) := by decide +kernel
theorem dLi_rootsAlike_12 : decode (mB Li_rootsAlike) 12 = .ok (.ifCond .lt 16, 3) := by decide +kernel
theorem dLi_rootsAlike_15 : decode (mB Li_rootsAlike) 15 = .ok (.aload_n 0, 1) := by decide +kernel
theorem dLi_rootsAlike_16 : decode (mB Li_rootsAlike) 16 = .ok (.aload_n 1, 1) := by decide +kernel
theorem dLi_rootsAlike_17 : decode (mB Li_rootsAlike) 17 = .ok (.iload_n 3, 1) := by decide +kernel
theorem dLi_rootsAlike_18 : decode (mB Li_rootsAlike) 18 = .ok (.iconst 0, 1) := by decide +kernel
theorem dLi_rootsAlike_19 : decode (mB Li_rootsAlike) 19 = .ok (.invokevirtual 54, 3) := by decide +kernel
theorem dLi_rootsAlike_22 : decode (mB Li_rootsAlike) 22 = .ok (.iinc 3 (-1), 3) := by decide +kernel
theorem dLi_rootsAlike_25 : decode (mB Li_rootsAlike) 25 = .ok (.goto (-14), 3) := by decide +kernel
theorem dLi_rootsAlike_28 : decode (mB Li_rootsAlike) 28 = .ok (.aload_n 2, 1) := by decide +kernel
theorem dLi_rootsAlike_29 : decode (mB Li_rootsAlike) 29 = .ok (.getfield 49, 3) := by decide +kernel
theorem dLi_rootsAlike_32 : decode (mB Li_rootsAlike) 32 = .ok (.iconst 1, 1) := by decide +kernel
theorem dLi_rootsAlike_33 : decode (mB Li_rootsAlike) 33 = .ok (.isub, 1) := by decide +kernel
theorem dLi_rootsAlike_34 : decode (mB Li_rootsAlike) 34 = .ok (.istore_n 3, 1) := by decide +kernel
theorem dLi_rootsAlike_35 : decode (mB Li_rootsAlike) 35 = .ok (.iload_n 3, 1) := by decide +kernel
theorem dLi_rootsAlike_36 : decode (mB Li_rootsAlike) 36 = .ok (.ifCond .lt 18, 3) := by decide +kernel
theorem dLi_rootsAlike_39 : decode (mB Li_rootsAlike) 39 = .ok (.aload_n 0, 1) := by decide +kernel
theorem dLi_rootsAlike_40 : decode (mB Li_rootsAlike) 40 = .ok (.aload_n 2, 1) := by decide +kernel
theorem dLi_rootsAlike_41 : decode (mB Li_rootsAlike) 41 = .ok (.iload_n 3, 1) := by decide +kernel
theorem dLi_rootsAlike_42 : decode (mB Li_rootsAlike) 42 = .ok (.sipush 300, 3) := by decide +kernel
theorem dLi_rootsAlike_45 : decode (mB Li_rootsAlike) 45 = .ok (.invokevirtual 54, 3) := by decide +kernel
theorem dLi_rootsAlike_48 : decode (mB Li_rootsAlike) 48 = .ok (.iinc 3 (-1), 3) := by decide +kernel
theorem dLi_rootsAlike_51 : decode (mB Li_rootsAlike) 51 = .ok (.goto (-16), 3) := by decide +kernel
theorem dLi_rootsAlike_54 : decode (mB Li_rootsAlike) 54 = .ok (.aload_n 0, 1) := by decide +kernel
theorem dLi_rootsAlike_55 : decode (mB Li_rootsAlike) 55 = .ok (.iconst 0, 1) := by decide +kernel
theorem dLi_rootsAlike_56 : decode (mB Li_rootsAlike) 56 = .ok (.iconst 0, 1) := by decide +kernel
theorem dLi_rootsAlike_57 : decode (mB Li_rootsAlike) 57 = .ok (.invokevirtual 58, 3) := by decide +kernel
theorem dLi_rootsAlike_60 : decode (mB Li_rootsAlike) 60 = .ok (.ireturn, 1) := by decide +kernel
def b_Li_rootsAlike_35 (R : Int32 → tpH → Prop) (Y : Nat → (Option Nat) → Int32 → tpH → Prop) (o : Nat) (x2 : Option Nat) (x3 : Int32) (h : tpH) : Prop :=
  (x3 < 0 → (hT h o = 4 ∧ (w_Li_areOneFamily o (0 : Int32) (0 : Int32) h (fun v4 h3 => tpB v4 ∧ (R v4 h3))))) ∧ (¬ x3 < 0 → (hT h o = 4 ∧ (w_Li_sortIn o x2 x3 (300 : Int32) h (fun h7 => Y o x2 (x3 + (-1 : Int32)) h7))))
def w_Li_rootsAlike_35 (R : Int32 → tpH → Prop) : Nat → Nat → (Option Nat) → Int32 → tpH → Prop
  | 0 => fun _ _ _ _ => False
  | n + 1 => b_Li_rootsAlike_35 R (w_Li_rootsAlike_35 R n)
def b_Li_rootsAlike_11 (R : Int32 → tpH → Prop) (Y : Nat → (Option Nat) → (Option Nat) → Int32 → tpH → Prop) (o : Nat) (x1 : Option Nat) (x2 : Option Nat) (x3 : Int32) (h : tpH) : Prop :=
  (x3 < 0 → (∃ a2, x2 = some a2 ∧ hT h a2 = 12 ∧ (∃ n, w_Li_rootsAlike_35 R n o x2 ((hI h a2 0) - (1 : Int32)) h))) ∧ (¬ x3 < 0 → (hT h o = 4 ∧ (w_Li_sortIn o x1 x3 (0 : Int32) h (fun h6 => Y o x1 x2 (x3 + (-1 : Int32)) h6))))
def w_Li_rootsAlike_11 (R : Int32 → tpH → Prop) : Nat → Nat → (Option Nat) → (Option Nat) → Int32 → tpH → Prop
  | 0 => fun _ _ _ _ _ => False
  | n + 1 => b_Li_rootsAlike_11 R (w_Li_rootsAlike_11 R n)
def w_Li_rootsAlike (o : Nat) (x1 : Option Nat) (x2 : Option Nat) (h : tpH) (R : Int32 → tpH → Prop) : Prop :=
  hT h o = 4 ∧ (w_Li_clear o h (fun h2 => ∃ a3, x1 = some a3 ∧ hT h2 a3 = 12 ∧ (∃ n, w_Li_rootsAlike_11 R n o x1 x2 ((hI h2 a3 0) - (1 : Int32)) h2)))
theorem s_Li_rootsAlike_35 {h0 : tpH} {av : List tpV} {R : Int32 → tpH → Prop} : ∀ (n : Nat) (o : Nat) (x2 : Option Nat) (x3 : Int32) (h : tpH), w_Li_rootsAlike_35 R n o x2 x3 h → tpR Li_rootsAlike 4 h0 av (tpOi R (fun _ _ => False)) 35 [some (vR (some o)), none, some (vR x2), some (vI x3)] [] h := by
  intro n
  induction n with
  | zero => intro o x2 x3 h hw; exact False.elim hw
  | succ n ih =>
    intro o x2 x3 h hw
    change b_Li_rootsAlike_35 R (w_Li_rootsAlike_35 R n) o x2 x3 h at hw
    unfold b_Li_rootsAlike_35 at hw
    refine tq_iload_n dLi_rootsAlike_35 rfl rfl ?_
    refine tq_iflt (tgt := 54) dLi_rootsAlike_36 (by decide) (fun c1 => ?_) (fun c1 => ?_)
    · have hw := hw.1 c1
      refine tq_aload_n dLi_rootsAlike_54 rfl rfl ?_
      refine tq_iconst (v := (0 : Int32)) dLi_rootsAlike_55 tni_0 ?_
      refine tq_iconst (v := (0 : Int32)) dLi_rootsAlike_56 tni_0 ?_
      obtain ⟨f2, hw⟩ := hw
      refine te_callV mv_Li_areOneFamily (ci := 3) (dc := 1) (as := [vI (0 : Int32), vI (0 : Int32)]) (rest := []) kLi_58 rfl (Nat.le_of_ble_eq_true rfl) (Nat.le_of_ble_eq_true rfl) rfl rfl rfl f2 (Nat.le_of_ble_eq_true rfl) dLi_rootsAlike_57 (s_Li_areOneFamily hw) (fun _ _ hx => False.elim hx) (tk_i fun v4 h3 hw => ?_)
      obtain ⟨f5, hw⟩ := hw
      exact tq_iret rfl (tpB_n f5) dLi_rootsAlike_60 hw
    · have hw := hw.2 c1
      refine tq_aload_n dLi_rootsAlike_39 rfl rfl ?_
      refine tq_aload_n dLi_rootsAlike_40 rfl rfl ?_
      refine tq_iload_n dLi_rootsAlike_41 rfl rfl ?_
      refine tq_sipush (v := (300 : Int32)) dLi_rootsAlike_42 tns_300 ?_
      obtain ⟨f6, hw⟩ := hw
      refine te_callV mv_Li_sortIn (ci := 3) (dc := 3) (as := [vR x2, vI x3, vI (300 : Int32)]) (rest := []) kLi_54 rfl (Nat.le_of_ble_eq_true rfl) (Nat.le_of_ble_eq_true rfl) rfl rfl rfl f6 (Nat.le_of_ble_eq_true rfl) dLi_rootsAlike_45 (s_Li_sortIn hw) (fun _ _ hx => False.elim hx) (tk_v fun h7 hw => ?_)
      refine tq_inc (k := (-1 : Int32)) (ls' := [some (vR (some o)), none, some (vR x2), some (vI (x3 + (-1 : Int32)))]) dLi_rootsAlike_48 rfl tni_m1 (Nat.le_of_ble_eq_true rfl) rfl ?_
      refine tq_goto (tgt := 35) dLi_rootsAlike_51 (by decide) ?_
      refine tpR.fo (ls' := [some (vR (some o)), none, some (vR x2), some (vI (x3 + (-1 : Int32)))]) ?_ (And.intro rfl (And.intro rfl (And.intro rfl trivial)))
      exact ih _ _ _ _ hw
theorem s_Li_rootsAlike_11 {h0 : tpH} {av : List tpV} {R : Int32 → tpH → Prop} : ∀ (n : Nat) (o : Nat) (x1 : Option Nat) (x2 : Option Nat) (x3 : Int32) (h : tpH), w_Li_rootsAlike_11 R n o x1 x2 x3 h → tpR Li_rootsAlike 4 h0 av (tpOi R (fun _ _ => False)) 11 [some (vR (some o)), some (vR x1), some (vR x2), some (vI x3)] [] h := by
  intro n
  induction n with
  | zero => intro o x1 x2 x3 h hw; exact False.elim hw
  | succ n ih =>
    intro o x1 x2 x3 h hw
    change b_Li_rootsAlike_11 R (w_Li_rootsAlike_11 R n) o x1 x2 x3 h at hw
    unfold b_Li_rootsAlike_11 at hw
    refine tq_iload_n dLi_rootsAlike_11 rfl rfl ?_
    refine tq_iflt (tgt := 28) dLi_rootsAlike_12 (by decide) (fun c1 => ?_) (fun c1 => ?_)
    · have hw := hw.1 c1
      refine tq_aload_n dLi_rootsAlike_28 rfl rfl ?_
      obtain ⟨a2, e3, f4, hw⟩ := hw
      refine te_geti dLi_rootsAlike_29 fLi_49 rfl e3 f4 ?_
      refine tq_iconst (v := (1 : Int32)) dLi_rootsAlike_32 tni_1 ?_
      refine tq_isub dLi_rootsAlike_33 ?_
      refine tq_istore_n (ls' := [some (vR (some o)), some (vR x1), some (vR x2), some (vI ((hI h a2 0) - (1 : Int32)))]) dLi_rootsAlike_34 rfl (Nat.le_of_ble_eq_true rfl) rfl ?_
      refine tpR.fo (ls' := [some (vR (some o)), none, some (vR x2), some (vI ((hI h a2 0) - (1 : Int32)))]) ?_ (And.intro rfl (And.intro rfl (And.intro rfl trivial)))
      obtain ⟨n, hw⟩ := hw
      exact s_Li_rootsAlike_35 n _ _ _ _ hw
    · have hw := hw.2 c1
      refine tq_aload_n dLi_rootsAlike_15 rfl rfl ?_
      refine tq_aload_n dLi_rootsAlike_16 rfl rfl ?_
      refine tq_iload_n dLi_rootsAlike_17 rfl rfl ?_
      refine tq_iconst (v := (0 : Int32)) dLi_rootsAlike_18 tni_0 ?_
      obtain ⟨f5, hw⟩ := hw
      refine te_callV mv_Li_sortIn (ci := 3) (dc := 3) (as := [vR x1, vI x3, vI (0 : Int32)]) (rest := []) kLi_54 rfl (Nat.le_of_ble_eq_true rfl) (Nat.le_of_ble_eq_true rfl) rfl rfl rfl f5 (Nat.le_of_ble_eq_true rfl) dLi_rootsAlike_19 (s_Li_sortIn hw) (fun _ _ hx => False.elim hx) (tk_v fun h6 hw => ?_)
      refine tq_inc (k := (-1 : Int32)) (ls' := [some (vR (some o)), some (vR x1), some (vR x2), some (vI (x3 + (-1 : Int32)))]) dLi_rootsAlike_22 rfl tni_m1 (Nat.le_of_ble_eq_true rfl) rfl ?_
      refine tq_goto (tgt := 11) dLi_rootsAlike_25 (by decide) ?_
      refine tpR.fo (ls' := [some (vR (some o)), some (vR x1), some (vR x2), some (vI (x3 + (-1 : Int32)))]) ?_ (And.intro rfl (And.intro rfl (And.intro rfl (And.intro rfl trivial))))
      exact ih _ _ _ _ _ hw
theorem s_Li_rootsAlike {o : Nat} {x1 : Option Nat} {x2 : Option Nat} {h : tpH} {R : Int32 → tpH → Prop} (hw : w_Li_rootsAlike o x1 x2 h R) : tpC Li_rootsAlike 4 [vR (some o), vR x1, vR x2] h (tpOi R (fun _ _ => False)) := by
  refine tpC_of mv_Li_rootsAlike.2.2.2.1 rfl rfl (Nat.le_of_ble_eq_true rfl) ?_
  show tpR Li_rootsAlike 4 h _ _ 0 [some (vR (some o)), some (vR x1), some (vR x2), none] [] h
  unfold w_Li_rootsAlike at hw
  refine tq_aload_n dLi_rootsAlike_0 rfl rfl ?_
  obtain ⟨f1, hw⟩ := hw
  refine te_callV mv_Li_clear (ci := 3) (dc := 0) (as := []) (rest := []) kLi_46 rfl (Nat.le_of_ble_eq_true rfl) (Nat.le_of_ble_eq_true rfl) rfl rfl rfl f1 (Nat.le_of_ble_eq_true rfl) dLi_rootsAlike_1 (s_Li_clear hw) (fun _ _ hx => False.elim hx) (tk_v fun h2 hw => ?_)
  refine tq_aload_n dLi_rootsAlike_4 rfl rfl ?_
  obtain ⟨a3, e4, f5, hw⟩ := hw
  refine te_geti dLi_rootsAlike_5 fLi_49 rfl e4 f5 ?_
  refine tq_iconst (v := (1 : Int32)) dLi_rootsAlike_8 tni_1 ?_
  refine tq_isub dLi_rootsAlike_9 ?_
  refine tq_istore_n (ls' := [some (vR (some o)), some (vR x1), some (vR x2), some (vI ((hI h2 a3 0) - (1 : Int32)))]) dLi_rootsAlike_10 rfl (Nat.le_of_ble_eq_true rfl) rfl ?_
  refine tpR.fo (ls' := [some (vR (some o)), some (vR x1), some (vR x2), some (vI ((hI h2 a3 0) - (1 : Int32)))]) ?_ (And.intro rfl (And.intro rfl (And.intro rfl (And.intro rfl trivial))))
  obtain ⟨n, hw⟩ := hw
  exact s_Li_rootsAlike_11 n _ _ _ _ _ hw
