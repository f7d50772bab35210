/-! T$Matching.oldOf -/
theorem dMt_oldOf_0 : decode (mB Mt_oldOf) 0 = .ok (.aload_n 0, 1) := by decide +kernel
theorem dMt_oldOf_1 : decode (mB Mt_oldOf) 1 = .ok (.getfield 20, 3) := by decide +kernel
theorem dMt_oldOf_4 : decode (mB Mt_oldOf) 4 = .ok (.iload_n 1, 1) := by decide +kernel
theorem dMt_oldOf_5 : decode (mB Mt_oldOf) 5 = .ok (.invokevirtual 40, 3) := by decide +kernel
theorem dMt_oldOf_8 : decode (mB Mt_oldOf) 8 = .ok (.ireturn, 1) := by decide +kernel
def w_Mt_oldOf (o : Nat) (x1 : Int32) (h : tpH) (R : Int32 → tpH → Prop) : Prop :=
  hT h o = 6 ∧ (∃ a2, (hR h o 3) = some a2 ∧ hT h a2 = 8 ∧ (w_Ro_at a2 x1 h (fun v6 h5 => R v6 h5)))
theorem s_Mt_oldOf {o : Nat} {x1 : Int32} {h : tpH} {R : Int32 → tpH → Prop} (hw : w_Mt_oldOf o x1 h R) : tpC Mt_oldOf 1 [vR (some o), vI x1] h (tpOi R (fun _ _ => False)) := by
  refine tpC_of mv_Mt_oldOf.2.2.2.1 rfl rfl (Nat.le_of_ble_eq_true rfl) ?_
  show tpR Mt_oldOf 1 h _ _ 0 [some (vR (some o)), some (vI x1)] [] h
  unfold w_Mt_oldOf at hw
  refine tq_aload_n dMt_oldOf_0 rfl rfl ?_
  obtain ⟨f1, hw⟩ := hw
  refine te_getr dMt_oldOf_1 fMt_20 rfl rfl f1 ?_
  refine tq_iload_n dMt_oldOf_4 rfl rfl ?_
  obtain ⟨a2, e3, f4, hw⟩ := hw
  refine te_callV mv_Ro_at (ci := 7) (dc := 0) (as := [vI x1]) (rest := []) kMt_40 rfl (Nat.le_of_ble_eq_true rfl) (Nat.le_of_ble_eq_true rfl) rfl rfl e3 f4 (Nat.le_of_ble_eq_true rfl) dMt_oldOf_5 (s_Ro_at hw) (fun _ _ hx => False.elim hx) (tk_i fun v6 h5 hw => ?_)
  exact tq_iret rfl rfl dMt_oldOf_8 hw
/-! T$Matching.<init> -/
theorem dMt_init_0 : decode (mB Mt_init) 0 = .ok (.aload_n 0, 1) := by decide +kernel
theorem dMt_init_1 : decode (mB Mt_init) 1 = .ok (.invokespecial 3, 3) := by decide +kernel
theorem dMt_init_4 : decode (mB Mt_init) 4 = .ok (.aload_n 0, 1) := by decide +kernel
theorem dMt_init_5 : decode (mB Mt_init) 5 = .ok (.new 9, 3) := by decide +kernel
theorem dMt_init_8 : decode (mB Mt_init) 8 = .ok (.dup, 1) := by decide +kernel
theorem dMt_init_9 : decode (mB Mt_init) 9 = .ok (.sipush 300, 3) := by decide +kernel
theorem dMt_init_12 : decode (mB Mt_init) 12 = .ok (.invokespecial 11, 3) := by decide +kernel
theorem dMt_init_15 : decode (mB Mt_init) 15 = .ok (.putfield 14, 3) := by decide +kernel
theorem dMt_init_18 : decode (mB Mt_init) 18 = .ok (.aload_n 0, 1) := by decide +kernel
theorem dMt_init_19 : decode (mB Mt_init) 19 = .ok (.new 9, 3) := by decide +kernel
theorem dMt_init_22 : decode (mB Mt_init) 22 = .ok (.dup, 1) := by decide +kernel
theorem dMt_init_23 : decode (mB Mt_init) 23 = .ok (.sipush 300, 3) := by decide +kernel
theorem dMt_init_26 : decode (mB Mt_init) 26 = .ok (.invokespecial 11, 3) := by decide +kernel
theorem dMt_init_29 : decode (mB Mt_init) 29 = .ok (.putfield 20, 3) := by decide +kernel
theorem dMt_init_32 : decode (mB Mt_init) 32 = .ok (.aload_n 0, 1) := by decide +kernel
theorem dMt_init_33 : decode (mB Mt_init) 33 = .ok (.new 9, 3) := by decide +kernel
theorem dMt_init_36 : decode (mB Mt_init) 36 = .ok (.dup, 1) := by decide +kernel
theorem dMt_init_37 : decode (mB Mt_init) 37 = .ok (.sipush 300, 3) := by decide +kernel
theorem dMt_init_40 : decode (mB Mt_init) 40 = .ok (.invokespecial 11, 3) := by decide +kernel
theorem dMt_init_43 : decode (mB Mt_init) 43 = .ok (.putfield 23, 3) := by decide +kernel
theorem dMt_init_46 : decode (mB Mt_init) 46 = .ok (.aload_n 0, 1) := by decide +kernel
theorem dMt_init_47 : decode (mB Mt_init) 47 = .ok (.new 9, 3) := by decide +kernel
theorem dMt_init_50 : decode (mB Mt_init) 50 = .ok (.dup, 1) := by decide +kernel
theorem dMt_init_51 : decode (mB Mt_init) 51 = .ok (.sipush 300, 3) := by decide +kernel
theorem dMt_init_54 : decode (mB Mt_init) 54 = .ok (.invokespecial 11, 3) := by decide +kernel
theorem dMt_init_57 : decode (mB Mt_init) 57 = .ok (.putfield 26, 3) := by decide +kernel
theorem dMt_init_60 : decode (mB Mt_init) 60 = .ok (.aload_n 0, 1) := by decide +kernel
theorem dMt_init_61 : decode (mB Mt_init) 61 = .ok (.new 9, 3) := by decide +kernel
theorem dMt_init_64 : decode (mB Mt_init) 64 = .ok (.dup, 1) := by decide +kernel
theorem dMt_init_65 : decode (mB Mt_init) 65 = .ok (.sipush 301, 3) := by decide +kernel
theorem dMt_init_68 : decode (mB Mt_init) 68 = .ok (.invokespecial 11, 3) := by decide +kernel
theorem dMt_init_71 : decode (mB Mt_init) 71 = .ok (.putfield 29, 3) := by decide +kernel
theorem dMt_init_74 : decode (mB Mt_init) 74 = .ok (.aload_n 0, 1) := by decide +kernel
theorem dMt_init_75 : decode (mB Mt_init) 75 = .ok (.aload_n 1, 1) := by decide +kernel
theorem dMt_init_76 : decode (mB Mt_init) 76 = .ok (.putfield 32, 3) := by decide +kernel
theorem dMt_init_79 : decode (mB Mt_init) 79 = .ok (.aload_n 0, 1) := by decide +kernel
theorem dMt_init_80 : decode (mB Mt_init) 80 = .ok (.aload_n 2, 1) := by decide +kernel
theorem dMt_init_81 : decode (mB Mt_init) 81 = .ok (.putfield 36, 3) := by decide +kernel
theorem dMt_init_84 : decode (mB Mt_init) 84 = .ok (.return_, 1) := by decide +kernel
def w_Mt_init (o : Nat) (x1 : Option Nat) (x2 : Option Nat) (h : tpH) (R : tpH → Prop) : Prop :=
  ∀ a1 h2, a1 = hZ h → h2 = nC h 8 0 2 → (w_Ro_init a1 (300 : Int32) h2 (fun h5 => hT h5 o = 6 ∧ (∀ h7, h7 = sR h5 o 2 (some a1) → (∀ a9 h10, a9 = hZ h7 → h10 = nC h7 8 0 2 → (w_Ro_init a9 (300 : Int32) h10 (fun h13 => hT h13 o = 6 ∧ (∀ h15, h15 = sR h13 o 3 (some a9) → (∀ a17 h18, a17 = hZ h15 → h18 = nC h15 8 0 2 → (w_Ro_init a17 (300 : Int32) h18 (fun h21 => hT h21 o = 6 ∧ (∀ h23, h23 = sR h21 o 4 (some a17) → (∀ a25 h26, a25 = hZ h23 → h26 = nC h23 8 0 2 → (w_Ro_init a25 (300 : Int32) h26 (fun h29 => hT h29 o = 6 ∧ (∀ h31, h31 = sR h29 o 5 (some a25) → (∀ a33 h34, a33 = hZ h31 → h34 = nC h31 8 0 2 → (w_Ro_init a33 (301 : Int32) h34 (fun h37 => hT h37 o = 6 ∧ (∀ h39, h39 = sR h37 o 6 (some a33) → (∀ h41, h41 = sR h39 o 0 x1 → (∀ h43, h43 = sR h41 o 1 x2 → (R h43))))))))))))))))))))))
theorem s_Mt_init {o : Nat} {x1 : Option Nat} {x2 : Option Nat} {h : tpH} {R : tpH → Prop} (hw : w_Mt_init o x1 x2 h R) : tpC Mt_init 2 [vR (some o), vR x1, vR x2] h (tpOv R (fun _ _ => False)) := by
  refine tpC_of mi_Mt_init.2.2.2.1 rfl rfl (Nat.le_of_ble_eq_true rfl) ?_
  show tpR Mt_init 2 h _ _ 0 [some (vR (some o)), some (vR x1), some (vR x2)] [] h
  unfold w_Mt_init at hw
  refine tq_aload_n dMt_init_0 rfl rfl ?_
  refine tq_obj oMt_3 (Nat.le_of_ble_eq_true rfl) (Nat.le_of_ble_eq_true rfl) dMt_init_1 ?_
  refine tq_aload_n dMt_init_4 rfl rfl ?_
  refine tq_new (ci := 7) cMt_9 ti_7 rfl dMt_init_5 (fun a1 h2 e3 e4 => ?_)
  have hw := hw a1 h2 e3 e4
  refine tq_dup dMt_init_8 rfl ?_
  refine tq_sipush (v := (300 : Int32)) dMt_init_9 tns_300 ?_
  refine te_init mi_Ro_init (dc := 1) (as := [vI (300 : Int32)]) (rest := [vR (some a1), vR (some o)]) (Or.inl kMt_11) (Nat.le_of_ble_eq_true rfl) (Nat.le_of_ble_eq_true rfl) rfl rfl rfl (Nat.le_of_ble_eq_true rfl) dMt_init_12 (s_Ro_init hw) (fun _ _ hx => hx) (tk_v fun h5 hw => ?_)
  obtain ⟨f6, hw⟩ := hw
  refine te_putr dMt_init_15 pMt_14 rfl rfl rfl f6 (fun h7 e8 => ?_)
  have hw := hw h7 e8
  refine tq_aload_n dMt_init_18 rfl rfl ?_
  refine tq_new (ci := 7) cMt_9 ti_7 rfl dMt_init_19 (fun a9 h10 e11 e12 => ?_)
  have hw := hw a9 h10 e11 e12
  refine tq_dup dMt_init_22 rfl ?_
  refine tq_sipush (v := (300 : Int32)) dMt_init_23 tns_300 ?_
  refine te_init mi_Ro_init (dc := 1) (as := [vI (300 : Int32)]) (rest := [vR (some a9), vR (some o)]) (Or.inl kMt_11) (Nat.le_of_ble_eq_true rfl) (Nat.le_of_ble_eq_true rfl) rfl rfl rfl (Nat.le_of_ble_eq_true rfl) dMt_init_26 (s_Ro_init hw) (fun _ _ hx => hx) (tk_v fun h13 hw => ?_)
  obtain ⟨f14, hw⟩ := hw
  refine te_putr dMt_init_29 pMt_20 rfl rfl rfl f14 (fun h15 e16 => ?_)
  have hw := hw h15 e16
  refine tq_aload_n dMt_init_32 rfl rfl ?_
  refine tq_new (ci := 7) cMt_9 ti_7 rfl dMt_init_33 (fun a17 h18 e19 e20 => ?_)
  have hw := hw a17 h18 e19 e20
  refine tq_dup dMt_init_36 rfl ?_
  refine tq_sipush (v := (300 : Int32)) dMt_init_37 tns_300 ?_
  refine te_init mi_Ro_init (dc := 1) (as := [vI (300 : Int32)]) (rest := [vR (some a17), vR (some o)]) (Or.inl kMt_11) (Nat.le_of_ble_eq_true rfl) (Nat.le_of_ble_eq_true rfl) rfl rfl rfl (Nat.le_of_ble_eq_true rfl) dMt_init_40 (s_Ro_init hw) (fun _ _ hx => hx) (tk_v fun h21 hw => ?_)
  obtain ⟨f22, hw⟩ := hw
  refine te_putr dMt_init_43 pMt_23 rfl rfl rfl f22 (fun h23 e24 => ?_)
  have hw := hw h23 e24
  refine tq_aload_n dMt_init_46 rfl rfl ?_
  refine tq_new (ci := 7) cMt_9 ti_7 rfl dMt_init_47 (fun a25 h26 e27 e28 => ?_)
  have hw := hw a25 h26 e27 e28
  refine tq_dup dMt_init_50 rfl ?_
  refine tq_sipush (v := (300 : Int32)) dMt_init_51 tns_300 ?_
  refine te_init mi_Ro_init (dc := 1) (as := [vI (300 : Int32)]) (rest := [vR (some a25), vR (some o)]) (Or.inl kMt_11) (Nat.le_of_ble_eq_true rfl) (Nat.le_of_ble_eq_true rfl) rfl rfl rfl (Nat.le_of_ble_eq_true rfl) dMt_init_54 (s_Ro_init hw) (fun _ _ hx => hx) (tk_v fun h29 hw => ?_)
  obtain ⟨f30, hw⟩ := hw
  refine te_putr dMt_init_57 pMt_26 rfl rfl rfl f30 (fun h31 e32 => ?_)
  have hw := hw h31 e32
  refine tq_aload_n dMt_init_60 rfl rfl ?_
  refine tq_new (ci := 7) cMt_9 ti_7 rfl dMt_init_61 (fun a33 h34 e35 e36 => ?_)
  have hw := hw a33 h34 e35 e36
  refine tq_dup dMt_init_64 rfl ?_
  refine tq_sipush (v := (301 : Int32)) dMt_init_65 tns_301 ?_
  refine te_init mi_Ro_init (dc := 1) (as := [vI (301 : Int32)]) (rest := [vR (some a33), vR (some o)]) (Or.inl kMt_11) (Nat.le_of_ble_eq_true rfl) (Nat.le_of_ble_eq_true rfl) rfl rfl rfl (Nat.le_of_ble_eq_true rfl) dMt_init_68 (s_Ro_init hw) (fun _ _ hx => hx) (tk_v fun h37 hw => ?_)
  obtain ⟨f38, hw⟩ := hw
  refine te_putr dMt_init_71 pMt_29 rfl rfl rfl f38 (fun h39 e40 => ?_)
  have hw := hw h39 e40
  refine tq_aload_n dMt_init_74 rfl rfl ?_
  refine tq_aload_n dMt_init_75 rfl rfl ?_
  refine te_putr dMt_init_76 pMt_32 rfl rfl rfl (by rw [e40]; exact f38) (fun h41 e42 => ?_)
  have hw := hw h41 e42
  refine tq_aload_n dMt_init_79 rfl rfl ?_
  refine tq_aload_n dMt_init_80 rfl rfl ?_
  refine te_putr dMt_init_81 pMt_36 rfl rfl rfl (by rw [e42]; exact (by rw [e40]; exact f38)) (fun h43 e44 => ?_)
  have hw := hw h43 e44
  exact tq_vret rfl dMt_init_84 hw
/-! T$Matching.newOf -/
theorem dMt_newOf_0 : decode (mB Mt_newOf) 0 = .ok (.aload_n 0, 1) := by decide +kernel
theorem dMt_newOf_1 : decode (mB Mt_newOf) 1 = .ok (.getfield 14, 3) := by decide +kernel
theorem dMt_newOf_4 : decode (mB Mt_newOf) 4 = .ok (.iload_n 1, 1) := by decide +kernel
theorem dMt_newOf_5 : decode (mB Mt_newOf) 5 = .ok (.invokevirtual 40, 3) := by decide +kernel
theorem dMt_newOf_8 : decode (mB Mt_newOf) 8 = .ok (.ireturn, 1) := by decide +kernel
def w_Mt_newOf (o : Nat) (x1 : Int32) (h : tpH) (R : Int32 → tpH → Prop) : Prop :=
  hT h o = 6 ∧ (∃ a2, (hR h o 2) = some a2 ∧ hT h a2 = 8 ∧ (w_Ro_at a2 x1 h (fun v6 h5 => R v6 h5)))
theorem s_Mt_newOf {o : Nat} {x1 : Int32} {h : tpH} {R : Int32 → tpH → Prop} (hw : w_Mt_newOf o x1 h R) : tpC Mt_newOf 1 [vR (some o), vI x1] h (tpOi R (fun _ _ => False)) := by
  refine tpC_of mv_Mt_newOf.2.2.2.1 rfl rfl (Nat.le_of_ble_eq_true rfl) ?_
  show tpR Mt_newOf 1 h _ _ 0 [some (vR (some o)), some (vI x1)] [] h
  unfold w_Mt_newOf at hw
  refine tq_aload_n dMt_newOf_0 rfl rfl ?_
  obtain ⟨f1, hw⟩ := hw
  refine te_getr dMt_newOf_1 fMt_14 rfl rfl f1 ?_
  refine tq_iload_n dMt_newOf_4 rfl rfl ?_
  obtain ⟨a2, e3, f4, hw⟩ := hw
  refine te_callV mv_Ro_at (ci := 7) (dc := 0) (as := [vI x1]) (rest := []) kMt_40 rfl (Nat.le_of_ble_eq_true rfl) (Nat.le_of_ble_eq_true rfl) rfl rfl e3 f4 (Nat.le_of_ble_eq_true rfl) dMt_newOf_5 (s_Ro_at hw) (fun _ _ hx => False.elim hx) (tk_i fun v6 h5 hw => ?_)
  exact tq_iret rfl rfl dMt_newOf_8 hw
/-! T$Matching.pair -/
theorem dMt_pair_0 : decode (mB Mt_pair) 0 = .ok (.aload_n 0, 1) := by decide +kernel
theorem dMt_pair_1 : decode (mB Mt_pair) 1 = .ok (.getfield 14, 3) := by decide +kernel
theorem dMt_pair_4 : decode (mB Mt_pair) 4 = .ok (.iload_n 1, 1) := by decide +kernel
theorem dMt_pair_5 : decode (mB Mt_pair) 5 = .ok (.iload_n 2, 1) := by decide +kernel
theorem dMt_pair_6 : decode (mB Mt_pair) 6 = .ok (.invokevirtual 101, 3) := by decide +kernel
theorem dMt_pair_9 : decode (mB Mt_pair) 9 = .ok (.aload_n 0, 1) := by decide +kernel
theorem dMt_pair_10 : decode (mB Mt_pair) 10 = .ok (.getfield 20, 3) := by decide +kernel
theorem dMt_pair_13 : decode (mB Mt_pair) 13 = .ok (.iload_n 2, 1) := by decide +kernel
theorem dMt_pair_14 : decode (mB Mt_pair) 14 = .ok (.iload_n 1, 1) := by decide +kernel
theorem dMt_pair_15 : decode (mB Mt_pair) 15 = .ok (.invokevirtual 101, 3) := by decide +kernel
theorem dMt_pair_18 : decode (mB Mt_pair) 18 = .ok (.return_, 1) := by decide +kernel
def w_Mt_pair (o : Nat) (x1 : Int32) (x2 : Int32) (h : tpH) (R : tpH → Prop) : Prop :=
  hT h o = 6 ∧ (∃ a2, (hR h o 2) = some a2 ∧ hT h a2 = 8 ∧ (w_Ro_put a2 x1 x2 h (fun h5 => hT h5 o = 6 ∧ (∃ a7, (hR h5 o 3) = some a7 ∧ hT h5 a7 = 8 ∧ (w_Ro_put a7 x2 x1 h5 (fun h10 => R h10))))))
theorem s_Mt_pair {o : Nat} {x1 : Int32} {x2 : Int32} {h : tpH} {R : tpH → Prop} (hw : w_Mt_pair o x1 x2 h R) : tpC Mt_pair 1 [vR (some o), vI x1, vI x2] h (tpOv R (fun _ _ => False)) := by
  refine tpC_of mv_Mt_pair.2.2.2.1 rfl rfl (Nat.le_of_ble_eq_true rfl) ?_
  show tpR Mt_pair 1 h _ _ 0 [some (vR (some o)), some (vI x1), some (vI x2)] [] h
  unfold w_Mt_pair at hw
  refine tq_aload_n dMt_pair_0 rfl rfl ?_
  obtain ⟨f1, hw⟩ := hw
  refine te_getr dMt_pair_1 fMt_14 rfl rfl f1 ?_
  refine tq_iload_n dMt_pair_4 rfl rfl ?_
  refine tq_iload_n dMt_pair_5 rfl rfl ?_
  obtain ⟨a2, e3, f4, hw⟩ := hw
  refine te_callV mv_Ro_put (ci := 7) (dc := 0) (as := [vI x1, vI x2]) (rest := []) kMt_101 rfl (Nat.le_of_ble_eq_true rfl) (Nat.le_of_ble_eq_true rfl) rfl rfl e3 f4 (Nat.le_of_ble_eq_true rfl) dMt_pair_6 (s_Ro_put hw) (fun _ _ hx => False.elim hx) (tk_v fun h5 hw => ?_)
  refine tq_aload_n dMt_pair_9 rfl rfl ?_
  obtain ⟨f6, hw⟩ := hw
  refine te_getr dMt_pair_10 fMt_20 rfl rfl f6 ?_
  refine tq_iload_n dMt_pair_13 rfl rfl ?_
  refine tq_iload_n dMt_pair_14 rfl rfl ?_
  obtain ⟨a7, e8, f9, hw⟩ := hw
  refine te_callV mv_Ro_put (ci := 7) (dc := 0) (as := [vI x2, vI x1]) (rest := []) kMt_101 rfl (Nat.le_of_ble_eq_true rfl) (Nat.le_of_ble_eq_true rfl) rfl rfl e8 f9 (Nat.le_of_ble_eq_true rfl) dMt_pair_15 (s_Ro_put hw) (fun _ _ hx => False.elim hx) (tk_v fun h10 hw => ?_)
  exact tq_vret rfl dMt_pair_18 hw
/-! T$Matching.pairSameMarks -/
theorem dMt_pairSameMarks_0 : decode (mB Mt_pairSameMarks) 0 = .ok (.iconst 0, 1) := by decide +kernel
theorem dMt_pairSameMarks_1 : decode (mB Mt_pairSameMarks) 1 = .ok (.istore_n 3, 1) := by decide +kernel
theorem dMt_pairSameMarks_2 : decode (mB Mt_pairSameMarks) 2 = .ok (.iload_n 3, 1) := by decide +kernel
theorem dMt_pairSameMarks_3 : decode (mB Mt_pairSameMarks) 3 = .ok (.aload_n 1, 1) := by decide +kernel
theorem dMt_pairSameMarks_4 : decode (mB Mt_pairSameMarks) 4 = .ok (.getfield 51, 3) := by decide +kernel
theorem dMt_pairSameMarks_7 : decode (mB Mt_pairSameMarks) 7 = .ok (.if_icmp .ge 33, 3) := by decide +kernel
theorem dMt_pairSameMarks_10 : decode (mB Mt_pairSameMarks) 10 = .ok (.aload_n 2, 1) := by decide +kernel
theorem dMt_pairSameMarks_11 : decode (mB Mt_pairSameMarks) 11 = .ok (.aload_n 1, 1) := by decide +kernel
theorem dMt_pairSameMarks_12 : decode (mB Mt_pairSameMarks) 12 = .ok (.iload_n 3, 1) := by decide +kernel
theorem dMt_pairSameMarks_13 : decode (mB Mt_pairSameMarks) 13 = .ok (.invokevirtual 104, 3) := by decide +kernel
theorem dMt_pairSameMarks_16 : decode (mB Mt_pairSameMarks) 16 = .ok (.invokevirtual 113, 3) := by decide +kernel
theorem dMt_pairSameMarks_19 : decode (mB Mt_pairSameMarks) 19 = .ok (.istore 4, 2) := by decide +kernel
theorem dMt_pairSameMarks_21 : decode (mB Mt_pairSameMarks) 21 = .ok (.iload 4, 2) := by decide +kernel
theorem dMt_pairSameMarks_23 : decode (mB Mt_pairSameMarks) 23 = .ok (.iconst (-1), 1) := by decide +kernel
theorem dMt_pairSameMarks_24 : decode (mB Mt_pairSameMarks) 24 = .ok (.if_icmp .eq 10, 3) := by decide +kernel
theorem dMt_pairSameMarks_27 : decode (mB Mt_pairSameMarks) 27 = .ok (.aload_n 0, 1) := by decide +kernel
theorem dMt_pairSameMarks_28 : decode (mB Mt_pairSameMarks) 28 = .ok (.iload_n 3, 1) := by decide +kernel
theorem dMt_pairSameMarks_29 : decode (mB Mt_pairSameMarks) 29 = .ok (.iload 4, 2) := by decide +kernel
theorem dMt_pairSameMarks_31 : decode (mB Mt_pairSameMarks) 31 = .ok (.invokevirtual 116, 3) := by decide +kernel
theorem dMt_pairSameMarks_34 : decode (mB Mt_pairSameMarks) 34 = .ok (.iinc 3 1, 3) := by decide +kernel
theorem dMt_pairSameMarks_37 : decode (mB Mt_pairSameMarks) 37 = .ok (.goto (-35), 3) := by decide +kernel
theorem dMt_pairSameMarks_40 : decode (mB Mt_pairSameMarks) 40 = .ok (.return_, 1) := by decide +kernel
def b_Mt_pairSameMarks_2 (R : tpH → Prop) (Y : Nat → (Option Nat) → (Option Nat) → Int32 → tpH → Prop) (o : Nat) (x1 : Option Nat) (x2 : Option Nat) (x3 : Int32) (h : tpH) : Prop :=
  ∃ a1, x1 = some a1 ∧ hT h a1 = 12 ∧ (((hI h a1 0) ≤ x3 → (R h)) ∧ (¬ (hI h a1 0) ≤ x3 → (w_Tr_markOf a1 x3 h (fun v6 h5 => ∃ a7, x2 = some a7 ∧ hT h5 a7 = 12 ∧ (w_Tr_placeOf a7 v6 h5 (fun v11 h10 => (v11 = (-1 : Int32) → (Y o x1 x2 (x3 + (1 : Int32)) h10)) ∧ (¬ v11 = (-1 : Int32) → (hT h10 o = 6 ∧ (w_Mt_pair o x3 v11 h10 (fun h14 => Y o x1 x2 (x3 + (1 : Int32)) h14))))))))))
def w_Mt_pairSameMarks_2 (R : tpH → Prop) : Nat → Nat → (Option Nat) → (Option Nat) → Int32 → tpH → Prop
  | 0 => fun _ _ _ _ _ => False
  | n + 1 => b_Mt_pairSameMarks_2 R (w_Mt_pairSameMarks_2 R n)
def w_Mt_pairSameMarks (o : Nat) (x1 : Option Nat) (x2 : Option Nat) (h : tpH) (R : tpH → Prop) : Prop :=
  ∃ n, w_Mt_pairSameMarks_2 R n o x1 x2 (0 : Int32) h
theorem s_Mt_pairSameMarks_2 {h0 : tpH} {av : List tpV} {R : tpH → Prop} : ∀ (n : Nat) (o : Nat) (x1 : Option Nat) (x2 : Option Nat) (x3 : Int32) (h : tpH), w_Mt_pairSameMarks_2 R n o x1 x2 x3 h → tpR Mt_pairSameMarks 2 h0 av (tpOv R (fun _ _ => False)) 2 [some (vR (some o)), some (vR x1), some (vR x2), some (vI x3), none] [] h := by
  intro n
  induction n with
  | zero => intro o x1 x2 x3 h hw; exact False.elim hw
  | succ n ih =>
    intro o x1 x2 x3 h hw
    change b_Mt_pairSameMarks_2 R (w_Mt_pairSameMarks_2 R n) o x1 x2 x3 h at hw
    unfold b_Mt_pairSameMarks_2 at hw
    refine tq_iload_n dMt_pairSameMarks_2 rfl rfl ?_
    refine tq_aload_n dMt_pairSameMarks_3 rfl rfl ?_
    obtain ⟨a1, e2, f3, hw⟩ := hw
    refine te_geti dMt_pairSameMarks_4 fMt_51 rfl e2 f3 ?_
    refine tq_icmpge (tgt := 40) dMt_pairSameMarks_7 (by decide) (fun c4 => ?_) (fun c4 => ?_)
    · have hw := hw.1 c4
      exact tq_vret rfl dMt_pairSameMarks_40 hw
    · have hw := hw.2 c4
      refine tq_aload_n dMt_pairSameMarks_10 rfl rfl ?_
      refine tq_aload_n dMt_pairSameMarks_11 rfl rfl ?_
      refine tq_iload_n dMt_pairSameMarks_12 rfl rfl ?_
      refine te_callV mv_Tr_markOf (ci := 11) (dc := 1) (as := [vI x3]) (rest := [vR x2]) kMt_104 rfl (Nat.le_of_ble_eq_true rfl) (Nat.le_of_ble_eq_true rfl) rfl rfl e2 f3 (Nat.le_of_ble_eq_true rfl) dMt_pairSameMarks_13 (s_Tr_markOf hw) (fun _ _ hx => False.elim hx) (tk_i fun v6 h5 hw => ?_)
      obtain ⟨a7, e8, f9, hw⟩ := hw
      refine te_callV mv_Tr_placeOf (ci := 11) (dc := 1) (as := [vI v6]) (rest := []) kMt_113 rfl (Nat.le_of_ble_eq_true rfl) (Nat.le_of_ble_eq_true rfl) rfl rfl e8 f9 (Nat.le_of_ble_eq_true rfl) dMt_pairSameMarks_16 (s_Tr_placeOf hw) (fun _ _ hx => False.elim hx) (tk_i fun v11 h10 hw => ?_)
      refine tq_istore (ls' := [some (vR (some o)), some (vR x1), some (vR x2), some (vI x3), some (vI v11)]) dMt_pairSameMarks_19 (Nat.le_of_ble_eq_true rfl) rfl ?_
      refine tq_iload dMt_pairSameMarks_21 rfl ?_
      refine tq_iconst (v := (-1 : Int32)) dMt_pairSameMarks_23 tni_m1 ?_
      refine tq_icmpeq (tgt := 34) dMt_pairSameMarks_24 (by decide) (fun c12 => ?_) (fun c12 => ?_)
      · have hw := hw.1 c12
        refine tq_inc (k := (1 : Int32)) (ls' := [some (vR (some o)), some (vR x1), some (vR x2), some (vI (x3 + (1 : Int32))), some (vI v11)]) dMt_pairSameMarks_34 rfl tni_1 (Nat.le_of_ble_eq_true rfl) rfl ?_
        refine tq_goto (tgt := 2) dMt_pairSameMarks_37 (by decide) ?_
        refine tpR.fo (ls' := [some (vR (some o)), some (vR x1), some (vR x2), some (vI (x3 + (1 : Int32))), none]) ?_ (And.intro rfl (And.intro rfl (And.intro rfl (And.intro rfl trivial))))
        exact ih _ _ _ _ _ hw
      · have hw := hw.2 c12
        refine tq_aload_n dMt_pairSameMarks_27 rfl rfl ?_
        refine tq_iload_n dMt_pairSameMarks_28 rfl rfl ?_
        refine tq_iload dMt_pairSameMarks_29 rfl ?_
        obtain ⟨f13, hw⟩ := hw
        refine te_callV mv_Mt_pair (ci := 5) (dc := 1) (as := [vI x3, vI v11]) (rest := []) kMt_116 rfl (Nat.le_of_ble_eq_true rfl) (Nat.le_of_ble_eq_true rfl) rfl rfl rfl f13 (Nat.le_of_ble_eq_true rfl) dMt_pairSameMarks_31 (s_Mt_pair hw) (fun _ _ hx => False.elim hx) (tk_v fun h14 hw => ?_)
        refine tq_inc (k := (1 : Int32)) (ls' := [some (vR (some o)), some (vR x1), some (vR x2), some (vI (x3 + (1 : Int32))), some (vI v11)]) dMt_pairSameMarks_34 rfl tni_1 (Nat.le_of_ble_eq_true rfl) rfl ?_
        refine tq_goto (tgt := 2) dMt_pairSameMarks_37 (by decide) ?_
        refine tpR.fo (ls' := [some (vR (some o)), some (vR x1), some (vR x2), some (vI (x3 + (1 : Int32))), none]) ?_ (And.intro rfl (And.intro rfl (And.intro rfl (And.intro rfl trivial))))
        exact ih _ _ _ _ _ hw
theorem s_Mt_pairSameMarks {o : Nat} {x1 : Option Nat} {x2 : Option Nat} {h : tpH} {R : tpH → Prop} (hw : w_Mt_pairSameMarks o x1 x2 h R) : tpC Mt_pairSameMarks 2 [vR (some o), vR x1, vR x2] h (tpOv R (fun _ _ => False)) := by
  refine tpC_of mv_Mt_pairSameMarks.2.2.2.1 rfl rfl (Nat.le_of_ble_eq_true rfl) ?_
  show tpR Mt_pairSameMarks 2 h _ _ 0 [some (vR (some o)), some (vR x1), some (vR x2), none, none] [] h
  unfold w_Mt_pairSameMarks at hw
  refine tq_iconst (v := (0 : Int32)) dMt_pairSameMarks_0 tni_0 ?_
  refine tq_istore_n (ls' := [some (vR (some o)), some (vR x1), some (vR x2), some (vI (0 : Int32)), none]) dMt_pairSameMarks_1 rfl (Nat.le_of_ble_eq_true rfl) rfl ?_
  refine tpR.fo (ls' := [some (vR (some o)), some (vR x1), some (vR x2), some (vI (0 : Int32)), none]) ?_ (And.intro rfl (And.intro rfl (And.intro rfl (And.intro rfl trivial))))
  obtain ⟨n, hw⟩ := hw
  exact s_Mt_pairSameMarks_2 n _ _ _ _ _ hw
/-! T$Matching.pairRoots -/
theorem dMt_pairRoots_0 : decode (mB Mt_pairRoots) 0 = .ok (.aload_n 0, 1) := by decide +kernel
theorem dMt_pairRoots_1 : decode (mB Mt_pairRoots) 1 = .ok (.getfield 14, 3) := by decide +kernel
theorem dMt_pairRoots_4 : decode (mB Mt_pairRoots) 4 = .ok (.iconst 0, 1) := by decide +kernel
theorem dMt_pairRoots_5 : decode (mB Mt_pairRoots) 5 = .ok (.invokevirtual 40, 3) := by decide +kernel
theorem dMt_pairRoots_8 : decode (mB Mt_pairRoots) 8 = .ok (.iconst (-1), 1) := by decide +kernel
theorem dMt_pairRoots_9 : decode (mB Mt_pairRoots) 9 = .ok (.if_icmp .ne 21, 3) := by decide +kernel
theorem dMt_pairRoots_12 : decode (mB Mt_pairRoots) 12 = .ok (.aload_n 0, 1) := by decide +kernel
theorem dMt_pairRoots_13 : decode (mB Mt_pairRoots) 13 = .ok (.getfield 20, 3) := by decide +kernel
theorem dMt_pairRoots_16 : decode (mB Mt_pairRoots) 16 = .ok (.iconst 0, 1) := by decide +kernel
theorem dMt_pairRoots_17 : decode (mB Mt_pairRoots) 17 = .ok (.invokevirtual 40, 3) := by decide +kernel
theorem dMt_pairRoots_20 : decode (mB Mt_pairRoots) 20 = .ok (.iconst (-1), 1) := by decide +kernel
theorem dMt_pairRoots_21 : decode (mB Mt_pairRoots) 21 = .ok (.if_icmp .ne 9, 3) := by decide +kernel
theorem dMt_pairRoots_24 : decode (mB Mt_pairRoots) 24 = .ok (.aload_n 0, 1) := by decide +kernel
theorem dMt_pairRoots_25 : decode (mB Mt_pairRoots) 25 = .ok (.iconst 0, 1) := by decide +kernel
theorem dMt_pairRoots_26 : decode (mB Mt_pairRoots) 26 = .ok (.iconst 0, 1) := by decide +kernel
theorem dMt_pairRoots_27 : decode (mB Mt_pairRoots) 27 = .ok (.invokevirtual 116, 3) := by decide +kernel
theorem dMt_pairRoots_30 : decode (mB Mt_pairRoots) 30 = .ok (.return_, 1) := by decide +kernel
def w_Mt_pairRoots (o : Nat) (h : tpH) (R : tpH → Prop) : Prop :=
  hT h o = 6 ∧ (∃ a2, (hR h o 2) = some a2 ∧ hT h a2 = 8 ∧ (w_Ro_at a2 (0 : Int32) h (fun v6 h5 => (¬ v6 = (-1 : Int32) → (R h5)) ∧ (v6 = (-1 : Int32) → (hT h5 o = 6 ∧ (∃ a9, (hR h5 o 3) = some a9 ∧ hT h5 a9 = 8 ∧ (w_Ro_at a9 (0 : Int32) h5 (fun v13 h12 => (¬ v13 = (-1 : Int32) → (R h12)) ∧ (v13 = (-1 : Int32) → (hT h12 o = 6 ∧ (w_Mt_pair o (0 : Int32) (0 : Int32) h12 (fun h16 => R h16))))))))))))
theorem s_Mt_pairRoots {o : Nat} {h : tpH} {R : tpH → Prop} (hw : w_Mt_pairRoots o h R) : tpC Mt_pairRoots 2 [vR (some o)] h (tpOv R (fun _ _ => False)) := by
  refine tpC_of mv_Mt_pairRoots.2.2.2.1 rfl rfl (Nat.le_of_ble_eq_true rfl) ?_
  show tpR Mt_pairRoots 2 h _ _ 0 [some (vR (some o))] [] h
  unfold w_Mt_pairRoots at hw
  refine tq_aload_n dMt_pairRoots_0 rfl rfl ?_
  obtain ⟨f1, hw⟩ := hw
  refine te_getr dMt_pairRoots_1 fMt_14 rfl rfl f1 ?_
  refine tq_iconst (v := (0 : Int32)) dMt_pairRoots_4 tni_0 ?_
  obtain ⟨a2, e3, f4, hw⟩ := hw
  refine te_callV mv_Ro_at (ci := 7) (dc := 0) (as := [vI (0 : Int32)]) (rest := []) kMt_40 rfl (Nat.le_of_ble_eq_true rfl) (Nat.le_of_ble_eq_true rfl) rfl rfl e3 f4 (Nat.le_of_ble_eq_true rfl) dMt_pairRoots_5 (s_Ro_at hw) (fun _ _ hx => False.elim hx) (tk_i fun v6 h5 hw => ?_)
  refine tq_iconst (v := (-1 : Int32)) dMt_pairRoots_8 tni_m1 ?_
  refine tq_icmpne (tgt := 30) dMt_pairRoots_9 (by decide) (fun c7 => ?_) (fun c7 => ?_)
  · have hw := hw.1 c7
    exact tq_vret rfl dMt_pairRoots_30 hw
  · have hw := hw.2 c7
    refine tq_aload_n dMt_pairRoots_12 rfl rfl ?_
    obtain ⟨f8, hw⟩ := hw
    refine te_getr dMt_pairRoots_13 fMt_20 rfl rfl f8 ?_
    refine tq_iconst (v := (0 : Int32)) dMt_pairRoots_16 tni_0 ?_
    obtain ⟨a9, e10, f11, hw⟩ := hw
    refine te_callV mv_Ro_at (ci := 7) (dc := 0) (as := [vI (0 : Int32)]) (rest := []) kMt_40 rfl (Nat.le_of_ble_eq_true rfl) (Nat.le_of_ble_eq_true rfl) rfl rfl e10 f11 (Nat.le_of_ble_eq_true rfl) dMt_pairRoots_17 (s_Ro_at hw) (fun _ _ hx => False.elim hx) (tk_i fun v13 h12 hw => ?_)
    refine tq_iconst (v := (-1 : Int32)) dMt_pairRoots_20 tni_m1 ?_
    refine tq_icmpne (tgt := 30) dMt_pairRoots_21 (by decide) (fun c14 => ?_) (fun c14 => ?_)
    · have hw := hw.1 c14
      exact tq_vret rfl dMt_pairRoots_30 hw
    · have hw := hw.2 c14
      refine tq_aload_n dMt_pairRoots_24 rfl rfl ?_
      refine tq_iconst (v := (0 : Int32)) dMt_pairRoots_25 tni_0 ?_
      refine tq_iconst (v := (0 : Int32)) dMt_pairRoots_26 tni_0 ?_
      obtain ⟨f15, hw⟩ := hw
      refine te_callV mv_Mt_pair (ci := 5) (dc := 1) (as := [vI (0 : Int32), vI (0 : Int32)]) (rest := []) kMt_116 rfl (Nat.le_of_ble_eq_true rfl) (Nat.le_of_ble_eq_true rfl) rfl rfl rfl f15 (Nat.le_of_ble_eq_true rfl) dMt_pairRoots_27 (s_Mt_pair hw) (fun _ _ hx => False.elim hx) (tk_v fun h16 hw => ?_)
      exact tq_vret rfl dMt_pairRoots_30 hw
/-! T$Matching.mayPair -/
theorem dMt_mayPair_0 : decode (mB Mt_mayPair) 0 = .ok (.aload_n 0, 1) := by decide +kernel
theorem dMt_mayPair_1 : decode (mB Mt_mayPair) 1 = .ok (.getfield 14, 3) := by decide +kernel
theorem dMt_mayPair_4 : decode (mB Mt_mayPair) 4 = .ok (.iload_n 2, 1) := by decide +kernel
theorem dMt_mayPair_5 : decode (mB Mt_mayPair) 5 = .ok (.invokevirtual 40, 3) := by decide +kernel
theorem dMt_mayPair_8 : decode (mB Mt_mayPair) 8 = .ok (.iconst (-1), 1) := by decide +kernel
theorem dMt_mayPair_9 : decode (mB Mt_mayPair) 9 = .ok (.if_icmp .ne 41, 3) := by decide +kernel
theorem dMt_mayPair_12 : decode (mB Mt_mayPair) 12 = .ok (.aload_n 0, 1) := by decide +kernel
theorem dMt_mayPair_13 : decode (mB Mt_mayPair) 13 = .ok (.getfield 20, 3) := by decide +kernel
theorem dMt_mayPair_16 : decode (mB Mt_mayPair) 16 = .ok (.iload 4, 2) := by decide +kernel
theorem dMt_mayPair_18 : decode (mB Mt_mayPair) 18 = .ok (.invokevirtual 40, 3) := by decide +kernel
theorem dMt_mayPair_21 : decode (mB Mt_mayPair) 21 = .ok (.iconst (-1), 1) := by decide +kernel
theorem dMt_mayPair_22 : decode (mB Mt_mayPair) 22 = .ok (.if_icmp .ne 28, 3) := by decide +kernel
theorem dMt_mayPair_25 : decode (mB Mt_mayPair) 25 = .ok (.aload_n 0, 1) := by decide +kernel
theorem dMt_mayPair_26 : decode (mB Mt_mayPair) 26 = .ok (.getfield 32, 3) := by decide +kernel
theorem dMt_mayPair_29 : decode (mB Mt_mayPair) 29 = .ok (.aload_n 1, 1) := by decide +kernel
theorem dMt_mayPair_30 : decode (mB Mt_mayPair) 30 = .ok (.iload_n 2, 1) := by decide +kernel
theorem dMt_mayPair_31 : decode (mB Mt_mayPair) 31 = .ok (.invokevirtual 104, 3) := by decide +kernel
theorem dMt_mayPair_34 : decode (mB Mt_mayPair) 34 = .ok (.aload_n 3, 1) := by decide +kernel
theorem dMt_mayPair_35 : decode (mB Mt_mayPair) 35 = .ok (.iload 4, 2) := by decide +kernel
theorem dMt_mayPair_37 : decode (mB Mt_mayPair) 37 = .ok (.invokevirtual 104, 3) := by decide +kernel
theorem dMt_mayPair_40 : decode (mB Mt_mayPair) 40 = .ok (.invokevirtual 107, 3) := by decide +kernel
theorem dMt_mayPair_43 : decode (mB Mt_mayPair) 43 = .ok (.ifCond .eq 7, 3) := by decide +kernel
theorem dMt_mayPair_46 : decode (mB Mt_mayPair) 46 = .ok (.iconst 1, 1) := by decide +kernel
theorem dMt_mayPair_47 : decode (mB Mt_mayPair) 47 = .ok (.goto 4, 3) := by decide +kernel
theorem dMt_mayPair_50 : decode (mB Mt_mayPair) 50 = .ok (.iconst 0, 1) := by decide +kernel
theorem dMt_mayPair_51 : decode (mB Mt_mayPair) 51 = .ok (.ireturn, 1) := by decide +kernel
def w_Mt_mayPair (o : Nat) (x1 : Option Nat) (x2 : Int32) (x3 : Option Nat) (x4 : Int32) (h : tpH) (R : Int32 → tpH → Prop) : Prop :=
  hT h o = 6 ∧ (∃ a2, (hR h o 2) = some a2 ∧ hT h a2 = 8 ∧ (w_Ro_at a2 x2 h (fun v6 h5 => (¬ v6 = (-1 : Int32) → (R (0 : Int32) h5)) ∧ (v6 = (-1 : Int32) → (hT h5 o = 6 ∧ (∃ a9, (hR h5 o 3) = some a9 ∧ hT h5 a9 = 8 ∧ (w_Ro_at a9 x4 h5 (fun v13 h12 => (¬ v13 = (-1 : Int32) → (R (0 : Int32) h12)) ∧ (v13 = (-1 : Int32) → (hT h12 o = 6 ∧ (∃ a16, x1 = some a16 ∧ hT h12 a16 = 12 ∧ (w_Tr_markOf a16 x2 h12 (fun v20 h19 => ∃ a21, x3 = some a21 ∧ hT h19 a21 = 12 ∧ (w_Tr_markOf a21 x4 h19 (fun v25 h24 => ∃ a26, (hR h12 o 0) = some a26 ∧ hT h24 a26 = 5 ∧ (w_Ma_agree a26 v20 v25 h24 (fun v30 h29 => (v30 = 0 → (R (0 : Int32) h29)) ∧ (¬ v30 = 0 → (R (1 : Int32) h29)))))))))))))))))))
theorem s_Mt_mayPair {o : Nat} {x1 : Option Nat} {x2 : Int32} {x3 : Option Nat} {x4 : Int32} {h : tpH} {R : Int32 → tpH → Prop} (hw : w_Mt_mayPair o x1 x2 x3 x4 h R) : tpC Mt_mayPair 2 [vR (some o), vR x1, vI x2, vR x3, vI x4] h (tpOi R (fun _ _ => False)) := by
  refine tpC_of mv_Mt_mayPair.2.2.2.1 rfl rfl (Nat.le_of_ble_eq_true rfl) ?_
  show tpR Mt_mayPair 2 h _ _ 0 [some (vR (some o)), some (vR x1), some (vI x2), some (vR x3), some (vI x4)] [] h
  unfold w_Mt_mayPair at hw
  refine tq_aload_n dMt_mayPair_0 rfl rfl ?_
  obtain ⟨f1, hw⟩ := hw
  refine te_getr dMt_mayPair_1 fMt_14 rfl rfl f1 ?_
  refine tq_iload_n dMt_mayPair_4 rfl rfl ?_
  obtain ⟨a2, e3, f4, hw⟩ := hw
  refine te_callV mv_Ro_at (ci := 7) (dc := 0) (as := [vI x2]) (rest := []) kMt_40 rfl (Nat.le_of_ble_eq_true rfl) (Nat.le_of_ble_eq_true rfl) rfl rfl e3 f4 (Nat.le_of_ble_eq_true rfl) dMt_mayPair_5 (s_Ro_at hw) (fun _ _ hx => False.elim hx) (tk_i fun v6 h5 hw => ?_)
  refine tq_iconst (v := (-1 : Int32)) dMt_mayPair_8 tni_m1 ?_
  refine tq_icmpne (tgt := 50) dMt_mayPair_9 (by decide) (fun c7 => ?_) (fun c7 => ?_)
  · have hw := hw.1 c7
    refine tq_iconst (v := (0 : Int32)) dMt_mayPair_50 tni_0 ?_
    exact tq_iret rfl (by decide) dMt_mayPair_51 hw
  · have hw := hw.2 c7
    refine tq_aload_n dMt_mayPair_12 rfl rfl ?_
    obtain ⟨f8, hw⟩ := hw
    refine te_getr dMt_mayPair_13 fMt_20 rfl rfl f8 ?_
    refine tq_iload dMt_mayPair_16 rfl ?_
    obtain ⟨a9, e10, f11, hw⟩ := hw
    refine te_callV mv_Ro_at (ci := 7) (dc := 0) (as := [vI x4]) (rest := []) kMt_40 rfl (Nat.le_of_ble_eq_true rfl) (Nat.le_of_ble_eq_true rfl) rfl rfl e10 f11 (Nat.le_of_ble_eq_true rfl) dMt_mayPair_18 (s_Ro_at hw) (fun _ _ hx => False.elim hx) (tk_i fun v13 h12 hw => ?_)
    refine tq_iconst (v := (-1 : Int32)) dMt_mayPair_21 tni_m1 ?_
    refine tq_icmpne (tgt := 50) dMt_mayPair_22 (by decide) (fun c14 => ?_) (fun c14 => ?_)
    · have hw := hw.1 c14
      refine tq_iconst (v := (0 : Int32)) dMt_mayPair_50 tni_0 ?_
      exact tq_iret rfl (by decide) dMt_mayPair_51 hw
    · have hw := hw.2 c14
      refine tq_aload_n dMt_mayPair_25 rfl rfl ?_
      obtain ⟨f15, hw⟩ := hw
      refine te_getr dMt_mayPair_26 fMt_32 rfl rfl f15 ?_
      refine tq_aload_n dMt_mayPair_29 rfl rfl ?_
      refine tq_iload_n dMt_mayPair_30 rfl rfl ?_
      obtain ⟨a16, e17, f18, hw⟩ := hw
      refine te_callV mv_Tr_markOf (ci := 11) (dc := 1) (as := [vI x2]) (rest := [vR (hR h12 o 0)]) kMt_104 rfl (Nat.le_of_ble_eq_true rfl) (Nat.le_of_ble_eq_true rfl) rfl rfl e17 f18 (Nat.le_of_ble_eq_true rfl) dMt_mayPair_31 (s_Tr_markOf hw) (fun _ _ hx => False.elim hx) (tk_i fun v20 h19 hw => ?_)
      refine tq_aload_n dMt_mayPair_34 rfl rfl ?_
      refine tq_iload dMt_mayPair_35 rfl ?_
      obtain ⟨a21, e22, f23, hw⟩ := hw
      refine te_callV mv_Tr_markOf (ci := 11) (dc := 1) (as := [vI x4]) (rest := [vI v20, vR (hR h12 o 0)]) kMt_104 rfl (Nat.le_of_ble_eq_true rfl) (Nat.le_of_ble_eq_true rfl) rfl rfl e22 f23 (Nat.le_of_ble_eq_true rfl) dMt_mayPair_37 (s_Tr_markOf hw) (fun _ _ hx => False.elim hx) (tk_i fun v25 h24 hw => ?_)
      obtain ⟨a26, e27, f28, hw⟩ := hw
      refine te_callV mv_Ma_agree (ci := 4) (dc := 1) (as := [vI v20, vI v25]) (rest := []) kMt_107 rfl (Nat.le_of_ble_eq_true rfl) (Nat.le_of_ble_eq_true rfl) rfl rfl e27 f28 (Nat.le_of_ble_eq_true rfl) dMt_mayPair_40 (s_Ma_agree hw) (fun _ _ hx => False.elim hx) (tk_i fun v30 h29 hw => ?_)
      refine tq_ifeq (tgt := 50) dMt_mayPair_43 (by decide) (fun c31 => ?_) (fun c31 => ?_)
      · have hw := hw.1 c31
        refine tq_iconst (v := (0 : Int32)) dMt_mayPair_50 tni_0 ?_
        exact tq_iret rfl (by decide) dMt_mayPair_51 hw
      · have hw := hw.2 c31
        refine tq_iconst (v := (1 : Int32)) dMt_mayPair_46 tni_1 ?_
        refine tq_goto (tgt := 51) dMt_mayPair_47 (by decide) ?_
        exact tq_iret rfl (by decide) dMt_mayPair_51 hw
/-! T$Matching.pairWithFirst -/
theorem dMt_pairWithFirst_0 : decode (mB Mt_pairWithFirst) 0 = .ok (.iconst 0, 1) := by decide +kernel
theorem dMt_pairWithFirst_1 : decode (mB Mt_pairWithFirst) 1 = .ok (.istore 4, 2) := by decide +kernel
theorem dMt_pairWithFirst_3 : decode (mB Mt_pairWithFirst) 3 = .ok (.iload 4, 2) := by decide +kernel
theorem dMt_pairWithFirst_5 : decode (mB Mt_pairWithFirst) 5 = .ok (.aload_n 3, 1) := by decide +kernel
theorem dMt_pairWithFirst_6 : decode (mB Mt_pairWithFirst) 6 = .ok (.getfield 51, 3) := by decide +kernel
theorem dMt_pairWithFirst_9 : decode (mB Mt_pairWithFirst) 9 = .ok (.if_icmp .ge 29, 3) := by decide +kernel
theorem dMt_pairWithFirst_12 : decode (mB Mt_pairWithFirst) 12 = .ok (.aload_n 0, 1) := by decide +kernel
theorem dMt_pairWithFirst_13 : decode (mB Mt_pairWithFirst) 13 = .ok (.aload_n 1, 1) := by decide +kernel
theorem dMt_pairWithFirst_14 : decode (mB Mt_pairWithFirst) 14 = .ok (.iload_n 2, 1) := by decide +kernel
theorem dMt_pairWithFirst_15 : decode (mB Mt_pairWithFirst) 15 = .ok (.aload_n 3, 1) := by decide +kernel
theorem dMt_pairWithFirst_16 : decode (mB Mt_pairWithFirst) 16 = .ok (.iload 4, 2) := by decide +kernel
theorem dMt_pairWithFirst_18 : decode (mB Mt_pairWithFirst) 18 = .ok (.invokevirtual 125, 3) := by decide +kernel
theorem dMt_pairWithFirst_21 : decode (mB Mt_pairWithFirst) 21 = .ok (.ifCond .eq 11, 3) := by decide +kernel
theorem dMt_pairWithFirst_24 : decode (mB Mt_pairWithFirst) 24 = .ok (.aload_n 0, 1) := by decide +kernel
theorem dMt_pairWithFirst_25 : decode (mB Mt_pairWithFirst) 25 = .ok (.iload_n 2, 1) := by decide +kernel
theorem dMt_pairWithFirst_26 : decode (mB Mt_pairWithFirst) 26 = .ok (.iload 4, 2) := by decide +kernel
theorem dMt_pairWithFirst_28 : decode (mB Mt_pairWithFirst) 28 = .ok (.invokevirtual 116, 3) := by decide +kernel
theorem dMt_pairWithFirst_31 : decode (mB Mt_pairWithFirst) 31 = .ok (.return_, 1) := by decide +kernel
theorem dMt_pairWithFirst_32 : decode (mB Mt_pairWithFirst) 32 = .ok (.iinc 4 1, 3) := by decide +kernel
theorem dMt_pairWithFirst_35 : decode (mB Mt_pairWithFirst) 35 = .ok (.goto (-32), 3) := by decide +kernel
theorem dMt_pairWithFirst_38 : decode (mB Mt_pairWithFirst) 38 = .ok (.return_, 1) := by decide +kernel
def b_Mt_pairWithFirst_3 (R : tpH → Prop) (Y : Nat → (Option Nat) → Int32 → (Option Nat) → Int32 → tpH → Prop) (o : Nat) (x1 : Option Nat) (x2 : Int32) (x3 : Option Nat) (x4 : Int32) (h : tpH) : Prop :=
  ∃ a1, x3 = some a1 ∧ hT h a1 = 12 ∧ (((hI h a1 0) ≤ x4 → (R h)) ∧ (¬ (hI h a1 0) ≤ x4 → (hT h o = 6 ∧ (w_Mt_mayPair o x1 x2 x3 x4 h (fun v7 h6 => (v7 = 0 → (Y o x1 x2 x3 (x4 + (1 : Int32)) h6)) ∧ (¬ v7 = 0 → (hT h6 o = 6 ∧ (w_Mt_pair o x2 x4 h6 (fun h10 => R h10)))))))))
def w_Mt_pairWithFirst_3 (R : tpH → Prop) : Nat → Nat → (Option Nat) → Int32 → (Option Nat) → Int32 → tpH → Prop
  | 0 => fun _ _ _ _ _ _ => False
  | n + 1 => b_Mt_pairWithFirst_3 R (w_Mt_pairWithFirst_3 R n)
def w_Mt_pairWithFirst (o : Nat) (x1 : Option Nat) (x2 : Int32) (x3 : Option Nat) (h : tpH) (R : tpH → Prop) : Prop :=
  ∃ n, w_Mt_pairWithFirst_3 R n o x1 x2 x3 (0 : Int32) h
theorem s_Mt_pairWithFirst_3 {h0 : tpH} {av : List tpV} {R : tpH → Prop} : ∀ (n : Nat) (o : Nat) (x1 : Option Nat) (x2 : Int32) (x3 : Option Nat) (x4 : Int32) (h : tpH), w_Mt_pairWithFirst_3 R n o x1 x2 x3 x4 h → tpR Mt_pairWithFirst 3 h0 av (tpOv R (fun _ _ => False)) 3 [some (vR (some o)), some (vR x1), some (vI x2), some (vR x3), some (vI x4)] [] h := by
  intro n
  induction n with
  | zero => intro o x1 x2 x3 x4 h hw; exact False.elim hw
  | succ n ih =>
    intro o x1 x2 x3 x4 h hw
    change b_Mt_pairWithFirst_3 R (w_Mt_pairWithFirst_3 R n) o x1 x2 x3 x4 h at hw
    unfold b_Mt_pairWithFirst_3 at hw
    refine tq_iload dMt_pairWithFirst_3 rfl ?_
    refine tq_aload_n dMt_pairWithFirst_5 rfl rfl ?_
    obtain ⟨a1, e2, f3, hw⟩ := hw
    refine te_geti dMt_pairWithFirst_6 fMt_51 rfl e2 f3 ?_
    refine tq_icmpge (tgt := 38) dMt_pairWithFirst_9 (by decide) (fun c4 => ?_) (fun c4 => ?_)
    · have hw := hw.1 c4
      exact tq_vret rfl dMt_pairWithFirst_38 hw
    · have hw := hw.2 c4
      refine tq_aload_n dMt_pairWithFirst_12 rfl rfl ?_
      refine tq_aload_n dMt_pairWithFirst_13 rfl rfl ?_
      refine tq_iload_n dMt_pairWithFirst_14 rfl rfl ?_
      refine tq_aload_n dMt_pairWithFirst_15 rfl rfl ?_
      refine tq_iload dMt_pairWithFirst_16 rfl ?_
      obtain ⟨f5, hw⟩ := hw
      refine te_callV mv_Mt_mayPair (ci := 5) (dc := 2) (as := [vR x1, vI x2, vR x3, vI x4]) (rest := []) kMt_125 rfl (Nat.le_of_ble_eq_true rfl) (Nat.le_of_ble_eq_true rfl) rfl rfl rfl f5 (Nat.le_of_ble_eq_true rfl) dMt_pairWithFirst_18 (s_Mt_mayPair hw) (fun _ _ hx => False.elim hx) (tk_i fun v7 h6 hw => ?_)
      refine tq_ifeq (tgt := 32) dMt_pairWithFirst_21 (by decide) (fun c8 => ?_) (fun c8 => ?_)
      · have hw := hw.1 c8
        refine tq_inc (k := (1 : Int32)) (ls' := [some (vR (some o)), some (vR x1), some (vI x2), some (vR x3), some (vI (x4 + (1 : Int32)))]) dMt_pairWithFirst_32 rfl tni_1 (Nat.le_of_ble_eq_true rfl) rfl ?_
        refine tq_goto (tgt := 3) dMt_pairWithFirst_35 (by decide) ?_
        refine tpR.fo (ls' := [some (vR (some o)), some (vR x1), some (vI x2), some (vR x3), some (vI (x4 + (1 : Int32)))]) ?_ (And.intro rfl (And.intro rfl (And.intro rfl (And.intro rfl (And.intro rfl trivial)))))
        exact ih _ _ _ _ _ _ hw
      · have hw := hw.2 c8
        refine tq_aload_n dMt_pairWithFirst_24 rfl rfl ?_
        refine tq_iload_n dMt_pairWithFirst_25 rfl rfl ?_
        refine tq_iload dMt_pairWithFirst_26 rfl ?_
        obtain ⟨f9, hw⟩ := hw
        refine te_callV mv_Mt_pair (ci := 5) (dc := 1) (as := [vI x2, vI x4]) (rest := []) kMt_116 rfl (Nat.le_of_ble_eq_true rfl) (Nat.le_of_ble_eq_true rfl) rfl rfl rfl f9 (Nat.le_of_ble_eq_true rfl) dMt_pairWithFirst_28 (s_Mt_pair hw) (fun _ _ hx => False.elim hx) (tk_v fun h10 hw => ?_)
        exact tq_vret rfl dMt_pairWithFirst_31 hw
theorem s_Mt_pairWithFirst {o : Nat} {x1 : Option Nat} {x2 : Int32} {x3 : Option Nat} {h : tpH} {R : tpH → Prop} (hw : w_Mt_pairWithFirst o x1 x2 x3 h R) : tpC Mt_pairWithFirst 3 [vR (some o), vR x1, vI x2, vR x3] h (tpOv R (fun _ _ => False)) := by
  refine tpC_of mv_Mt_pairWithFirst.2.2.2.1 rfl rfl (Nat.le_of_ble_eq_true rfl) ?_
  show tpR Mt_pairWithFirst 3 h _ _ 0 [some (vR (some o)), some (vR x1), some (vI x2), some (vR x3), none] [] h
  unfold w_Mt_pairWithFirst at hw
  refine tq_iconst (v := (0 : Int32)) dMt_pairWithFirst_0 tni_0 ?_
  refine tq_istore (ls' := [some (vR (some o)), some (vR x1), some (vI x2), some (vR x3), some (vI (0 : Int32))]) dMt_pairWithFirst_1 (Nat.le_of_ble_eq_true rfl) rfl ?_
  refine tpR.fo (ls' := [some (vR (some o)), some (vR x1), some (vI x2), some (vR x3), some (vI (0 : Int32))]) ?_ (And.intro rfl (And.intro rfl (And.intro rfl (And.intro rfl (And.intro rfl trivial)))))
  obtain ⟨n, hw⟩ := hw
  exact s_Mt_pairWithFirst_3 n _ _ _ _ _ _ hw
/-! T$Matching.pairIdentities -/
theorem dMt_pairIdentities_0 : decode (mB Mt_pairIdentities) 0 = .ok (.iconst 0, 1) := by decide +kernel
theorem dMt_pairIdentities_1 : decode (mB Mt_pairIdentities) 1 = .ok (.istore_n 3, 1) := by decide +kernel
theorem dMt_pairIdentities_2 : decode (mB Mt_pairIdentities) 2 = .ok (.iload_n 3, 1) := by decide +kernel
theorem dMt_pairIdentities_3 : decode (mB Mt_pairIdentities) 3 = .ok (.aload_n 1, 1) := by decide +kernel
theorem dMt_pairIdentities_4 : decode (mB Mt_pairIdentities) 4 = .ok (.getfield 51, 3) := by decide +kernel
theorem dMt_pairIdentities_7 : decode (mB Mt_pairIdentities) 7 = .ok (.if_icmp .ge 44, 3) := by decide +kernel
theorem dMt_pairIdentities_10 : decode (mB Mt_pairIdentities) 10 = .ok (.aload_n 0, 1) := by decide +kernel
theorem dMt_pairIdentities_11 : decode (mB Mt_pairIdentities) 11 = .ok (.getfield 14, 3) := by decide +kernel
theorem dMt_pairIdentities_14 : decode (mB Mt_pairIdentities) 14 = .ok (.iload_n 3, 1) := by decide +kernel
theorem dMt_pairIdentities_15 : decode (mB Mt_pairIdentities) 15 = .ok (.invokevirtual 40, 3) := by decide +kernel
theorem dMt_pairIdentities_18 : decode (mB Mt_pairIdentities) 18 = .ok (.iconst (-1), 1) := by decide +kernel
theorem dMt_pairIdentities_19 : decode (mB Mt_pairIdentities) 19 = .ok (.if_icmp .ne 26, 3) := by decide +kernel
theorem dMt_pairIdentities_22 : decode (mB Mt_pairIdentities) 22 = .ok (.aload_n 0, 1) := by decide +kernel
theorem dMt_pairIdentities_23 : decode (mB Mt_pairIdentities) 23 = .ok (.getfield 32, 3) := by decide +kernel
theorem dMt_pairIdentities_26 : decode (mB Mt_pairIdentities) 26 = .ok (.aload_n 1, 1) := by decide +kernel
theorem dMt_pairIdentities_27 : decode (mB Mt_pairIdentities) 27 = .ok (.iload_n 3, 1) := by decide +kernel
theorem dMt_pairIdentities_28 : decode (mB Mt_pairIdentities) 28 = .ok (.invokevirtual 104, 3) := by decide +kernel
theorem dMt_pairIdentities_31 : decode (mB Mt_pairIdentities) 31 = .ok (.invokevirtual 119, 3) := by decide +kernel
theorem dMt_pairIdentities_34 : decode (mB Mt_pairIdentities) 34 = .ok (.iconst (-1), 1) := by decide +kernel
theorem dMt_pairIdentities_35 : decode (mB Mt_pairIdentities) 35 = .ok (.if_icmp .eq 10, 3) := by decide +kernel
theorem dMt_pairIdentities_38 : decode (mB Mt_pairIdentities) 38 = .ok (.aload_n 0, 1) := by decide +kernel
theorem dMt_pairIdentities_39 : decode (mB Mt_pairIdentities) 39 = .ok (.aload_n 1, 1) := by decide +kernel
theorem dMt_pairIdentities_40 : decode (mB Mt_pairIdentities) 40 = .ok (.iload_n 3, 1) := by decide +kernel
theorem dMt_pairIdentities_41 : decode (mB Mt_pairIdentities) 41 = .ok (.aload_n 2, 1) := by decide +kernel
theorem dMt_pairIdentities_42 : decode (mB Mt_pairIdentities) 42 = .ok (.invokevirtual 122, 3) := by decide +kernel
theorem dMt_pairIdentities_45 : decode (mB Mt_pairIdentities) 45 = .ok (.iinc 3 1, 3) := by decide +kernel
theorem dMt_pairIdentities_48 : decode (mB Mt_pairIdentities) 48 = .ok (.goto (-46), 3) := by decide +kernel
theorem dMt_pairIdentities_51 : decode (mB Mt_pairIdentities) 51 = .ok (.return_, 1) := by decide +kernel
def b_Mt_pairIdentities_2 (R : tpH → Prop) (Y : Nat → (Option Nat) → (Option Nat) → Int32 → tpH → Prop) (o : Nat) (x1 : Option Nat) (x2 : Option Nat) (x3 : Int32) (h : tpH) : Prop :=
  ∃ a1, x1 = some a1 ∧ hT h a1 = 12 ∧ (((hI h a1 0) ≤ x3 → (R h)) ∧ (¬ (hI h a1 0) ≤ x3 → (hT h o = 6 ∧ (∃ a6, (hR h o 2) = some a6 ∧ hT h a6 = 8 ∧ (w_Ro_at a6 x3 h (fun v10 h9 => (¬ v10 = (-1 : Int32) → (Y o x1 x2 (x3 + (1 : Int32)) h9)) ∧ (v10 = (-1 : Int32) → (hT h9 o = 6 ∧ (hT h9 a1 = 12 ∧ (w_Tr_markOf a1 x3 h9 (fun v15 h14 => ∃ a16, (hR h9 o 0) = some a16 ∧ hT h14 a16 = 5 ∧ (w_Ma_identityOf a16 v15 h14 (fun v20 h19 => (v20 = (-1 : Int32) → (Y o x1 x2 (x3 + (1 : Int32)) h19)) ∧ (¬ v20 = (-1 : Int32) → (hT h19 o = 6 ∧ (w_Mt_pairWithFirst o x1 x3 x2 h19 (fun h23 => Y o x1 x2 (x3 + (1 : Int32)) h23)))))))))))))))))
def w_Mt_pairIdentities_2 (R : tpH → Prop) : Nat → Nat → (Option Nat) → (Option Nat) → Int32 → tpH → Prop
  | 0 => fun _ _ _ _ _ => False
  | n + 1 => b_Mt_pairIdentities_2 R (w_Mt_pairIdentities_2 R n)
def w_Mt_pairIdentities (o : Nat) (x1 : Option Nat) (x2 : Option Nat) (h : tpH) (R : tpH → Prop) : Prop :=
  ∃ n, w_Mt_pairIdentities_2 R n o x1 x2 (0 : Int32) h
theorem s_Mt_pairIdentities_2 {h0 : tpH} {av : List tpV} {R : tpH → Prop} : ∀ (n : Nat) (o : Nat) (x1 : Option Nat) (x2 : Option Nat) (x3 : Int32) (h : tpH), w_Mt_pairIdentities_2 R n o x1 x2 x3 h → tpR Mt_pairIdentities 4 h0 av (tpOv R (fun _ _ => False)) 2 [some (vR (some o)), some (vR x1), some (vR x2), some (vI x3)] [] h := by
  intro n
  induction n with
  | zero => intro o x1 x2 x3 h hw; exact False.elim hw
  | succ n ih =>
    intro o x1 x2 x3 h hw
    change b_Mt_pairIdentities_2 R (w_Mt_pairIdentities_2 R n) o x1 x2 x3 h at hw
    unfold b_Mt_pairIdentities_2 at hw
    refine tq_iload_n dMt_pairIdentities_2 rfl rfl ?_
    refine tq_aload_n dMt_pairIdentities_3 rfl rfl ?_
    obtain ⟨a1, e2, f3, hw⟩ := hw
    refine te_geti dMt_pairIdentities_4 fMt_51 rfl e2 f3 ?_
    refine tq_icmpge (tgt := 51) dMt_pairIdentities_7 (by decide) (fun c4 => ?_) (fun c4 => ?_)
    · have hw := hw.1 c4
      exact tq_vret rfl dMt_pairIdentities_51 hw
    · have hw := hw.2 c4
      refine tq_aload_n dMt_pairIdentities_10 rfl rfl ?_
      obtain ⟨f5, hw⟩ := hw
      refine te_getr dMt_pairIdentities_11 fMt_14 rfl rfl f5 ?_
      refine tq_iload_n dMt_pairIdentities_14 rfl rfl ?_
      obtain ⟨a6, e7, f8, hw⟩ := hw
      refine te_callV mv_Ro_at (ci := 7) (dc := 0) (as := [vI x3]) (rest := []) kMt_40 rfl (Nat.le_of_ble_eq_true rfl) (Nat.le_of_ble_eq_true rfl) rfl rfl e7 f8 (Nat.le_of_ble_eq_true rfl) dMt_pairIdentities_15 (s_Ro_at hw) (fun _ _ hx => False.elim hx) (tk_i fun v10 h9 hw => ?_)
      refine tq_iconst (v := (-1 : Int32)) dMt_pairIdentities_18 tni_m1 ?_
      refine tq_icmpne (tgt := 45) dMt_pairIdentities_19 (by decide) (fun c11 => ?_) (fun c11 => ?_)
      · have hw := hw.1 c11
        refine tq_inc (k := (1 : Int32)) (ls' := [some (vR (some o)), some (vR x1), some (vR x2), some (vI (x3 + (1 : Int32)))]) dMt_pairIdentities_45 rfl tni_1 (Nat.le_of_ble_eq_true rfl) rfl ?_
        refine tq_goto (tgt := 2) dMt_pairIdentities_48 (by decide) ?_
        refine tpR.fo (ls' := [some (vR (some o)), some (vR x1), some (vR x2), some (vI (x3 + (1 : Int32)))]) ?_ (And.intro rfl (And.intro rfl (And.intro rfl (And.intro rfl trivial))))
        exact ih _ _ _ _ _ hw
      · have hw := hw.2 c11
        refine tq_aload_n dMt_pairIdentities_22 rfl rfl ?_
        obtain ⟨f12, hw⟩ := hw
        refine te_getr dMt_pairIdentities_23 fMt_32 rfl rfl f12 ?_
        refine tq_aload_n dMt_pairIdentities_26 rfl rfl ?_
        refine tq_iload_n dMt_pairIdentities_27 rfl rfl ?_
        obtain ⟨f13, hw⟩ := hw
        refine te_callV mv_Tr_markOf (ci := 11) (dc := 1) (as := [vI x3]) (rest := [vR (hR h9 o 0)]) kMt_104 rfl (Nat.le_of_ble_eq_true rfl) (Nat.le_of_ble_eq_true rfl) rfl rfl e2 f13 (Nat.le_of_ble_eq_true rfl) dMt_pairIdentities_28 (s_Tr_markOf hw) (fun _ _ hx => False.elim hx) (tk_i fun v15 h14 hw => ?_)
        obtain ⟨a16, e17, f18, hw⟩ := hw
        refine te_callV mv_Ma_identityOf (ci := 4) (dc := 1) (as := [vI v15]) (rest := []) kMt_119 rfl (Nat.le_of_ble_eq_true rfl) (Nat.le_of_ble_eq_true rfl) rfl rfl e17 f18 (Nat.le_of_ble_eq_true rfl) dMt_pairIdentities_31 (s_Ma_identityOf hw) (fun _ _ hx => False.elim hx) (tk_i fun v20 h19 hw => ?_)
        refine tq_iconst (v := (-1 : Int32)) dMt_pairIdentities_34 tni_m1 ?_
        refine tq_icmpeq (tgt := 45) dMt_pairIdentities_35 (by decide) (fun c21 => ?_) (fun c21 => ?_)
        · have hw := hw.1 c21
          refine tq_inc (k := (1 : Int32)) (ls' := [some (vR (some o)), some (vR x1), some (vR x2), some (vI (x3 + (1 : Int32)))]) dMt_pairIdentities_45 rfl tni_1 (Nat.le_of_ble_eq_true rfl) rfl ?_
          refine tq_goto (tgt := 2) dMt_pairIdentities_48 (by decide) ?_
          refine tpR.fo (ls' := [some (vR (some o)), some (vR x1), some (vR x2), some (vI (x3 + (1 : Int32)))]) ?_ (And.intro rfl (And.intro rfl (And.intro rfl (And.intro rfl trivial))))
          exact ih _ _ _ _ _ hw
        · have hw := hw.2 c21
          refine tq_aload_n dMt_pairIdentities_38 rfl rfl ?_
          refine tq_aload_n dMt_pairIdentities_39 rfl rfl ?_
          refine tq_iload_n dMt_pairIdentities_40 rfl rfl ?_
          refine tq_aload_n dMt_pairIdentities_41 rfl rfl ?_
          obtain ⟨f22, hw⟩ := hw
          refine te_callV mv_Mt_pairWithFirst (ci := 5) (dc := 3) (as := [vR x1, vI x3, vR x2]) (rest := []) kMt_122 rfl (Nat.le_of_ble_eq_true rfl) (Nat.le_of_ble_eq_true rfl) rfl rfl rfl f22 (Nat.le_of_ble_eq_true rfl) dMt_pairIdentities_42 (s_Mt_pairWithFirst hw) (fun _ _ hx => False.elim hx) (tk_v fun h23 hw => ?_)
          refine tq_inc (k := (1 : Int32)) (ls' := [some (vR (some o)), some (vR x1), some (vR x2), some (vI (x3 + (1 : Int32)))]) dMt_pairIdentities_45 rfl tni_1 (Nat.le_of_ble_eq_true rfl) rfl ?_
          refine tq_goto (tgt := 2) dMt_pairIdentities_48 (by decide) ?_
          refine tpR.fo (ls' := [some (vR (some o)), some (vR x1), some (vR x2), some (vI (x3 + (1 : Int32)))]) ?_ (And.intro rfl (And.intro rfl (And.intro rfl (And.intro rfl trivial))))
          exact ih _ _ _ _ _ hw
theorem s_Mt_pairIdentities {o : Nat} {x1 : Option Nat} {x2 : Option Nat} {h : tpH} {R : tpH → Prop} (hw : w_Mt_pairIdentities o x1 x2 h R) : tpC Mt_pairIdentities 4 [vR (some o), vR x1, vR x2] h (tpOv R (fun _ _ => False)) := by
  refine tpC_of mv_Mt_pairIdentities.2.2.2.1 rfl rfl (Nat.le_of_ble_eq_true rfl) ?_
  show tpR Mt_pairIdentities 4 h _ _ 0 [some (vR (some o)), some (vR x1), some (vR x2), none] [] h
  unfold w_Mt_pairIdentities at hw
  refine tq_iconst (v := (0 : Int32)) dMt_pairIdentities_0 tni_0 ?_
  refine tq_istore_n (ls' := [some (vR (some o)), some (vR x1), some (vR x2), some (vI (0 : Int32))]) dMt_pairIdentities_1 rfl (Nat.le_of_ble_eq_true rfl) rfl ?_
  refine tpR.fo (ls' := [some (vR (some o)), some (vR x1), some (vR x2), some (vI (0 : Int32))]) ?_ (And.intro rfl (And.intro rfl (And.intro rfl (And.intro rfl trivial))))
  obtain ⟨n, hw⟩ := hw
  exact s_Mt_pairIdentities_2 n _ _ _ _ _ hw
/-! T$Matching.sortFree -/
theorem dMt_sortFree_0 : decode (mB Mt_sortFree) 0 = .ok (.iconst 0, 1) := by decide +kernel
theorem dMt_sortFree_1 : decode (mB Mt_sortFree) 1 = .ok (.istore 5, 2) := by decide +kernel
theorem dMt_sortFree_3 : decode (mB Mt_sortFree) 3 = .ok (.iload 5, 2) := by decide +kernel
theorem dMt_sortFree_5 : decode (mB Mt_sortFree) 5 = .ok (.aload_n 1, 1) := by decide +kernel
theorem dMt_sortFree_6 : decode (mB Mt_sortFree) 6 = .ok (.getfield 51, 3) := by decide +kernel
theorem dMt_sortFree_9 : decode (mB Mt_sortFree) 9 = .ok (.if_icmp .ge 30, 3) := by decide +kernel
theorem dMt_sortFree_12 : decode (mB Mt_sortFree) 12 = .ok (.aload_n 3, 1) := by decide +kernel
theorem dMt_sortFree_13 : decode (mB Mt_sortFree) 13 = .ok (.iload 5, 2) := by decide +kernel
theorem dMt_sortFree_15 : decode (mB Mt_sortFree) 15 = .ok (.aload_n 2, 1) := by decide +kernel
theorem dMt_sortFree_16 : decode (mB Mt_sortFree) 16 = .ok (.iload 5, 2) := by decide +kernel
theorem dMt_sortFree_18 : decode (mB Mt_sortFree) 18 = .ok (.invokevirtual 40, 3) := by decide +kernel
theorem dMt_sortFree_21 : decode (mB Mt_sortFree) 21 = .ok (.iconst (-1), 1) := by decide +kernel
theorem dMt_sortFree_22 : decode (mB Mt_sortFree) 22 = .ok (.if_icmp .ne 7, 3) := by decide +kernel
theorem dMt_sortFree_25 : decode (mB Mt_sortFree) 25 = .ok (.iconst 1, 1) := by decide +kernel
theorem dMt_sortFree_26 : decode (mB Mt_sortFree) 26 = .ok (.goto 4, 3) := by decide +kernel
theorem dMt_sortFree_29 : decode (mB Mt_sortFree) 29 = .ok (.iconst 0, 1) := by decide +kernel
theorem dMt_sortFree_30 : decode (mB Mt_sortFree) 30 = .ok (.invokevirtual 101, 3) := by decide +kernel
theorem dMt_sortFree_33 : decode (mB Mt_sortFree) 33 = .ok (.iinc 5 1, 3) := by decide +kernel
theorem dMt_sortFree_36 : decode (mB Mt_sortFree) 36 = .ok (.goto (-33), 3) := by decide +kernel
theorem dMt_sortFree_39 : decode (mB Mt_sortFree) 39 = .ok (.aload_n 1, 1) := by decide +kernel
theorem dMt_sortFree_40 : decode (mB Mt_sortFree) 40 = .ok (.getfield 51, 3) := by decide +kernel
theorem dMt_sortFree_43 : decode (mB Mt_sortFree) 43 = .ok (.iconst 1, 1) := by decide +kernel
theorem dMt_sortFree_44 : decode (mB Mt_sortFree) 44 = .ok (.isub, 1) := by decide +kernel
theorem dMt_sortFree_45 : decode (mB Mt_sortFree) 45 = .ok (.istore 5, 2) := by decide +kernel
theorem dMt_sortFree_47 : decode (mB Mt_sortFree) 47 = .ok (.iload 5, 2) := by decide +kernel
theorem dMt_sortFree_49 : decode (mB Mt_sortFree) 49 = .ok (.ifCond .lt 45, 3) := by decide +kernel
theorem dMt_sortFree_52 : decode (mB Mt_sortFree) 52 = .ok (.aload_n 3, 1) := by decide +kernel
theorem dMt_sortFree_53 : decode (mB Mt_sortFree) 53 = .ok (.iload 5, 2) := by decide +kernel
theorem dMt_sortFree_55 : decode (mB Mt_sortFree) 55 = .ok (.invokevirtual 40, 3) := by decide +kernel
theorem dMt_sortFree_58 : decode (mB Mt_sortFree) 58 = .ok (.iconst 1, 1) := by decide +kernel
theorem dMt_sortFree_59 : decode (mB Mt_sortFree) 59 = .ok (.if_icmp .ne 18, 3) := by decide +kernel
theorem dMt_sortFree_62 : decode (mB Mt_sortFree) 62 = .ok (.aload_n 0, 1) := by decide +kernel
theorem dMt_sortFree_63 : decode (mB Mt_sortFree) 63 = .ok (.getfield 36, 3) := by decide +kernel
theorem dMt_sortFree_66 : decode (mB Mt_sortFree) 66 = .ok (.aload_n 1, 1) := by decide +kernel
theorem dMt_sortFree_67 : decode (mB Mt_sortFree) 67 = .ok (.iload 5, 2) := by decide +kernel
theorem dMt_sortFree_69 : decode (mB Mt_sortFree) 69 = .ok (.iload 4, 2) := by decide +kernel
theorem dMt_sortFree_71 : decode (mB Mt_sortFree) 71 = .ok (.invokevirtual 141, 3) := by decide +kernel
theorem dMt_sortFree_74 : decode (mB Mt_sortFree) 74 = .ok (.goto 14, 3) := by decide +kernel
theorem dMt_sortFree_77 : decode (mB Mt_sortFree) 77 = .ok (.aload_n 3, 1) := by decide +kernel
theorem dMt_sortFree_78 : decode (mB Mt_sortFree) 78 = .ok (.aload_n 1, 1) := by decide +kernel
theorem dMt_sortFree_79 : decode (mB Mt_sortFree) 79 = .ok (.iload 5, 2) := by decide +kernel
theorem dMt_sortFree_81 : decode (mB Mt_sortFree) 81 = .ok (.invokevirtual 145, 3) := by decide +kernel
theorem dMt_sortFree_84 : decode (mB Mt_sortFree) 84 = .ok (.iconst 0, 1) := by decide +kernel
theorem dMt_sortFree_85 : decode (mB Mt_sortFree) 85 = .ok (.invokevirtual 101, 3) := by decide +kernel
theorem dMt_sortFree_88 : decode (mB Mt_sortFree) 88 = .ok (.iinc 5 (-1), 3) := by decide +kernel
theorem dMt_sortFree_91 : decode (mB Mt_sortFree) 91 = .ok (.goto (-44), 3) := by decide +kernel
theorem dMt_sortFree_94 : decode (mB Mt_sortFree) 94 = .ok (.return_, 1) := by decide +kernel
def w_Mt_sortFree_30 (R : tpH → Prop) (K3 : Nat → (Option Nat) → (Option Nat) → (Option Nat) → Int32 → Int32 → tpH → Prop) (o : Nat) (x1 : Option Nat) (x2 : Option Nat) (x3 : Option Nat) (x4 : Int32) (x5 : Int32) (t0 : Int32) (t1 : Int32) (t2 : Option Nat) (h : tpH) : Prop :=
  ∃ a1, t2 = some a1 ∧ hT h a1 = 8 ∧ (w_Ro_put a1 t1 t0 h (fun h4 => K3 o x1 x2 x3 x4 (x5 + (1 : Int32)) h4))
def b_Mt_sortFree_47 (R : tpH → Prop) (Y : Nat → (Option Nat) → (Option Nat) → Int32 → Int32 → tpH → Prop) (o : Nat) (x1 : Option Nat) (x3 : Option Nat) (x4 : Int32) (x5 : Int32) (h : tpH) : Prop :=
  (x5 < 0 → (R h)) ∧ (¬ x5 < 0 → (∃ a2, x3 = some a2 ∧ hT h a2 = 8 ∧ (w_Ro_at a2 x5 h (fun v6 h5 => (¬ v6 = (1 : Int32) → (∃ a8, x1 = some a8 ∧ hT h5 a8 = 12 ∧ (w_Tr_upOf a8 x5 h5 (fun v12 h11 => hT h11 a2 = 8 ∧ (w_Ro_put a2 v12 (0 : Int32) h11 (fun h14 => Y o x1 x3 x4 (x5 + (-1 : Int32)) h14)))))) ∧ (v6 = (1 : Int32) → (hT h5 o = 6 ∧ (∃ a16, (hR h5 o 1) = some a16 ∧ hT h5 a16 = 4 ∧ (w_Li_sortIn a16 x1 x5 x4 h5 (fun h19 => Y o x1 x3 x4 (x5 + (-1 : Int32)) h19)))))))))
def w_Mt_sortFree_47 (R : tpH → Prop) : Nat → Nat → (Option Nat) → (Option Nat) → Int32 → Int32 → tpH → Prop
  | 0 => fun _ _ _ _ _ _ => False
  | n + 1 => b_Mt_sortFree_47 R (w_Mt_sortFree_47 R n)
def b_Mt_sortFree_3 (R : tpH → Prop) (Y : Nat → (Option Nat) → (Option Nat) → (Option Nat) → Int32 → Int32 → tpH → Prop) (o : Nat) (x1 : Option Nat) (x2 : Option Nat) (x3 : Option Nat) (x4 : Int32) (x5 : Int32) (h : tpH) : Prop :=
  ∃ a1, x1 = some a1 ∧ hT h a1 = 12 ∧ (((hI h a1 0) ≤ x5 → (∃ n, w_Mt_sortFree_47 R n o x1 x3 x4 ((hI h a1 0) - (1 : Int32)) h)) ∧ (¬ (hI h a1 0) ≤ x5 → (∃ a5, x2 = some a5 ∧ hT h a5 = 8 ∧ (w_Ro_at a5 x5 h (fun v9 h8 => (¬ v9 = (-1 : Int32) → (w_Mt_sortFree_30 R Y o x1 x2 x3 x4 x5 (0 : Int32) x5 x3 h8)) ∧ (v9 = (-1 : Int32) → (w_Mt_sortFree_30 R Y o x1 x2 x3 x4 x5 (1 : Int32) x5 x3 h8)))))))
def w_Mt_sortFree_3 (R : tpH → Prop) : Nat → Nat → (Option Nat) → (Option Nat) → (Option Nat) → Int32 → Int32 → tpH → Prop
  | 0 => fun _ _ _ _ _ _ _ => False
  | n + 1 => b_Mt_sortFree_3 R (w_Mt_sortFree_3 R n)
def w_Mt_sortFree (o : Nat) (x1 : Option Nat) (x2 : Option Nat) (x3 : Option Nat) (x4 : Int32) (h : tpH) (R : tpH → Prop) : Prop :=
  ∃ n, w_Mt_sortFree_3 R n o x1 x2 x3 x4 (0 : Int32) h
theorem s_Mt_sortFree_30 {h0 : tpH} {av : List tpV} {R : tpH → Prop} {K3 : Nat → (Option Nat) → (Option Nat) → (Option Nat) → Int32 → Int32 → tpH → Prop} (k3 : ∀ (o : Nat) (x1 : Option Nat) (x2 : Option Nat) (x3 : Option Nat) (x4 : Int32) (x5 : Int32) (h : tpH), K3 o x1 x2 x3 x4 x5 h → tpR Mt_sortFree 4 h0 av (tpOv R (fun _ _ => False)) 3 [some (vR (some o)), some (vR x1), some (vR x2), some (vR x3), some (vI x4), some (vI x5)] [] h) : ∀ (o : Nat) (x1 : Option Nat) (x2 : Option Nat) (x3 : Option Nat) (x4 : Int32) (x5 : Int32) (t0 : Int32) (t1 : Int32) (t2 : Option Nat) (h : tpH), w_Mt_sortFree_30 R K3 o x1 x2 x3 x4 x5 t0 t1 t2 h → tpR Mt_sortFree 4 h0 av (tpOv R (fun _ _ => False)) 30 [some (vR (some o)), some (vR x1), some (vR x2), some (vR x3), some (vI x4), some (vI x5)] [vI t0, vI t1, vR t2] h := by
  intro o x1 x2 x3 x4 x5 t0 t1 t2 h hw
  unfold w_Mt_sortFree_30 at hw
  obtain ⟨a1, e2, f3, hw⟩ := hw
  refine te_callV mv_Ro_put (ci := 7) (dc := 0) (as := [vI t1, vI t0]) (rest := []) kMt_101 rfl (Nat.le_of_ble_eq_true rfl) (Nat.le_of_ble_eq_true rfl) rfl rfl e2 f3 (Nat.le_of_ble_eq_true rfl) dMt_sortFree_30 (s_Ro_put hw) (fun _ _ hx => False.elim hx) (tk_v fun h4 hw => ?_)
  refine tq_inc (k := (1 : Int32)) (ls' := [some (vR (some o)), some (vR x1), some (vR x2), some (vR x3), some (vI x4), some (vI (x5 + (1 : Int32)))]) dMt_sortFree_33 rfl tni_1 (Nat.le_of_ble_eq_true rfl) rfl ?_
  refine tq_goto (tgt := 3) dMt_sortFree_36 (by decide) ?_
  refine tpR.fo (ls' := [some (vR (some o)), some (vR x1), some (vR x2), some (vR x3), some (vI x4), some (vI (x5 + (1 : Int32)))]) ?_ (And.intro rfl (And.intro rfl (And.intro rfl (And.intro rfl (And.intro rfl (And.intro rfl trivial))))))
  exact k3 _ _ _ _ _ _ _ hw
theorem s_Mt_sortFree_47 {h0 : tpH} {av : List tpV} {R : tpH → Prop} : ∀ (n : Nat) (o : Nat) (x1 : Option Nat) (x3 : Option Nat) (x4 : Int32) (x5 : Int32) (h : tpH), w_Mt_sortFree_47 R n o x1 x3 x4 x5 h → tpR Mt_sortFree 4 h0 av (tpOv R (fun _ _ => False)) 47 [some (vR (some o)), some (vR x1), none, some (vR x3), some (vI x4), some (vI x5)] [] h := by
  intro n
  induction n with
  | zero => intro o x1 x3 x4 x5 h hw; exact False.elim hw
  | succ n ih =>
    intro o x1 x3 x4 x5 h hw
    change b_Mt_sortFree_47 R (w_Mt_sortFree_47 R n) o x1 x3 x4 x5 h at hw
    unfold b_Mt_sortFree_47 at hw
    refine tq_iload dMt_sortFree_47 rfl ?_
    refine tq_iflt (tgt := 94) dMt_sortFree_49 (by decide) (fun c1 => ?_) (fun c1 => ?_)
    · have hw := hw.1 c1
      exact tq_vret rfl dMt_sortFree_94 hw
    · have hw := hw.2 c1
      refine tq_aload_n dMt_sortFree_52 rfl rfl ?_
      refine tq_iload dMt_sortFree_53 rfl ?_
      obtain ⟨a2, e3, f4, hw⟩ := hw
      refine te_callV mv_Ro_at (ci := 7) (dc := 0) (as := [vI x5]) (rest := []) kMt_40 rfl (Nat.le_of_ble_eq_true rfl) (Nat.le_of_ble_eq_true rfl) rfl rfl e3 f4 (Nat.le_of_ble_eq_true rfl) dMt_sortFree_55 (s_Ro_at hw) (fun _ _ hx => False.elim hx) (tk_i fun v6 h5 hw => ?_)
      refine tq_iconst (v := (1 : Int32)) dMt_sortFree_58 tni_1 ?_
      refine tq_icmpne (tgt := 77) dMt_sortFree_59 (by decide) (fun c7 => ?_) (fun c7 => ?_)
      · have hw := hw.1 c7
        refine tq_aload_n dMt_sortFree_77 rfl rfl ?_
        refine tq_aload_n dMt_sortFree_78 rfl rfl ?_
        refine tq_iload dMt_sortFree_79 rfl ?_
        obtain ⟨a8, e9, f10, hw⟩ := hw
        refine te_callV mv_Tr_upOf (ci := 11) (dc := 1) (as := [vI x5]) (rest := [vR x3]) kMt_145 rfl (Nat.le_of_ble_eq_true rfl) (Nat.le_of_ble_eq_true rfl) rfl rfl e9 f10 (Nat.le_of_ble_eq_true rfl) dMt_sortFree_81 (s_Tr_upOf hw) (fun _ _ hx => False.elim hx) (tk_i fun v12 h11 hw => ?_)
        refine tq_iconst (v := (0 : Int32)) dMt_sortFree_84 tni_0 ?_
        obtain ⟨f13, hw⟩ := hw
        refine te_callV mv_Ro_put (ci := 7) (dc := 0) (as := [vI v12, vI (0 : Int32)]) (rest := []) kMt_101 rfl (Nat.le_of_ble_eq_true rfl) (Nat.le_of_ble_eq_true rfl) rfl rfl e3 f13 (Nat.le_of_ble_eq_true rfl) dMt_sortFree_85 (s_Ro_put hw) (fun _ _ hx => False.elim hx) (tk_v fun h14 hw => ?_)
        refine tq_inc (k := (-1 : Int32)) (ls' := [some (vR (some o)), some (vR x1), none, some (vR x3), some (vI x4), some (vI (x5 + (-1 : Int32)))]) dMt_sortFree_88 rfl tni_m1 (Nat.le_of_ble_eq_true rfl) rfl ?_
        refine tq_goto (tgt := 47) dMt_sortFree_91 (by decide) ?_
        refine tpR.fo (ls' := [some (vR (some o)), some (vR x1), none, some (vR x3), some (vI x4), some (vI (x5 + (-1 : Int32)))]) ?_ (And.intro rfl (And.intro rfl (And.intro rfl (And.intro rfl (And.intro rfl trivial)))))
        exact ih _ _ _ _ _ _ hw
      · have hw := hw.2 c7
        refine tq_aload_n dMt_sortFree_62 rfl rfl ?_
        obtain ⟨f15, hw⟩ := hw
        refine te_getr dMt_sortFree_63 fMt_36 rfl rfl f15 ?_
        refine tq_aload_n dMt_sortFree_66 rfl rfl ?_
        refine tq_iload dMt_sortFree_67 rfl ?_
        refine tq_iload dMt_sortFree_69 rfl ?_
        obtain ⟨a16, e17, f18, hw⟩ := hw
        refine te_callV mv_Li_sortIn (ci := 3) (dc := 3) (as := [vR x1, vI x5, vI x4]) (rest := []) kMt_141 rfl (Nat.le_of_ble_eq_true rfl) (Nat.le_of_ble_eq_true rfl) rfl rfl e17 f18 (Nat.le_of_ble_eq_true rfl) dMt_sortFree_71 (s_Li_sortIn hw) (fun _ _ hx => False.elim hx) (tk_v fun h19 hw => ?_)
        refine tq_goto (tgt := 88) dMt_sortFree_74 (by decide) ?_
        refine tq_inc (k := (-1 : Int32)) (ls' := [some (vR (some o)), some (vR x1), none, some (vR x3), some (vI x4), some (vI (x5 + (-1 : Int32)))]) dMt_sortFree_88 rfl tni_m1 (Nat.le_of_ble_eq_true rfl) rfl ?_
        refine tq_goto (tgt := 47) dMt_sortFree_91 (by decide) ?_
        refine tpR.fo (ls' := [some (vR (some o)), some (vR x1), none, some (vR x3), some (vI x4), some (vI (x5 + (-1 : Int32)))]) ?_ (And.intro rfl (And.intro rfl (And.intro rfl (And.intro rfl (And.intro rfl trivial)))))
        exact ih _ _ _ _ _ _ hw
theorem s_Mt_sortFree_3 {h0 : tpH} {av : List tpV} {R : tpH → Prop} : ∀ (n : Nat) (o : Nat) (x1 : Option Nat) (x2 : Option Nat) (x3 : Option Nat) (x4 : Int32) (x5 : Int32) (h : tpH), w_Mt_sortFree_3 R n o x1 x2 x3 x4 x5 h → tpR Mt_sortFree 4 h0 av (tpOv R (fun _ _ => False)) 3 [some (vR (some o)), some (vR x1), some (vR x2), some (vR x3), some (vI x4), some (vI x5)] [] h := by
  intro n
  induction n with
  | zero => intro o x1 x2 x3 x4 x5 h hw; exact False.elim hw
  | succ n ih =>
    intro o x1 x2 x3 x4 x5 h hw
    change b_Mt_sortFree_3 R (w_Mt_sortFree_3 R n) o x1 x2 x3 x4 x5 h at hw
    unfold b_Mt_sortFree_3 at hw
    refine tq_iload dMt_sortFree_3 rfl ?_
    refine tq_aload_n dMt_sortFree_5 rfl rfl ?_
    obtain ⟨a1, e2, f3, hw⟩ := hw
    refine te_geti dMt_sortFree_6 fMt_51 rfl e2 f3 ?_
    refine tq_icmpge (tgt := 39) dMt_sortFree_9 (by decide) (fun c4 => ?_) (fun c4 => ?_)
    · have hw := hw.1 c4
      refine tq_aload_n dMt_sortFree_39 rfl rfl ?_
      refine te_geti dMt_sortFree_40 fMt_51 rfl e2 f3 ?_
      refine tq_iconst (v := (1 : Int32)) dMt_sortFree_43 tni_1 ?_
      refine tq_isub dMt_sortFree_44 ?_
      refine tq_istore (ls' := [some (vR (some o)), some (vR x1), some (vR x2), some (vR x3), some (vI x4), some (vI ((hI h a1 0) - (1 : Int32)))]) dMt_sortFree_45 (Nat.le_of_ble_eq_true rfl) rfl ?_
      refine tpR.fo (ls' := [some (vR (some o)), some (vR x1), none, some (vR x3), some (vI x4), some (vI ((hI h a1 0) - (1 : Int32)))]) ?_ (And.intro rfl (And.intro rfl (And.intro rfl (And.intro rfl (And.intro rfl trivial)))))
      obtain ⟨n, hw⟩ := hw
      exact s_Mt_sortFree_47 n _ _ _ _ _ _ hw
    · have hw := hw.2 c4
      refine tq_aload_n dMt_sortFree_12 rfl rfl ?_
      refine tq_iload dMt_sortFree_13 rfl ?_
      refine tq_aload_n dMt_sortFree_15 rfl rfl ?_
      refine tq_iload dMt_sortFree_16 rfl ?_
      obtain ⟨a5, e6, f7, hw⟩ := hw
      refine te_callV mv_Ro_at (ci := 7) (dc := 0) (as := [vI x5]) (rest := [vI x5, vR x3]) kMt_40 rfl (Nat.le_of_ble_eq_true rfl) (Nat.le_of_ble_eq_true rfl) rfl rfl e6 f7 (Nat.le_of_ble_eq_true rfl) dMt_sortFree_18 (s_Ro_at hw) (fun _ _ hx => False.elim hx) (tk_i fun v9 h8 hw => ?_)
      refine tq_iconst (v := (-1 : Int32)) dMt_sortFree_21 tni_m1 ?_
      refine tq_icmpne (tgt := 29) dMt_sortFree_22 (by decide) (fun c10 => ?_) (fun c10 => ?_)
      · have hw := hw.1 c10
        refine tq_iconst (v := (0 : Int32)) dMt_sortFree_29 tni_0 ?_
        refine tpR.fo (ls' := [some (vR (some o)), some (vR x1), some (vR x2), some (vR x3), some (vI x4), some (vI x5)]) ?_ (And.intro rfl (And.intro rfl (And.intro rfl (And.intro rfl (And.intro rfl (And.intro rfl trivial))))))
        exact s_Mt_sortFree_30 ih _ _ _ _ _ _ _ _ _ _ hw
      · have hw := hw.2 c10
        refine tq_iconst (v := (1 : Int32)) dMt_sortFree_25 tni_1 ?_
        refine tq_goto (tgt := 30) dMt_sortFree_26 (by decide) ?_
        refine tpR.fo (ls' := [some (vR (some o)), some (vR x1), some (vR x2), some (vR x3), some (vI x4), some (vI x5)]) ?_ (And.intro rfl (And.intro rfl (And.intro rfl (And.intro rfl (And.intro rfl (And.intro rfl trivial))))))
        exact s_Mt_sortFree_30 ih _ _ _ _ _ _ _ _ _ _ hw
theorem s_Mt_sortFree {o : Nat} {x1 : Option Nat} {x2 : Option Nat} {x3 : Option Nat} {x4 : Int32} {h : tpH} {R : tpH → Prop} (hw : w_Mt_sortFree o x1 x2 x3 x4 h R) : tpC Mt_sortFree 4 [vR (some o), vR x1, vR x2, vR x3, vI x4] h (tpOv R (fun _ _ => False)) := by
  refine tpC_of mv_Mt_sortFree.2.2.2.1 rfl rfl (Nat.le_of_ble_eq_true rfl) ?_
  show tpR Mt_sortFree 4 h _ _ 0 [some (vR (some o)), some (vR x1), some (vR x2), some (vR x3), some (vI x4), none] [] h
  unfold w_Mt_sortFree at hw
  refine tq_iconst (v := (0 : Int32)) dMt_sortFree_0 tni_0 ?_
  refine tq_istore (ls' := [some (vR (some o)), some (vR x1), some (vR x2), some (vR x3), some (vI x4), some (vI (0 : Int32))]) dMt_sortFree_1 (Nat.le_of_ble_eq_true rfl) rfl ?_
  refine tpR.fo (ls' := [some (vR (some o)), some (vR x1), some (vR x2), some (vR x3), some (vI x4), some (vI (0 : Int32))]) ?_ (And.intro rfl (And.intro rfl (And.intro rfl (And.intro rfl (And.intro rfl (And.intro rfl trivial))))))
  obtain ⟨n, hw⟩ := hw
  exact s_Mt_sortFree_3 n _ _ _ _ _ _ _ hw
/-! T$Matching.firstAlike -/
theorem dMt_firstAlike_0 : decode (mB Mt_firstAlike) 0 = .ok (.iconst 0, 1) := by decide +kernel
theorem dMt_firstAlike_1 : decode (mB Mt_firstAlike) 1 = .ok (.istore_n 3, 1) := by decide +kernel
theorem dMt_firstAlike_2 : decode (mB Mt_firstAlike) 2 = .ok (.iload_n 3, 1) := by decide +kernel
theorem dMt_firstAlike_3 : decode (mB Mt_firstAlike) 3 = .ok (.aload_n 1, 1) := by decide +kernel
theorem dMt_firstAlike_4 : decode (mB Mt_firstAlike) 4 = .ok (.getfield 51, 3) := by decide +kernel
theorem dMt_firstAlike_7 : decode (mB Mt_firstAlike) 7 = .ok (.if_icmp .ge 47, 3) := by decide +kernel
theorem dMt_firstAlike_10 : decode (mB Mt_firstAlike) 10 = .ok (.aload_n 0, 1) := by decide +kernel
theorem dMt_firstAlike_11 : decode (mB Mt_firstAlike) 11 = .ok (.getfield 26, 3) := by decide +kernel
theorem dMt_firstAlike_14 : decode (mB Mt_firstAlike) 14 = .ok (.iload_n 3, 1) := by decide +kernel
theorem dMt_firstAlike_15 : decode (mB Mt_firstAlike) 15 = .ok (.invokevirtual 40, 3) := by decide +kernel
theorem dMt_firstAlike_18 : decode (mB Mt_firstAlike) 18 = .ok (.iconst 1, 1) := by decide +kernel
theorem dMt_firstAlike_19 : decode (mB Mt_firstAlike) 19 = .ok (.if_icmp .ne 29, 3) := by decide +kernel
theorem dMt_firstAlike_22 : decode (mB Mt_firstAlike) 22 = .ok (.aload_n 0, 1) := by decide +kernel
theorem dMt_firstAlike_23 : decode (mB Mt_firstAlike) 23 = .ok (.getfield 20, 3) := by decide +kernel
theorem dMt_firstAlike_26 : decode (mB Mt_firstAlike) 26 = .ok (.iload_n 3, 1) := by decide +kernel
theorem dMt_firstAlike_27 : decode (mB Mt_firstAlike) 27 = .ok (.invokevirtual 40, 3) := by decide +kernel
theorem dMt_firstAlike_30 : decode (mB Mt_firstAlike) 30 = .ok (.iconst (-1), 1) := by decide +kernel
theorem dMt_firstAlike_31 : decode (mB Mt_firstAlike) 31 = .ok (.if_icmp .ne 17, 3) := by decide +kernel
theorem dMt_firstAlike_34 : decode (mB Mt_firstAlike) 34 = .ok (.aload_n 0, 1) := by decide +kernel
theorem dMt_firstAlike_35 : decode (mB Mt_firstAlike) 35 = .ok (.getfield 36, 3) := by decide +kernel
theorem dMt_firstAlike_38 : decode (mB Mt_firstAlike) 38 = .ok (.iload_n 2, 1) := by decide +kernel
theorem dMt_firstAlike_39 : decode (mB Mt_firstAlike) 39 = .ok (.iload_n 3, 1) := by decide +kernel
theorem dMt_firstAlike_40 : decode (mB Mt_firstAlike) 40 = .ok (.invokevirtual 148, 3) := by decide +kernel
theorem dMt_firstAlike_43 : decode (mB Mt_firstAlike) 43 = .ok (.ifCond .eq 5, 3) := by decide +kernel
theorem dMt_firstAlike_46 : decode (mB Mt_firstAlike) 46 = .ok (.iload_n 3, 1) := by decide +kernel
theorem dMt_firstAlike_47 : decode (mB Mt_firstAlike) 47 = .ok (.ireturn, 1) := by decide +kernel
theorem dMt_firstAlike_48 : decode (mB Mt_firstAlike) 48 = .ok (.iinc 3 1, 3) := by decide +kernel
theorem dMt_firstAlike_51 : decode (mB Mt_firstAlike) 51 = .ok (.goto (-49), 3) := by decide +kernel
theorem dMt_firstAlike_54 : decode (mB Mt_firstAlike) 54 = .ok (.iconst (-1), 1) := by decide +kernel
theorem dMt_firstAlike_55 : decode (mB Mt_firstAlike) 55 = .ok (.ireturn, 1) := by decide +kernel
def b_Mt_firstAlike_2 (R : Int32 → tpH → Prop) (Y : Nat → (Option Nat) → Int32 → Int32 → tpH → Prop) (o : Nat) (x1 : Option Nat) (x2 : Int32) (x3 : Int32) (h : tpH) : Prop :=
  ∃ a1, x1 = some a1 ∧ hT h a1 = 12 ∧ (((hI h a1 0) ≤ x3 → (R (-1 : Int32) h)) ∧ (¬ (hI h a1 0) ≤ x3 → (hT h o = 6 ∧ (∃ a6, (hR h o 5) = some a6 ∧ hT h a6 = 8 ∧ (w_Ro_at a6 x3 h (fun v10 h9 => (¬ v10 = (1 : Int32) → (Y o x1 x2 (x3 + (1 : Int32)) h9)) ∧ (v10 = (1 : Int32) → (hT h9 o = 6 ∧ (∃ a13, (hR h9 o 3) = some a13 ∧ hT h9 a13 = 8 ∧ (w_Ro_at a13 x3 h9 (fun v17 h16 => (¬ v17 = (-1 : Int32) → (Y o x1 x2 (x3 + (1 : Int32)) h16)) ∧ (v17 = (-1 : Int32) → (hT h16 o = 6 ∧ (∃ a20, (hR h16 o 1) = some a20 ∧ hT h16 a20 = 4 ∧ (w_Li_areOneFamily a20 x2 x3 h16 (fun v24 h23 => (v24 = 0 → (Y o x1 x2 (x3 + (1 : Int32)) h23)) ∧ (¬ v24 = 0 → (R x3 h23))))))))))))))))))
def w_Mt_firstAlike_2 (R : Int32 → tpH → Prop) : Nat → Nat → (Option Nat) → Int32 → Int32 → tpH → Prop
  | 0 => fun _ _ _ _ _ => False
  | n + 1 => b_Mt_firstAlike_2 R (w_Mt_firstAlike_2 R n)
def w_Mt_firstAlike (o : Nat) (x1 : Option Nat) (x2 : Int32) (h : tpH) (R : Int32 → tpH → Prop) : Prop :=
  ∃ n, w_Mt_firstAlike_2 R n o x1 x2 (0 : Int32) h
theorem s_Mt_firstAlike_2 {h0 : tpH} {av : List tpV} {R : Int32 → tpH → Prop} : ∀ (n : Nat) (o : Nat) (x1 : Option Nat) (x2 : Int32) (x3 : Int32) (h : tpH), w_Mt_firstAlike_2 R n o x1 x2 x3 h → tpR Mt_firstAlike 2 h0 av (tpOi R (fun _ _ => False)) 2 [some (vR (some o)), some (vR x1), some (vI x2), some (vI x3)] [] h := by
  intro n
  induction n with
  | zero => intro o x1 x2 x3 h hw; exact False.elim hw
  | succ n ih =>
    intro o x1 x2 x3 h hw
    change b_Mt_firstAlike_2 R (w_Mt_firstAlike_2 R n) o x1 x2 x3 h at hw
    unfold b_Mt_firstAlike_2 at hw
    refine tq_iload_n dMt_firstAlike_2 rfl rfl ?_
    refine tq_aload_n dMt_firstAlike_3 rfl rfl ?_
    obtain ⟨a1, e2, f3, hw⟩ := hw
    refine te_geti dMt_firstAlike_4 fMt_51 rfl e2 f3 ?_
    refine tq_icmpge (tgt := 54) dMt_firstAlike_7 (by decide) (fun c4 => ?_) (fun c4 => ?_)
    · have hw := hw.1 c4
      refine tq_iconst (v := (-1 : Int32)) dMt_firstAlike_54 tni_m1 ?_
      exact tq_iret rfl rfl dMt_firstAlike_55 hw
    · have hw := hw.2 c4
      refine tq_aload_n dMt_firstAlike_10 rfl rfl ?_
      obtain ⟨f5, hw⟩ := hw
      refine te_getr dMt_firstAlike_11 fMt_26 rfl rfl f5 ?_
      refine tq_iload_n dMt_firstAlike_14 rfl rfl ?_
      obtain ⟨a6, e7, f8, hw⟩ := hw
      refine te_callV mv_Ro_at (ci := 7) (dc := 0) (as := [vI x3]) (rest := []) kMt_40 rfl (Nat.le_of_ble_eq_true rfl) (Nat.le_of_ble_eq_true rfl) rfl rfl e7 f8 (Nat.le_of_ble_eq_true rfl) dMt_firstAlike_15 (s_Ro_at hw) (fun _ _ hx => False.elim hx) (tk_i fun v10 h9 hw => ?_)
      refine tq_iconst (v := (1 : Int32)) dMt_firstAlike_18 tni_1 ?_
      refine tq_icmpne (tgt := 48) dMt_firstAlike_19 (by decide) (fun c11 => ?_) (fun c11 => ?_)
      · have hw := hw.1 c11
        refine tq_inc (k := (1 : Int32)) (ls' := [some (vR (some o)), some (vR x1), some (vI x2), some (vI (x3 + (1 : Int32)))]) dMt_firstAlike_48 rfl tni_1 (Nat.le_of_ble_eq_true rfl) rfl ?_
        refine tq_goto (tgt := 2) dMt_firstAlike_51 (by decide) ?_
        refine tpR.fo (ls' := [some (vR (some o)), some (vR x1), some (vI x2), some (vI (x3 + (1 : Int32)))]) ?_ (And.intro rfl (And.intro rfl (And.intro rfl (And.intro rfl trivial))))
        exact ih _ _ _ _ _ hw
      · have hw := hw.2 c11
        refine tq_aload_n dMt_firstAlike_22 rfl rfl ?_
        obtain ⟨f12, hw⟩ := hw
        refine te_getr dMt_firstAlike_23 fMt_20 rfl rfl f12 ?_
        refine tq_iload_n dMt_firstAlike_26 rfl rfl ?_
        obtain ⟨a13, e14, f15, hw⟩ := hw
        refine te_callV mv_Ro_at (ci := 7) (dc := 0) (as := [vI x3]) (rest := []) kMt_40 rfl (Nat.le_of_ble_eq_true rfl) (Nat.le_of_ble_eq_true rfl) rfl rfl e14 f15 (Nat.le_of_ble_eq_true rfl) dMt_firstAlike_27 (s_Ro_at hw) (fun _ _ hx => False.elim hx) (tk_i fun v17 h16 hw => ?_)
        refine tq_iconst (v := (-1 : Int32)) dMt_firstAlike_30 tni_m1 ?_
        refine tq_icmpne (tgt := 48) dMt_firstAlike_31 (by decide) (fun c18 => ?_) (fun c18 => ?_)
        · have hw := hw.1 c18
          refine tq_inc (k := (1 : Int32)) (ls' := [some (vR (some o)), some (vR x1), some (vI x2), some (vI (x3 + (1 : Int32)))]) dMt_firstAlike_48 rfl tni_1 (Nat.le_of_ble_eq_true rfl) rfl ?_
          refine tq_goto (tgt := 2) dMt_firstAlike_51 (by decide) ?_
          refine tpR.fo (ls' := [some (vR (some o)), some (vR x1), some (vI x2), some (vI (x3 + (1 : Int32)))]) ?_ (And.intro rfl (And.intro rfl (And.intro rfl (And.intro rfl trivial))))
          exact ih _ _ _ _ _ hw
        · have hw := hw.2 c18
          refine tq_aload_n dMt_firstAlike_34 rfl rfl ?_
          obtain ⟨f19, hw⟩ := hw
          refine te_getr dMt_firstAlike_35 fMt_36 rfl rfl f19 ?_
          refine tq_iload_n dMt_firstAlike_38 rfl rfl ?_
          refine tq_iload_n dMt_firstAlike_39 rfl rfl ?_
          obtain ⟨a20, e21, f22, hw⟩ := hw
          refine te_callV mv_Li_areOneFamily (ci := 3) (dc := 1) (as := [vI x2, vI x3]) (rest := []) kMt_148 rfl (Nat.le_of_ble_eq_true rfl) (Nat.le_of_ble_eq_true rfl) rfl rfl e21 f22 (Nat.le_of_ble_eq_true rfl) dMt_firstAlike_40 (s_Li_areOneFamily hw) (fun _ _ hx => False.elim hx) (tk_i fun v24 h23 hw => ?_)
          refine tq_ifeq (tgt := 48) dMt_firstAlike_43 (by decide) (fun c25 => ?_) (fun c25 => ?_)
          · have hw := hw.1 c25
            refine tq_inc (k := (1 : Int32)) (ls' := [some (vR (some o)), some (vR x1), some (vI x2), some (vI (x3 + (1 : Int32)))]) dMt_firstAlike_48 rfl tni_1 (Nat.le_of_ble_eq_true rfl) rfl ?_
            refine tq_goto (tgt := 2) dMt_firstAlike_51 (by decide) ?_
            refine tpR.fo (ls' := [some (vR (some o)), some (vR x1), some (vI x2), some (vI (x3 + (1 : Int32)))]) ?_ (And.intro rfl (And.intro rfl (And.intro rfl (And.intro rfl trivial))))
            exact ih _ _ _ _ _ hw
          · have hw := hw.2 c25
            refine tq_iload_n dMt_firstAlike_46 rfl rfl ?_
            exact tq_iret rfl rfl dMt_firstAlike_47 hw
theorem s_Mt_firstAlike {o : Nat} {x1 : Option Nat} {x2 : Int32} {h : tpH} {R : Int32 → tpH → Prop} (hw : w_Mt_firstAlike o x1 x2 h R) : tpC Mt_firstAlike 2 [vR (some o), vR x1, vI x2] h (tpOi R (fun _ _ => False)) := by
  refine tpC_of mv_Mt_firstAlike.2.2.2.1 rfl rfl (Nat.le_of_ble_eq_true rfl) ?_
  show tpR Mt_firstAlike 2 h _ _ 0 [some (vR (some o)), some (vR x1), some (vI x2), none] [] h
  unfold w_Mt_firstAlike at hw
  refine tq_iconst (v := (0 : Int32)) dMt_firstAlike_0 tni_0 ?_
  refine tq_istore_n (ls' := [some (vR (some o)), some (vR x1), some (vI x2), some (vI (0 : Int32))]) dMt_firstAlike_1 rfl (Nat.le_of_ble_eq_true rfl) rfl ?_
  refine tpR.fo (ls' := [some (vR (some o)), some (vR x1), some (vI x2), some (vI (0 : Int32))]) ?_ (And.intro rfl (And.intro rfl (And.intro rfl (And.intro rfl trivial))))
  obtain ⟨n, hw⟩ := hw
  exact s_Mt_firstAlike_2 n _ _ _ _ _ hw
/-! T$Matching.firstAlikeKid -/
theorem dMt_firstAlikeKid_0 : decode (mB Mt_firstAlikeKid) 0 = .ok (.iconst 0, 1) := by decide +kernel
theorem dMt_firstAlikeKid_1 : decode (mB Mt_firstAlikeKid) 1 = .ok (.istore 4, 2) := by decide +kernel
theorem dMt_firstAlikeKid_3 : decode (mB Mt_firstAlikeKid) 3 = .ok (.iload 4, 2) := by decide +kernel
theorem dMt_firstAlikeKid_5 : decode (mB Mt_firstAlikeKid) 5 = .ok (.aload_n 1, 1) := by decide +kernel
theorem dMt_firstAlikeKid_6 : decode (mB Mt_firstAlikeKid) 6 = .ok (.iload_n 2, 1) := by decide +kernel
theorem dMt_firstAlikeKid_7 : decode (mB Mt_firstAlikeKid) 7 = .ok (.invokevirtual 158, 3) := by decide +kernel
theorem dMt_firstAlikeKid_10 : decode (mB Mt_firstAlikeKid) 10 = .ok (.if_icmp .ge 47, 3) := by decide +kernel
theorem dMt_firstAlikeKid_13 : decode (mB Mt_firstAlikeKid) 13 = .ok (.aload_n 1, 1) := by decide +kernel
theorem dMt_firstAlikeKid_14 : decode (mB Mt_firstAlikeKid) 14 = .ok (.iload_n 2, 1) := by decide +kernel
theorem dMt_firstAlikeKid_15 : decode (mB Mt_firstAlikeKid) 15 = .ok (.iload 4, 2) := by decide +kernel
theorem dMt_firstAlikeKid_17 : decode (mB Mt_firstAlikeKid) 17 = .ok (.invokevirtual 161, 3) := by decide +kernel
theorem dMt_firstAlikeKid_20 : decode (mB Mt_firstAlikeKid) 20 = .ok (.istore 5, 2) := by decide +kernel
theorem dMt_firstAlikeKid_22 : decode (mB Mt_firstAlikeKid) 22 = .ok (.aload_n 0, 1) := by decide +kernel
theorem dMt_firstAlikeKid_23 : decode (mB Mt_firstAlikeKid) 23 = .ok (.getfield 20, 3) := by decide +kernel
theorem dMt_firstAlikeKid_26 : decode (mB Mt_firstAlikeKid) 26 = .ok (.iload 5, 2) := by decide +kernel
theorem dMt_firstAlikeKid_28 : decode (mB Mt_firstAlikeKid) 28 = .ok (.invokevirtual 40, 3) := by decide +kernel
theorem dMt_firstAlikeKid_31 : decode (mB Mt_firstAlikeKid) 31 = .ok (.iconst (-1), 1) := by decide +kernel
theorem dMt_firstAlikeKid_32 : decode (mB Mt_firstAlikeKid) 32 = .ok (.if_icmp .ne 19, 3) := by decide +kernel
theorem dMt_firstAlikeKid_35 : decode (mB Mt_firstAlikeKid) 35 = .ok (.aload_n 0, 1) := by decide +kernel
theorem dMt_firstAlikeKid_36 : decode (mB Mt_firstAlikeKid) 36 = .ok (.getfield 36, 3) := by decide +kernel
theorem dMt_firstAlikeKid_39 : decode (mB Mt_firstAlikeKid) 39 = .ok (.iload_n 3, 1) := by decide +kernel
theorem dMt_firstAlikeKid_40 : decode (mB Mt_firstAlikeKid) 40 = .ok (.iload 5, 2) := by decide +kernel
theorem dMt_firstAlikeKid_42 : decode (mB Mt_firstAlikeKid) 42 = .ok (.invokevirtual 148, 3) := by decide +kernel
theorem dMt_firstAlikeKid_45 : decode (mB Mt_firstAlikeKid) 45 = .ok (.ifCond .eq 6, 3) := by decide +kernel
theorem dMt_firstAlikeKid_48 : decode (mB Mt_firstAlikeKid) 48 = .ok (.iload 5, 2) := by decide +kernel
theorem dMt_firstAlikeKid_50 : decode (mB Mt_firstAlikeKid) 50 = .ok (.ireturn, 1) := by decide +kernel
theorem dMt_firstAlikeKid_51 : decode (mB Mt_firstAlikeKid) 51 = .ok (.iinc 4 1, 3) := by decide +kernel
theorem dMt_firstAlikeKid_54 : decode (mB Mt_firstAlikeKid) 54 = .ok (.goto (-51), 3) := by decide +kernel
theorem dMt_firstAlikeKid_57 : decode (mB Mt_firstAlikeKid) 57 = .ok (.iconst (-1), 1) := by decide +kernel
theorem dMt_firstAlikeKid_58 : decode (mB Mt_firstAlikeKid) 58 = .ok (.ireturn, 1) := by decide +kernel
def b_Mt_firstAlikeKid_3 (R : Int32 → tpH → Prop) (Y : Nat → (Option Nat) → Int32 → Int32 → Int32 → tpH → Prop) (o : Nat) (x1 : Option Nat) (x2 : Int32) (x3 : Int32) (x4 : Int32) (h : tpH) : Prop :=
  ∃ a1, x1 = some a1 ∧ hT h a1 = 12 ∧ (w_Tr_kidsOf a1 x2 h (fun v5 h4 => (v5 ≤ x4 → (R (-1 : Int32) h4)) ∧ (¬ v5 ≤ x4 → (hT h4 a1 = 12 ∧ (w_Tr_kid a1 x2 x4 h4 (fun v9 h8 => hT h8 o = 6 ∧ (∃ a11, (hR h8 o 3) = some a11 ∧ hT h8 a11 = 8 ∧ (w_Ro_at a11 v9 h8 (fun v15 h14 => (¬ v15 = (-1 : Int32) → (Y o x1 x2 x3 (x4 + (1 : Int32)) h14)) ∧ (v15 = (-1 : Int32) → (hT h14 o = 6 ∧ (∃ a18, (hR h14 o 1) = some a18 ∧ hT h14 a18 = 4 ∧ (w_Li_areOneFamily a18 x3 v9 h14 (fun v22 h21 => (v22 = 0 → (Y o x1 x2 x3 (x4 + (1 : Int32)) h21)) ∧ (¬ v22 = 0 → (R v9 h21))))))))))))))))
def w_Mt_firstAlikeKid_3 (R : Int32 → tpH → Prop) : Nat → Nat → (Option Nat) → Int32 → Int32 → Int32 → tpH → Prop
  | 0 => fun _ _ _ _ _ _ => False
  | n + 1 => b_Mt_firstAlikeKid_3 R (w_Mt_firstAlikeKid_3 R n)
def w_Mt_firstAlikeKid (o : Nat) (x1 : Option Nat) (x2 : Int32) (x3 : Int32) (h : tpH) (R : Int32 → tpH → Prop) : Prop :=
  ∃ n, w_Mt_firstAlikeKid_3 R n o x1 x2 x3 (0 : Int32) h
theorem s_Mt_firstAlikeKid_3 {h0 : tpH} {av : List tpV} {R : Int32 → tpH → Prop} : ∀ (n : Nat) (o : Nat) (x1 : Option Nat) (x2 : Int32) (x3 : Int32) (x4 : Int32) (h : tpH), w_Mt_firstAlikeKid_3 R n o x1 x2 x3 x4 h → tpR Mt_firstAlikeKid 2 h0 av (tpOi R (fun _ _ => False)) 3 [some (vR (some o)), some (vR x1), some (vI x2), some (vI x3), some (vI x4), none] [] h := by
  intro n
  induction n with
  | zero => intro o x1 x2 x3 x4 h hw; exact False.elim hw
  | succ n ih =>
    intro o x1 x2 x3 x4 h hw
    change b_Mt_firstAlikeKid_3 R (w_Mt_firstAlikeKid_3 R n) o x1 x2 x3 x4 h at hw
    unfold b_Mt_firstAlikeKid_3 at hw
    refine tq_iload dMt_firstAlikeKid_3 rfl ?_
    refine tq_aload_n dMt_firstAlikeKid_5 rfl rfl ?_
    refine tq_iload_n dMt_firstAlikeKid_6 rfl rfl ?_
    obtain ⟨a1, e2, f3, hw⟩ := hw
    refine te_callV mv_Tr_kidsOf (ci := 11) (dc := 1) (as := [vI x2]) (rest := [vI x4]) kMt_158 rfl (Nat.le_of_ble_eq_true rfl) (Nat.le_of_ble_eq_true rfl) rfl rfl e2 f3 (Nat.le_of_ble_eq_true rfl) dMt_firstAlikeKid_7 (s_Tr_kidsOf hw) (fun _ _ hx => False.elim hx) (tk_i fun v5 h4 hw => ?_)
    refine tq_icmpge (tgt := 57) dMt_firstAlikeKid_10 (by decide) (fun c6 => ?_) (fun c6 => ?_)
    · have hw := hw.1 c6
      refine tq_iconst (v := (-1 : Int32)) dMt_firstAlikeKid_57 tni_m1 ?_
      exact tq_iret rfl rfl dMt_firstAlikeKid_58 hw
    · have hw := hw.2 c6
      refine tq_aload_n dMt_firstAlikeKid_13 rfl rfl ?_
      refine tq_iload_n dMt_firstAlikeKid_14 rfl rfl ?_
      refine tq_iload dMt_firstAlikeKid_15 rfl ?_
      obtain ⟨f7, hw⟩ := hw
      refine te_callV mv_Tr_kid (ci := 11) (dc := 1) (as := [vI x2, vI x4]) (rest := []) kMt_161 rfl (Nat.le_of_ble_eq_true rfl) (Nat.le_of_ble_eq_true rfl) rfl rfl e2 f7 (Nat.le_of_ble_eq_true rfl) dMt_firstAlikeKid_17 (s_Tr_kid hw) (fun _ _ hx => False.elim hx) (tk_i fun v9 h8 hw => ?_)
      refine tq_istore (ls' := [some (vR (some o)), some (vR x1), some (vI x2), some (vI x3), some (vI x4), some (vI v9)]) dMt_firstAlikeKid_20 (Nat.le_of_ble_eq_true rfl) rfl ?_
      refine tq_aload_n dMt_firstAlikeKid_22 rfl rfl ?_
      obtain ⟨f10, hw⟩ := hw
      refine te_getr dMt_firstAlikeKid_23 fMt_20 rfl rfl f10 ?_
      refine tq_iload dMt_firstAlikeKid_26 rfl ?_
      obtain ⟨a11, e12, f13, hw⟩ := hw
      refine te_callV mv_Ro_at (ci := 7) (dc := 0) (as := [vI v9]) (rest := []) kMt_40 rfl (Nat.le_of_ble_eq_true rfl) (Nat.le_of_ble_eq_true rfl) rfl rfl e12 f13 (Nat.le_of_ble_eq_true rfl) dMt_firstAlikeKid_28 (s_Ro_at hw) (fun _ _ hx => False.elim hx) (tk_i fun v15 h14 hw => ?_)
      refine tq_iconst (v := (-1 : Int32)) dMt_firstAlikeKid_31 tni_m1 ?_
      refine tq_icmpne (tgt := 51) dMt_firstAlikeKid_32 (by decide) (fun c16 => ?_) (fun c16 => ?_)
      · have hw := hw.1 c16
        refine tq_inc (k := (1 : Int32)) (ls' := [some (vR (some o)), some (vR x1), some (vI x2), some (vI x3), some (vI (x4 + (1 : Int32))), some (vI v9)]) dMt_firstAlikeKid_51 rfl tni_1 (Nat.le_of_ble_eq_true rfl) rfl ?_
        refine tq_goto (tgt := 3) dMt_firstAlikeKid_54 (by decide) ?_
        refine tpR.fo (ls' := [some (vR (some o)), some (vR x1), some (vI x2), some (vI x3), some (vI (x4 + (1 : Int32))), none]) ?_ (And.intro rfl (And.intro rfl (And.intro rfl (And.intro rfl (And.intro rfl trivial)))))
        exact ih _ _ _ _ _ _ hw
      · have hw := hw.2 c16
        refine tq_aload_n dMt_firstAlikeKid_35 rfl rfl ?_
        obtain ⟨f17, hw⟩ := hw
        refine te_getr dMt_firstAlikeKid_36 fMt_36 rfl rfl f17 ?_
        refine tq_iload_n dMt_firstAlikeKid_39 rfl rfl ?_
        refine tq_iload dMt_firstAlikeKid_40 rfl ?_
        obtain ⟨a18, e19, f20, hw⟩ := hw
        refine te_callV mv_Li_areOneFamily (ci := 3) (dc := 1) (as := [vI x3, vI v9]) (rest := []) kMt_148 rfl (Nat.le_of_ble_eq_true rfl) (Nat.le_of_ble_eq_true rfl) rfl rfl e19 f20 (Nat.le_of_ble_eq_true rfl) dMt_firstAlikeKid_42 (s_Li_areOneFamily hw) (fun _ _ hx => False.elim hx) (tk_i fun v22 h21 hw => ?_)
        refine tq_ifeq (tgt := 51) dMt_firstAlikeKid_45 (by decide) (fun c23 => ?_) (fun c23 => ?_)
        · have hw := hw.1 c23
          refine tq_inc (k := (1 : Int32)) (ls' := [some (vR (some o)), some (vR x1), some (vI x2), some (vI x3), some (vI (x4 + (1 : Int32))), some (vI v9)]) dMt_firstAlikeKid_51 rfl tni_1 (Nat.le_of_ble_eq_true rfl) rfl ?_
          refine tq_goto (tgt := 3) dMt_firstAlikeKid_54 (by decide) ?_
          refine tpR.fo (ls' := [some (vR (some o)), some (vR x1), some (vI x2), some (vI x3), some (vI (x4 + (1 : Int32))), none]) ?_ (And.intro rfl (And.intro rfl (And.intro rfl (And.intro rfl (And.intro rfl trivial)))))
          exact ih _ _ _ _ _ _ hw
        · have hw := hw.2 c23
          refine tq_iload dMt_firstAlikeKid_48 rfl ?_
          exact tq_iret rfl rfl dMt_firstAlikeKid_50 hw
theorem s_Mt_firstAlikeKid {o : Nat} {x1 : Option Nat} {x2 : Int32} {x3 : Int32} {h : tpH} {R : Int32 → tpH → Prop} (hw : w_Mt_firstAlikeKid o x1 x2 x3 h R) : tpC Mt_firstAlikeKid 2 [vR (some o), vR x1, vI x2, vI x3] h (tpOi R (fun _ _ => False)) := by
  refine tpC_of mv_Mt_firstAlikeKid.2.2.2.1 rfl rfl (Nat.le_of_ble_eq_true rfl) ?_
  show tpR Mt_firstAlikeKid 2 h _ _ 0 [some (vR (some o)), some (vR x1), some (vI x2), some (vI x3), none, none] [] h
  unfold w_Mt_firstAlikeKid at hw
  refine tq_iconst (v := (0 : Int32)) dMt_firstAlikeKid_0 tni_0 ?_
  refine tq_istore (ls' := [some (vR (some o)), some (vR x1), some (vI x2), some (vI x3), some (vI (0 : Int32)), none]) dMt_firstAlikeKid_1 (Nat.le_of_ble_eq_true rfl) rfl ?_
  refine tpR.fo (ls' := [some (vR (some o)), some (vR x1), some (vI x2), some (vI x3), some (vI (0 : Int32)), none]) ?_ (And.intro rfl (And.intro rfl (And.intro rfl (And.intro rfl (And.intro rfl trivial)))))
  obtain ⟨n, hw⟩ := hw
  exact s_Mt_firstAlikeKid_3 n _ _ _ _ _ _ hw
/-! T$Matching.pairWithin -/
theorem dMt_pairWithin_0 : decode (mB Mt_pairWithin) 0 = .ok (.aload_n 0, 1) := by decide +kernel
theorem dMt_pairWithin_1 : decode (mB Mt_pairWithin) 1 = .ok (.iload_n 2, 1) := by decide +kernel
theorem dMt_pairWithin_2 : decode (mB Mt_pairWithin) 2 = .ok (.iload 4, 2) := by decide +kernel
theorem dMt_pairWithin_4 : decode (mB Mt_pairWithin) 4 = .ok (.invokevirtual 116, 3) := by decide +kernel
theorem dMt_pairWithin_7 : decode (mB Mt_pairWithin) 7 = .ok (.iload_n 2, 1) := by decide +kernel
theorem dMt_pairWithin_8 : decode (mB Mt_pairWithin) 8 = .ok (.istore 5, 2) := by decide +kernel
theorem dMt_pairWithin_10 : decode (mB Mt_pairWithin) 10 = .ok (.iload 5, 2) := by decide +kernel
theorem dMt_pairWithin_12 : decode (mB Mt_pairWithin) 12 = .ok (.aload_n 1, 1) := by decide +kernel
theorem dMt_pairWithin_13 : decode (mB Mt_pairWithin) 13 = .ok (.iload_n 2, 1) := by decide +kernel
theorem dMt_pairWithin_14 : decode (mB Mt_pairWithin) 14 = .ok (.invokevirtual 151, 3) := by decide +kernel
theorem dMt_pairWithin_17 : decode (mB Mt_pairWithin) 17 = .ok (.if_icmp .ge 96, 3) := by decide +kernel
theorem dMt_pairWithin_20 : decode (mB Mt_pairWithin) 20 = .ok (.aload_n 0, 1) := by decide +kernel
theorem dMt_pairWithin_21 : decode (mB Mt_pairWithin) 21 = .ok (.getfield 32, 3) := by decide +kernel
theorem dMt_pairWithin_24 : decode (mB Mt_pairWithin) 24 = .ok (.aload_n 1, 1) := by decide +kernel
theorem dMt_pairWithin_25 : decode (mB Mt_pairWithin) 25 = .ok (.iload 5, 2) := by decide +kernel
theorem dMt_pairWithin_27 : decode (mB Mt_pairWithin) 27 = .ok (.invokevirtual 104, 3) := by decide +kernel
theorem dMt_pairWithin_30 : decode (mB Mt_pairWithin) 30 = .ok (.invokevirtual 154, 3) := by decide +kernel
theorem dMt_pairWithin_33 : decode (mB Mt_pairWithin) 33 = .ok (.istore 6, 2) := by decide +kernel
theorem dMt_pairWithin_35 : decode (mB Mt_pairWithin) 35 = .ok (.aload_n 0, 1) := by decide +kernel
theorem dMt_pairWithin_36 : decode (mB Mt_pairWithin) 36 = .ok (.getfield 14, 3) := by decide +kernel
theorem dMt_pairWithin_39 : decode (mB Mt_pairWithin) 39 = .ok (.iload 5, 2) := by decide +kernel
theorem dMt_pairWithin_41 : decode (mB Mt_pairWithin) 41 = .ok (.invokevirtual 40, 3) := by decide +kernel
theorem dMt_pairWithin_44 : decode (mB Mt_pairWithin) 44 = .ok (.istore 7, 2) := by decide +kernel
theorem dMt_pairWithin_46 : decode (mB Mt_pairWithin) 46 = .ok (.iconst 0, 1) := by decide +kernel
theorem dMt_pairWithin_47 : decode (mB Mt_pairWithin) 47 = .ok (.istore 8, 2) := by decide +kernel
theorem dMt_pairWithin_49 : decode (mB Mt_pairWithin) 49 = .ok (.iload 8, 2) := by decide +kernel
theorem dMt_pairWithin_51 : decode (mB Mt_pairWithin) 51 = .ok (.aload_n 1, 1) := by decide +kernel
theorem dMt_pairWithin_52 : decode (mB Mt_pairWithin) 52 = .ok (.iload 5, 2) := by decide +kernel
theorem dMt_pairWithin_54 : decode (mB Mt_pairWithin) 54 = .ok (.invokevirtual 158, 3) := by decide +kernel
theorem dMt_pairWithin_57 : decode (mB Mt_pairWithin) 57 = .ok (.if_icmp .ge 50, 3) := by decide +kernel
theorem dMt_pairWithin_60 : decode (mB Mt_pairWithin) 60 = .ok (.aload_n 1, 1) := by decide +kernel
theorem dMt_pairWithin_61 : decode (mB Mt_pairWithin) 61 = .ok (.iload 5, 2) := by decide +kernel
theorem dMt_pairWithin_63 : decode (mB Mt_pairWithin) 63 = .ok (.iload 8, 2) := by decide +kernel
theorem dMt_pairWithin_65 : decode (mB Mt_pairWithin) 65 = .ok (.invokevirtual 161, 3) := by decide +kernel
theorem dMt_pairWithin_68 : decode (mB Mt_pairWithin) 68 = .ok (.istore 9, 2) := by decide +kernel
theorem dMt_pairWithin_70 : decode (mB Mt_pairWithin) 70 = .ok (.aload_n 0, 1) := by decide +kernel
theorem dMt_pairWithin_71 : decode (mB Mt_pairWithin) 71 = .ok (.iload 9, 2) := by decide +kernel
theorem dMt_pairWithin_73 : decode (mB Mt_pairWithin) 73 = .ok (.iload 6, 2) := by decide +kernel
theorem dMt_pairWithin_75 : decode (mB Mt_pairWithin) 75 = .ok (.ifCond .eq 15, 3) := by decide +kernel
theorem dMt_pairWithin_78 : decode (mB Mt_pairWithin) 78 = .ok (.aload_n 0, 1) := by decide +kernel
theorem dMt_pairWithin_79 : decode (mB Mt_pairWithin) 79 = .ok (.aload_n 3, 1) := by decide +kernel
theorem dMt_pairWithin_80 : decode (mB Mt_pairWithin) 80 = .ok (.iload 7, 2) := by decide +kernel
theorem dMt_pairWithin_82 : decode (mB Mt_pairWithin) 82 = .ok (.iload 9, 2) := by decide +kernel
theorem dMt_pairWithin_84 : decode (mB Mt_pairWithin) 84 = .ok (.invokevirtual 165, 3) := by decide +kernel
theorem dMt_pairWithin_87 : decode (mB Mt_pairWithin) 87 = .ok (.goto 11, 3) := by decide +kernel
theorem dMt_pairWithin_90 : decode (mB Mt_pairWithin) 90 = .ok (.aload_n 3, 1) := by decide +kernel
theorem dMt_pairWithin_91 : decode (mB Mt_pairWithin) 91 = .ok (.iload 7, 2) := by decide +kernel
theorem dMt_pairWithin_93 : decode (mB Mt_pairWithin) 93 = .ok (.iload 8, 2) := by decide +kernel
theorem dMt_pairWithin_95 : decode (mB Mt_pairWithin) 95 = .ok (.invokevirtual 161, 3) := by decide +kernel
theorem dMt_pairWithin_98 : decode (mB Mt_pairWithin) 98 = .ok (.invokevirtual 116, 3) := by decide +kernel
theorem dMt_pairWithin_101 : decode (mB Mt_pairWithin) 101 = .ok (.iinc 8 1, 3) := by decide +kernel
theorem dMt_pairWithin_104 : decode (mB Mt_pairWithin) 104 = .ok (.goto (-55), 3) := by decide +kernel
theorem dMt_pairWithin_107 : decode (mB Mt_pairWithin) 107 = .ok (.iinc 5 1, 3) := by decide +kernel
theorem dMt_pairWithin_110 : decode (mB Mt_pairWithin) 110 = .ok (.goto (-100), 3) := by decide +kernel
theorem dMt_pairWithin_113 : decode (mB Mt_pairWithin) 113 = .ok (.return_, 1) := by decide +kernel
def w_Mt_pairWithin_98 (R : tpH → Prop) (K49 : Nat → (Option Nat) → Int32 → (Option Nat) → Int32 → Int32 → Int32 → Int32 → tpH → Prop) (o : Nat) (x1 : Option Nat) (x2 : Int32) (x3 : Option Nat) (x5 : Int32) (x6 : Int32) (x7 : Int32) (x8 : Int32) (t0 : Int32) (t1 : Int32) (t2 : Option Nat) (h : tpH) : Prop :=
  ∃ a1, t2 = some a1 ∧ hT h a1 = 6 ∧ (w_Mt_pair a1 t1 t0 h (fun h4 => K49 o x1 x2 x3 x5 x6 x7 (x8 + (1 : Int32)) h4))
def b_Mt_pairWithin_49 (R : tpH → Prop) (K10 : Nat → (Option Nat) → Int32 → (Option Nat) → Int32 → tpH → Prop) (Y : Nat → (Option Nat) → Int32 → (Option Nat) → Int32 → Int32 → Int32 → Int32 → tpH → Prop) (o : Nat) (x1 : Option Nat) (x2 : Int32) (x3 : Option Nat) (x5 : Int32) (x6 : Int32) (x7 : Int32) (x8 : Int32) (h : tpH) : Prop :=
  ∃ a1, x1 = some a1 ∧ hT h a1 = 12 ∧ (w_Tr_kidsOf a1 x5 h (fun v5 h4 => (v5 ≤ x8 → (K10 o x1 x2 x3 (x5 + (1 : Int32)) h4)) ∧ (¬ v5 ≤ x8 → (hT h4 a1 = 12 ∧ (w_Tr_kid a1 x5 x8 h4 (fun v9 h8 => (x6 = 0 → (∃ a11, x3 = some a11 ∧ hT h8 a11 = 12 ∧ (w_Tr_kid a11 x7 x8 h8 (fun v15 h14 => w_Mt_pairWithin_98 R Y o x1 x2 x3 x5 x6 x7 x8 v15 v9 (some o) h14)))) ∧ (¬ x6 = 0 → (hT h8 o = 6 ∧ (w_Mt_firstAlikeKid o x3 x7 v9 h8 (fun v18 h17 => w_Mt_pairWithin_98 R Y o x1 x2 x3 x5 x6 x7 x8 v18 v9 (some o) h17))))))))))
def w_Mt_pairWithin_49 (R : tpH → Prop) (K10 : Nat → (Option Nat) → Int32 → (Option Nat) → Int32 → tpH → Prop) : Nat → Nat → (Option Nat) → Int32 → (Option Nat) → Int32 → Int32 → Int32 → Int32 → tpH → Prop
  | 0 => fun _ _ _ _ _ _ _ _ _ => False
  | n + 1 => b_Mt_pairWithin_49 R K10 (w_Mt_pairWithin_49 R K10 n)
def b_Mt_pairWithin_10 (R : tpH → Prop) (Y : Nat → (Option Nat) → Int32 → (Option Nat) → Int32 → tpH → Prop) (o : Nat) (x1 : Option Nat) (x2 : Int32) (x3 : Option Nat) (x5 : Int32) (h : tpH) : Prop :=
  ∃ a1, x1 = some a1 ∧ hT h a1 = 12 ∧ (w_Tr_endOf a1 x2 h (fun v5 h4 => (v5 ≤ x5 → (R h4)) ∧ (¬ v5 ≤ x5 → (hT h4 o = 6 ∧ (hT h4 a1 = 12 ∧ (w_Tr_markOf a1 x5 h4 (fun v10 h9 => ∃ a11, (hR h4 o 0) = some a11 ∧ hT h9 a11 = 5 ∧ (w_Ma_isLoose a11 v10 h9 (fun v15 h14 => hT h14 o = 6 ∧ (∃ a17, (hR h14 o 2) = some a17 ∧ hT h14 a17 = 8 ∧ (w_Ro_at a17 x5 h14 (fun v21 h20 => ∃ n, w_Mt_pairWithin_49 R Y n o x1 x2 x3 x5 v15 v21 (0 : Int32) h20))))))))))))
def w_Mt_pairWithin_10 (R : tpH → Prop) : Nat → Nat → (Option Nat) → Int32 → (Option Nat) → Int32 → tpH → Prop
  | 0 => fun _ _ _ _ _ _ => False
  | n + 1 => b_Mt_pairWithin_10 R (w_Mt_pairWithin_10 R n)
def w_Mt_pairWithin (o : Nat) (x1 : Option Nat) (x2 : Int32) (x3 : Option Nat) (x4 : Int32) (h : tpH) (R : tpH → Prop) : Prop :=
  hT h o = 6 ∧ (w_Mt_pair o x2 x4 h (fun h2 => ∃ n, w_Mt_pairWithin_10 R n o x1 x2 x3 x2 h2))
theorem s_Mt_pairWithin_98 {h0 : tpH} {av : List tpV} {R : tpH → Prop} {K49 : Nat → (Option Nat) → Int32 → (Option Nat) → Int32 → Int32 → Int32 → Int32 → tpH → Prop} (k49 : ∀ (o : Nat) (x1 : Option Nat) (x2 : Int32) (x3 : Option Nat) (x5 : Int32) (x6 : Int32) (x7 : Int32) (x8 : Int32) (h : tpH), K49 o x1 x2 x3 x5 x6 x7 x8 h → tpR Mt_pairWithin 3 h0 av (tpOv R (fun _ _ => False)) 49 [some (vR (some o)), some (vR x1), some (vI x2), some (vR x3), none, some (vI x5), some (vI x6), some (vI x7), some (vI x8), none] [] h) : ∀ (o : Nat) (x1 : Option Nat) (x2 : Int32) (x3 : Option Nat) (x5 : Int32) (x6 : Int32) (x7 : Int32) (x8 : Int32) (t0 : Int32) (t1 : Int32) (t2 : Option Nat) (h : tpH), w_Mt_pairWithin_98 R K49 o x1 x2 x3 x5 x6 x7 x8 t0 t1 t2 h → tpR Mt_pairWithin 3 h0 av (tpOv R (fun _ _ => False)) 98 [some (vR (some o)), some (vR x1), some (vI x2), some (vR x3), none, some (vI x5), some (vI x6), some (vI x7), some (vI x8), none] [vI t0, vI t1, vR t2] h := by
  intro o x1 x2 x3 x5 x6 x7 x8 t0 t1 t2 h hw
  unfold w_Mt_pairWithin_98 at hw
  obtain ⟨a1, e2, f3, hw⟩ := hw
  refine te_callV mv_Mt_pair (ci := 5) (dc := 1) (as := [vI t1, vI t0]) (rest := []) kMt_116 rfl (Nat.le_of_ble_eq_true rfl) (Nat.le_of_ble_eq_true rfl) rfl rfl e2 f3 (Nat.le_of_ble_eq_true rfl) dMt_pairWithin_98 (s_Mt_pair hw) (fun _ _ hx => False.elim hx) (tk_v fun h4 hw => ?_)
  refine tq_inc (k := (1 : Int32)) (ls' := [some (vR (some o)), some (vR x1), some (vI x2), some (vR x3), none, some (vI x5), some (vI x6), some (vI x7), some (vI (x8 + (1 : Int32))), none]) dMt_pairWithin_101 rfl tni_1 (Nat.le_of_ble_eq_true rfl) rfl ?_
  refine tq_goto (tgt := 49) dMt_pairWithin_104 (by decide) ?_
  refine tpR.fo (ls' := [some (vR (some o)), some (vR x1), some (vI x2), some (vR x3), none, some (vI x5), some (vI x6), some (vI x7), some (vI (x8 + (1 : Int32))), none]) ?_ (And.intro rfl (And.intro rfl (And.intro rfl (And.intro rfl (And.intro rfl (And.intro rfl (And.intro rfl (And.intro rfl trivial))))))))
  exact k49 _ _ _ _ _ _ _ _ _ hw
theorem s_Mt_pairWithin_49 {h0 : tpH} {av : List tpV} {R : tpH → Prop} {K10 : Nat → (Option Nat) → Int32 → (Option Nat) → Int32 → tpH → Prop} (k10 : ∀ (o : Nat) (x1 : Option Nat) (x2 : Int32) (x3 : Option Nat) (x5 : Int32) (h : tpH), K10 o x1 x2 x3 x5 h → tpR Mt_pairWithin 3 h0 av (tpOv R (fun _ _ => False)) 10 [some (vR (some o)), some (vR x1), some (vI x2), some (vR x3), none, some (vI x5), none, none, none, none] [] h) : ∀ (n : Nat) (o : Nat) (x1 : Option Nat) (x2 : Int32) (x3 : Option Nat) (x5 : Int32) (x6 : Int32) (x7 : Int32) (x8 : Int32) (h : tpH), w_Mt_pairWithin_49 R K10 n o x1 x2 x3 x5 x6 x7 x8 h → tpR Mt_pairWithin 3 h0 av (tpOv R (fun _ _ => False)) 49 [some (vR (some o)), some (vR x1), some (vI x2), some (vR x3), none, some (vI x5), some (vI x6), some (vI x7), some (vI x8), none] [] h := by
  intro n
  induction n with
  | zero => intro o x1 x2 x3 x5 x6 x7 x8 h hw; exact False.elim hw
  | succ n ih =>
    intro o x1 x2 x3 x5 x6 x7 x8 h hw
    change b_Mt_pairWithin_49 R K10 (w_Mt_pairWithin_49 R K10 n) o x1 x2 x3 x5 x6 x7 x8 h at hw
    unfold b_Mt_pairWithin_49 at hw
    refine tq_iload dMt_pairWithin_49 rfl ?_
    refine tq_aload_n dMt_pairWithin_51 rfl rfl ?_
    refine tq_iload dMt_pairWithin_52 rfl ?_
    obtain ⟨a1, e2, f3, hw⟩ := hw
    refine te_callV mv_Tr_kidsOf (ci := 11) (dc := 1) (as := [vI x5]) (rest := [vI x8]) kMt_158 rfl (Nat.le_of_ble_eq_true rfl) (Nat.le_of_ble_eq_true rfl) rfl rfl e2 f3 (Nat.le_of_ble_eq_true rfl) dMt_pairWithin_54 (s_Tr_kidsOf hw) (fun _ _ hx => False.elim hx) (tk_i fun v5 h4 hw => ?_)
    refine tq_icmpge (tgt := 107) dMt_pairWithin_57 (by decide) (fun c6 => ?_) (fun c6 => ?_)
    · have hw := hw.1 c6
      refine tq_inc (k := (1 : Int32)) (ls' := [some (vR (some o)), some (vR x1), some (vI x2), some (vR x3), none, some (vI (x5 + (1 : Int32))), some (vI x6), some (vI x7), some (vI x8), none]) dMt_pairWithin_107 rfl tni_1 (Nat.le_of_ble_eq_true rfl) rfl ?_
      refine tq_goto (tgt := 10) dMt_pairWithin_110 (by decide) ?_
      refine tpR.fo (ls' := [some (vR (some o)), some (vR x1), some (vI x2), some (vR x3), none, some (vI (x5 + (1 : Int32))), none, none, none, none]) ?_ (And.intro rfl (And.intro rfl (And.intro rfl (And.intro rfl (And.intro rfl trivial)))))
      exact k10 _ _ _ _ _ _ hw
    · have hw := hw.2 c6
      refine tq_aload_n dMt_pairWithin_60 rfl rfl ?_
      refine tq_iload dMt_pairWithin_61 rfl ?_
      refine tq_iload dMt_pairWithin_63 rfl ?_
      obtain ⟨f7, hw⟩ := hw
      refine te_callV mv_Tr_kid (ci := 11) (dc := 1) (as := [vI x5, vI x8]) (rest := []) kMt_161 rfl (Nat.le_of_ble_eq_true rfl) (Nat.le_of_ble_eq_true rfl) rfl rfl e2 f7 (Nat.le_of_ble_eq_true rfl) dMt_pairWithin_65 (s_Tr_kid hw) (fun _ _ hx => False.elim hx) (tk_i fun v9 h8 hw => ?_)
      refine tq_istore (ls' := [some (vR (some o)), some (vR x1), some (vI x2), some (vR x3), none, some (vI x5), some (vI x6), some (vI x7), some (vI x8), some (vI v9)]) dMt_pairWithin_68 (Nat.le_of_ble_eq_true rfl) rfl ?_
      refine tq_aload_n dMt_pairWithin_70 rfl rfl ?_
      refine tq_iload dMt_pairWithin_71 rfl ?_
      refine tq_iload dMt_pairWithin_73 rfl ?_
      refine tq_ifeq (tgt := 90) dMt_pairWithin_75 (by decide) (fun c10 => ?_) (fun c10 => ?_)
      · have hw := hw.1 c10
        refine tq_aload_n dMt_pairWithin_90 rfl rfl ?_
        refine tq_iload dMt_pairWithin_91 rfl ?_
        refine tq_iload dMt_pairWithin_93 rfl ?_
        obtain ⟨a11, e12, f13, hw⟩ := hw
        refine te_callV mv_Tr_kid (ci := 11) (dc := 1) (as := [vI x7, vI x8]) (rest := [vI v9, vR (some o)]) kMt_161 rfl (Nat.le_of_ble_eq_true rfl) (Nat.le_of_ble_eq_true rfl) rfl rfl e12 f13 (Nat.le_of_ble_eq_true rfl) dMt_pairWithin_95 (s_Tr_kid hw) (fun _ _ hx => False.elim hx) (tk_i fun v15 h14 hw => ?_)
        refine tpR.fo (ls' := [some (vR (some o)), some (vR x1), some (vI x2), some (vR x3), none, some (vI x5), some (vI x6), some (vI x7), some (vI x8), none]) ?_ (And.intro rfl (And.intro rfl (And.intro rfl (And.intro rfl (And.intro rfl (And.intro rfl (And.intro rfl (And.intro rfl trivial))))))))
        exact s_Mt_pairWithin_98 ih _ _ _ _ _ _ _ _ _ _ _ _ hw
      · have hw := hw.2 c10
        refine tq_aload_n dMt_pairWithin_78 rfl rfl ?_
        refine tq_aload_n dMt_pairWithin_79 rfl rfl ?_
        refine tq_iload dMt_pairWithin_80 rfl ?_
        refine tq_iload dMt_pairWithin_82 rfl ?_
        obtain ⟨f16, hw⟩ := hw
        refine te_callV mv_Mt_firstAlikeKid (ci := 5) (dc := 2) (as := [vR x3, vI x7, vI v9]) (rest := [vI v9, vR (some o)]) kMt_165 rfl (Nat.le_of_ble_eq_true rfl) (Nat.le_of_ble_eq_true rfl) rfl rfl rfl f16 (Nat.le_of_ble_eq_true rfl) dMt_pairWithin_84 (s_Mt_firstAlikeKid hw) (fun _ _ hx => False.elim hx) (tk_i fun v18 h17 hw => ?_)
        refine tq_goto (tgt := 98) dMt_pairWithin_87 (by decide) ?_
        refine tpR.fo (ls' := [some (vR (some o)), some (vR x1), some (vI x2), some (vR x3), none, some (vI x5), some (vI x6), some (vI x7), some (vI x8), none]) ?_ (And.intro rfl (And.intro rfl (And.intro rfl (And.intro rfl (And.intro rfl (And.intro rfl (And.intro rfl (And.intro rfl trivial))))))))
        exact s_Mt_pairWithin_98 ih _ _ _ _ _ _ _ _ _ _ _ _ hw
theorem s_Mt_pairWithin_10 {h0 : tpH} {av : List tpV} {R : tpH → Prop} : ∀ (n : Nat) (o : Nat) (x1 : Option Nat) (x2 : Int32) (x3 : Option Nat) (x5 : Int32) (h : tpH), w_Mt_pairWithin_10 R n o x1 x2 x3 x5 h → tpR Mt_pairWithin 3 h0 av (tpOv R (fun _ _ => False)) 10 [some (vR (some o)), some (vR x1), some (vI x2), some (vR x3), none, some (vI x5), none, none, none, none] [] h := by
  intro n
  induction n with
  | zero => intro o x1 x2 x3 x5 h hw; exact False.elim hw
  | succ n ih =>
    intro o x1 x2 x3 x5 h hw
    change b_Mt_pairWithin_10 R (w_Mt_pairWithin_10 R n) o x1 x2 x3 x5 h at hw
    unfold b_Mt_pairWithin_10 at hw
    refine tq_iload dMt_pairWithin_10 rfl ?_
    refine tq_aload_n dMt_pairWithin_12 rfl rfl ?_
    refine tq_iload_n dMt_pairWithin_13 rfl rfl ?_
    obtain ⟨a1, e2, f3, hw⟩ := hw
    refine te_callV mv_Tr_endOf (ci := 11) (dc := 1) (as := [vI x2]) (rest := [vI x5]) kMt_151 rfl (Nat.le_of_ble_eq_true rfl) (Nat.le_of_ble_eq_true rfl) rfl rfl e2 f3 (Nat.le_of_ble_eq_true rfl) dMt_pairWithin_14 (s_Tr_endOf hw) (fun _ _ hx => False.elim hx) (tk_i fun v5 h4 hw => ?_)
    refine tq_icmpge (tgt := 113) dMt_pairWithin_17 (by decide) (fun c6 => ?_) (fun c6 => ?_)
    · have hw := hw.1 c6
      exact tq_vret rfl dMt_pairWithin_113 hw
    · have hw := hw.2 c6
      refine tq_aload_n dMt_pairWithin_20 rfl rfl ?_
      obtain ⟨f7, hw⟩ := hw
      refine te_getr dMt_pairWithin_21 fMt_32 rfl rfl f7 ?_
      refine tq_aload_n dMt_pairWithin_24 rfl rfl ?_
      refine tq_iload dMt_pairWithin_25 rfl ?_
      obtain ⟨f8, hw⟩ := hw
      refine te_callV mv_Tr_markOf (ci := 11) (dc := 1) (as := [vI x5]) (rest := [vR (hR h4 o 0)]) kMt_104 rfl (Nat.le_of_ble_eq_true rfl) (Nat.le_of_ble_eq_true rfl) rfl rfl e2 f8 (Nat.le_of_ble_eq_true rfl) dMt_pairWithin_27 (s_Tr_markOf hw) (fun _ _ hx => False.elim hx) (tk_i fun v10 h9 hw => ?_)
      obtain ⟨a11, e12, f13, hw⟩ := hw
      refine te_callV mv_Ma_isLoose (ci := 4) (dc := 1) (as := [vI v10]) (rest := []) kMt_154 rfl (Nat.le_of_ble_eq_true rfl) (Nat.le_of_ble_eq_true rfl) rfl rfl e12 f13 (Nat.le_of_ble_eq_true rfl) dMt_pairWithin_30 (s_Ma_isLoose hw) (fun _ _ hx => False.elim hx) (tk_i fun v15 h14 hw => ?_)
      refine tq_istore (ls' := [some (vR (some o)), some (vR x1), some (vI x2), some (vR x3), none, some (vI x5), some (vI v15), none, none, none]) dMt_pairWithin_33 (Nat.le_of_ble_eq_true rfl) rfl ?_
      refine tq_aload_n dMt_pairWithin_35 rfl rfl ?_
      obtain ⟨f16, hw⟩ := hw
      refine te_getr dMt_pairWithin_36 fMt_14 rfl rfl f16 ?_
      refine tq_iload dMt_pairWithin_39 rfl ?_
      obtain ⟨a17, e18, f19, hw⟩ := hw
      refine te_callV mv_Ro_at (ci := 7) (dc := 0) (as := [vI x5]) (rest := []) kMt_40 rfl (Nat.le_of_ble_eq_true rfl) (Nat.le_of_ble_eq_true rfl) rfl rfl e18 f19 (Nat.le_of_ble_eq_true rfl) dMt_pairWithin_41 (s_Ro_at hw) (fun _ _ hx => False.elim hx) (tk_i fun v21 h20 hw => ?_)
      refine tq_istore (ls' := [some (vR (some o)), some (vR x1), some (vI x2), some (vR x3), none, some (vI x5), some (vI v15), some (vI v21), none, none]) dMt_pairWithin_44 (Nat.le_of_ble_eq_true rfl) rfl ?_
      refine tq_iconst (v := (0 : Int32)) dMt_pairWithin_46 tni_0 ?_
      refine tq_istore (ls' := [some (vR (some o)), some (vR x1), some (vI x2), some (vR x3), none, some (vI x5), some (vI v15), some (vI v21), some (vI (0 : Int32)), none]) dMt_pairWithin_47 (Nat.le_of_ble_eq_true rfl) rfl ?_
      refine tpR.fo (ls' := [some (vR (some o)), some (vR x1), some (vI x2), some (vR x3), none, some (vI x5), some (vI v15), some (vI v21), some (vI (0 : Int32)), none]) ?_ (And.intro rfl (And.intro rfl (And.intro rfl (And.intro rfl (And.intro rfl (And.intro rfl (And.intro rfl (And.intro rfl trivial))))))))
      obtain ⟨n, hw⟩ := hw
      exact s_Mt_pairWithin_49 ih n _ _ _ _ _ _ _ _ _ hw
theorem s_Mt_pairWithin {o : Nat} {x1 : Option Nat} {x2 : Int32} {x3 : Option Nat} {x4 : Int32} {h : tpH} {R : tpH → Prop} (hw : w_Mt_pairWithin o x1 x2 x3 x4 h R) : tpC Mt_pairWithin 3 [vR (some o), vR x1, vI x2, vR x3, vI x4] h (tpOv R (fun _ _ => False)) := by
  refine tpC_of mv_Mt_pairWithin.2.2.2.1 rfl rfl (Nat.le_of_ble_eq_true rfl) ?_
  show tpR Mt_pairWithin 3 h _ _ 0 [some (vR (some o)), some (vR x1), some (vI x2), some (vR x3), some (vI x4), none, none, none, none, none] [] h
  unfold w_Mt_pairWithin at hw
  refine tq_aload_n dMt_pairWithin_0 rfl rfl ?_
  refine tq_iload_n dMt_pairWithin_1 rfl rfl ?_
  refine tq_iload dMt_pairWithin_2 rfl ?_
  obtain ⟨f1, hw⟩ := hw
  refine te_callV mv_Mt_pair (ci := 5) (dc := 1) (as := [vI x2, vI x4]) (rest := []) kMt_116 rfl (Nat.le_of_ble_eq_true rfl) (Nat.le_of_ble_eq_true rfl) rfl rfl rfl f1 (Nat.le_of_ble_eq_true rfl) dMt_pairWithin_4 (s_Mt_pair hw) (fun _ _ hx => False.elim hx) (tk_v fun h2 hw => ?_)
  refine tq_iload_n dMt_pairWithin_7 rfl rfl ?_
  refine tq_istore (ls' := [some (vR (some o)), some (vR x1), some (vI x2), some (vR x3), some (vI x4), some (vI x2), none, none, none, none]) dMt_pairWithin_8 (Nat.le_of_ble_eq_true rfl) rfl ?_
  refine tpR.fo (ls' := [some (vR (some o)), some (vR x1), some (vI x2), some (vR x3), none, some (vI x2), none, none, none, none]) ?_ (And.intro rfl (And.intro rfl (And.intro rfl (And.intro rfl (And.intro rfl trivial)))))
  obtain ⟨n, hw⟩ := hw
  exact s_Mt_pairWithin_10 n _ _ _ _ _ _ hw
/-! T$Matching.bindAbove -/
theorem dMt_bindAbove_0 : decode (mB Mt_bindAbove) 0 = .ok (.aload_n 1, 1) := by decide +kernel
theorem dMt_bindAbove_1 : decode (mB Mt_bindAbove) 1 = .ok (.iload_n 2, 1) := by decide +kernel
theorem dMt_bindAbove_2 : decode (mB Mt_bindAbove) 2 = .ok (.invokevirtual 145, 3) := by decide +kernel
theorem dMt_bindAbove_5 : decode (mB Mt_bindAbove) 5 = .ok (.istore_n 3, 1) := by decide +kernel
theorem dMt_bindAbove_6 : decode (mB Mt_bindAbove) 6 = .ok (.iconst 0, 1) := by decide +kernel
theorem dMt_bindAbove_7 : decode (mB Mt_bindAbove) 7 = .ok (.istore 4, 2) := by decide +kernel
theorem dMt_bindAbove_9 : decode (mB Mt_bindAbove) 9 = .ok (.iload 4, 2) := by decide +kernel
theorem dMt_bindAbove_11 : decode (mB Mt_bindAbove) 11 = .ok (.aload_n 1, 1) := by decide +kernel
theorem dMt_bindAbove_12 : decode (mB Mt_bindAbove) 12 = .ok (.getfield 51, 3) := by decide +kernel
theorem dMt_bindAbove_15 : decode (mB Mt_bindAbove) 15 = .ok (.if_icmp .ge 29, 3) := by decide +kernel
theorem dMt_bindAbove_18 : decode (mB Mt_bindAbove) 18 = .ok (.iload_n 3, 1) := by decide +kernel
theorem dMt_bindAbove_19 : decode (mB Mt_bindAbove) 19 = .ok (.iconst (-1), 1) := by decide +kernel
theorem dMt_bindAbove_20 : decode (mB Mt_bindAbove) 20 = .ok (.if_icmp .eq 24, 3) := by decide +kernel
theorem dMt_bindAbove_23 : decode (mB Mt_bindAbove) 23 = .ok (.aload_n 0, 1) := by decide +kernel
theorem dMt_bindAbove_24 : decode (mB Mt_bindAbove) 24 = .ok (.getfield 26, 3) := by decide +kernel
theorem dMt_bindAbove_27 : decode (mB Mt_bindAbove) 27 = .ok (.iload_n 3, 1) := by decide +kernel
theorem dMt_bindAbove_28 : decode (mB Mt_bindAbove) 28 = .ok (.iconst 0, 1) := by decide +kernel
theorem dMt_bindAbove_29 : decode (mB Mt_bindAbove) 29 = .ok (.invokevirtual 101, 3) := by decide +kernel
theorem dMt_bindAbove_32 : decode (mB Mt_bindAbove) 32 = .ok (.aload_n 1, 1) := by decide +kernel
theorem dMt_bindAbove_33 : decode (mB Mt_bindAbove) 33 = .ok (.iload_n 3, 1) := by decide +kernel
theorem dMt_bindAbove_34 : decode (mB Mt_bindAbove) 34 = .ok (.invokevirtual 145, 3) := by decide +kernel
theorem dMt_bindAbove_37 : decode (mB Mt_bindAbove) 37 = .ok (.istore_n 3, 1) := by decide +kernel
theorem dMt_bindAbove_38 : decode (mB Mt_bindAbove) 38 = .ok (.iinc 4 1, 3) := by decide +kernel
theorem dMt_bindAbove_41 : decode (mB Mt_bindAbove) 41 = .ok (.goto (-32), 3) := by decide +kernel
theorem dMt_bindAbove_44 : decode (mB Mt_bindAbove) 44 = .ok (.return_, 1) := by decide +kernel
def b_Mt_bindAbove_9 (R : tpH → Prop) (Y : Nat → (Option Nat) → Int32 → Int32 → tpH → Prop) (o : Nat) (x1 : Option Nat) (x3 : Int32) (x4 : Int32) (h : tpH) : Prop :=
  ∃ a1, x1 = some a1 ∧ hT h a1 = 12 ∧ (((hI h a1 0) ≤ x4 → (R h)) ∧ (¬ (hI h a1 0) ≤ x4 → ((x3 = (-1 : Int32) → (R h)) ∧ (¬ x3 = (-1 : Int32) → (hT h o = 6 ∧ (∃ a7, (hR h o 5) = some a7 ∧ hT h a7 = 8 ∧ (w_Ro_put a7 x3 (0 : Int32) h (fun h10 => hT h10 a1 = 12 ∧ (w_Tr_upOf a1 x3 h10 (fun v13 h12 => Y o x1 v13 (x4 + (1 : Int32)) h12))))))))))
def w_Mt_bindAbove_9 (R : tpH → Prop) : Nat → Nat → (Option Nat) → Int32 → Int32 → tpH → Prop
  | 0 => fun _ _ _ _ _ => False
  | n + 1 => b_Mt_bindAbove_9 R (w_Mt_bindAbove_9 R n)
def w_Mt_bindAbove (o : Nat) (x1 : Option Nat) (x2 : Int32) (h : tpH) (R : tpH → Prop) : Prop :=
  ∃ a1, x1 = some a1 ∧ hT h a1 = 12 ∧ (w_Tr_upOf a1 x2 h (fun v5 h4 => ∃ n, w_Mt_bindAbove_9 R n o x1 v5 (0 : Int32) h4))
theorem s_Mt_bindAbove_9 {h0 : tpH} {av : List tpV} {R : tpH → Prop} : ∀ (n : Nat) (o : Nat) (x1 : Option Nat) (x3 : Int32) (x4 : Int32) (h : tpH), w_Mt_bindAbove_9 R n o x1 x3 x4 h → tpR Mt_bindAbove 2 h0 av (tpOv R (fun _ _ => False)) 9 [some (vR (some o)), some (vR x1), none, some (vI x3), some (vI x4)] [] h := by
  intro n
  induction n with
  | zero => intro o x1 x3 x4 h hw; exact False.elim hw
  | succ n ih =>
    intro o x1 x3 x4 h hw
    change b_Mt_bindAbove_9 R (w_Mt_bindAbove_9 R n) o x1 x3 x4 h at hw
    unfold b_Mt_bindAbove_9 at hw
    refine tq_iload dMt_bindAbove_9 rfl ?_
    refine tq_aload_n dMt_bindAbove_11 rfl rfl ?_
    obtain ⟨a1, e2, f3, hw⟩ := hw
    refine te_geti dMt_bindAbove_12 fMt_51 rfl e2 f3 ?_
    refine tq_icmpge (tgt := 44) dMt_bindAbove_15 (by decide) (fun c4 => ?_) (fun c4 => ?_)
    · have hw := hw.1 c4
      exact tq_vret rfl dMt_bindAbove_44 hw
    · have hw := hw.2 c4
      refine tq_iload_n dMt_bindAbove_18 rfl rfl ?_
      refine tq_iconst (v := (-1 : Int32)) dMt_bindAbove_19 tni_m1 ?_
      refine tq_icmpeq (tgt := 44) dMt_bindAbove_20 (by decide) (fun c5 => ?_) (fun c5 => ?_)
      · have hw := hw.1 c5
        exact tq_vret rfl dMt_bindAbove_44 hw
      · have hw := hw.2 c5
        refine tq_aload_n dMt_bindAbove_23 rfl rfl ?_
        obtain ⟨f6, hw⟩ := hw
        refine te_getr dMt_bindAbove_24 fMt_26 rfl rfl f6 ?_
        refine tq_iload_n dMt_bindAbove_27 rfl rfl ?_
        refine tq_iconst (v := (0 : Int32)) dMt_bindAbove_28 tni_0 ?_
        obtain ⟨a7, e8, f9, hw⟩ := hw
        refine te_callV mv_Ro_put (ci := 7) (dc := 0) (as := [vI x3, vI (0 : Int32)]) (rest := []) kMt_101 rfl (Nat.le_of_ble_eq_true rfl) (Nat.le_of_ble_eq_true rfl) rfl rfl e8 f9 (Nat.le_of_ble_eq_true rfl) dMt_bindAbove_29 (s_Ro_put hw) (fun _ _ hx => False.elim hx) (tk_v fun h10 hw => ?_)
        refine tq_aload_n dMt_bindAbove_32 rfl rfl ?_
        refine tq_iload_n dMt_bindAbove_33 rfl rfl ?_
        obtain ⟨f11, hw⟩ := hw
        refine te_callV mv_Tr_upOf (ci := 11) (dc := 1) (as := [vI x3]) (rest := []) kMt_145 rfl (Nat.le_of_ble_eq_true rfl) (Nat.le_of_ble_eq_true rfl) rfl rfl e2 f11 (Nat.le_of_ble_eq_true rfl) dMt_bindAbove_34 (s_Tr_upOf hw) (fun _ _ hx => False.elim hx) (tk_i fun v13 h12 hw => ?_)
        refine tq_istore_n (ls' := [some (vR (some o)), some (vR x1), none, some (vI v13), some (vI x4)]) dMt_bindAbove_37 rfl (Nat.le_of_ble_eq_true rfl) rfl ?_
        refine tq_inc (k := (1 : Int32)) (ls' := [some (vR (some o)), some (vR x1), none, some (vI v13), some (vI (x4 + (1 : Int32)))]) dMt_bindAbove_38 rfl tni_1 (Nat.le_of_ble_eq_true rfl) rfl ?_
        refine tq_goto (tgt := 9) dMt_bindAbove_41 (by decide) ?_
        refine tpR.fo (ls' := [some (vR (some o)), some (vR x1), none, some (vI v13), some (vI (x4 + (1 : Int32)))]) ?_ (And.intro rfl (And.intro rfl (And.intro rfl (And.intro rfl trivial))))
        exact ih _ _ _ _ _ hw
theorem s_Mt_bindAbove {o : Nat} {x1 : Option Nat} {x2 : Int32} {h : tpH} {R : tpH → Prop} (hw : w_Mt_bindAbove o x1 x2 h R) : tpC Mt_bindAbove 2 [vR (some o), vR x1, vI x2] h (tpOv R (fun _ _ => False)) := by
  refine tpC_of mv_Mt_bindAbove.2.2.2.1 rfl rfl (Nat.le_of_ble_eq_true rfl) ?_
  show tpR Mt_bindAbove 2 h _ _ 0 [some (vR (some o)), some (vR x1), some (vI x2), none, none] [] h
  unfold w_Mt_bindAbove at hw
  refine tq_aload_n dMt_bindAbove_0 rfl rfl ?_
  refine tq_iload_n dMt_bindAbove_1 rfl rfl ?_
  obtain ⟨a1, e2, f3, hw⟩ := hw
  refine te_callV mv_Tr_upOf (ci := 11) (dc := 1) (as := [vI x2]) (rest := []) kMt_145 rfl (Nat.le_of_ble_eq_true rfl) (Nat.le_of_ble_eq_true rfl) rfl rfl e2 f3 (Nat.le_of_ble_eq_true rfl) dMt_bindAbove_2 (s_Tr_upOf hw) (fun _ _ hx => False.elim hx) (tk_i fun v5 h4 hw => ?_)
  refine tq_istore_n (ls' := [some (vR (some o)), some (vR x1), some (vI x2), some (vI v5), none]) dMt_bindAbove_5 rfl (Nat.le_of_ble_eq_true rfl) rfl ?_
  refine tq_iconst (v := (0 : Int32)) dMt_bindAbove_6 tni_0 ?_
  refine tq_istore (ls' := [some (vR (some o)), some (vR x1), some (vI x2), some (vI v5), some (vI (0 : Int32))]) dMt_bindAbove_7 (Nat.le_of_ble_eq_true rfl) rfl ?_
  refine tpR.fo (ls' := [some (vR (some o)), some (vR x1), none, some (vI v5), some (vI (0 : Int32))]) ?_ (And.intro rfl (And.intro rfl (And.intro rfl (And.intro rfl trivial))))
  obtain ⟨n, hw⟩ := hw
  exact s_Mt_bindAbove_9 n _ _ _ _ _ hw
/-! T$Matching.pairAlike -/
theorem dMt_pairAlike_0 : decode (mB Mt_pairAlike) 0 = .ok (.iconst 0, 1) := by decide +kernel
theorem dMt_pairAlike_1 : decode (mB Mt_pairAlike) 1 = .ok (.istore_n 3, 1) := by decide +kernel
theorem dMt_pairAlike_2 : decode (mB Mt_pairAlike) 2 = .ok (.iload_n 3, 1) := by decide +kernel
theorem dMt_pairAlike_3 : decode (mB Mt_pairAlike) 3 = .ok (.aload_n 1, 1) := by decide +kernel
theorem dMt_pairAlike_4 : decode (mB Mt_pairAlike) 4 = .ok (.getfield 51, 3) := by decide +kernel
theorem dMt_pairAlike_7 : decode (mB Mt_pairAlike) 7 = .ok (.if_icmp .ge 63, 3) := by decide +kernel
theorem dMt_pairAlike_10 : decode (mB Mt_pairAlike) 10 = .ok (.aload_n 0, 1) := by decide +kernel
theorem dMt_pairAlike_11 : decode (mB Mt_pairAlike) 11 = .ok (.getfield 23, 3) := by decide +kernel
theorem dMt_pairAlike_14 : decode (mB Mt_pairAlike) 14 = .ok (.iload_n 3, 1) := by decide +kernel
theorem dMt_pairAlike_15 : decode (mB Mt_pairAlike) 15 = .ok (.invokevirtual 40, 3) := by decide +kernel
theorem dMt_pairAlike_18 : decode (mB Mt_pairAlike) 18 = .ok (.iconst 1, 1) := by decide +kernel
theorem dMt_pairAlike_19 : decode (mB Mt_pairAlike) 19 = .ok (.if_icmp .ne 45, 3) := by decide +kernel
theorem dMt_pairAlike_22 : decode (mB Mt_pairAlike) 22 = .ok (.aload_n 0, 1) := by decide +kernel
theorem dMt_pairAlike_23 : decode (mB Mt_pairAlike) 23 = .ok (.getfield 14, 3) := by decide +kernel
theorem dMt_pairAlike_26 : decode (mB Mt_pairAlike) 26 = .ok (.iload_n 3, 1) := by decide +kernel
theorem dMt_pairAlike_27 : decode (mB Mt_pairAlike) 27 = .ok (.invokevirtual 40, 3) := by decide +kernel
theorem dMt_pairAlike_30 : decode (mB Mt_pairAlike) 30 = .ok (.iconst (-1), 1) := by decide +kernel
theorem dMt_pairAlike_31 : decode (mB Mt_pairAlike) 31 = .ok (.if_icmp .ne 33, 3) := by decide +kernel
theorem dMt_pairAlike_34 : decode (mB Mt_pairAlike) 34 = .ok (.aload_n 0, 1) := by decide +kernel
theorem dMt_pairAlike_35 : decode (mB Mt_pairAlike) 35 = .ok (.aload_n 2, 1) := by decide +kernel
theorem dMt_pairAlike_36 : decode (mB Mt_pairAlike) 36 = .ok (.iload_n 3, 1) := by decide +kernel
theorem dMt_pairAlike_37 : decode (mB Mt_pairAlike) 37 = .ok (.invokevirtual 129, 3) := by decide +kernel
theorem dMt_pairAlike_40 : decode (mB Mt_pairAlike) 40 = .ok (.istore 4, 2) := by decide +kernel
theorem dMt_pairAlike_42 : decode (mB Mt_pairAlike) 42 = .ok (.iload 4, 2) := by decide +kernel
theorem dMt_pairAlike_44 : decode (mB Mt_pairAlike) 44 = .ok (.iconst (-1), 1) := by decide +kernel
theorem dMt_pairAlike_45 : decode (mB Mt_pairAlike) 45 = .ok (.if_icmp .eq 19, 3) := by decide +kernel
theorem dMt_pairAlike_48 : decode (mB Mt_pairAlike) 48 = .ok (.aload_n 0, 1) := by decide +kernel
theorem dMt_pairAlike_49 : decode (mB Mt_pairAlike) 49 = .ok (.aload_n 1, 1) := by decide +kernel
theorem dMt_pairAlike_50 : decode (mB Mt_pairAlike) 50 = .ok (.iload_n 3, 1) := by decide +kernel
theorem dMt_pairAlike_51 : decode (mB Mt_pairAlike) 51 = .ok (.aload_n 2, 1) := by decide +kernel
theorem dMt_pairAlike_52 : decode (mB Mt_pairAlike) 52 = .ok (.iload 4, 2) := by decide +kernel
theorem dMt_pairAlike_54 : decode (mB Mt_pairAlike) 54 = .ok (.invokevirtual 133, 3) := by decide +kernel
theorem dMt_pairAlike_57 : decode (mB Mt_pairAlike) 57 = .ok (.aload_n 0, 1) := by decide +kernel
theorem dMt_pairAlike_58 : decode (mB Mt_pairAlike) 58 = .ok (.aload_n 2, 1) := by decide +kernel
theorem dMt_pairAlike_59 : decode (mB Mt_pairAlike) 59 = .ok (.iload 4, 2) := by decide +kernel
theorem dMt_pairAlike_61 : decode (mB Mt_pairAlike) 61 = .ok (.invokevirtual 137, 3) := by decide +kernel
theorem dMt_pairAlike_64 : decode (mB Mt_pairAlike) 64 = .ok (.iinc 3 1, 3) := by decide +kernel
theorem dMt_pairAlike_67 : decode (mB Mt_pairAlike) 67 = .ok (.goto (-65), 3) := by decide +kernel
theorem dMt_pairAlike_70 : decode (mB Mt_pairAlike) 70 = .ok (.return_, 1) := by decide +kernel
def b_Mt_pairAlike_2 (R : tpH → Prop) (Y : Nat → (Option Nat) → (Option Nat) → Int32 → tpH → Prop) (o : Nat) (x1 : Option Nat) (x2 : Option Nat) (x3 : Int32) (h : tpH) : Prop :=
  ∃ a1, x1 = some a1 ∧ hT h a1 = 12 ∧ (((hI h a1 0) ≤ x3 → (R h)) ∧ (¬ (hI h a1 0) ≤ x3 → (hT h o = 6 ∧ (∃ a6, (hR h o 4) = some a6 ∧ hT h a6 = 8 ∧ (w_Ro_at a6 x3 h (fun v10 h9 => (¬ v10 = (1 : Int32) → (Y o x1 x2 (x3 + (1 : Int32)) h9)) ∧ (v10 = (1 : Int32) → (hT h9 o = 6 ∧ (∃ a13, (hR h9 o 2) = some a13 ∧ hT h9 a13 = 8 ∧ (w_Ro_at a13 x3 h9 (fun v17 h16 => (¬ v17 = (-1 : Int32) → (Y o x1 x2 (x3 + (1 : Int32)) h16)) ∧ (v17 = (-1 : Int32) → (hT h16 o = 6 ∧ (w_Mt_firstAlike o x2 x3 h16 (fun v21 h20 => (v21 = (-1 : Int32) → (Y o x1 x2 (x3 + (1 : Int32)) h20)) ∧ (¬ v21 = (-1 : Int32) → (hT h20 o = 6 ∧ (w_Mt_pairWithin o x1 x3 x2 v21 h20 (fun h24 => hT h24 o = 6 ∧ (w_Mt_bindAbove o x2 v21 h24 (fun h26 => Y o x1 x2 (x3 + (1 : Int32)) h26)))))))))))))))))))))
def w_Mt_pairAlike_2 (R : tpH → Prop) : Nat → Nat → (Option Nat) → (Option Nat) → Int32 → tpH → Prop
  | 0 => fun _ _ _ _ _ => False
  | n + 1 => b_Mt_pairAlike_2 R (w_Mt_pairAlike_2 R n)
def w_Mt_pairAlike (o : Nat) (x1 : Option Nat) (x2 : Option Nat) (h : tpH) (R : tpH → Prop) : Prop :=
  ∃ n, w_Mt_pairAlike_2 R n o x1 x2 (0 : Int32) h
theorem s_Mt_pairAlike_2 {h0 : tpH} {av : List tpV} {R : tpH → Prop} : ∀ (n : Nat) (o : Nat) (x1 : Option Nat) (x2 : Option Nat) (x3 : Int32) (h : tpH), w_Mt_pairAlike_2 R n o x1 x2 x3 h → tpR Mt_pairAlike 4 h0 av (tpOv R (fun _ _ => False)) 2 [some (vR (some o)), some (vR x1), some (vR x2), some (vI x3), none] [] h := by
  intro n
  induction n with
  | zero => intro o x1 x2 x3 h hw; exact False.elim hw
  | succ n ih =>
    intro o x1 x2 x3 h hw
    change b_Mt_pairAlike_2 R (w_Mt_pairAlike_2 R n) o x1 x2 x3 h at hw
    unfold b_Mt_pairAlike_2 at hw
    refine tq_iload_n dMt_pairAlike_2 rfl rfl ?_
    refine tq_aload_n dMt_pairAlike_3 rfl rfl ?_
    obtain ⟨a1, e2, f3, hw⟩ := hw
    refine te_geti dMt_pairAlike_4 fMt_51 rfl e2 f3 ?_
    refine tq_icmpge (tgt := 70) dMt_pairAlike_7 (by decide) (fun c4 => ?_) (fun c4 => ?_)
    · have hw := hw.1 c4
      exact tq_vret rfl dMt_pairAlike_70 hw
    · have hw := hw.2 c4
      refine tq_aload_n dMt_pairAlike_10 rfl rfl ?_
      obtain ⟨f5, hw⟩ := hw
      refine te_getr dMt_pairAlike_11 fMt_23 rfl rfl f5 ?_
      refine tq_iload_n dMt_pairAlike_14 rfl rfl ?_
      obtain ⟨a6, e7, f8, hw⟩ := hw
      refine te_callV mv_Ro_at (ci := 7) (dc := 0) (as := [vI x3]) (rest := []) kMt_40 rfl (Nat.le_of_ble_eq_true rfl) (Nat.le_of_ble_eq_true rfl) rfl rfl e7 f8 (Nat.le_of_ble_eq_true rfl) dMt_pairAlike_15 (s_Ro_at hw) (fun _ _ hx => False.elim hx) (tk_i fun v10 h9 hw => ?_)
      refine tq_iconst (v := (1 : Int32)) dMt_pairAlike_18 tni_1 ?_
      refine tq_icmpne (tgt := 64) dMt_pairAlike_19 (by decide) (fun c11 => ?_) (fun c11 => ?_)
      · have hw := hw.1 c11
        refine tq_inc (k := (1 : Int32)) (ls' := [some (vR (some o)), some (vR x1), some (vR x2), some (vI (x3 + (1 : Int32))), none]) dMt_pairAlike_64 rfl tni_1 (Nat.le_of_ble_eq_true rfl) rfl ?_
        refine tq_goto (tgt := 2) dMt_pairAlike_67 (by decide) ?_
        refine tpR.fo (ls' := [some (vR (some o)), some (vR x1), some (vR x2), some (vI (x3 + (1 : Int32))), none]) ?_ (And.intro rfl (And.intro rfl (And.intro rfl (And.intro rfl trivial))))
        exact ih _ _ _ _ _ hw
      · have hw := hw.2 c11
        refine tq_aload_n dMt_pairAlike_22 rfl rfl ?_
        obtain ⟨f12, hw⟩ := hw
        refine te_getr dMt_pairAlike_23 fMt_14 rfl rfl f12 ?_
        refine tq_iload_n dMt_pairAlike_26 rfl rfl ?_
        obtain ⟨a13, e14, f15, hw⟩ := hw
        refine te_callV mv_Ro_at (ci := 7) (dc := 0) (as := [vI x3]) (rest := []) kMt_40 rfl (Nat.le_of_ble_eq_true rfl) (Nat.le_of_ble_eq_true rfl) rfl rfl e14 f15 (Nat.le_of_ble_eq_true rfl) dMt_pairAlike_27 (s_Ro_at hw) (fun _ _ hx => False.elim hx) (tk_i fun v17 h16 hw => ?_)
        refine tq_iconst (v := (-1 : Int32)) dMt_pairAlike_30 tni_m1 ?_
        refine tq_icmpne (tgt := 64) dMt_pairAlike_31 (by decide) (fun c18 => ?_) (fun c18 => ?_)
        · have hw := hw.1 c18
          refine tq_inc (k := (1 : Int32)) (ls' := [some (vR (some o)), some (vR x1), some (vR x2), some (vI (x3 + (1 : Int32))), none]) dMt_pairAlike_64 rfl tni_1 (Nat.le_of_ble_eq_true rfl) rfl ?_
          refine tq_goto (tgt := 2) dMt_pairAlike_67 (by decide) ?_
          refine tpR.fo (ls' := [some (vR (some o)), some (vR x1), some (vR x2), some (vI (x3 + (1 : Int32))), none]) ?_ (And.intro rfl (And.intro rfl (And.intro rfl (And.intro rfl trivial))))
          exact ih _ _ _ _ _ hw
        · have hw := hw.2 c18
          refine tq_aload_n dMt_pairAlike_34 rfl rfl ?_
          refine tq_aload_n dMt_pairAlike_35 rfl rfl ?_
          refine tq_iload_n dMt_pairAlike_36 rfl rfl ?_
          obtain ⟨f19, hw⟩ := hw
          refine te_callV mv_Mt_firstAlike (ci := 5) (dc := 2) (as := [vR x2, vI x3]) (rest := []) kMt_129 rfl (Nat.le_of_ble_eq_true rfl) (Nat.le_of_ble_eq_true rfl) rfl rfl rfl f19 (Nat.le_of_ble_eq_true rfl) dMt_pairAlike_37 (s_Mt_firstAlike hw) (fun _ _ hx => False.elim hx) (tk_i fun v21 h20 hw => ?_)
          refine tq_istore (ls' := [some (vR (some o)), some (vR x1), some (vR x2), some (vI x3), some (vI v21)]) dMt_pairAlike_40 (Nat.le_of_ble_eq_true rfl) rfl ?_
          refine tq_iload dMt_pairAlike_42 rfl ?_
          refine tq_iconst (v := (-1 : Int32)) dMt_pairAlike_44 tni_m1 ?_
          refine tq_icmpeq (tgt := 64) dMt_pairAlike_45 (by decide) (fun c22 => ?_) (fun c22 => ?_)
          · have hw := hw.1 c22
            refine tq_inc (k := (1 : Int32)) (ls' := [some (vR (some o)), some (vR x1), some (vR x2), some (vI (x3 + (1 : Int32))), some (vI v21)]) dMt_pairAlike_64 rfl tni_1 (Nat.le_of_ble_eq_true rfl) rfl ?_
            refine tq_goto (tgt := 2) dMt_pairAlike_67 (by decide) ?_
            refine tpR.fo (ls' := [some (vR (some o)), some (vR x1), some (vR x2), some (vI (x3 + (1 : Int32))), none]) ?_ (And.intro rfl (And.intro rfl (And.intro rfl (And.intro rfl trivial))))
            exact ih _ _ _ _ _ hw
          · have hw := hw.2 c22
            refine tq_aload_n dMt_pairAlike_48 rfl rfl ?_
            refine tq_aload_n dMt_pairAlike_49 rfl rfl ?_
            refine tq_iload_n dMt_pairAlike_50 rfl rfl ?_
            refine tq_aload_n dMt_pairAlike_51 rfl rfl ?_
            refine tq_iload dMt_pairAlike_52 rfl ?_
            obtain ⟨f23, hw⟩ := hw
            refine te_callV mv_Mt_pairWithin (ci := 5) (dc := 3) (as := [vR x1, vI x3, vR x2, vI v21]) (rest := []) kMt_133 rfl (Nat.le_of_ble_eq_true rfl) (Nat.le_of_ble_eq_true rfl) rfl rfl rfl f23 (Nat.le_of_ble_eq_true rfl) dMt_pairAlike_54 (s_Mt_pairWithin hw) (fun _ _ hx => False.elim hx) (tk_v fun h24 hw => ?_)
            refine tq_aload_n dMt_pairAlike_57 rfl rfl ?_
            refine tq_aload_n dMt_pairAlike_58 rfl rfl ?_
            refine tq_iload dMt_pairAlike_59 rfl ?_
            obtain ⟨f25, hw⟩ := hw
            refine te_callV mv_Mt_bindAbove (ci := 5) (dc := 2) (as := [vR x2, vI v21]) (rest := []) kMt_137 rfl (Nat.le_of_ble_eq_true rfl) (Nat.le_of_ble_eq_true rfl) rfl rfl rfl f25 (Nat.le_of_ble_eq_true rfl) dMt_pairAlike_61 (s_Mt_bindAbove hw) (fun _ _ hx => False.elim hx) (tk_v fun h26 hw => ?_)
            refine tq_inc (k := (1 : Int32)) (ls' := [some (vR (some o)), some (vR x1), some (vR x2), some (vI (x3 + (1 : Int32))), some (vI v21)]) dMt_pairAlike_64 rfl tni_1 (Nat.le_of_ble_eq_true rfl) rfl ?_
            refine tq_goto (tgt := 2) dMt_pairAlike_67 (by decide) ?_
            refine tpR.fo (ls' := [some (vR (some o)), some (vR x1), some (vR x2), some (vI (x3 + (1 : Int32))), none]) ?_ (And.intro rfl (And.intro rfl (And.intro rfl (And.intro rfl trivial))))
            exact ih _ _ _ _ _ hw
theorem s_Mt_pairAlike {o : Nat} {x1 : Option Nat} {x2 : Option Nat} {h : tpH} {R : tpH → Prop} (hw : w_Mt_pairAlike o x1 x2 h R) : tpC Mt_pairAlike 4 [vR (some o), vR x1, vR x2] h (tpOv R (fun _ _ => False)) := by
  refine tpC_of mv_Mt_pairAlike.2.2.2.1 rfl rfl (Nat.le_of_ble_eq_true rfl) ?_
  show tpR Mt_pairAlike 4 h _ _ 0 [some (vR (some o)), some (vR x1), some (vR x2), none, none] [] h
  unfold w_Mt_pairAlike at hw
  refine tq_iconst (v := (0 : Int32)) dMt_pairAlike_0 tni_0 ?_
  refine tq_istore_n (ls' := [some (vR (some o)), some (vR x1), some (vR x2), some (vI (0 : Int32)), none]) dMt_pairAlike_1 rfl (Nat.le_of_ble_eq_true rfl) rfl ?_
  refine tpR.fo (ls' := [some (vR (some o)), some (vR x1), some (vR x2), some (vI (0 : Int32)), none]) ?_ (And.intro rfl (And.intro rfl (And.intro rfl (And.intro rfl trivial))))
  obtain ⟨n, hw⟩ := hw
  exact s_Mt_pairAlike_2 n _ _ _ _ _ hw
/-! T$Matching.pairKid -/
theorem dMt_pairKid_0 : decode (mB Mt_pairKid) 0 = .ok (.iconst 0, 1) := by decide +kernel
theorem dMt_pairKid_1 : decode (mB Mt_pairKid) 1 = .ok (.istore 6, 2) := by decide +kernel
theorem dMt_pairKid_3 : decode (mB Mt_pairKid) 3 = .ok (.iload 6, 2) := by decide +kernel
theorem dMt_pairKid_5 : decode (mB Mt_pairKid) 5 = .ok (.aload_n 1, 1) := by decide +kernel
theorem dMt_pairKid_6 : decode (mB Mt_pairKid) 6 = .ok (.iload_n 2, 1) := by decide +kernel
theorem dMt_pairKid_7 : decode (mB Mt_pairKid) 7 = .ok (.invokevirtual 158, 3) := by decide +kernel
theorem dMt_pairKid_10 : decode (mB Mt_pairKid) 10 = .ok (.if_icmp .ge 60, 3) := by decide +kernel
theorem dMt_pairKid_13 : decode (mB Mt_pairKid) 13 = .ok (.aload_n 1, 1) := by decide +kernel
theorem dMt_pairKid_14 : decode (mB Mt_pairKid) 14 = .ok (.iload_n 2, 1) := by decide +kernel
theorem dMt_pairKid_15 : decode (mB Mt_pairKid) 15 = .ok (.iload 6, 2) := by decide +kernel
theorem dMt_pairKid_17 : decode (mB Mt_pairKid) 17 = .ok (.invokevirtual 161, 3) := by decide +kernel
theorem dMt_pairKid_20 : decode (mB Mt_pairKid) 20 = .ok (.istore 7, 2) := by decide +kernel
theorem dMt_pairKid_22 : decode (mB Mt_pairKid) 22 = .ok (.aload_n 0, 1) := by decide +kernel
theorem dMt_pairKid_23 : decode (mB Mt_pairKid) 23 = .ok (.aload_n 1, 1) := by decide +kernel
theorem dMt_pairKid_24 : decode (mB Mt_pairKid) 24 = .ok (.iload 7, 2) := by decide +kernel
theorem dMt_pairKid_26 : decode (mB Mt_pairKid) 26 = .ok (.aload_n 3, 1) := by decide +kernel
theorem dMt_pairKid_27 : decode (mB Mt_pairKid) 27 = .ok (.iload 4, 2) := by decide +kernel
theorem dMt_pairKid_29 : decode (mB Mt_pairKid) 29 = .ok (.invokevirtual 125, 3) := by decide +kernel
theorem dMt_pairKid_32 : decode (mB Mt_pairKid) 32 = .ok (.ifCond .eq 32, 3) := by decide +kernel
theorem dMt_pairKid_35 : decode (mB Mt_pairKid) 35 = .ok (.iload 5, 2) := by decide +kernel
theorem dMt_pairKid_37 : decode (mB Mt_pairKid) 37 = .ok (.ifCond .eq 18, 3) := by decide +kernel
theorem dMt_pairKid_40 : decode (mB Mt_pairKid) 40 = .ok (.aload_n 1, 1) := by decide +kernel
theorem dMt_pairKid_41 : decode (mB Mt_pairKid) 41 = .ok (.iload 7, 2) := by decide +kernel
theorem dMt_pairKid_43 : decode (mB Mt_pairKid) 43 = .ok (.invokevirtual 173, 3) := by decide +kernel
theorem dMt_pairKid_46 : decode (mB Mt_pairKid) 46 = .ok (.aload_n 3, 1) := by decide +kernel
theorem dMt_pairKid_47 : decode (mB Mt_pairKid) 47 = .ok (.iload 4, 2) := by decide +kernel
theorem dMt_pairKid_49 : decode (mB Mt_pairKid) 49 = .ok (.invokevirtual 173, 3) := by decide +kernel
theorem dMt_pairKid_52 : decode (mB Mt_pairKid) 52 = .ok (.if_icmp .ne 12, 3) := by decide +kernel
theorem dMt_pairKid_55 : decode (mB Mt_pairKid) 55 = .ok (.aload_n 0, 1) := by decide +kernel
theorem dMt_pairKid_56 : decode (mB Mt_pairKid) 56 = .ok (.iload 7, 2) := by decide +kernel
theorem dMt_pairKid_58 : decode (mB Mt_pairKid) 58 = .ok (.iload 4, 2) := by decide +kernel
theorem dMt_pairKid_60 : decode (mB Mt_pairKid) 60 = .ok (.invokevirtual 116, 3) := by decide +kernel
theorem dMt_pairKid_63 : decode (mB Mt_pairKid) 63 = .ok (.return_, 1) := by decide +kernel
theorem dMt_pairKid_64 : decode (mB Mt_pairKid) 64 = .ok (.iinc 6 1, 3) := by decide +kernel
theorem dMt_pairKid_67 : decode (mB Mt_pairKid) 67 = .ok (.goto (-64), 3) := by decide +kernel
theorem dMt_pairKid_70 : decode (mB Mt_pairKid) 70 = .ok (.return_, 1) := by decide +kernel
def w_Mt_pairKid_55 (R : tpH → Prop) (o : Nat) (x4 : Int32) (x7 : Int32) (h : tpH) : Prop :=
  hT h o = 6 ∧ (w_Mt_pair o x7 x4 h (fun h2 => R h2))
def b_Mt_pairKid_3 (R : tpH → Prop) (Y : Nat → (Option Nat) → Int32 → (Option Nat) → Int32 → Int32 → Int32 → tpH → Prop) (o : Nat) (x1 : Option Nat) (x2 : Int32) (x3 : Option Nat) (x4 : Int32) (x5 : Int32) (x6 : Int32) (h : tpH) : Prop :=
  ∃ a1, x1 = some a1 ∧ hT h a1 = 12 ∧ (w_Tr_kidsOf a1 x2 h (fun v5 h4 => (v5 ≤ x6 → (R h4)) ∧ (¬ v5 ≤ x6 → (hT h4 a1 = 12 ∧ (w_Tr_kid a1 x2 x6 h4 (fun v9 h8 => hT h8 o = 6 ∧ (w_Mt_mayPair o x1 v9 x3 x4 h8 (fun v12 h11 => (v12 = 0 → (Y o x1 x2 x3 x4 x5 (x6 + (1 : Int32)) h11)) ∧ (¬ v12 = 0 → ((x5 = 0 → (w_Mt_pairKid_55 R o x4 v9 h11)) ∧ (¬ x5 = 0 → (hT h11 a1 = 12 ∧ (w_Tr_worthOf a1 v9 h11 (fun v17 h16 => ∃ a18, x3 = some a18 ∧ hT h16 a18 = 12 ∧ (w_Tr_worthOf a18 x4 h16 (fun v22 h21 => (¬ v17 = v22 → (Y o x1 x2 x3 x4 x5 (x6 + (1 : Int32)) h21)) ∧ (v17 = v22 → (w_Mt_pairKid_55 R o x4 v9 h21))))))))))))))))))
def w_Mt_pairKid_3 (R : tpH → Prop) : Nat → Nat → (Option Nat) → Int32 → (Option Nat) → Int32 → Int32 → Int32 → tpH → Prop
  | 0 => fun _ _ _ _ _ _ _ _ => False
  | n + 1 => b_Mt_pairKid_3 R (w_Mt_pairKid_3 R n)
def w_Mt_pairKid (o : Nat) (x1 : Option Nat) (x2 : Int32) (x3 : Option Nat) (x4 : Int32) (x5 : Int32) (h : tpH) (R : tpH → Prop) : Prop :=
  ∃ n, w_Mt_pairKid_3 R n o x1 x2 x3 x4 x5 (0 : Int32) h
theorem s_Mt_pairKid_55 {h0 : tpH} {av : List tpV} {R : tpH → Prop} : ∀ (o : Nat) (x4 : Int32) (x7 : Int32) (h : tpH), w_Mt_pairKid_55 R o x4 x7 h → tpR Mt_pairKid 3 h0 av (tpOv R (fun _ _ => False)) 55 [some (vR (some o)), none, none, none, some (vI x4), none, none, some (vI x7)] [] h := by
  intro o x4 x7 h hw
  unfold w_Mt_pairKid_55 at hw
  refine tq_aload_n dMt_pairKid_55 rfl rfl ?_
  refine tq_iload dMt_pairKid_56 rfl ?_
  refine tq_iload dMt_pairKid_58 rfl ?_
  obtain ⟨f1, hw⟩ := hw
  refine te_callV mv_Mt_pair (ci := 5) (dc := 1) (as := [vI x7, vI x4]) (rest := []) kMt_116 rfl (Nat.le_of_ble_eq_true rfl) (Nat.le_of_ble_eq_true rfl) rfl rfl rfl f1 (Nat.le_of_ble_eq_true rfl) dMt_pairKid_60 (s_Mt_pair hw) (fun _ _ hx => False.elim hx) (tk_v fun h2 hw => ?_)
  exact tq_vret rfl dMt_pairKid_63 hw
theorem s_Mt_pairKid_3 {h0 : tpH} {av : List tpV} {R : tpH → Prop} : ∀ (n : Nat) (o : Nat) (x1 : Option Nat) (x2 : Int32) (x3 : Option Nat) (x4 : Int32) (x5 : Int32) (x6 : Int32) (h : tpH), w_Mt_pairKid_3 R n o x1 x2 x3 x4 x5 x6 h → tpR Mt_pairKid 3 h0 av (tpOv R (fun _ _ => False)) 3 [some (vR (some o)), some (vR x1), some (vI x2), some (vR x3), some (vI x4), some (vI x5), some (vI x6), none] [] h := by
  intro n
  induction n with
  | zero => intro o x1 x2 x3 x4 x5 x6 h hw; exact False.elim hw
  | succ n ih =>
    intro o x1 x2 x3 x4 x5 x6 h hw
    change b_Mt_pairKid_3 R (w_Mt_pairKid_3 R n) o x1 x2 x3 x4 x5 x6 h at hw
    unfold b_Mt_pairKid_3 at hw
    refine tq_iload dMt_pairKid_3 rfl ?_
    refine tq_aload_n dMt_pairKid_5 rfl rfl ?_
    refine tq_iload_n dMt_pairKid_6 rfl rfl ?_
    obtain ⟨a1, e2, f3, hw⟩ := hw
    refine te_callV mv_Tr_kidsOf (ci := 11) (dc := 1) (as := [vI x2]) (rest := [vI x6]) kMt_158 rfl (Nat.le_of_ble_eq_true rfl) (Nat.le_of_ble_eq_true rfl) rfl rfl e2 f3 (Nat.le_of_ble_eq_true rfl) dMt_pairKid_7 (s_Tr_kidsOf hw) (fun _ _ hx => False.elim hx) (tk_i fun v5 h4 hw => ?_)
    refine tq_icmpge (tgt := 70) dMt_pairKid_10 (by decide) (fun c6 => ?_) (fun c6 => ?_)
    · have hw := hw.1 c6
      exact tq_vret rfl dMt_pairKid_70 hw
    · have hw := hw.2 c6
      refine tq_aload_n dMt_pairKid_13 rfl rfl ?_
      refine tq_iload_n dMt_pairKid_14 rfl rfl ?_
      refine tq_iload dMt_pairKid_15 rfl ?_
      obtain ⟨f7, hw⟩ := hw
      refine te_callV mv_Tr_kid (ci := 11) (dc := 1) (as := [vI x2, vI x6]) (rest := []) kMt_161 rfl (Nat.le_of_ble_eq_true rfl) (Nat.le_of_ble_eq_true rfl) rfl rfl e2 f7 (Nat.le_of_ble_eq_true rfl) dMt_pairKid_17 (s_Tr_kid hw) (fun _ _ hx => False.elim hx) (tk_i fun v9 h8 hw => ?_)
      refine tq_istore (ls' := [some (vR (some o)), some (vR x1), some (vI x2), some (vR x3), some (vI x4), some (vI x5), some (vI x6), some (vI v9)]) dMt_pairKid_20 (Nat.le_of_ble_eq_true rfl) rfl ?_
      refine tq_aload_n dMt_pairKid_22 rfl rfl ?_
      refine tq_aload_n dMt_pairKid_23 rfl rfl ?_
      refine tq_iload dMt_pairKid_24 rfl ?_
      refine tq_aload_n dMt_pairKid_26 rfl rfl ?_
      refine tq_iload dMt_pairKid_27 rfl ?_
      obtain ⟨f10, hw⟩ := hw
      refine te_callV mv_Mt_mayPair (ci := 5) (dc := 2) (as := [vR x1, vI v9, vR x3, vI x4]) (rest := []) kMt_125 rfl (Nat.le_of_ble_eq_true rfl) (Nat.le_of_ble_eq_true rfl) rfl rfl rfl f10 (Nat.le_of_ble_eq_true rfl) dMt_pairKid_29 (s_Mt_mayPair hw) (fun _ _ hx => False.elim hx) (tk_i fun v12 h11 hw => ?_)
      refine tq_ifeq (tgt := 64) dMt_pairKid_32 (by decide) (fun c13 => ?_) (fun c13 => ?_)
      · have hw := hw.1 c13
        refine tq_inc (k := (1 : Int32)) (ls' := [some (vR (some o)), some (vR x1), some (vI x2), some (vR x3), some (vI x4), some (vI x5), some (vI (x6 + (1 : Int32))), some (vI v9)]) dMt_pairKid_64 rfl tni_1 (Nat.le_of_ble_eq_true rfl) rfl ?_
        refine tq_goto (tgt := 3) dMt_pairKid_67 (by decide) ?_
        refine tpR.fo (ls' := [some (vR (some o)), some (vR x1), some (vI x2), some (vR x3), some (vI x4), some (vI x5), some (vI (x6 + (1 : Int32))), none]) ?_ (And.intro rfl (And.intro rfl (And.intro rfl (And.intro rfl (And.intro rfl (And.intro rfl (And.intro rfl trivial)))))))
        exact ih _ _ _ _ _ _ _ _ hw
      · have hw := hw.2 c13
        refine tq_iload dMt_pairKid_35 rfl ?_
        refine tq_ifeq (tgt := 55) dMt_pairKid_37 (by decide) (fun c14 => ?_) (fun c14 => ?_)
        · have hw := hw.1 c14
          refine tpR.fo (ls' := [some (vR (some o)), none, none, none, some (vI x4), none, none, some (vI v9)]) ?_ (And.intro rfl (And.intro rfl (And.intro rfl trivial)))
          exact s_Mt_pairKid_55 _ _ _ _ hw
        · have hw := hw.2 c14
          refine tq_aload_n dMt_pairKid_40 rfl rfl ?_
          refine tq_iload dMt_pairKid_41 rfl ?_
          obtain ⟨f15, hw⟩ := hw
          refine te_callV mv_Tr_worthOf (ci := 11) (dc := 1) (as := [vI v9]) (rest := []) kMt_173 rfl (Nat.le_of_ble_eq_true rfl) (Nat.le_of_ble_eq_true rfl) rfl rfl e2 f15 (Nat.le_of_ble_eq_true rfl) dMt_pairKid_43 (s_Tr_worthOf hw) (fun _ _ hx => False.elim hx) (tk_i fun v17 h16 hw => ?_)
          refine tq_aload_n dMt_pairKid_46 rfl rfl ?_
          refine tq_iload dMt_pairKid_47 rfl ?_
          obtain ⟨a18, e19, f20, hw⟩ := hw
          refine te_callV mv_Tr_worthOf (ci := 11) (dc := 1) (as := [vI x4]) (rest := [vI v17]) kMt_173 rfl (Nat.le_of_ble_eq_true rfl) (Nat.le_of_ble_eq_true rfl) rfl rfl e19 f20 (Nat.le_of_ble_eq_true rfl) dMt_pairKid_49 (s_Tr_worthOf hw) (fun _ _ hx => False.elim hx) (tk_i fun v22 h21 hw => ?_)
          refine tq_icmpne (tgt := 64) dMt_pairKid_52 (by decide) (fun c23 => ?_) (fun c23 => ?_)
          · have hw := hw.1 c23
            refine tq_inc (k := (1 : Int32)) (ls' := [some (vR (some o)), some (vR x1), some (vI x2), some (vR x3), some (vI x4), some (vI x5), some (vI (x6 + (1 : Int32))), some (vI v9)]) dMt_pairKid_64 rfl tni_1 (Nat.le_of_ble_eq_true rfl) rfl ?_
            refine tq_goto (tgt := 3) dMt_pairKid_67 (by decide) ?_
            refine tpR.fo (ls' := [some (vR (some o)), some (vR x1), some (vI x2), some (vR x3), some (vI x4), some (vI x5), some (vI (x6 + (1 : Int32))), none]) ?_ (And.intro rfl (And.intro rfl (And.intro rfl (And.intro rfl (And.intro rfl (And.intro rfl (And.intro rfl trivial)))))))
            exact ih _ _ _ _ _ _ _ _ hw
          · have hw := hw.2 c23
            refine tpR.fo (ls' := [some (vR (some o)), none, none, none, some (vI x4), none, none, some (vI v9)]) ?_ (And.intro rfl (And.intro rfl (And.intro rfl trivial)))
            exact s_Mt_pairKid_55 _ _ _ _ hw
theorem s_Mt_pairKid {o : Nat} {x1 : Option Nat} {x2 : Int32} {x3 : Option Nat} {x4 : Int32} {x5 : Int32} {h : tpH} {R : tpH → Prop} (hw : w_Mt_pairKid o x1 x2 x3 x4 x5 h R) : tpC Mt_pairKid 3 [vR (some o), vR x1, vI x2, vR x3, vI x4, vI x5] h (tpOv R (fun _ _ => False)) := by
  refine tpC_of mv_Mt_pairKid.2.2.2.1 rfl rfl (Nat.le_of_ble_eq_true rfl) ?_
  show tpR Mt_pairKid 3 h _ _ 0 [some (vR (some o)), some (vR x1), some (vI x2), some (vR x3), some (vI x4), some (vI x5), none, none] [] h
  unfold w_Mt_pairKid at hw
  refine tq_iconst (v := (0 : Int32)) dMt_pairKid_0 tni_0 ?_
  refine tq_istore (ls' := [some (vR (some o)), some (vR x1), some (vI x2), some (vR x3), some (vI x4), some (vI x5), some (vI (0 : Int32)), none]) dMt_pairKid_1 (Nat.le_of_ble_eq_true rfl) rfl ?_
  refine tpR.fo (ls' := [some (vR (some o)), some (vR x1), some (vI x2), some (vR x3), some (vI x4), some (vI x5), some (vI (0 : Int32)), none]) ?_ (And.intro rfl (And.intro rfl (And.intro rfl (And.intro rfl (And.intro rfl (And.intro rfl (And.intro rfl trivial)))))))
  obtain ⟨n, hw⟩ := hw
  exact s_Mt_pairKid_3 n _ _ _ _ _ _ _ _ hw
/-! T$Matching.pairFromAbove -/
theorem dMt_pairFromAbove_0 : decode (mB Mt_pairFromAbove) 0 = .ok (.iconst 0, 1) := by decide +kernel
theorem dMt_pairFromAbove_1 : decode (mB Mt_pairFromAbove) 1 = .ok (.istore 4, 2) := by decide +kernel
theorem dMt_pairFromAbove_3 : decode (mB Mt_pairFromAbove) 3 = .ok (.iload 4, 2) := by decide +kernel
theorem dMt_pairFromAbove_5 : decode (mB Mt_pairFromAbove) 5 = .ok (.aload_n 2, 1) := by decide +kernel
theorem dMt_pairFromAbove_6 : decode (mB Mt_pairFromAbove) 6 = .ok (.getfield 51, 3) := by decide +kernel
theorem dMt_pairFromAbove_9 : decode (mB Mt_pairFromAbove) 9 = .ok (.if_icmp .ge 63, 3) := by decide +kernel
theorem dMt_pairFromAbove_12 : decode (mB Mt_pairFromAbove) 12 = .ok (.aload_n 0, 1) := by decide +kernel
theorem dMt_pairFromAbove_13 : decode (mB Mt_pairFromAbove) 13 = .ok (.getfield 20, 3) := by decide +kernel
theorem dMt_pairFromAbove_16 : decode (mB Mt_pairFromAbove) 16 = .ok (.iload 4, 2) := by decide +kernel
theorem dMt_pairFromAbove_18 : decode (mB Mt_pairFromAbove) 18 = .ok (.invokevirtual 40, 3) := by decide +kernel
theorem dMt_pairFromAbove_21 : decode (mB Mt_pairFromAbove) 21 = .ok (.istore 5, 2) := by decide +kernel
theorem dMt_pairFromAbove_23 : decode (mB Mt_pairFromAbove) 23 = .ok (.iconst 0, 1) := by decide +kernel
theorem dMt_pairFromAbove_24 : decode (mB Mt_pairFromAbove) 24 = .ok (.istore 6, 2) := by decide +kernel
theorem dMt_pairFromAbove_26 : decode (mB Mt_pairFromAbove) 26 = .ok (.iload 5, 2) := by decide +kernel
theorem dMt_pairFromAbove_28 : decode (mB Mt_pairFromAbove) 28 = .ok (.iconst (-1), 1) := by decide +kernel
theorem dMt_pairFromAbove_29 : decode (mB Mt_pairFromAbove) 29 = .ok (.if_icmp .eq 37, 3) := by decide +kernel
theorem dMt_pairFromAbove_32 : decode (mB Mt_pairFromAbove) 32 = .ok (.iload 6, 2) := by decide +kernel
theorem dMt_pairFromAbove_34 : decode (mB Mt_pairFromAbove) 34 = .ok (.aload_n 2, 1) := by decide +kernel
theorem dMt_pairFromAbove_35 : decode (mB Mt_pairFromAbove) 35 = .ok (.iload 4, 2) := by decide +kernel
theorem dMt_pairFromAbove_37 : decode (mB Mt_pairFromAbove) 37 = .ok (.invokevirtual 158, 3) := by decide +kernel
theorem dMt_pairFromAbove_40 : decode (mB Mt_pairFromAbove) 40 = .ok (.if_icmp .ge 26, 3) := by decide +kernel
theorem dMt_pairFromAbove_43 : decode (mB Mt_pairFromAbove) 43 = .ok (.aload_n 0, 1) := by decide +kernel
theorem dMt_pairFromAbove_44 : decode (mB Mt_pairFromAbove) 44 = .ok (.aload_n 1, 1) := by decide +kernel
theorem dMt_pairFromAbove_45 : decode (mB Mt_pairFromAbove) 45 = .ok (.iload 5, 2) := by decide +kernel
theorem dMt_pairFromAbove_47 : decode (mB Mt_pairFromAbove) 47 = .ok (.aload_n 2, 1) := by decide +kernel
theorem dMt_pairFromAbove_48 : decode (mB Mt_pairFromAbove) 48 = .ok (.aload_n 2, 1) := by decide +kernel
theorem dMt_pairFromAbove_49 : decode (mB Mt_pairFromAbove) 49 = .ok (.iload 4, 2) := by decide +kernel
theorem dMt_pairFromAbove_51 : decode (mB Mt_pairFromAbove) 51 = .ok (.iload 6, 2) := by decide +kernel
theorem dMt_pairFromAbove_53 : decode (mB Mt_pairFromAbove) 53 = .ok (.invokevirtual 161, 3) := by decide +kernel
theorem dMt_pairFromAbove_56 : decode (mB Mt_pairFromAbove) 56 = .ok (.iload_n 3, 1) := by decide +kernel
theorem dMt_pairFromAbove_57 : decode (mB Mt_pairFromAbove) 57 = .ok (.invokevirtual 169, 3) := by decide +kernel
theorem dMt_pairFromAbove_60 : decode (mB Mt_pairFromAbove) 60 = .ok (.iinc 6 1, 3) := by decide +kernel
theorem dMt_pairFromAbove_63 : decode (mB Mt_pairFromAbove) 63 = .ok (.goto (-37), 3) := by decide +kernel
theorem dMt_pairFromAbove_66 : decode (mB Mt_pairFromAbove) 66 = .ok (.iinc 4 1, 3) := by decide +kernel
theorem dMt_pairFromAbove_69 : decode (mB Mt_pairFromAbove) 69 = .ok (.goto (-66), 3) := by decide +kernel
theorem dMt_pairFromAbove_72 : decode (mB Mt_pairFromAbove) 72 = .ok (.return_, 1) := by decide +kernel
def b_Mt_pairFromAbove_26 (R : tpH → Prop) (K3 : Nat → (Option Nat) → (Option Nat) → Int32 → Int32 → tpH → Prop) (Y : Nat → (Option Nat) → (Option Nat) → Int32 → Int32 → Int32 → Int32 → tpH → Prop) (o : Nat) (x1 : Option Nat) (x2 : Option Nat) (x3 : Int32) (x4 : Int32) (x5 : Int32) (x6 : Int32) (h : tpH) : Prop :=
  (x5 = (-1 : Int32) → (K3 o x1 x2 x3 (x4 + (1 : Int32)) h)) ∧ (¬ x5 = (-1 : Int32) → (∃ a2, x2 = some a2 ∧ hT h a2 = 12 ∧ (w_Tr_kidsOf a2 x4 h (fun v6 h5 => (v6 ≤ x6 → (K3 o x1 x2 x3 (x4 + (1 : Int32)) h5)) ∧ (¬ v6 ≤ x6 → (hT h5 a2 = 12 ∧ (w_Tr_kid a2 x4 x6 h5 (fun v10 h9 => hT h9 o = 6 ∧ (w_Mt_pairKid o x1 x5 x2 v10 x3 h9 (fun h12 => Y o x1 x2 x3 x4 x5 (x6 + (1 : Int32)) h12))))))))))
def w_Mt_pairFromAbove_26 (R : tpH → Prop) (K3 : Nat → (Option Nat) → (Option Nat) → Int32 → Int32 → tpH → Prop) : Nat → Nat → (Option Nat) → (Option Nat) → Int32 → Int32 → Int32 → Int32 → tpH → Prop
  | 0 => fun _ _ _ _ _ _ _ _ => False
  | n + 1 => b_Mt_pairFromAbove_26 R K3 (w_Mt_pairFromAbove_26 R K3 n)
def b_Mt_pairFromAbove_3 (R : tpH → Prop) (Y : Nat → (Option Nat) → (Option Nat) → Int32 → Int32 → tpH → Prop) (o : Nat) (x1 : Option Nat) (x2 : Option Nat) (x3 : Int32) (x4 : Int32) (h : tpH) : Prop :=
  ∃ a1, x2 = some a1 ∧ hT h a1 = 12 ∧ (((hI h a1 0) ≤ x4 → (R h)) ∧ (¬ (hI h a1 0) ≤ x4 → (hT h o = 6 ∧ (∃ a6, (hR h o 3) = some a6 ∧ hT h a6 = 8 ∧ (w_Ro_at a6 x4 h (fun v10 h9 => ∃ n, w_Mt_pairFromAbove_26 R Y n o x1 x2 x3 x4 v10 (0 : Int32) h9))))))
def w_Mt_pairFromAbove_3 (R : tpH → Prop) : Nat → Nat → (Option Nat) → (Option Nat) → Int32 → Int32 → tpH → Prop
  | 0 => fun _ _ _ _ _ _ => False
  | n + 1 => b_Mt_pairFromAbove_3 R (w_Mt_pairFromAbove_3 R n)
def w_Mt_pairFromAbove (o : Nat) (x1 : Option Nat) (x2 : Option Nat) (x3 : Int32) (h : tpH) (R : tpH → Prop) : Prop :=
  ∃ n, w_Mt_pairFromAbove_3 R n o x1 x2 x3 (0 : Int32) h
theorem s_Mt_pairFromAbove_26 {h0 : tpH} {av : List tpV} {R : tpH → Prop} {K3 : Nat → (Option Nat) → (Option Nat) → Int32 → Int32 → tpH → Prop} (k3 : ∀ (o : Nat) (x1 : Option Nat) (x2 : Option Nat) (x3 : Int32) (x4 : Int32) (h : tpH), K3 o x1 x2 x3 x4 h → tpR Mt_pairFromAbove 4 h0 av (tpOv R (fun _ _ => False)) 3 [some (vR (some o)), some (vR x1), some (vR x2), some (vI x3), some (vI x4), none, none] [] h) : ∀ (n : Nat) (o : Nat) (x1 : Option Nat) (x2 : Option Nat) (x3 : Int32) (x4 : Int32) (x5 : Int32) (x6 : Int32) (h : tpH), w_Mt_pairFromAbove_26 R K3 n o x1 x2 x3 x4 x5 x6 h → tpR Mt_pairFromAbove 4 h0 av (tpOv R (fun _ _ => False)) 26 [some (vR (some o)), some (vR x1), some (vR x2), some (vI x3), some (vI x4), some (vI x5), some (vI x6)] [] h := by
  intro n
  induction n with
  | zero => intro o x1 x2 x3 x4 x5 x6 h hw; exact False.elim hw
  | succ n ih =>
    intro o x1 x2 x3 x4 x5 x6 h hw
    change b_Mt_pairFromAbove_26 R K3 (w_Mt_pairFromAbove_26 R K3 n) o x1 x2 x3 x4 x5 x6 h at hw
    unfold b_Mt_pairFromAbove_26 at hw
    refine tq_iload dMt_pairFromAbove_26 rfl ?_
    refine tq_iconst (v := (-1 : Int32)) dMt_pairFromAbove_28 tni_m1 ?_
    refine tq_icmpeq (tgt := 66) dMt_pairFromAbove_29 (by decide) (fun c1 => ?_) (fun c1 => ?_)
    · have hw := hw.1 c1
      refine tq_inc (k := (1 : Int32)) (ls' := [some (vR (some o)), some (vR x1), some (vR x2), some (vI x3), some (vI (x4 + (1 : Int32))), some (vI x5), some (vI x6)]) dMt_pairFromAbove_66 rfl tni_1 (Nat.le_of_ble_eq_true rfl) rfl ?_
      refine tq_goto (tgt := 3) dMt_pairFromAbove_69 (by decide) ?_
      refine tpR.fo (ls' := [some (vR (some o)), some (vR x1), some (vR x2), some (vI x3), some (vI (x4 + (1 : Int32))), none, none]) ?_ (And.intro rfl (And.intro rfl (And.intro rfl (And.intro rfl (And.intro rfl trivial)))))
      exact k3 _ _ _ _ _ _ hw
    · have hw := hw.2 c1
      refine tq_iload dMt_pairFromAbove_32 rfl ?_
      refine tq_aload_n dMt_pairFromAbove_34 rfl rfl ?_
      refine tq_iload dMt_pairFromAbove_35 rfl ?_
      obtain ⟨a2, e3, f4, hw⟩ := hw
      refine te_callV mv_Tr_kidsOf (ci := 11) (dc := 1) (as := [vI x4]) (rest := [vI x6]) kMt_158 rfl (Nat.le_of_ble_eq_true rfl) (Nat.le_of_ble_eq_true rfl) rfl rfl e3 f4 (Nat.le_of_ble_eq_true rfl) dMt_pairFromAbove_37 (s_Tr_kidsOf hw) (fun _ _ hx => False.elim hx) (tk_i fun v6 h5 hw => ?_)
      refine tq_icmpge (tgt := 66) dMt_pairFromAbove_40 (by decide) (fun c7 => ?_) (fun c7 => ?_)
      · have hw := hw.1 c7
        refine tq_inc (k := (1 : Int32)) (ls' := [some (vR (some o)), some (vR x1), some (vR x2), some (vI x3), some (vI (x4 + (1 : Int32))), some (vI x5), some (vI x6)]) dMt_pairFromAbove_66 rfl tni_1 (Nat.le_of_ble_eq_true rfl) rfl ?_
        refine tq_goto (tgt := 3) dMt_pairFromAbove_69 (by decide) ?_
        refine tpR.fo (ls' := [some (vR (some o)), some (vR x1), some (vR x2), some (vI x3), some (vI (x4 + (1 : Int32))), none, none]) ?_ (And.intro rfl (And.intro rfl (And.intro rfl (And.intro rfl (And.intro rfl trivial)))))
        exact k3 _ _ _ _ _ _ hw
      · have hw := hw.2 c7
        refine tq_aload_n dMt_pairFromAbove_43 rfl rfl ?_
        refine tq_aload_n dMt_pairFromAbove_44 rfl rfl ?_
        refine tq_iload dMt_pairFromAbove_45 rfl ?_
        refine tq_aload_n dMt_pairFromAbove_47 rfl rfl ?_
        refine tq_aload_n dMt_pairFromAbove_48 rfl rfl ?_
        refine tq_iload dMt_pairFromAbove_49 rfl ?_
        refine tq_iload dMt_pairFromAbove_51 rfl ?_
        obtain ⟨f8, hw⟩ := hw
        refine te_callV mv_Tr_kid (ci := 11) (dc := 1) (as := [vI x4, vI x6]) (rest := [vR x2, vI x5, vR x1, vR (some o)]) kMt_161 rfl (Nat.le_of_ble_eq_true rfl) (Nat.le_of_ble_eq_true rfl) rfl rfl e3 f8 (Nat.le_of_ble_eq_true rfl) dMt_pairFromAbove_53 (s_Tr_kid hw) (fun _ _ hx => False.elim hx) (tk_i fun v10 h9 hw => ?_)
        refine tq_iload_n dMt_pairFromAbove_56 rfl rfl ?_
        obtain ⟨f11, hw⟩ := hw
        refine te_callV mv_Mt_pairKid (ci := 5) (dc := 3) (as := [vR x1, vI x5, vR x2, vI v10, vI x3]) (rest := []) kMt_169 rfl (Nat.le_of_ble_eq_true rfl) (Nat.le_of_ble_eq_true rfl) rfl rfl rfl f11 (Nat.le_of_ble_eq_true rfl) dMt_pairFromAbove_57 (s_Mt_pairKid hw) (fun _ _ hx => False.elim hx) (tk_v fun h12 hw => ?_)
        refine tq_inc (k := (1 : Int32)) (ls' := [some (vR (some o)), some (vR x1), some (vR x2), some (vI x3), some (vI x4), some (vI x5), some (vI (x6 + (1 : Int32)))]) dMt_pairFromAbove_60 rfl tni_1 (Nat.le_of_ble_eq_true rfl) rfl ?_
        refine tq_goto (tgt := 26) dMt_pairFromAbove_63 (by decide) ?_
        refine tpR.fo (ls' := [some (vR (some o)), some (vR x1), some (vR x2), some (vI x3), some (vI x4), some (vI x5), some (vI (x6 + (1 : Int32)))]) ?_ (And.intro rfl (And.intro rfl (And.intro rfl (And.intro rfl (And.intro rfl (And.intro rfl (And.intro rfl trivial)))))))
        exact ih _ _ _ _ _ _ _ _ hw
theorem s_Mt_pairFromAbove_3 {h0 : tpH} {av : List tpV} {R : tpH → Prop} : ∀ (n : Nat) (o : Nat) (x1 : Option Nat) (x2 : Option Nat) (x3 : Int32) (x4 : Int32) (h : tpH), w_Mt_pairFromAbove_3 R n o x1 x2 x3 x4 h → tpR Mt_pairFromAbove 4 h0 av (tpOv R (fun _ _ => False)) 3 [some (vR (some o)), some (vR x1), some (vR x2), some (vI x3), some (vI x4), none, none] [] h := by
  intro n
  induction n with
  | zero => intro o x1 x2 x3 x4 h hw; exact False.elim hw
  | succ n ih =>
    intro o x1 x2 x3 x4 h hw
    change b_Mt_pairFromAbove_3 R (w_Mt_pairFromAbove_3 R n) o x1 x2 x3 x4 h at hw
    unfold b_Mt_pairFromAbove_3 at hw
    refine tq_iload dMt_pairFromAbove_3 rfl ?_
    refine tq_aload_n dMt_pairFromAbove_5 rfl rfl ?_
    obtain ⟨a1, e2, f3, hw⟩ := hw
    refine te_geti dMt_pairFromAbove_6 fMt_51 rfl e2 f3 ?_
    refine tq_icmpge (tgt := 72) dMt_pairFromAbove_9 (by decide) (fun c4 => ?_) (fun c4 => ?_)
    · have hw := hw.1 c4
      exact tq_vret rfl dMt_pairFromAbove_72 hw
    · have hw := hw.2 c4
      refine tq_aload_n dMt_pairFromAbove_12 rfl rfl ?_
      obtain ⟨f5, hw⟩ := hw
      refine te_getr dMt_pairFromAbove_13 fMt_20 rfl rfl f5 ?_
      refine tq_iload dMt_pairFromAbove_16 rfl ?_
      obtain ⟨a6, e7, f8, hw⟩ := hw
      refine te_callV mv_Ro_at (ci := 7) (dc := 0) (as := [vI x4]) (rest := []) kMt_40 rfl (Nat.le_of_ble_eq_true rfl) (Nat.le_of_ble_eq_true rfl) rfl rfl e7 f8 (Nat.le_of_ble_eq_true rfl) dMt_pairFromAbove_18 (s_Ro_at hw) (fun _ _ hx => False.elim hx) (tk_i fun v10 h9 hw => ?_)
      refine tq_istore (ls' := [some (vR (some o)), some (vR x1), some (vR x2), some (vI x3), some (vI x4), some (vI v10), none]) dMt_pairFromAbove_21 (Nat.le_of_ble_eq_true rfl) rfl ?_
      refine tq_iconst (v := (0 : Int32)) dMt_pairFromAbove_23 tni_0 ?_
      refine tq_istore (ls' := [some (vR (some o)), some (vR x1), some (vR x2), some (vI x3), some (vI x4), some (vI v10), some (vI (0 : Int32))]) dMt_pairFromAbove_24 (Nat.le_of_ble_eq_true rfl) rfl ?_
      refine tpR.fo (ls' := [some (vR (some o)), some (vR x1), some (vR x2), some (vI x3), some (vI x4), some (vI v10), some (vI (0 : Int32))]) ?_ (And.intro rfl (And.intro rfl (And.intro rfl (And.intro rfl (And.intro rfl (And.intro rfl (And.intro rfl trivial)))))))
      obtain ⟨n, hw⟩ := hw
      exact s_Mt_pairFromAbove_26 ih n _ _ _ _ _ _ _ _ hw
theorem s_Mt_pairFromAbove {o : Nat} {x1 : Option Nat} {x2 : Option Nat} {x3 : Int32} {h : tpH} {R : tpH → Prop} (hw : w_Mt_pairFromAbove o x1 x2 x3 h R) : tpC Mt_pairFromAbove 4 [vR (some o), vR x1, vR x2, vI x3] h (tpOv R (fun _ _ => False)) := by
  refine tpC_of mv_Mt_pairFromAbove.2.2.2.1 rfl rfl (Nat.le_of_ble_eq_true rfl) ?_
  show tpR Mt_pairFromAbove 4 h _ _ 0 [some (vR (some o)), some (vR x1), some (vR x2), some (vI x3), none, none, none] [] h
  unfold w_Mt_pairFromAbove at hw
  refine tq_iconst (v := (0 : Int32)) dMt_pairFromAbove_0 tni_0 ?_
  refine tq_istore (ls' := [some (vR (some o)), some (vR x1), some (vR x2), some (vI x3), some (vI (0 : Int32)), none, none]) dMt_pairFromAbove_1 (Nat.le_of_ble_eq_true rfl) rfl ?_
  refine tpR.fo (ls' := [some (vR (some o)), some (vR x1), some (vR x2), some (vI x3), some (vI (0 : Int32)), none, none]) ?_ (And.intro rfl (And.intro rfl (And.intro rfl (And.intro rfl (And.intro rfl trivial)))))
  obtain ⟨n, hw⟩ := hw
  exact s_Mt_pairFromAbove_3 n _ _ _ _ _ _ hw
/-! T$Matching.countHits -/
theorem dMt_countHits_0 : decode (mB Mt_countHits) 0 = .ok (.aload_n 0, 1) := by decide +kernel
theorem dMt_countHits_1 : decode (mB Mt_countHits) 1 = .ok (.getfield 29, 3) := by decide +kernel
theorem dMt_countHits_4 : decode (mB Mt_countHits) 4 = .ok (.aload_n 3, 1) := by decide +kernel
theorem dMt_countHits_5 : decode (mB Mt_countHits) 5 = .ok (.getfield 51, 3) := by decide +kernel
theorem dMt_countHits_8 : decode (mB Mt_countHits) 8 = .ok (.iconst 1, 1) := by decide +kernel
theorem dMt_countHits_9 : decode (mB Mt_countHits) 9 = .ok (.iadd, 1) := by decide +kernel
theorem dMt_countHits_10 : decode (mB Mt_countHits) 10 = .ok (.iconst 0, 1) := by decide +kernel
theorem dMt_countHits_11 : decode (mB Mt_countHits) 11 = .ok (.invokevirtual 57, 3) := by decide +kernel
theorem dMt_countHits_14 : decode (mB Mt_countHits) 14 = .ok (.iload_n 2, 1) := by decide +kernel
theorem dMt_countHits_15 : decode (mB Mt_countHits) 15 = .ok (.iconst 1, 1) := by decide +kernel
theorem dMt_countHits_16 : decode (mB Mt_countHits) 16 = .ok (.iadd, 1) := by decide +kernel
theorem dMt_countHits_17 : decode (mB Mt_countHits) 17 = .ok (.istore 4, 2) := by decide +kernel
theorem dMt_countHits_19 : decode (mB Mt_countHits) 19 = .ok (.iload 4, 2) := by decide +kernel
theorem dMt_countHits_21 : decode (mB Mt_countHits) 21 = .ok (.aload_n 1, 1) := by decide +kernel
theorem dMt_countHits_22 : decode (mB Mt_countHits) 22 = .ok (.iload_n 2, 1) := by decide +kernel
theorem dMt_countHits_23 : decode (mB Mt_countHits) 23 = .ok (.invokevirtual 151, 3) := by decide +kernel
theorem dMt_countHits_26 : decode (mB Mt_countHits) 26 = .ok (.if_icmp .ge 41, 3) := by decide +kernel
theorem dMt_countHits_29 : decode (mB Mt_countHits) 29 = .ok (.aload_n 0, 1) := by decide +kernel
theorem dMt_countHits_30 : decode (mB Mt_countHits) 30 = .ok (.getfield 14, 3) := by decide +kernel
theorem dMt_countHits_33 : decode (mB Mt_countHits) 33 = .ok (.iload 4, 2) := by decide +kernel
theorem dMt_countHits_35 : decode (mB Mt_countHits) 35 = .ok (.invokevirtual 40, 3) := by decide +kernel
theorem dMt_countHits_38 : decode (mB Mt_countHits) 38 = .ok (.iconst (-1), 1) := by decide +kernel
theorem dMt_countHits_39 : decode (mB Mt_countHits) 39 = .ok (.if_icmp .eq 22, 3) := by decide +kernel
theorem dMt_countHits_42 : decode (mB Mt_countHits) 42 = .ok (.aload_n 0, 1) := by decide +kernel
theorem dMt_countHits_43 : decode (mB Mt_countHits) 43 = .ok (.getfield 29, 3) := by decide +kernel
theorem dMt_countHits_46 : decode (mB Mt_countHits) 46 = .ok (.aload_n 0, 1) := by decide +kernel
theorem dMt_countHits_47 : decode (mB Mt_countHits) 47 = .ok (.getfield 14, 3) := by decide +kernel
theorem dMt_countHits_50 : decode (mB Mt_countHits) 50 = .ok (.iload 4, 2) := by decide +kernel
theorem dMt_countHits_52 : decode (mB Mt_countHits) 52 = .ok (.invokevirtual 40, 3) := by decide +kernel
theorem dMt_countHits_55 : decode (mB Mt_countHits) 55 = .ok (.iconst 1, 1) := by decide +kernel
theorem dMt_countHits_56 : decode (mB Mt_countHits) 56 = .ok (.iadd, 1) := by decide +kernel
theorem dMt_countHits_57 : decode (mB Mt_countHits) 57 = .ok (.iconst 1, 1) := by decide +kernel
theorem dMt_countHits_58 : decode (mB Mt_countHits) 58 = .ok (.invokevirtual 101, 3) := by decide +kernel
theorem dMt_countHits_61 : decode (mB Mt_countHits) 61 = .ok (.iinc 4 1, 3) := by decide +kernel
theorem dMt_countHits_64 : decode (mB Mt_countHits) 64 = .ok (.goto (-45), 3) := by decide +kernel
theorem dMt_countHits_67 : decode (mB Mt_countHits) 67 = .ok (.iconst 1, 1) := by decide +kernel
theorem dMt_countHits_68 : decode (mB Mt_countHits) 68 = .ok (.istore 4, 2) := by decide +kernel
theorem dMt_countHits_70 : decode (mB Mt_countHits) 70 = .ok (.iload 4, 2) := by decide +kernel
theorem dMt_countHits_72 : decode (mB Mt_countHits) 72 = .ok (.aload_n 3, 1) := by decide +kernel
theorem dMt_countHits_73 : decode (mB Mt_countHits) 73 = .ok (.getfield 51, 3) := by decide +kernel
theorem dMt_countHits_76 : decode (mB Mt_countHits) 76 = .ok (.if_icmp .gt 39, 3) := by decide +kernel
theorem dMt_countHits_79 : decode (mB Mt_countHits) 79 = .ok (.aload_n 0, 1) := by decide +kernel
theorem dMt_countHits_80 : decode (mB Mt_countHits) 80 = .ok (.getfield 29, 3) := by decide +kernel
theorem dMt_countHits_83 : decode (mB Mt_countHits) 83 = .ok (.iload 4, 2) := by decide +kernel
theorem dMt_countHits_85 : decode (mB Mt_countHits) 85 = .ok (.aload_n 0, 1) := by decide +kernel
theorem dMt_countHits_86 : decode (mB Mt_countHits) 86 = .ok (.getfield 29, 3) := by decide +kernel
theorem dMt_countHits_89 : decode (mB Mt_countHits) 89 = .ok (.iload 4, 2) := by decide +kernel
theorem dMt_countHits_91 : decode (mB Mt_countHits) 91 = .ok (.invokevirtual 40, 3) := by decide +kernel
theorem dMt_countHits_94 : decode (mB Mt_countHits) 94 = .ok (.aload_n 0, 1) := by decide +kernel
theorem dMt_countHits_95 : decode (mB Mt_countHits) 95 = .ok (.getfield 29, 3) := by decide +kernel
theorem dMt_countHits_98 : decode (mB Mt_countHits) 98 = .ok (.iload 4, 2) := by decide +kernel
theorem dMt_countHits_100 : decode (mB Mt_countHits) 100 = .ok (.iconst 1, 1) := by decide +kernel
theorem dMt_countHits_101 : decode (mB Mt_countHits) 101 = .ok (.isub, 1) := by decide +kernel
theorem dMt_countHits_102 : decode (mB Mt_countHits) 102 = .ok (.invokevirtual 40, 3) := by decide +kernel
theorem dMt_countHits_105 : decode (mB Mt_countHits) 105 = .ok (.iadd, 1) := by decide +kernel
theorem dMt_countHits_106 : decode (mB Mt_countHits) 106 = .ok (.invokevirtual 101, 3) := by decide +kernel
theorem dMt_countHits_109 : decode (mB Mt_countHits) 109 = .ok (.iinc 4 1, 3) := by decide +kernel
theorem dMt_countHits_112 : decode (mB Mt_countHits) 112 = .ok (.goto (-42), 3) := by decide +kernel
theorem dMt_countHits_115 : decode (mB Mt_countHits) 115 = .ok (.return_, 1) := by decide +kernel
def b_Mt_countHits_70 (R : tpH → Prop) (Y : Nat → (Option Nat) → Int32 → tpH → Prop) (o : Nat) (x3 : Option Nat) (x4 : Int32) (h : tpH) : Prop :=
  ∃ a1, x3 = some a1 ∧ hT h a1 = 12 ∧ (((hI h a1 0) < x4 → (R h)) ∧ (¬ (hI h a1 0) < x4 → (hT h o = 6 ∧ (∃ a6, (hR h o 6) = some a6 ∧ hT h a6 = 8 ∧ (w_Ro_at a6 x4 h (fun v10 h9 => hT h9 o = 6 ∧ (∃ a12, (hR h9 o 6) = some a12 ∧ hT h9 a12 = 8 ∧ (w_Ro_at a12 (x4 - (1 : Int32)) h9 (fun v16 h15 => hT h15 a6 = 8 ∧ (w_Ro_put a6 x4 (v10 + v16) h15 (fun h18 => Y o x3 (x4 + (1 : Int32)) h18)))))))))))
def w_Mt_countHits_70 (R : tpH → Prop) : Nat → Nat → (Option Nat) → Int32 → tpH → Prop
  | 0 => fun _ _ _ _ => False
  | n + 1 => b_Mt_countHits_70 R (w_Mt_countHits_70 R n)
def b_Mt_countHits_19 (R : tpH → Prop) (Y : Nat → (Option Nat) → Int32 → (Option Nat) → Int32 → tpH → Prop) (o : Nat) (x1 : Option Nat) (x2 : Int32) (x3 : Option Nat) (x4 : Int32) (h : tpH) : Prop :=
  ∃ a1, x1 = some a1 ∧ hT h a1 = 12 ∧ (w_Tr_endOf a1 x2 h (fun v5 h4 => (v5 ≤ x4 → (∃ n, w_Mt_countHits_70 R n o x3 (1 : Int32) h4)) ∧ (¬ v5 ≤ x4 → (hT h4 o = 6 ∧ (∃ a8, (hR h4 o 2) = some a8 ∧ hT h4 a8 = 8 ∧ (w_Ro_at a8 x4 h4 (fun v12 h11 => (v12 = (-1 : Int32) → (Y o x1 x2 x3 (x4 + (1 : Int32)) h11)) ∧ (¬ v12 = (-1 : Int32) → (hT h11 o = 6 ∧ (∃ a15, (hR h11 o 2) = some a15 ∧ hT h11 a15 = 8 ∧ (w_Ro_at a15 x4 h11 (fun v19 h18 => ∃ a20, (hR h11 o 6) = some a20 ∧ hT h18 a20 = 8 ∧ (w_Ro_put a20 (v19 + (1 : Int32)) (1 : Int32) h18 (fun h23 => Y o x1 x2 x3 (x4 + (1 : Int32)) h23))))))))))))))
def w_Mt_countHits_19 (R : tpH → Prop) : Nat → Nat → (Option Nat) → Int32 → (Option Nat) → Int32 → tpH → Prop
  | 0 => fun _ _ _ _ _ _ => False
  | n + 1 => b_Mt_countHits_19 R (w_Mt_countHits_19 R n)
def w_Mt_countHits (o : Nat) (x1 : Option Nat) (x2 : Int32) (x3 : Option Nat) (h : tpH) (R : tpH → Prop) : Prop :=
  hT h o = 6 ∧ (∃ a2, x3 = some a2 ∧ hT h a2 = 12 ∧ (∃ a5, (hR h o 6) = some a5 ∧ hT h a5 = 8 ∧ (w_Ro_fill a5 ((hI h a2 0) + (1 : Int32)) (0 : Int32) h (fun h8 => ∃ n, w_Mt_countHits_19 R n o x1 x2 x3 (x2 + (1 : Int32)) h8))))
theorem s_Mt_countHits_70 {h0 : tpH} {av : List tpV} {R : tpH → Prop} : ∀ (n : Nat) (o : Nat) (x3 : Option Nat) (x4 : Int32) (h : tpH), w_Mt_countHits_70 R n o x3 x4 h → tpR Mt_countHits 2 h0 av (tpOv R (fun _ _ => False)) 70 [some (vR (some o)), none, none, some (vR x3), some (vI x4)] [] h := by
  intro n
  induction n with
  | zero => intro o x3 x4 h hw; exact False.elim hw
  | succ n ih =>
    intro o x3 x4 h hw
    change b_Mt_countHits_70 R (w_Mt_countHits_70 R n) o x3 x4 h at hw
    unfold b_Mt_countHits_70 at hw
    refine tq_iload dMt_countHits_70 rfl ?_
    refine tq_aload_n dMt_countHits_72 rfl rfl ?_
    obtain ⟨a1, e2, f3, hw⟩ := hw
    refine te_geti dMt_countHits_73 fMt_51 rfl e2 f3 ?_
    refine tq_icmpgt (tgt := 115) dMt_countHits_76 (by decide) (fun c4 => ?_) (fun c4 => ?_)
    · have hw := hw.1 c4
      exact tq_vret rfl dMt_countHits_115 hw
    · have hw := hw.2 c4
      refine tq_aload_n dMt_countHits_79 rfl rfl ?_
      obtain ⟨f5, hw⟩ := hw
      refine te_getr dMt_countHits_80 fMt_29 rfl rfl f5 ?_
      refine tq_iload dMt_countHits_83 rfl ?_
      refine tq_aload_n dMt_countHits_85 rfl rfl ?_
      refine te_getr dMt_countHits_86 fMt_29 rfl rfl f5 ?_
      refine tq_iload dMt_countHits_89 rfl ?_
      obtain ⟨a6, e7, f8, hw⟩ := hw
      refine te_callV mv_Ro_at (ci := 7) (dc := 0) (as := [vI x4]) (rest := [vI x4, vR (hR h o 6)]) kMt_40 rfl (Nat.le_of_ble_eq_true rfl) (Nat.le_of_ble_eq_true rfl) rfl rfl e7 f8 (Nat.le_of_ble_eq_true rfl) dMt_countHits_91 (s_Ro_at hw) (fun _ _ hx => False.elim hx) (tk_i fun v10 h9 hw => ?_)
      refine tq_aload_n dMt_countHits_94 rfl rfl ?_
      obtain ⟨f11, hw⟩ := hw
      refine te_getr dMt_countHits_95 fMt_29 rfl rfl f11 ?_
      refine tq_iload dMt_countHits_98 rfl ?_
      refine tq_iconst (v := (1 : Int32)) dMt_countHits_100 tni_1 ?_
      refine tq_isub dMt_countHits_101 ?_
      obtain ⟨a12, e13, f14, hw⟩ := hw
      refine te_callV mv_Ro_at (ci := 7) (dc := 0) (as := [vI (x4 - (1 : Int32))]) (rest := [vI v10, vI x4, vR (hR h o 6)]) kMt_40 rfl (Nat.le_of_ble_eq_true rfl) (Nat.le_of_ble_eq_true rfl) rfl rfl e13 f14 (Nat.le_of_ble_eq_true rfl) dMt_countHits_102 (s_Ro_at hw) (fun _ _ hx => False.elim hx) (tk_i fun v16 h15 hw => ?_)
      refine tq_iadd dMt_countHits_105 ?_
      obtain ⟨f17, hw⟩ := hw
      refine te_callV mv_Ro_put (ci := 7) (dc := 0) (as := [vI x4, vI (v10 + v16)]) (rest := []) kMt_101 rfl (Nat.le_of_ble_eq_true rfl) (Nat.le_of_ble_eq_true rfl) rfl rfl e7 f17 (Nat.le_of_ble_eq_true rfl) dMt_countHits_106 (s_Ro_put hw) (fun _ _ hx => False.elim hx) (tk_v fun h18 hw => ?_)
      refine tq_inc (k := (1 : Int32)) (ls' := [some (vR (some o)), none, none, some (vR x3), some (vI (x4 + (1 : Int32)))]) dMt_countHits_109 rfl tni_1 (Nat.le_of_ble_eq_true rfl) rfl ?_
      refine tq_goto (tgt := 70) dMt_countHits_112 (by decide) ?_
      refine tpR.fo (ls' := [some (vR (some o)), none, none, some (vR x3), some (vI (x4 + (1 : Int32)))]) ?_ (And.intro rfl (And.intro rfl (And.intro rfl trivial)))
      exact ih _ _ _ _ hw
theorem s_Mt_countHits_19 {h0 : tpH} {av : List tpV} {R : tpH → Prop} : ∀ (n : Nat) (o : Nat) (x1 : Option Nat) (x2 : Int32) (x3 : Option Nat) (x4 : Int32) (h : tpH), w_Mt_countHits_19 R n o x1 x2 x3 x4 h → tpR Mt_countHits 2 h0 av (tpOv R (fun _ _ => False)) 19 [some (vR (some o)), some (vR x1), some (vI x2), some (vR x3), some (vI x4)] [] h := by
  intro n
  induction n with
  | zero => intro o x1 x2 x3 x4 h hw; exact False.elim hw
  | succ n ih =>
    intro o x1 x2 x3 x4 h hw
    change b_Mt_countHits_19 R (w_Mt_countHits_19 R n) o x1 x2 x3 x4 h at hw
    unfold b_Mt_countHits_19 at hw
    refine tq_iload dMt_countHits_19 rfl ?_
    refine tq_aload_n dMt_countHits_21 rfl rfl ?_
    refine tq_iload_n dMt_countHits_22 rfl rfl ?_
    obtain ⟨a1, e2, f3, hw⟩ := hw
    refine te_callV mv_Tr_endOf (ci := 11) (dc := 1) (as := [vI x2]) (rest := [vI x4]) kMt_151 rfl (Nat.le_of_ble_eq_true rfl) (Nat.le_of_ble_eq_true rfl) rfl rfl e2 f3 (Nat.le_of_ble_eq_true rfl) dMt_countHits_23 (s_Tr_endOf hw) (fun _ _ hx => False.elim hx) (tk_i fun v5 h4 hw => ?_)
    refine tq_icmpge (tgt := 67) dMt_countHits_26 (by decide) (fun c6 => ?_) (fun c6 => ?_)
    · have hw := hw.1 c6
      refine tq_iconst (v := (1 : Int32)) dMt_countHits_67 tni_1 ?_
      refine tq_istore (ls' := [some (vR (some o)), some (vR x1), some (vI x2), some (vR x3), some (vI (1 : Int32))]) dMt_countHits_68 (Nat.le_of_ble_eq_true rfl) rfl ?_
      refine tpR.fo (ls' := [some (vR (some o)), none, none, some (vR x3), some (vI (1 : Int32))]) ?_ (And.intro rfl (And.intro rfl (And.intro rfl trivial)))
      obtain ⟨n, hw⟩ := hw
      exact s_Mt_countHits_70 n _ _ _ _ hw
    · have hw := hw.2 c6
      refine tq_aload_n dMt_countHits_29 rfl rfl ?_
      obtain ⟨f7, hw⟩ := hw
      refine te_getr dMt_countHits_30 fMt_14 rfl rfl f7 ?_
      refine tq_iload dMt_countHits_33 rfl ?_
      obtain ⟨a8, e9, f10, hw⟩ := hw
      refine te_callV mv_Ro_at (ci := 7) (dc := 0) (as := [vI x4]) (rest := []) kMt_40 rfl (Nat.le_of_ble_eq_true rfl) (Nat.le_of_ble_eq_true rfl) rfl rfl e9 f10 (Nat.le_of_ble_eq_true rfl) dMt_countHits_35 (s_Ro_at hw) (fun _ _ hx => False.elim hx) (tk_i fun v12 h11 hw => ?_)
      refine tq_iconst (v := (-1 : Int32)) dMt_countHits_38 tni_m1 ?_
      refine tq_icmpeq (tgt := 61) dMt_countHits_39 (by decide) (fun c13 => ?_) (fun c13 => ?_)
      · have hw := hw.1 c13
        refine tq_inc (k := (1 : Int32)) (ls' := [some (vR (some o)), some (vR x1), some (vI x2), some (vR x3), some (vI (x4 + (1 : Int32)))]) dMt_countHits_61 rfl tni_1 (Nat.le_of_ble_eq_true rfl) rfl ?_
        refine tq_goto (tgt := 19) dMt_countHits_64 (by decide) ?_
        refine tpR.fo (ls' := [some (vR (some o)), some (vR x1), some (vI x2), some (vR x3), some (vI (x4 + (1 : Int32)))]) ?_ (And.intro rfl (And.intro rfl (And.intro rfl (And.intro rfl (And.intro rfl trivial)))))
        exact ih _ _ _ _ _ _ hw
      · have hw := hw.2 c13
        refine tq_aload_n dMt_countHits_42 rfl rfl ?_
        obtain ⟨f14, hw⟩ := hw
        refine te_getr dMt_countHits_43 fMt_29 rfl rfl f14 ?_
        refine tq_aload_n dMt_countHits_46 rfl rfl ?_
        refine te_getr dMt_countHits_47 fMt_14 rfl rfl f14 ?_
        refine tq_iload dMt_countHits_50 rfl ?_
        obtain ⟨a15, e16, f17, hw⟩ := hw
        refine te_callV mv_Ro_at (ci := 7) (dc := 0) (as := [vI x4]) (rest := [vR (hR h11 o 6)]) kMt_40 rfl (Nat.le_of_ble_eq_true rfl) (Nat.le_of_ble_eq_true rfl) rfl rfl e16 f17 (Nat.le_of_ble_eq_true rfl) dMt_countHits_52 (s_Ro_at hw) (fun _ _ hx => False.elim hx) (tk_i fun v19 h18 hw => ?_)
        refine tq_iconst (v := (1 : Int32)) dMt_countHits_55 tni_1 ?_
        refine tq_iadd dMt_countHits_56 ?_
        refine tq_iconst (v := (1 : Int32)) dMt_countHits_57 tni_1 ?_
        obtain ⟨a20, e21, f22, hw⟩ := hw
        refine te_callV mv_Ro_put (ci := 7) (dc := 0) (as := [vI (v19 + (1 : Int32)), vI (1 : Int32)]) (rest := []) kMt_101 rfl (Nat.le_of_ble_eq_true rfl) (Nat.le_of_ble_eq_true rfl) rfl rfl e21 f22 (Nat.le_of_ble_eq_true rfl) dMt_countHits_58 (s_Ro_put hw) (fun _ _ hx => False.elim hx) (tk_v fun h23 hw => ?_)
        refine tq_inc (k := (1 : Int32)) (ls' := [some (vR (some o)), some (vR x1), some (vI x2), some (vR x3), some (vI (x4 + (1 : Int32)))]) dMt_countHits_61 rfl tni_1 (Nat.le_of_ble_eq_true rfl) rfl ?_
        refine tq_goto (tgt := 19) dMt_countHits_64 (by decide) ?_
        refine tpR.fo (ls' := [some (vR (some o)), some (vR x1), some (vI x2), some (vR x3), some (vI (x4 + (1 : Int32)))]) ?_ (And.intro rfl (And.intro rfl (And.intro rfl (And.intro rfl (And.intro rfl trivial)))))
        exact ih _ _ _ _ _ _ hw
theorem s_Mt_countHits {o : Nat} {x1 : Option Nat} {x2 : Int32} {x3 : Option Nat} {h : tpH} {R : tpH → Prop} (hw : w_Mt_countHits o x1 x2 x3 h R) : tpC Mt_countHits 2 [vR (some o), vR x1, vI x2, vR x3] h (tpOv R (fun _ _ => False)) := by
  refine tpC_of mv_Mt_countHits.2.2.2.1 rfl rfl (Nat.le_of_ble_eq_true rfl) ?_
  show tpR Mt_countHits 2 h _ _ 0 [some (vR (some o)), some (vR x1), some (vI x2), some (vR x3), none] [] h
  unfold w_Mt_countHits at hw
  refine tq_aload_n dMt_countHits_0 rfl rfl ?_
  obtain ⟨f1, hw⟩ := hw
  refine te_getr dMt_countHits_1 fMt_29 rfl rfl f1 ?_
  refine tq_aload_n dMt_countHits_4 rfl rfl ?_
  obtain ⟨a2, e3, f4, hw⟩ := hw
  refine te_geti dMt_countHits_5 fMt_51 rfl e3 f4 ?_
  refine tq_iconst (v := (1 : Int32)) dMt_countHits_8 tni_1 ?_
  refine tq_iadd dMt_countHits_9 ?_
  refine tq_iconst (v := (0 : Int32)) dMt_countHits_10 tni_0 ?_
  obtain ⟨a5, e6, f7, hw⟩ := hw
  refine te_callV mv_Ro_fill (ci := 7) (dc := 0) (as := [vI ((hI h a2 0) + (1 : Int32)), vI (0 : Int32)]) (rest := []) kMt_57 rfl (Nat.le_of_ble_eq_true rfl) (Nat.le_of_ble_eq_true rfl) rfl rfl e6 f7 (Nat.le_of_ble_eq_true rfl) dMt_countHits_11 (s_Ro_fill hw) (fun _ _ hx => False.elim hx) (tk_v fun h8 hw => ?_)
  refine tq_iload_n dMt_countHits_14 rfl rfl ?_
  refine tq_iconst (v := (1 : Int32)) dMt_countHits_15 tni_1 ?_
  refine tq_iadd dMt_countHits_16 ?_
  refine tq_istore (ls' := [some (vR (some o)), some (vR x1), some (vI x2), some (vR x3), some (vI (x2 + (1 : Int32)))]) dMt_countHits_17 (Nat.le_of_ble_eq_true rfl) rfl ?_
  refine tpR.fo (ls' := [some (vR (some o)), some (vR x1), some (vI x2), some (vR x3), some (vI (x2 + (1 : Int32)))]) ?_ (And.intro rfl (And.intro rfl (And.intro rfl (And.intro rfl (And.intro rfl trivial)))))
  obtain ⟨n, hw⟩ := hw
  exact s_Mt_countHits_19 n _ _ _ _ _ _ hw
/-! T$Matching.likenessByHits -/
theorem dMt_likenessByHits_0 : decode (mB Mt_likenessByHits) 0 = .ok (.iload_n 1, 1) := by decide +kernel
theorem dMt_likenessByHits_1 : decode (mB Mt_likenessByHits) 1 = .ok (.aload_n 2, 1) := by decide +kernel
theorem dMt_likenessByHits_2 : decode (mB Mt_likenessByHits) 2 = .ok (.iload_n 3, 1) := by decide +kernel
theorem dMt_likenessByHits_3 : decode (mB Mt_likenessByHits) 3 = .ok (.invokevirtual 94, 3) := by decide +kernel
theorem dMt_likenessByHits_6 : decode (mB Mt_likenessByHits) 6 = .ok (.iadd, 1) := by decide +kernel
theorem dMt_likenessByHits_7 : decode (mB Mt_likenessByHits) 7 = .ok (.istore 4, 2) := by decide +kernel
theorem dMt_likenessByHits_9 : decode (mB Mt_likenessByHits) 9 = .ok (.iload 4, 2) := by decide +kernel
theorem dMt_likenessByHits_11 : decode (mB Mt_likenessByHits) 11 = .ok (.ifCond .gt 5, 3) := by decide +kernel
theorem dMt_likenessByHits_14 : decode (mB Mt_likenessByHits) 14 = .ok (.fconst 0, 1) := by decide +kernel
theorem dMt_likenessByHits_15 : decode (mB Mt_likenessByHits) 15 = .ok (.freturn, 1) := by decide +kernel
theorem dMt_likenessByHits_16 : decode (mB Mt_likenessByHits) 16 = .ok (.aload_n 0, 1) := by decide +kernel
theorem dMt_likenessByHits_17 : decode (mB Mt_likenessByHits) 17 = .ok (.getfield 29, 3) := by decide +kernel
theorem dMt_likenessByHits_20 : decode (mB Mt_likenessByHits) 20 = .ok (.aload_n 2, 1) := by decide +kernel
theorem dMt_likenessByHits_21 : decode (mB Mt_likenessByHits) 21 = .ok (.iload_n 3, 1) := by decide +kernel
theorem dMt_likenessByHits_22 : decode (mB Mt_likenessByHits) 22 = .ok (.invokevirtual 151, 3) := by decide +kernel
theorem dMt_likenessByHits_25 : decode (mB Mt_likenessByHits) 25 = .ok (.invokevirtual 40, 3) := by decide +kernel
theorem dMt_likenessByHits_28 : decode (mB Mt_likenessByHits) 28 = .ok (.aload_n 0, 1) := by decide +kernel
theorem dMt_likenessByHits_29 : decode (mB Mt_likenessByHits) 29 = .ok (.getfield 29, 3) := by decide +kernel
theorem dMt_likenessByHits_32 : decode (mB Mt_likenessByHits) 32 = .ok (.iload_n 3, 1) := by decide +kernel
theorem dMt_likenessByHits_33 : decode (mB Mt_likenessByHits) 33 = .ok (.iconst 1, 1) := by decide +kernel
theorem dMt_likenessByHits_34 : decode (mB Mt_likenessByHits) 34 = .ok (.iadd, 1) := by decide +kernel
theorem dMt_likenessByHits_35 : decode (mB Mt_likenessByHits) 35 = .ok (.invokevirtual 40, 3) := by decide +kernel
theorem dMt_likenessByHits_38 : decode (mB Mt_likenessByHits) 38 = .ok (.isub, 1) := by decide +kernel
theorem dMt_likenessByHits_39 : decode (mB Mt_likenessByHits) 39 = .ok (.istore 5, 2) := by decide +kernel
theorem dMt_likenessByHits_41 : decode (mB Mt_likenessByHits) 41 = .ok (.iconst 2, 1) := by decide +kernel
theorem dMt_likenessByHits_42 : decode (mB Mt_likenessByHits) 42 = .ok (.iload 5, 2) := by decide +kernel
theorem dMt_likenessByHits_44 : decode (mB Mt_likenessByHits) 44 = .ok (.imul, 1) := by decide +kernel
theorem dMt_likenessByHits_45 : decode (mB Mt_likenessByHits) 45 = .ok (.i2f, 1) := by decide +kernel
theorem dMt_likenessByHits_46 : decode (mB Mt_likenessByHits) 46 = .ok (.iload 4, 2) := by decide +kernel
theorem dMt_likenessByHits_48 : decode (mB Mt_likenessByHits) 48 = .ok (.i2f, 1) := by decide +kernel
theorem dMt_likenessByHits_49 : decode (mB Mt_likenessByHits) 49 = .ok (.fdiv, 1) := by decide +kernel
theorem dMt_likenessByHits_50 : decode (mB Mt_likenessByHits) 50 = .ok (.freturn, 1) := by decide +kernel
def w_Mt_likenessByHits (o : Nat) (x1 : Int32) (x2 : Option Nat) (x3 : Int32) (h : tpH) (R : UInt32 → tpH → Prop) : Prop :=
  ∃ a1, x2 = some a1 ∧ hT h a1 = 12 ∧ (w_Tr_below a1 x3 h (fun v5 h4 => (0 < (x1 + v5) → (hT h4 o = 6 ∧ (hT h4 a1 = 12 ∧ (w_Tr_endOf a1 x3 h4 (fun v10 h9 => ∃ a11, (hR h4 o 6) = some a11 ∧ hT h9 a11 = 8 ∧ (w_Ro_at a11 v10 h9 (fun v15 h14 => hT h14 o = 6 ∧ (∃ a17, (hR h14 o 6) = some a17 ∧ hT h14 a17 = 8 ∧ (w_Ro_at a17 (x3 + (1 : Int32)) h14 (fun v21 h20 => vf_n32 (FP.fdiv (FP.i2f ((2 : Int32) * (v15 - v21))) (FP.i2f (x1 + v5))) ∧ (R (FP.fdiv (FP.i2f ((2 : Int32) * (v15 - v21))) (FP.i2f (x1 + v5))) h20))))))))))) ∧ (¬ 0 < (x1 + v5) → (R (FP.fconst0) h4))))
theorem s_Mt_likenessByHits {o : Nat} {x1 : Int32} {x2 : Option Nat} {x3 : Int32} {h : tpH} {R : UInt32 → tpH → Prop} (hw : w_Mt_likenessByHits o x1 x2 x3 h R) : tpC Mt_likenessByHits 2 [vR (some o), vI x1, vR x2, vI x3] h (tpOf R (fun _ _ => False)) := by
  refine tpC_of mv_Mt_likenessByHits.2.2.2.1 rfl rfl (Nat.le_of_ble_eq_true rfl) ?_
  show tpR Mt_likenessByHits 2 h _ _ 0 [some (vR (some o)), some (vI x1), some (vR x2), some (vI x3), none, none] [] h
  unfold w_Mt_likenessByHits at hw
  refine tq_iload_n dMt_likenessByHits_0 rfl rfl ?_
  refine tq_aload_n dMt_likenessByHits_1 rfl rfl ?_
  refine tq_iload_n dMt_likenessByHits_2 rfl rfl ?_
  obtain ⟨a1, e2, f3, hw⟩ := hw
  refine te_callV mv_Tr_below (ci := 11) (dc := 1) (as := [vI x3]) (rest := [vI x1]) kMt_94 rfl (Nat.le_of_ble_eq_true rfl) (Nat.le_of_ble_eq_true rfl) rfl rfl e2 f3 (Nat.le_of_ble_eq_true rfl) dMt_likenessByHits_3 (s_Tr_below hw) (fun _ _ hx => False.elim hx) (tk_i fun v5 h4 hw => ?_)
  refine tq_iadd dMt_likenessByHits_6 ?_
  refine tq_istore (ls' := [some (vR (some o)), some (vI x1), some (vR x2), some (vI x3), some (vI (x1 + v5)), none]) dMt_likenessByHits_7 (Nat.le_of_ble_eq_true rfl) rfl ?_
  refine tq_iload dMt_likenessByHits_9 rfl ?_
  refine tq_ifgt (tgt := 16) dMt_likenessByHits_11 (by decide) (fun c6 => ?_) (fun c6 => ?_)
  · have hw := hw.1 c6
    refine tq_aload_n dMt_likenessByHits_16 rfl rfl ?_
    obtain ⟨f7, hw⟩ := hw
    refine te_getr dMt_likenessByHits_17 fMt_29 rfl rfl f7 ?_
    refine tq_aload_n dMt_likenessByHits_20 rfl rfl ?_
    refine tq_iload_n dMt_likenessByHits_21 rfl rfl ?_
    obtain ⟨f8, hw⟩ := hw
    refine te_callV mv_Tr_endOf (ci := 11) (dc := 1) (as := [vI x3]) (rest := [vR (hR h4 o 6)]) kMt_151 rfl (Nat.le_of_ble_eq_true rfl) (Nat.le_of_ble_eq_true rfl) rfl rfl e2 f8 (Nat.le_of_ble_eq_true rfl) dMt_likenessByHits_22 (s_Tr_endOf hw) (fun _ _ hx => False.elim hx) (tk_i fun v10 h9 hw => ?_)
    obtain ⟨a11, e12, f13, hw⟩ := hw
    refine te_callV mv_Ro_at (ci := 7) (dc := 0) (as := [vI v10]) (rest := []) kMt_40 rfl (Nat.le_of_ble_eq_true rfl) (Nat.le_of_ble_eq_true rfl) rfl rfl e12 f13 (Nat.le_of_ble_eq_true rfl) dMt_likenessByHits_25 (s_Ro_at hw) (fun _ _ hx => False.elim hx) (tk_i fun v15 h14 hw => ?_)
    refine tq_aload_n dMt_likenessByHits_28 rfl rfl ?_
    obtain ⟨f16, hw⟩ := hw
    refine te_getr dMt_likenessByHits_29 fMt_29 rfl rfl f16 ?_
    refine tq_iload_n dMt_likenessByHits_32 rfl rfl ?_
    refine tq_iconst (v := (1 : Int32)) dMt_likenessByHits_33 tni_1 ?_
    refine tq_iadd dMt_likenessByHits_34 ?_
    obtain ⟨a17, e18, f19, hw⟩ := hw
    refine te_callV mv_Ro_at (ci := 7) (dc := 0) (as := [vI (x3 + (1 : Int32))]) (rest := [vI v15]) kMt_40 rfl (Nat.le_of_ble_eq_true rfl) (Nat.le_of_ble_eq_true rfl) rfl rfl e18 f19 (Nat.le_of_ble_eq_true rfl) dMt_likenessByHits_35 (s_Ro_at hw) (fun _ _ hx => False.elim hx) (tk_i fun v21 h20 hw => ?_)
    refine tq_isub dMt_likenessByHits_38 ?_
    refine tq_istore (ls' := [some (vR (some o)), some (vI x1), some (vR x2), some (vI x3), some (vI (x1 + v5)), some (vI (v15 - v21))]) dMt_likenessByHits_39 (Nat.le_of_ble_eq_true rfl) rfl ?_
    refine tq_iconst (v := (2 : Int32)) dMt_likenessByHits_41 tni_2 ?_
    refine tq_iload dMt_likenessByHits_42 rfl ?_
    refine tq_imul dMt_likenessByHits_44 ?_
    refine tq_i2f dMt_likenessByHits_45 ?_
    refine tq_iload dMt_likenessByHits_46 rfl ?_
    refine tq_i2f dMt_likenessByHits_48 ?_
    obtain ⟨f22, hw⟩ := hw
    refine tq_fdiv dMt_likenessByHits_49 f22 ?_
    exact tq_fret rfl dMt_likenessByHits_50 hw
  · have hw := hw.2 c6
    refine tq_fconst0 dMt_likenessByHits_14 ?_
    exact tq_fret rfl dMt_likenessByHits_15 hw
/-! T$Matching.likestOf -/
theorem dMt_likestOf_0 : decode (mB Mt_likestOf) 0 = .ok (.aload_n 0, 1) := by decide +kernel
theorem dMt_likestOf_1 : decode (mB Mt_likestOf) 1 = .ok (.aload_n 1, 1) := by decide +kernel
theorem dMt_likestOf_2 : decode (mB Mt_likestOf) 2 = .ok (.iload_n 2, 1) := by decide +kernel
theorem dMt_likestOf_3 : decode (mB Mt_likestOf) 3 = .ok (.aload_n 3, 1) := by decide +kernel
theorem dMt_likestOf_4 : decode (mB Mt_likestOf) 4 = .ok (.invokevirtual 90, 3) := by decide +kernel
theorem dMt_likestOf_7 : decode (mB Mt_likestOf) 7 = .ok (.iconst (-1), 1) := by decide +kernel
theorem dMt_likestOf_8 : decode (mB Mt_likestOf) 8 = .ok (.istore 4, 2) := by decide +kernel
theorem dMt_likestOf_10 : decode (mB Mt_likestOf) 10 = .ok (.fconst 0, 1) := by decide +kernel
theorem dMt_likestOf_11 : decode (mB Mt_likestOf) 11 = .ok (.fstore 5, 2) := by decide +kernel
theorem dMt_likestOf_13 : decode (mB Mt_likestOf) 13 = .ok (.iconst 0, 1) := by decide +kernel
theorem dMt_likestOf_14 : decode (mB Mt_likestOf) 14 = .ok (.istore 6, 2) := by decide +kernel
theorem dMt_likestOf_16 : decode (mB Mt_likestOf) 16 = .ok (.iload 6, 2) := by decide +kernel
theorem dMt_likestOf_18 : decode (mB Mt_likestOf) 18 = .ok (.aload_n 3, 1) := by decide +kernel
theorem dMt_likestOf_19 : decode (mB Mt_likestOf) 19 = .ok (.getfield 51, 3) := by decide +kernel
theorem dMt_likestOf_22 : decode (mB Mt_likestOf) 22 = .ok (.if_icmp .ge 59, 3) := by decide +kernel
theorem dMt_likestOf_25 : decode (mB Mt_likestOf) 25 = .ok (.aload_n 0, 1) := by decide +kernel
theorem dMt_likestOf_26 : decode (mB Mt_likestOf) 26 = .ok (.aload_n 1, 1) := by decide +kernel
theorem dMt_likestOf_27 : decode (mB Mt_likestOf) 27 = .ok (.iload_n 2, 1) := by decide +kernel
theorem dMt_likestOf_28 : decode (mB Mt_likestOf) 28 = .ok (.aload_n 3, 1) := by decide +kernel
theorem dMt_likestOf_29 : decode (mB Mt_likestOf) 29 = .ok (.iload 6, 2) := by decide +kernel
theorem dMt_likestOf_31 : decode (mB Mt_likestOf) 31 = .ok (.invokevirtual 125, 3) := by decide +kernel
theorem dMt_likestOf_34 : decode (mB Mt_likestOf) 34 = .ok (.ifCond .eq 41, 3) := by decide +kernel
theorem dMt_likestOf_37 : decode (mB Mt_likestOf) 37 = .ok (.aload_n 0, 1) := by decide +kernel
theorem dMt_likestOf_38 : decode (mB Mt_likestOf) 38 = .ok (.aload_n 1, 1) := by decide +kernel
theorem dMt_likestOf_39 : decode (mB Mt_likestOf) 39 = .ok (.iload_n 2, 1) := by decide +kernel
theorem dMt_likestOf_40 : decode (mB Mt_likestOf) 40 = .ok (.invokevirtual 94, 3) := by decide +kernel
theorem dMt_likestOf_43 : decode (mB Mt_likestOf) 43 = .ok (.aload_n 3, 1) := by decide +kernel
theorem dMt_likestOf_44 : decode (mB Mt_likestOf) 44 = .ok (.iload 6, 2) := by decide +kernel
theorem dMt_likestOf_46 : decode (mB Mt_likestOf) 46 = .ok (.invokevirtual 97, 3) := by decide +kernel
theorem dMt_likestOf_49 : decode (mB Mt_likestOf) 49 = .ok (.fstore 7, 2) := by decide +kernel
theorem dMt_likestOf_51 : decode (mB Mt_likestOf) 51 = .ok (.fload 7, 2) := by decide +kernel
theorem dMt_likestOf_53 : decode (mB Mt_likestOf) 53 = .ok (.ldc 180, 2) := by decide +kernel
theorem dMt_likestOf_55 : decode (mB Mt_likestOf) 55 = .ok (.fcmp .l, 1) := by decide +kernel
theorem dMt_likestOf_56 : decode (mB Mt_likestOf) 56 = .ok (.ifCond .lt 19, 3) := by decide +kernel
theorem dMt_likestOf_59 : decode (mB Mt_likestOf) 59 = .ok (.fload 7, 2) := by decide +kernel
theorem dMt_likestOf_61 : decode (mB Mt_likestOf) 61 = .ok (.fload 5, 2) := by decide +kernel
theorem dMt_likestOf_63 : decode (mB Mt_likestOf) 63 = .ok (.fcmp .l, 1) := by decide +kernel
theorem dMt_likestOf_64 : decode (mB Mt_likestOf) 64 = .ok (.ifCond .le 11, 3) := by decide +kernel
theorem dMt_likestOf_67 : decode (mB Mt_likestOf) 67 = .ok (.iload 6, 2) := by decide +kernel
theorem dMt_likestOf_69 : decode (mB Mt_likestOf) 69 = .ok (.istore 4, 2) := by decide +kernel
theorem dMt_likestOf_71 : decode (mB Mt_likestOf) 71 = .ok (.fload 7, 2) := by decide +kernel
theorem dMt_likestOf_73 : decode (mB Mt_likestOf) 73 = .ok (.fstore 5, 2) := by decide +kernel
theorem dMt_likestOf_75 : decode (mB Mt_likestOf) 75 = .ok (.iinc 6 1, 3) := by decide +kernel
theorem dMt_likestOf_78 : decode (mB Mt_likestOf) 78 = .ok (.goto (-62), 3) := by decide +kernel
theorem dMt_likestOf_81 : decode (mB Mt_likestOf) 81 = .ok (.iload 4, 2) := by decide +kernel
theorem dMt_likestOf_83 : decode (mB Mt_likestOf) 83 = .ok (.ireturn, 1) := by decide +kernel
def b_Mt_likestOf_16 (R : Int32 → tpH → Prop) (Y : Nat → (Option Nat) → Int32 → (Option Nat) → Int32 → UInt32 → Int32 → tpH → Prop) (o : Nat) (x1 : Option Nat) (x2 : Int32) (x3 : Option Nat) (x4 : Int32) (x5 : UInt32) (x6 : Int32) (h : tpH) : Prop :=
  ∃ a1, x3 = some a1 ∧ hT h a1 = 12 ∧ (((hI h a1 0) ≤ x6 → (R x4 h)) ∧ (¬ (hI h a1 0) ≤ x6 → (hT h o = 6 ∧ (w_Mt_mayPair o x1 x2 x3 x6 h (fun v7 h6 => (v7 = 0 → (Y o x1 x2 x3 x4 x5 (x6 + (1 : Int32)) h6)) ∧ (¬ v7 = 0 → (∃ a9, x1 = some a9 ∧ hT h6 a9 = 12 ∧ (w_Tr_below a9 x2 h6 (fun v13 h12 => hT h12 o = 6 ∧ (w_Mt_likenessByHits o v13 x3 x6 h12 (fun v16 h15 => ((Op.cmpValue (FP.fcmp v16 (1056964608 : UInt32)) .l) < 0 → (Y o x1 x2 x3 x4 x5 (x6 + (1 : Int32)) h15)) ∧ (¬ (Op.cmpValue (FP.fcmp v16 (1056964608 : UInt32)) .l) < 0 → (((Op.cmpValue (FP.fcmp v16 x5) .l) ≤ 0 → (Y o x1 x2 x3 x4 x5 (x6 + (1 : Int32)) h15)) ∧ (¬ (Op.cmpValue (FP.fcmp v16 x5) .l) ≤ 0 → (Y o x1 x2 x3 x6 v16 (x6 + (1 : Int32)) h15)))))))))))))))
def w_Mt_likestOf_16 (R : Int32 → tpH → Prop) : Nat → Nat → (Option Nat) → Int32 → (Option Nat) → Int32 → UInt32 → Int32 → tpH → Prop
  | 0 => fun _ _ _ _ _ _ _ _ => False
  | n + 1 => b_Mt_likestOf_16 R (w_Mt_likestOf_16 R n)
def w_Mt_likestOf (o : Nat) (x1 : Option Nat) (x2 : Int32) (x3 : Option Nat) (h : tpH) (R : Int32 → tpH → Prop) : Prop :=
  hT h o = 6 ∧ (w_Mt_countHits o x1 x2 x3 h (fun h2 => ∃ n, w_Mt_likestOf_16 R n o x1 x2 x3 (-1 : Int32) (FP.fconst0) (0 : Int32) h2))
theorem s_Mt_likestOf_16 {h0 : tpH} {av : List tpV} {R : Int32 → tpH → Prop} : ∀ (n : Nat) (o : Nat) (x1 : Option Nat) (x2 : Int32) (x3 : Option Nat) (x4 : Int32) (x5 : UInt32) (x6 : Int32) (h : tpH), w_Mt_likestOf_16 R n o x1 x2 x3 x4 x5 x6 h → tpR Mt_likestOf 3 h0 av (tpOi R (fun _ _ => False)) 16 [some (vR (some o)), some (vR x1), some (vI x2), some (vR x3), some (vI x4), some (vF x5), some (vI x6), none] [] h := by
  intro n
  induction n with
  | zero => intro o x1 x2 x3 x4 x5 x6 h hw; exact False.elim hw
  | succ n ih =>
    intro o x1 x2 x3 x4 x5 x6 h hw
    change b_Mt_likestOf_16 R (w_Mt_likestOf_16 R n) o x1 x2 x3 x4 x5 x6 h at hw
    unfold b_Mt_likestOf_16 at hw
    refine tq_iload dMt_likestOf_16 rfl ?_
    refine tq_aload_n dMt_likestOf_18 rfl rfl ?_
    obtain ⟨a1, e2, f3, hw⟩ := hw
    refine te_geti dMt_likestOf_19 fMt_51 rfl e2 f3 ?_
    refine tq_icmpge (tgt := 81) dMt_likestOf_22 (by decide) (fun c4 => ?_) (fun c4 => ?_)
    · have hw := hw.1 c4
      refine tq_iload dMt_likestOf_81 rfl ?_
      exact tq_iret rfl rfl dMt_likestOf_83 hw
    · have hw := hw.2 c4
      refine tq_aload_n dMt_likestOf_25 rfl rfl ?_
      refine tq_aload_n dMt_likestOf_26 rfl rfl ?_
      refine tq_iload_n dMt_likestOf_27 rfl rfl ?_
      refine tq_aload_n dMt_likestOf_28 rfl rfl ?_
      refine tq_iload dMt_likestOf_29 rfl ?_
      obtain ⟨f5, hw⟩ := hw
      refine te_callV mv_Mt_mayPair (ci := 5) (dc := 2) (as := [vR x1, vI x2, vR x3, vI x6]) (rest := []) kMt_125 rfl (Nat.le_of_ble_eq_true rfl) (Nat.le_of_ble_eq_true rfl) rfl rfl rfl f5 (Nat.le_of_ble_eq_true rfl) dMt_likestOf_31 (s_Mt_mayPair hw) (fun _ _ hx => False.elim hx) (tk_i fun v7 h6 hw => ?_)
      refine tq_ifeq (tgt := 75) dMt_likestOf_34 (by decide) (fun c8 => ?_) (fun c8 => ?_)
      · have hw := hw.1 c8
        refine tq_inc (k := (1 : Int32)) (ls' := [some (vR (some o)), some (vR x1), some (vI x2), some (vR x3), some (vI x4), some (vF x5), some (vI (x6 + (1 : Int32))), none]) dMt_likestOf_75 rfl tni_1 (Nat.le_of_ble_eq_true rfl) rfl ?_
        refine tq_goto (tgt := 16) dMt_likestOf_78 (by decide) ?_
        refine tpR.fo (ls' := [some (vR (some o)), some (vR x1), some (vI x2), some (vR x3), some (vI x4), some (vF x5), some (vI (x6 + (1 : Int32))), none]) ?_ (And.intro rfl (And.intro rfl (And.intro rfl (And.intro rfl (And.intro rfl (And.intro rfl (And.intro rfl trivial)))))))
        exact ih _ _ _ _ _ _ _ _ hw
      · have hw := hw.2 c8
        refine tq_aload_n dMt_likestOf_37 rfl rfl ?_
        refine tq_aload_n dMt_likestOf_38 rfl rfl ?_
        refine tq_iload_n dMt_likestOf_39 rfl rfl ?_
        obtain ⟨a9, e10, f11, hw⟩ := hw
        refine te_callV mv_Tr_below (ci := 11) (dc := 1) (as := [vI x2]) (rest := [vR (some o)]) kMt_94 rfl (Nat.le_of_ble_eq_true rfl) (Nat.le_of_ble_eq_true rfl) rfl rfl e10 f11 (Nat.le_of_ble_eq_true rfl) dMt_likestOf_40 (s_Tr_below hw) (fun _ _ hx => False.elim hx) (tk_i fun v13 h12 hw => ?_)
        refine tq_aload_n dMt_likestOf_43 rfl rfl ?_
        refine tq_iload dMt_likestOf_44 rfl ?_
        obtain ⟨f14, hw⟩ := hw
        refine te_callV mv_Mt_likenessByHits (ci := 5) (dc := 2) (as := [vI v13, vR x3, vI x6]) (rest := []) kMt_97 rfl (Nat.le_of_ble_eq_true rfl) (Nat.le_of_ble_eq_true rfl) rfl rfl rfl f14 (Nat.le_of_ble_eq_true rfl) dMt_likestOf_46 (s_Mt_likenessByHits hw) (fun _ _ hx => False.elim hx) (tk_f fun v16 h15 hw => ?_)
        refine tq_fstore (ls' := [some (vR (some o)), some (vR x1), some (vI x2), some (vR x3), some (vI x4), some (vF x5), some (vI x6), some (vF v16)]) dMt_likestOf_49 (Nat.le_of_ble_eq_true rfl) rfl ?_
        refine tq_fload dMt_likestOf_51 rfl ?_
        refine tq_ldcf dMt_likestOf_53 nMt_180 ?_
        refine tq_fcmp dMt_likestOf_55 ?_
        refine tq_iflt (tgt := 75) dMt_likestOf_56 (by decide) (fun c17 => ?_) (fun c17 => ?_)
        · have hw := hw.1 c17
          refine tq_inc (k := (1 : Int32)) (ls' := [some (vR (some o)), some (vR x1), some (vI x2), some (vR x3), some (vI x4), some (vF x5), some (vI (x6 + (1 : Int32))), some (vF v16)]) dMt_likestOf_75 rfl tni_1 (Nat.le_of_ble_eq_true rfl) rfl ?_
          refine tq_goto (tgt := 16) dMt_likestOf_78 (by decide) ?_
          refine tpR.fo (ls' := [some (vR (some o)), some (vR x1), some (vI x2), some (vR x3), some (vI x4), some (vF x5), some (vI (x6 + (1 : Int32))), none]) ?_ (And.intro rfl (And.intro rfl (And.intro rfl (And.intro rfl (And.intro rfl (And.intro rfl (And.intro rfl trivial)))))))
          exact ih _ _ _ _ _ _ _ _ hw
        · have hw := hw.2 c17
          refine tq_fload dMt_likestOf_59 rfl ?_
          refine tq_fload dMt_likestOf_61 rfl ?_
          refine tq_fcmp dMt_likestOf_63 ?_
          refine tq_ifle (tgt := 75) dMt_likestOf_64 (by decide) (fun c18 => ?_) (fun c18 => ?_)
          · have hw := hw.1 c18
            refine tq_inc (k := (1 : Int32)) (ls' := [some (vR (some o)), some (vR x1), some (vI x2), some (vR x3), some (vI x4), some (vF x5), some (vI (x6 + (1 : Int32))), some (vF v16)]) dMt_likestOf_75 rfl tni_1 (Nat.le_of_ble_eq_true rfl) rfl ?_
            refine tq_goto (tgt := 16) dMt_likestOf_78 (by decide) ?_
            refine tpR.fo (ls' := [some (vR (some o)), some (vR x1), some (vI x2), some (vR x3), some (vI x4), some (vF x5), some (vI (x6 + (1 : Int32))), none]) ?_ (And.intro rfl (And.intro rfl (And.intro rfl (And.intro rfl (And.intro rfl (And.intro rfl (And.intro rfl trivial)))))))
            exact ih _ _ _ _ _ _ _ _ hw
          · have hw := hw.2 c18
            refine tq_iload dMt_likestOf_67 rfl ?_
            refine tq_istore (ls' := [some (vR (some o)), some (vR x1), some (vI x2), some (vR x3), some (vI x6), some (vF x5), some (vI x6), some (vF v16)]) dMt_likestOf_69 (Nat.le_of_ble_eq_true rfl) rfl ?_
            refine tq_fload dMt_likestOf_71 rfl ?_
            refine tq_fstore (ls' := [some (vR (some o)), some (vR x1), some (vI x2), some (vR x3), some (vI x6), some (vF v16), some (vI x6), some (vF v16)]) dMt_likestOf_73 (Nat.le_of_ble_eq_true rfl) rfl ?_
            refine tq_inc (k := (1 : Int32)) (ls' := [some (vR (some o)), some (vR x1), some (vI x2), some (vR x3), some (vI x6), some (vF v16), some (vI (x6 + (1 : Int32))), some (vF v16)]) dMt_likestOf_75 rfl tni_1 (Nat.le_of_ble_eq_true rfl) rfl ?_
            refine tq_goto (tgt := 16) dMt_likestOf_78 (by decide) ?_
            refine tpR.fo (ls' := [some (vR (some o)), some (vR x1), some (vI x2), some (vR x3), some (vI x6), some (vF v16), some (vI (x6 + (1 : Int32))), none]) ?_ (And.intro rfl (And.intro rfl (And.intro rfl (And.intro rfl (And.intro rfl (And.intro rfl (And.intro rfl trivial)))))))
            exact ih _ _ _ _ _ _ _ _ hw
theorem s_Mt_likestOf {o : Nat} {x1 : Option Nat} {x2 : Int32} {x3 : Option Nat} {h : tpH} {R : Int32 → tpH → Prop} (hw : w_Mt_likestOf o x1 x2 x3 h R) : tpC Mt_likestOf 3 [vR (some o), vR x1, vI x2, vR x3] h (tpOi R (fun _ _ => False)) := by
  refine tpC_of mv_Mt_likestOf.2.2.2.1 rfl rfl (Nat.le_of_ble_eq_true rfl) ?_
  show tpR Mt_likestOf 3 h _ _ 0 [some (vR (some o)), some (vR x1), some (vI x2), some (vR x3), none, none, none, none] [] h
  unfold w_Mt_likestOf at hw
  refine tq_aload_n dMt_likestOf_0 rfl rfl ?_
  refine tq_aload_n dMt_likestOf_1 rfl rfl ?_
  refine tq_iload_n dMt_likestOf_2 rfl rfl ?_
  refine tq_aload_n dMt_likestOf_3 rfl rfl ?_
  obtain ⟨f1, hw⟩ := hw
  refine te_callV mv_Mt_countHits (ci := 5) (dc := 2) (as := [vR x1, vI x2, vR x3]) (rest := []) kMt_90 rfl (Nat.le_of_ble_eq_true rfl) (Nat.le_of_ble_eq_true rfl) rfl rfl rfl f1 (Nat.le_of_ble_eq_true rfl) dMt_likestOf_4 (s_Mt_countHits hw) (fun _ _ hx => False.elim hx) (tk_v fun h2 hw => ?_)
  refine tq_iconst (v := (-1 : Int32)) dMt_likestOf_7 tni_m1 ?_
  refine tq_istore (ls' := [some (vR (some o)), some (vR x1), some (vI x2), some (vR x3), some (vI (-1 : Int32)), none, none, none]) dMt_likestOf_8 (Nat.le_of_ble_eq_true rfl) rfl ?_
  refine tq_fconst0 dMt_likestOf_10 ?_
  refine tq_fstore (ls' := [some (vR (some o)), some (vR x1), some (vI x2), some (vR x3), some (vI (-1 : Int32)), some (vF (FP.fconst0)), none, none]) dMt_likestOf_11 (Nat.le_of_ble_eq_true rfl) rfl ?_
  refine tq_iconst (v := (0 : Int32)) dMt_likestOf_13 tni_0 ?_
  refine tq_istore (ls' := [some (vR (some o)), some (vR x1), some (vI x2), some (vR x3), some (vI (-1 : Int32)), some (vF (FP.fconst0)), some (vI (0 : Int32)), none]) dMt_likestOf_14 (Nat.le_of_ble_eq_true rfl) rfl ?_
  refine tpR.fo (ls' := [some (vR (some o)), some (vR x1), some (vI x2), some (vR x3), some (vI (-1 : Int32)), some (vF (FP.fconst0)), some (vI (0 : Int32)), none]) ?_ (And.intro rfl (And.intro rfl (And.intro rfl (And.intro rfl (And.intro rfl (And.intro rfl (And.intro rfl trivial)))))))
  obtain ⟨n, hw⟩ := hw
  exact s_Mt_likestOf_16 n _ _ _ _ _ _ _ _ hw
/-! T$Matching.pairFromBelow -/
theorem dMt_pairFromBelow_0 : decode (mB Mt_pairFromBelow) 0 = .ok (.aload_n 1, 1) := by decide +kernel
theorem dMt_pairFromBelow_1 : decode (mB Mt_pairFromBelow) 1 = .ok (.getfield 51, 3) := by decide +kernel
theorem dMt_pairFromBelow_4 : decode (mB Mt_pairFromBelow) 4 = .ok (.iconst 1, 1) := by decide +kernel
theorem dMt_pairFromBelow_5 : decode (mB Mt_pairFromBelow) 5 = .ok (.isub, 1) := by decide +kernel
theorem dMt_pairFromBelow_6 : decode (mB Mt_pairFromBelow) 6 = .ok (.istore_n 3, 1) := by decide +kernel
theorem dMt_pairFromBelow_7 : decode (mB Mt_pairFromBelow) 7 = .ok (.iload_n 3, 1) := by decide +kernel
theorem dMt_pairFromBelow_8 : decode (mB Mt_pairFromBelow) 8 = .ok (.ifCond .lt 51, 3) := by decide +kernel
theorem dMt_pairFromBelow_11 : decode (mB Mt_pairFromBelow) 11 = .ok (.aload_n 0, 1) := by decide +kernel
theorem dMt_pairFromBelow_12 : decode (mB Mt_pairFromBelow) 12 = .ok (.getfield 14, 3) := by decide +kernel
theorem dMt_pairFromBelow_15 : decode (mB Mt_pairFromBelow) 15 = .ok (.iload_n 3, 1) := by decide +kernel
theorem dMt_pairFromBelow_16 : decode (mB Mt_pairFromBelow) 16 = .ok (.invokevirtual 40, 3) := by decide +kernel
theorem dMt_pairFromBelow_19 : decode (mB Mt_pairFromBelow) 19 = .ok (.iconst (-1), 1) := by decide +kernel
theorem dMt_pairFromBelow_20 : decode (mB Mt_pairFromBelow) 20 = .ok (.if_icmp .ne 33, 3) := by decide +kernel
theorem dMt_pairFromBelow_23 : decode (mB Mt_pairFromBelow) 23 = .ok (.aload_n 1, 1) := by decide +kernel
theorem dMt_pairFromBelow_24 : decode (mB Mt_pairFromBelow) 24 = .ok (.iload_n 3, 1) := by decide +kernel
theorem dMt_pairFromBelow_25 : decode (mB Mt_pairFromBelow) 25 = .ok (.invokevirtual 158, 3) := by decide +kernel
theorem dMt_pairFromBelow_28 : decode (mB Mt_pairFromBelow) 28 = .ok (.ifCond .le 25, 3) := by decide +kernel
theorem dMt_pairFromBelow_31 : decode (mB Mt_pairFromBelow) 31 = .ok (.aload_n 0, 1) := by decide +kernel
theorem dMt_pairFromBelow_32 : decode (mB Mt_pairFromBelow) 32 = .ok (.aload_n 1, 1) := by decide +kernel
theorem dMt_pairFromBelow_33 : decode (mB Mt_pairFromBelow) 33 = .ok (.iload_n 3, 1) := by decide +kernel
theorem dMt_pairFromBelow_34 : decode (mB Mt_pairFromBelow) 34 = .ok (.aload_n 2, 1) := by decide +kernel
theorem dMt_pairFromBelow_35 : decode (mB Mt_pairFromBelow) 35 = .ok (.invokevirtual 176, 3) := by decide +kernel
theorem dMt_pairFromBelow_38 : decode (mB Mt_pairFromBelow) 38 = .ok (.istore 4, 2) := by decide +kernel
theorem dMt_pairFromBelow_40 : decode (mB Mt_pairFromBelow) 40 = .ok (.iload 4, 2) := by decide +kernel
theorem dMt_pairFromBelow_42 : decode (mB Mt_pairFromBelow) 42 = .ok (.iconst (-1), 1) := by decide +kernel
theorem dMt_pairFromBelow_43 : decode (mB Mt_pairFromBelow) 43 = .ok (.if_icmp .eq 10, 3) := by decide +kernel
theorem dMt_pairFromBelow_46 : decode (mB Mt_pairFromBelow) 46 = .ok (.aload_n 0, 1) := by decide +kernel
theorem dMt_pairFromBelow_47 : decode (mB Mt_pairFromBelow) 47 = .ok (.iload_n 3, 1) := by decide +kernel
theorem dMt_pairFromBelow_48 : decode (mB Mt_pairFromBelow) 48 = .ok (.iload 4, 2) := by decide +kernel
theorem dMt_pairFromBelow_50 : decode (mB Mt_pairFromBelow) 50 = .ok (.invokevirtual 116, 3) := by decide +kernel
theorem dMt_pairFromBelow_53 : decode (mB Mt_pairFromBelow) 53 = .ok (.iinc 3 (-1), 3) := by decide +kernel
theorem dMt_pairFromBelow_56 : decode (mB Mt_pairFromBelow) 56 = .ok (.goto (-49), 3) := by decide +kernel
theorem dMt_pairFromBelow_59 : decode (mB Mt_pairFromBelow) 59 = .ok (.return_, 1) := by decide +kernel
def b_Mt_pairFromBelow_7 (R : tpH → Prop) (Y : Nat → (Option Nat) → (Option Nat) → Int32 → tpH → Prop) (o : Nat) (x1 : Option Nat) (x2 : Option Nat) (x3 : Int32) (h : tpH) : Prop :=
  (x3 < 0 → (R h)) ∧ (¬ x3 < 0 → (hT h o = 6 ∧ (∃ a3, (hR h o 2) = some a3 ∧ hT h a3 = 8 ∧ (w_Ro_at a3 x3 h (fun v7 h6 => (¬ v7 = (-1 : Int32) → (Y o x1 x2 (x3 + (-1 : Int32)) h6)) ∧ (v7 = (-1 : Int32) → (∃ a9, x1 = some a9 ∧ hT h6 a9 = 12 ∧ (w_Tr_kidsOf a9 x3 h6 (fun v13 h12 => (v13 ≤ 0 → (Y o x1 x2 (x3 + (-1 : Int32)) h12)) ∧ (¬ v13 ≤ 0 → (hT h12 o = 6 ∧ (w_Mt_likestOf o x1 x3 x2 h12 (fun v17 h16 => (v17 = (-1 : Int32) → (Y o x1 x2 (x3 + (-1 : Int32)) h16)) ∧ (¬ v17 = (-1 : Int32) → (hT h16 o = 6 ∧ (w_Mt_pair o x3 v17 h16 (fun h20 => Y o x1 x2 (x3 + (-1 : Int32)) h20)))))))))))))))))
def w_Mt_pairFromBelow_7 (R : tpH → Prop) : Nat → Nat → (Option Nat) → (Option Nat) → Int32 → tpH → Prop
  | 0 => fun _ _ _ _ _ => False
  | n + 1 => b_Mt_pairFromBelow_7 R (w_Mt_pairFromBelow_7 R n)
def w_Mt_pairFromBelow (o : Nat) (x1 : Option Nat) (x2 : Option Nat) (h : tpH) (R : tpH → Prop) : Prop :=
  ∃ a1, x1 = some a1 ∧ hT h a1 = 12 ∧ (∃ n, w_Mt_pairFromBelow_7 R n o x1 x2 ((hI h a1 0) - (1 : Int32)) h)
theorem s_Mt_pairFromBelow_7 {h0 : tpH} {av : List tpV} {R : tpH → Prop} : ∀ (n : Nat) (o : Nat) (x1 : Option Nat) (x2 : Option Nat) (x3 : Int32) (h : tpH), w_Mt_pairFromBelow_7 R n o x1 x2 x3 h → tpR Mt_pairFromBelow 4 h0 av (tpOv R (fun _ _ => False)) 7 [some (vR (some o)), some (vR x1), some (vR x2), some (vI x3), none] [] h := by
  intro n
  induction n with
  | zero => intro o x1 x2 x3 h hw; exact False.elim hw
  | succ n ih =>
    intro o x1 x2 x3 h hw
    change b_Mt_pairFromBelow_7 R (w_Mt_pairFromBelow_7 R n) o x1 x2 x3 h at hw
    unfold b_Mt_pairFromBelow_7 at hw
    refine tq_iload_n dMt_pairFromBelow_7 rfl rfl ?_
    refine tq_iflt (tgt := 59) dMt_pairFromBelow_8 (by decide) (fun c1 => ?_) (fun c1 => ?_)
    · have hw := hw.1 c1
      exact tq_vret rfl dMt_pairFromBelow_59 hw
    · have hw := hw.2 c1
      refine tq_aload_n dMt_pairFromBelow_11 rfl rfl ?_
      obtain ⟨f2, hw⟩ := hw
      refine te_getr dMt_pairFromBelow_12 fMt_14 rfl rfl f2 ?_
      refine tq_iload_n dMt_pairFromBelow_15 rfl rfl ?_
      obtain ⟨a3, e4, f5, hw⟩ := hw
      refine te_callV mv_Ro_at (ci := 7) (dc := 0) (as := [vI x3]) (rest := []) kMt_40 rfl (Nat.le_of_ble_eq_true rfl) (Nat.le_of_ble_eq_true rfl) rfl rfl e4 f5 (Nat.le_of_ble_eq_true rfl) dMt_pairFromBelow_16 (s_Ro_at hw) (fun _ _ hx => False.elim hx) (tk_i fun v7 h6 hw => ?_)
      refine tq_iconst (v := (-1 : Int32)) dMt_pairFromBelow_19 tni_m1 ?_
      refine tq_icmpne (tgt := 53) dMt_pairFromBelow_20 (by decide) (fun c8 => ?_) (fun c8 => ?_)
      · have hw := hw.1 c8
        refine tq_inc (k := (-1 : Int32)) (ls' := [some (vR (some o)), some (vR x1), some (vR x2), some (vI (x3 + (-1 : Int32))), none]) dMt_pairFromBelow_53 rfl tni_m1 (Nat.le_of_ble_eq_true rfl) rfl ?_
        refine tq_goto (tgt := 7) dMt_pairFromBelow_56 (by decide) ?_
        refine tpR.fo (ls' := [some (vR (some o)), some (vR x1), some (vR x2), some (vI (x3 + (-1 : Int32))), none]) ?_ (And.intro rfl (And.intro rfl (And.intro rfl (And.intro rfl trivial))))
        exact ih _ _ _ _ _ hw
      · have hw := hw.2 c8
        refine tq_aload_n dMt_pairFromBelow_23 rfl rfl ?_
        refine tq_iload_n dMt_pairFromBelow_24 rfl rfl ?_
        obtain ⟨a9, e10, f11, hw⟩ := hw
        refine te_callV mv_Tr_kidsOf (ci := 11) (dc := 1) (as := [vI x3]) (rest := []) kMt_158 rfl (Nat.le_of_ble_eq_true rfl) (Nat.le_of_ble_eq_true rfl) rfl rfl e10 f11 (Nat.le_of_ble_eq_true rfl) dMt_pairFromBelow_25 (s_Tr_kidsOf hw) (fun _ _ hx => False.elim hx) (tk_i fun v13 h12 hw => ?_)
        refine tq_ifle (tgt := 53) dMt_pairFromBelow_28 (by decide) (fun c14 => ?_) (fun c14 => ?_)
        · have hw := hw.1 c14
          refine tq_inc (k := (-1 : Int32)) (ls' := [some (vR (some o)), some (vR x1), some (vR x2), some (vI (x3 + (-1 : Int32))), none]) dMt_pairFromBelow_53 rfl tni_m1 (Nat.le_of_ble_eq_true rfl) rfl ?_
          refine tq_goto (tgt := 7) dMt_pairFromBelow_56 (by decide) ?_
          refine tpR.fo (ls' := [some (vR (some o)), some (vR x1), some (vR x2), some (vI (x3 + (-1 : Int32))), none]) ?_ (And.intro rfl (And.intro rfl (And.intro rfl (And.intro rfl trivial))))
          exact ih _ _ _ _ _ hw
        · have hw := hw.2 c14
          refine tq_aload_n dMt_pairFromBelow_31 rfl rfl ?_
          refine tq_aload_n dMt_pairFromBelow_32 rfl rfl ?_
          refine tq_iload_n dMt_pairFromBelow_33 rfl rfl ?_
          refine tq_aload_n dMt_pairFromBelow_34 rfl rfl ?_
          obtain ⟨f15, hw⟩ := hw
          refine te_callV mv_Mt_likestOf (ci := 5) (dc := 3) (as := [vR x1, vI x3, vR x2]) (rest := []) kMt_176 rfl (Nat.le_of_ble_eq_true rfl) (Nat.le_of_ble_eq_true rfl) rfl rfl rfl f15 (Nat.le_of_ble_eq_true rfl) dMt_pairFromBelow_35 (s_Mt_likestOf hw) (fun _ _ hx => False.elim hx) (tk_i fun v17 h16 hw => ?_)
          refine tq_istore (ls' := [some (vR (some o)), some (vR x1), some (vR x2), some (vI x3), some (vI v17)]) dMt_pairFromBelow_38 (Nat.le_of_ble_eq_true rfl) rfl ?_
          refine tq_iload dMt_pairFromBelow_40 rfl ?_
          refine tq_iconst (v := (-1 : Int32)) dMt_pairFromBelow_42 tni_m1 ?_
          refine tq_icmpeq (tgt := 53) dMt_pairFromBelow_43 (by decide) (fun c18 => ?_) (fun c18 => ?_)
          · have hw := hw.1 c18
            refine tq_inc (k := (-1 : Int32)) (ls' := [some (vR (some o)), some (vR x1), some (vR x2), some (vI (x3 + (-1 : Int32))), some (vI v17)]) dMt_pairFromBelow_53 rfl tni_m1 (Nat.le_of_ble_eq_true rfl) rfl ?_
            refine tq_goto (tgt := 7) dMt_pairFromBelow_56 (by decide) ?_
            refine tpR.fo (ls' := [some (vR (some o)), some (vR x1), some (vR x2), some (vI (x3 + (-1 : Int32))), none]) ?_ (And.intro rfl (And.intro rfl (And.intro rfl (And.intro rfl trivial))))
            exact ih _ _ _ _ _ hw
          · have hw := hw.2 c18
            refine tq_aload_n dMt_pairFromBelow_46 rfl rfl ?_
            refine tq_iload_n dMt_pairFromBelow_47 rfl rfl ?_
            refine tq_iload dMt_pairFromBelow_48 rfl ?_
            obtain ⟨f19, hw⟩ := hw
            refine te_callV mv_Mt_pair (ci := 5) (dc := 1) (as := [vI x3, vI v17]) (rest := []) kMt_116 rfl (Nat.le_of_ble_eq_true rfl) (Nat.le_of_ble_eq_true rfl) rfl rfl rfl f19 (Nat.le_of_ble_eq_true rfl) dMt_pairFromBelow_50 (s_Mt_pair hw) (fun _ _ hx => False.elim hx) (tk_v fun h20 hw => ?_)
            refine tq_inc (k := (-1 : Int32)) (ls' := [some (vR (some o)), some (vR x1), some (vR x2), some (vI (x3 + (-1 : Int32))), some (vI v17)]) dMt_pairFromBelow_53 rfl tni_m1 (Nat.le_of_ble_eq_true rfl) rfl ?_
            refine tq_goto (tgt := 7) dMt_pairFromBelow_56 (by decide) ?_
            refine tpR.fo (ls' := [some (vR (some o)), some (vR x1), some (vR x2), some (vI (x3 + (-1 : Int32))), none]) ?_ (And.intro rfl (And.intro rfl (And.intro rfl (And.intro rfl trivial))))
            exact ih _ _ _ _ _ hw
theorem s_Mt_pairFromBelow {o : Nat} {x1 : Option Nat} {x2 : Option Nat} {h : tpH} {R : tpH → Prop} (hw : w_Mt_pairFromBelow o x1 x2 h R) : tpC Mt_pairFromBelow 4 [vR (some o), vR x1, vR x2] h (tpOv R (fun _ _ => False)) := by
  refine tpC_of mv_Mt_pairFromBelow.2.2.2.1 rfl rfl (Nat.le_of_ble_eq_true rfl) ?_
  show tpR Mt_pairFromBelow 4 h _ _ 0 [some (vR (some o)), some (vR x1), some (vR x2), none, none] [] h
  unfold w_Mt_pairFromBelow at hw
  refine tq_aload_n dMt_pairFromBelow_0 rfl rfl ?_
  obtain ⟨a1, e2, f3, hw⟩ := hw
  refine te_geti dMt_pairFromBelow_1 fMt_51 rfl e2 f3 ?_
  refine tq_iconst (v := (1 : Int32)) dMt_pairFromBelow_4 tni_1 ?_
  refine tq_isub dMt_pairFromBelow_5 ?_
  refine tq_istore_n (ls' := [some (vR (some o)), some (vR x1), some (vR x2), some (vI ((hI h a1 0) - (1 : Int32))), none]) dMt_pairFromBelow_6 rfl (Nat.le_of_ble_eq_true rfl) rfl ?_
  refine tpR.fo (ls' := [some (vR (some o)), some (vR x1), some (vR x2), some (vI ((hI h a1 0) - (1 : Int32))), none]) ?_ (And.intro rfl (And.intro rfl (And.intro rfl (And.intro rfl trivial))))
  obtain ⟨n, hw⟩ := hw
  exact s_Mt_pairFromBelow_7 n _ _ _ _ _ hw
/-! T$Matching.settle -/
theorem dMt_settle_0 : decode (mB Mt_settle) 0 = .ok (.aload_n 1, 1) := by decide +kernel
theorem dMt_settle_1 : decode (mB Mt_settle) 1 = .ok (.aload_n 0, 1) := by decide +kernel
theorem dMt_settle_2 : decode (mB Mt_settle) 2 = .ok (.getfield 44, 3) := by decide +kernel
theorem dMt_settle_5 : decode (mB Mt_settle) 5 = .ok (.if_acmp .ne 12, 3) := by decide +kernel
theorem dMt_settle_8 : decode (mB Mt_settle) 8 = .ok (.aload_n 2, 1) := by decide +kernel
theorem dMt_settle_9 : decode (mB Mt_settle) 9 = .ok (.aload_n 0, 1) := by decide +kernel
theorem dMt_settle_10 : decode (mB Mt_settle) 10 = .ok (.getfield 48, 3) := by decide +kernel
theorem dMt_settle_13 : decode (mB Mt_settle) 13 = .ok (.if_acmp .ne 4, 3) := by decide +kernel
theorem dMt_settle_16 : decode (mB Mt_settle) 16 = .ok (.return_, 1) := by decide +kernel
theorem dMt_settle_17 : decode (mB Mt_settle) 17 = .ok (.aload_n 0, 1) := by decide +kernel
theorem dMt_settle_18 : decode (mB Mt_settle) 18 = .ok (.aload_n 1, 1) := by decide +kernel
theorem dMt_settle_19 : decode (mB Mt_settle) 19 = .ok (.putfield 44, 3) := by decide +kernel
theorem dMt_settle_22 : decode (mB Mt_settle) 22 = .ok (.aload_n 0, 1) := by decide +kernel
theorem dMt_settle_23 : decode (mB Mt_settle) 23 = .ok (.aload_n 2, 1) := by decide +kernel
theorem dMt_settle_24 : decode (mB Mt_settle) 24 = .ok (.putfield 48, 3) := by decide +kernel
theorem dMt_settle_27 : decode (mB Mt_settle) 27 = .ok (.aload_n 0, 1) := by decide +kernel
theorem dMt_settle_28 : decode (mB Mt_settle) 28 = .ok (.getfield 14, 3) := by decide +kernel
theorem dMt_settle_31 : decode (mB Mt_settle) 31 = .ok (.aload_n 1, 1) := by decide +kernel
theorem dMt_settle_32 : decode (mB Mt_settle) 32 = .ok (.getfield 51, 3) := by decide +kernel
theorem dMt_settle_35 : decode (mB Mt_settle) 35 = .ok (.iconst (-1), 1) := by decide +kernel
theorem dMt_settle_36 : decode (mB Mt_settle) 36 = .ok (.invokevirtual 57, 3) := by decide +kernel
theorem dMt_settle_39 : decode (mB Mt_settle) 39 = .ok (.aload_n 0, 1) := by decide +kernel
theorem dMt_settle_40 : decode (mB Mt_settle) 40 = .ok (.getfield 20, 3) := by decide +kernel
theorem dMt_settle_43 : decode (mB Mt_settle) 43 = .ok (.aload_n 2, 1) := by decide +kernel
theorem dMt_settle_44 : decode (mB Mt_settle) 44 = .ok (.getfield 51, 3) := by decide +kernel
theorem dMt_settle_47 : decode (mB Mt_settle) 47 = .ok (.iconst (-1), 1) := by decide +kernel
theorem dMt_settle_48 : decode (mB Mt_settle) 48 = .ok (.invokevirtual 57, 3) := by decide +kernel
theorem dMt_settle_51 : decode (mB Mt_settle) 51 = .ok (.aload_n 0, 1) := by decide +kernel
theorem dMt_settle_52 : decode (mB Mt_settle) 52 = .ok (.aload_n 1, 1) := by decide +kernel
theorem dMt_settle_53 : decode (mB Mt_settle) 53 = .ok (.aload_n 2, 1) := by decide +kernel
theorem dMt_settle_54 : decode (mB Mt_settle) 54 = .ok (.invokevirtual 61, 3) := by decide +kernel
theorem dMt_settle_57 : decode (mB Mt_settle) 57 = .ok (.aload_n 0, 1) := by decide +kernel
theorem dMt_settle_58 : decode (mB Mt_settle) 58 = .ok (.invokevirtual 65, 3) := by decide +kernel
theorem dMt_settle_61 : decode (mB Mt_settle) 61 = .ok (.aload_n 0, 1) := by decide +kernel
theorem dMt_settle_62 : decode (mB Mt_settle) 62 = .ok (.aload_n 1, 1) := by decide +kernel
theorem dMt_settle_63 : decode (mB Mt_settle) 63 = .ok (.aload_n 2, 1) := by decide +kernel
theorem dMt_settle_64 : decode (mB Mt_settle) 64 = .ok (.invokevirtual 68, 3) := by decide +kernel
theorem dMt_settle_67 : decode (mB Mt_settle) 67 = .ok (.aload_n 0, 1) := by decide +kernel
theorem dMt_settle_68 : decode (mB Mt_settle) 68 = .ok (.getfield 36, 3) := by decide +kernel
theorem dMt_settle_71 : decode (mB Mt_settle) 71 = .ok (.invokevirtual 71, 3) := by decide +kernel
theorem dMt_settle_74 : decode (mB Mt_settle) 74 = .ok (.aload_n 0, 1) := by decide +kernel
theorem dMt_settle_75 : decode (mB Mt_settle) 75 = .ok (.aload_n 1, 1) := by decide +kernel
theorem dMt_settle_76 : decode (mB Mt_settle) 76 = .ok (.aload_n 0, 1) := by decide +kernel
theorem dMt_settle_77 : decode (mB Mt_settle) 77 = .ok (.getfield 14, 3) := by decide +kernel
theorem dMt_settle_80 : decode (mB Mt_settle) 80 = .ok (.aload_n 0, 1) := by decide +kernel
theorem dMt_settle_81 : decode (mB Mt_settle) 81 = .ok (.getfield 23, 3) := by decide +kernel
theorem dMt_settle_84 : decode (mB Mt_settle) 84 = .ok (.iconst 0, 1) := by decide +kernel
theorem dMt_settle_85 : decode (mB Mt_settle) 85 = .ok (.invokevirtual 76, 3) := by decide +kernel
theorem dMt_settle_88 : decode (mB Mt_settle) 88 = .ok (.aload_n 0, 1) := by decide +kernel
theorem dMt_settle_89 : decode (mB Mt_settle) 89 = .ok (.aload_n 2, 1) := by decide +kernel
theorem dMt_settle_90 : decode (mB Mt_settle) 90 = .ok (.aload_n 0, 1) := by decide +kernel
theorem dMt_settle_91 : decode (mB Mt_settle) 91 = .ok (.getfield 20, 3) := by decide +kernel
theorem dMt_settle_94 : decode (mB Mt_settle) 94 = .ok (.aload_n 0, 1) := by decide +kernel
theorem dMt_settle_95 : decode (mB Mt_settle) 95 = .ok (.getfield 26, 3) := by decide +kernel
theorem dMt_settle_98 : decode (mB Mt_settle) 98 = .ok (.sipush 300, 3) := by decide +kernel
theorem dMt_settle_101 : decode (mB Mt_settle) 101 = .ok (.invokevirtual 76, 3) := by decide +kernel
theorem dMt_settle_104 : decode (mB Mt_settle) 104 = .ok (.aload_n 0, 1) := by decide +kernel
theorem dMt_settle_105 : decode (mB Mt_settle) 105 = .ok (.aload_n 1, 1) := by decide +kernel
theorem dMt_settle_106 : decode (mB Mt_settle) 106 = .ok (.aload_n 2, 1) := by decide +kernel
theorem dMt_settle_107 : decode (mB Mt_settle) 107 = .ok (.invokevirtual 80, 3) := by decide +kernel
theorem dMt_settle_110 : decode (mB Mt_settle) 110 = .ok (.aload_n 0, 1) := by decide +kernel
theorem dMt_settle_111 : decode (mB Mt_settle) 111 = .ok (.aload_n 1, 1) := by decide +kernel
theorem dMt_settle_112 : decode (mB Mt_settle) 112 = .ok (.aload_n 2, 1) := by decide +kernel
theorem dMt_settle_113 : decode (mB Mt_settle) 113 = .ok (.iconst 1, 1) := by decide +kernel
theorem dMt_settle_114 : decode (mB Mt_settle) 114 = .ok (.invokevirtual 83, 3) := by decide +kernel
theorem dMt_settle_117 : decode (mB Mt_settle) 117 = .ok (.aload_n 0, 1) := by decide +kernel
theorem dMt_settle_118 : decode (mB Mt_settle) 118 = .ok (.aload_n 1, 1) := by decide +kernel
theorem dMt_settle_119 : decode (mB Mt_settle) 119 = .ok (.aload_n 2, 1) := by decide +kernel
theorem dMt_settle_120 : decode (mB Mt_settle) 120 = .ok (.iconst 0, 1) := by decide +kernel
theorem dMt_settle_121 : decode (mB Mt_settle) 121 = .ok (.invokevirtual 83, 3) := by decide +kernel
theorem dMt_settle_124 : decode (mB Mt_settle) 124 = .ok (.aload_n 0, 1) := by decide +kernel
theorem dMt_settle_125 : decode (mB Mt_settle) 125 = .ok (.aload_n 1, 1) := by decide +kernel
theorem dMt_settle_126 : decode (mB Mt_settle) 126 = .ok (.aload_n 2, 1) := by decide +kernel
theorem dMt_settle_127 : decode (mB Mt_settle) 127 = .ok (.invokevirtual 87, 3) := by decide +kernel
theorem dMt_settle_130 : decode (mB Mt_settle) 130 = .ok (.return_, 1) := by decide +kernel
def w_Mt_settle_17 (R : tpH → Prop) (o : Nat) (x1 : Option Nat) (x2 : Option Nat) (h : tpH) : Prop :=
  hT h o = 6 ∧ (∀ h2, h2 = sR h o 7 x1 → (∀ h4, h4 = sR h2 o 8 x2 → (∃ a6, x1 = some a6 ∧ hT h4 a6 = 12 ∧ (∃ a9, (hR h4 o 2) = some a9 ∧ hT h4 a9 = 8 ∧ (w_Ro_fill a9 (hI h4 a6 0) (-1 : Int32) h4 (fun h12 => hT h12 o = 6 ∧ (∃ a14, x2 = some a14 ∧ hT h12 a14 = 12 ∧ (∃ a17, (hR h12 o 3) = some a17 ∧ hT h12 a17 = 8 ∧ (w_Ro_fill a17 (hI h12 a14 0) (-1 : Int32) h12 (fun h20 => hT h20 o = 6 ∧ (w_Mt_pairSameMarks o x1 x2 h20 (fun h22 => hT h22 o = 6 ∧ (w_Mt_pairRoots o h22 (fun h24 => hT h24 o = 6 ∧ (w_Mt_pairIdentities o x1 x2 h24 (fun h26 => hT h26 o = 6 ∧ (∃ a28, (hR h26 o 1) = some a28 ∧ hT h26 a28 = 4 ∧ (w_Li_clear a28 h26 (fun h31 => hT h31 o = 6 ∧ (w_Mt_sortFree o x1 (hR h31 o 2) (hR h31 o 4) (0 : Int32) h31 (fun h33 => hT h33 o = 6 ∧ (w_Mt_sortFree o x2 (hR h33 o 3) (hR h33 o 5) (300 : Int32) h33 (fun h35 => hT h35 o = 6 ∧ (w_Mt_pairAlike o x1 x2 h35 (fun h37 => hT h37 o = 6 ∧ (w_Mt_pairFromAbove o x1 x2 (1 : Int32) h37 (fun h39 => hT h39 o = 6 ∧ (w_Mt_pairFromAbove o x1 x2 (0 : Int32) h39 (fun h41 => hT h41 o = 6 ∧ (w_Mt_pairFromBelow o x1 x2 h41 (fun h43 => R h43)))))))))))))))))))))))))))))))
def w_Mt_settle (o : Nat) (x1 : Option Nat) (x2 : Option Nat) (h : tpH) (R : tpH → Prop) : Prop :=
  hT h o = 6 ∧ ((¬ x1 = (hR h o 7) → (w_Mt_settle_17 R o x1 x2 h)) ∧ (x1 = (hR h o 7) → ((¬ x2 = (hR h o 8) → (w_Mt_settle_17 R o x1 x2 h)) ∧ (x2 = (hR h o 8) → (R h)))))
theorem s_Mt_settle_17 {h0 : tpH} {av : List tpV} {R : tpH → Prop} : ∀ (o : Nat) (x1 : Option Nat) (x2 : Option Nat) (h : tpH), w_Mt_settle_17 R o x1 x2 h → tpR Mt_settle 5 h0 av (tpOv R (fun _ _ => False)) 17 [some (vR (some o)), some (vR x1), some (vR x2)] [] h := by
  intro o x1 x2 h hw
  unfold w_Mt_settle_17 at hw
  refine tq_aload_n dMt_settle_17 rfl rfl ?_
  refine tq_aload_n dMt_settle_18 rfl rfl ?_
  obtain ⟨f1, hw⟩ := hw
  refine te_putr dMt_settle_19 pMt_44 rfl rfl rfl f1 (fun h2 e3 => ?_)
  have hw := hw h2 e3
  refine tq_aload_n dMt_settle_22 rfl rfl ?_
  refine tq_aload_n dMt_settle_23 rfl rfl ?_
  refine te_putr dMt_settle_24 pMt_48 rfl rfl rfl (by rw [e3]; exact f1) (fun h4 e5 => ?_)
  have hw := hw h4 e5
  refine tq_aload_n dMt_settle_27 rfl rfl ?_
  refine te_getr dMt_settle_28 fMt_14 rfl rfl (by rw [e5]; exact (by rw [e3]; exact f1)) ?_
  refine tq_aload_n dMt_settle_31 rfl rfl ?_
  obtain ⟨a6, e7, f8, hw⟩ := hw
  refine te_geti dMt_settle_32 fMt_51 rfl e7 f8 ?_
  refine tq_iconst (v := (-1 : Int32)) dMt_settle_35 tni_m1 ?_
  obtain ⟨a9, e10, f11, hw⟩ := hw
  refine te_callV mv_Ro_fill (ci := 7) (dc := 0) (as := [vI (hI h4 a6 0), vI (-1 : Int32)]) (rest := []) kMt_57 rfl (Nat.le_of_ble_eq_true rfl) (Nat.le_of_ble_eq_true rfl) rfl rfl e10 f11 (Nat.le_of_ble_eq_true rfl) dMt_settle_36 (s_Ro_fill hw) (fun _ _ hx => False.elim hx) (tk_v fun h12 hw => ?_)
  refine tq_aload_n dMt_settle_39 rfl rfl ?_
  obtain ⟨f13, hw⟩ := hw
  refine te_getr dMt_settle_40 fMt_20 rfl rfl f13 ?_
  refine tq_aload_n dMt_settle_43 rfl rfl ?_
  obtain ⟨a14, e15, f16, hw⟩ := hw
  refine te_geti dMt_settle_44 fMt_51 rfl e15 f16 ?_
  refine tq_iconst (v := (-1 : Int32)) dMt_settle_47 tni_m1 ?_
  obtain ⟨a17, e18, f19, hw⟩ := hw
  refine te_callV mv_Ro_fill (ci := 7) (dc := 0) (as := [vI (hI h12 a14 0), vI (-1 : Int32)]) (rest := []) kMt_57 rfl (Nat.le_of_ble_eq_true rfl) (Nat.le_of_ble_eq_true rfl) rfl rfl e18 f19 (Nat.le_of_ble_eq_true rfl) dMt_settle_48 (s_Ro_fill hw) (fun _ _ hx => False.elim hx) (tk_v fun h20 hw => ?_)
  refine tq_aload_n dMt_settle_51 rfl rfl ?_
  refine tq_aload_n dMt_settle_52 rfl rfl ?_
  refine tq_aload_n dMt_settle_53 rfl rfl ?_
  obtain ⟨f21, hw⟩ := hw
  refine te_callV mv_Mt_pairSameMarks (ci := 5) (dc := 2) (as := [vR x1, vR x2]) (rest := []) kMt_61 rfl (Nat.le_of_ble_eq_true rfl) (Nat.le_of_ble_eq_true rfl) rfl rfl rfl f21 (Nat.le_of_ble_eq_true rfl) dMt_settle_54 (s_Mt_pairSameMarks hw) (fun _ _ hx => False.elim hx) (tk_v fun h22 hw => ?_)
  refine tq_aload_n dMt_settle_57 rfl rfl ?_
  obtain ⟨f23, hw⟩ := hw
  refine te_callV mv_Mt_pairRoots (ci := 5) (dc := 2) (as := []) (rest := []) kMt_65 rfl (Nat.le_of_ble_eq_true rfl) (Nat.le_of_ble_eq_true rfl) rfl rfl rfl f23 (Nat.le_of_ble_eq_true rfl) dMt_settle_58 (s_Mt_pairRoots hw) (fun _ _ hx => False.elim hx) (tk_v fun h24 hw => ?_)
  refine tq_aload_n dMt_settle_61 rfl rfl ?_
  refine tq_aload_n dMt_settle_62 rfl rfl ?_
  refine tq_aload_n dMt_settle_63 rfl rfl ?_
  obtain ⟨f25, hw⟩ := hw
  refine te_callV mv_Mt_pairIdentities (ci := 5) (dc := 4) (as := [vR x1, vR x2]) (rest := []) kMt_68 rfl (Nat.le_of_ble_eq_true rfl) (Nat.le_of_ble_eq_true rfl) rfl rfl rfl f25 (Nat.le_of_ble_eq_true rfl) dMt_settle_64 (s_Mt_pairIdentities hw) (fun _ _ hx => False.elim hx) (tk_v fun h26 hw => ?_)
  refine tq_aload_n dMt_settle_67 rfl rfl ?_
  obtain ⟨f27, hw⟩ := hw
  refine te_getr dMt_settle_68 fMt_36 rfl rfl f27 ?_
  obtain ⟨a28, e29, f30, hw⟩ := hw
  refine te_callV mv_Li_clear (ci := 3) (dc := 0) (as := []) (rest := []) kMt_71 rfl (Nat.le_of_ble_eq_true rfl) (Nat.le_of_ble_eq_true rfl) rfl rfl e29 f30 (Nat.le_of_ble_eq_true rfl) dMt_settle_71 (s_Li_clear hw) (fun _ _ hx => False.elim hx) (tk_v fun h31 hw => ?_)
  refine tq_aload_n dMt_settle_74 rfl rfl ?_
  refine tq_aload_n dMt_settle_75 rfl rfl ?_
  refine tq_aload_n dMt_settle_76 rfl rfl ?_
  obtain ⟨f32, hw⟩ := hw
  refine te_getr dMt_settle_77 fMt_14 rfl rfl f32 ?_
  refine tq_aload_n dMt_settle_80 rfl rfl ?_
  refine te_getr dMt_settle_81 fMt_23 rfl rfl f32 ?_
  refine tq_iconst (v := (0 : Int32)) dMt_settle_84 tni_0 ?_
  refine te_callV mv_Mt_sortFree (ci := 5) (dc := 4) (as := [vR x1, vR (hR h31 o 2), vR (hR h31 o 4), vI (0 : Int32)]) (rest := []) kMt_76 rfl (Nat.le_of_ble_eq_true rfl) (Nat.le_of_ble_eq_true rfl) rfl rfl rfl f32 (Nat.le_of_ble_eq_true rfl) dMt_settle_85 (s_Mt_sortFree hw) (fun _ _ hx => False.elim hx) (tk_v fun h33 hw => ?_)
  refine tq_aload_n dMt_settle_88 rfl rfl ?_
  refine tq_aload_n dMt_settle_89 rfl rfl ?_
  refine tq_aload_n dMt_settle_90 rfl rfl ?_
  obtain ⟨f34, hw⟩ := hw
  refine te_getr dMt_settle_91 fMt_20 rfl rfl f34 ?_
  refine tq_aload_n dMt_settle_94 rfl rfl ?_
  refine te_getr dMt_settle_95 fMt_26 rfl rfl f34 ?_
  refine tq_sipush (v := (300 : Int32)) dMt_settle_98 tns_300 ?_
  refine te_callV mv_Mt_sortFree (ci := 5) (dc := 4) (as := [vR x2, vR (hR h33 o 3), vR (hR h33 o 5), vI (300 : Int32)]) (rest := []) kMt_76 rfl (Nat.le_of_ble_eq_true rfl) (Nat.le_of_ble_eq_true rfl) rfl rfl rfl f34 (Nat.le_of_ble_eq_true rfl) dMt_settle_101 (s_Mt_sortFree hw) (fun _ _ hx => False.elim hx) (tk_v fun h35 hw => ?_)
  refine tq_aload_n dMt_settle_104 rfl rfl ?_
  refine tq_aload_n dMt_settle_105 rfl rfl ?_
  refine tq_aload_n dMt_settle_106 rfl rfl ?_
  obtain ⟨f36, hw⟩ := hw
  refine te_callV mv_Mt_pairAlike (ci := 5) (dc := 4) (as := [vR x1, vR x2]) (rest := []) kMt_80 rfl (Nat.le_of_ble_eq_true rfl) (Nat.le_of_ble_eq_true rfl) rfl rfl rfl f36 (Nat.le_of_ble_eq_true rfl) dMt_settle_107 (s_Mt_pairAlike hw) (fun _ _ hx => False.elim hx) (tk_v fun h37 hw => ?_)
  refine tq_aload_n dMt_settle_110 rfl rfl ?_
  refine tq_aload_n dMt_settle_111 rfl rfl ?_
  refine tq_aload_n dMt_settle_112 rfl rfl ?_
  refine tq_iconst (v := (1 : Int32)) dMt_settle_113 tni_1 ?_
  obtain ⟨f38, hw⟩ := hw
  refine te_callV mv_Mt_pairFromAbove (ci := 5) (dc := 4) (as := [vR x1, vR x2, vI (1 : Int32)]) (rest := []) kMt_83 rfl (Nat.le_of_ble_eq_true rfl) (Nat.le_of_ble_eq_true rfl) rfl rfl rfl f38 (Nat.le_of_ble_eq_true rfl) dMt_settle_114 (s_Mt_pairFromAbove hw) (fun _ _ hx => False.elim hx) (tk_v fun h39 hw => ?_)
  refine tq_aload_n dMt_settle_117 rfl rfl ?_
  refine tq_aload_n dMt_settle_118 rfl rfl ?_
  refine tq_aload_n dMt_settle_119 rfl rfl ?_
  refine tq_iconst (v := (0 : Int32)) dMt_settle_120 tni_0 ?_
  obtain ⟨f40, hw⟩ := hw
  refine te_callV mv_Mt_pairFromAbove (ci := 5) (dc := 4) (as := [vR x1, vR x2, vI (0 : Int32)]) (rest := []) kMt_83 rfl (Nat.le_of_ble_eq_true rfl) (Nat.le_of_ble_eq_true rfl) rfl rfl rfl f40 (Nat.le_of_ble_eq_true rfl) dMt_settle_121 (s_Mt_pairFromAbove hw) (fun _ _ hx => False.elim hx) (tk_v fun h41 hw => ?_)
  refine tq_aload_n dMt_settle_124 rfl rfl ?_
  refine tq_aload_n dMt_settle_125 rfl rfl ?_
  refine tq_aload_n dMt_settle_126 rfl rfl ?_
  obtain ⟨f42, hw⟩ := hw
  refine te_callV mv_Mt_pairFromBelow (ci := 5) (dc := 4) (as := [vR x1, vR x2]) (rest := []) kMt_87 rfl (Nat.le_of_ble_eq_true rfl) (Nat.le_of_ble_eq_true rfl) rfl rfl rfl f42 (Nat.le_of_ble_eq_true rfl) dMt_settle_127 (s_Mt_pairFromBelow hw) (fun _ _ hx => False.elim hx) (tk_v fun h43 hw => ?_)
  exact tq_vret rfl dMt_settle_130 hw
theorem s_Mt_settle {o : Nat} {x1 : Option Nat} {x2 : Option Nat} {h : tpH} {R : tpH → Prop} (hw : w_Mt_settle o x1 x2 h R) : tpC Mt_settle 5 [vR (some o), vR x1, vR x2] h (tpOv R (fun _ _ => False)) := by
  refine tpC_of mv_Mt_settle.2.2.2.1 rfl rfl (Nat.le_of_ble_eq_true rfl) ?_
  show tpR Mt_settle 5 h _ _ 0 [some (vR (some o)), some (vR x1), some (vR x2)] [] h
  unfold w_Mt_settle at hw
  refine tq_aload_n dMt_settle_0 rfl rfl ?_
  refine tq_aload_n dMt_settle_1 rfl rfl ?_
  obtain ⟨f1, hw⟩ := hw
  refine te_getr dMt_settle_2 fMt_44 rfl rfl f1 ?_
  refine tq_acmpne (tgt := 17) dMt_settle_5 (by decide) (fun c2 => ?_) (fun c2 => ?_)
  · have hw := hw.1 c2
    refine tpR.fo (ls' := [some (vR (some o)), some (vR x1), some (vR x2)]) ?_ (And.intro rfl (And.intro rfl (And.intro rfl trivial)))
    exact s_Mt_settle_17 _ _ _ _ hw
  · have hw := hw.2 c2
    refine tq_aload_n dMt_settle_8 rfl rfl ?_
    refine tq_aload_n dMt_settle_9 rfl rfl ?_
    refine te_getr dMt_settle_10 fMt_48 rfl rfl f1 ?_
    refine tq_acmpne (tgt := 17) dMt_settle_13 (by decide) (fun c3 => ?_) (fun c3 => ?_)
    · have hw := hw.1 c3
      refine tpR.fo (ls' := [some (vR (some o)), some (vR x1), some (vR x2)]) ?_ (And.intro rfl (And.intro rfl (And.intro rfl trivial)))
      exact s_Mt_settle_17 _ _ _ _ hw
    · have hw := hw.2 c3
      exact tq_vret rfl dMt_settle_16 hw
/-! T$Matching.likenessOf -/
theorem dMt_likenessOf_0 : decode (mB Mt_likenessOf) 0 = .ok (.aload_n 0, 1) := by decide +kernel
theorem dMt_likenessOf_1 : decode (mB Mt_likenessOf) 1 = .ok (.aload_n 1, 1) := by decide +kernel
theorem dMt_likenessOf_2 : decode (mB Mt_likenessOf) 2 = .ok (.iload_n 2, 1) := by decide +kernel
theorem dMt_likenessOf_3 : decode (mB Mt_likenessOf) 3 = .ok (.aload_n 3, 1) := by decide +kernel
theorem dMt_likenessOf_4 : decode (mB Mt_likenessOf) 4 = .ok (.invokevirtual 90, 3) := by decide +kernel
theorem dMt_likenessOf_7 : decode (mB Mt_likenessOf) 7 = .ok (.aload_n 0, 1) := by decide +kernel
theorem dMt_likenessOf_8 : decode (mB Mt_likenessOf) 8 = .ok (.aload_n 1, 1) := by decide +kernel
theorem dMt_likenessOf_9 : decode (mB Mt_likenessOf) 9 = .ok (.iload_n 2, 1) := by decide +kernel
theorem dMt_likenessOf_10 : decode (mB Mt_likenessOf) 10 = .ok (.invokevirtual 94, 3) := by decide +kernel
theorem dMt_likenessOf_13 : decode (mB Mt_likenessOf) 13 = .ok (.aload_n 3, 1) := by decide +kernel
theorem dMt_likenessOf_14 : decode (mB Mt_likenessOf) 14 = .ok (.iload 4, 2) := by decide +kernel
theorem dMt_likenessOf_16 : decode (mB Mt_likenessOf) 16 = .ok (.invokevirtual 97, 3) := by decide +kernel
theorem dMt_likenessOf_19 : decode (mB Mt_likenessOf) 19 = .ok (.freturn, 1) := by decide +kernel
def w_Mt_likenessOf (o : Nat) (x1 : Option Nat) (x2 : Int32) (x3 : Option Nat) (x4 : Int32) (h : tpH) (R : UInt32 → tpH → Prop) : Prop :=
  hT h o = 6 ∧ (w_Mt_countHits o x1 x2 x3 h (fun h2 => ∃ a3, x1 = some a3 ∧ hT h2 a3 = 12 ∧ (w_Tr_below a3 x2 h2 (fun v7 h6 => hT h6 o = 6 ∧ (w_Mt_likenessByHits o v7 x3 x4 h6 (fun v10 h9 => R v10 h9))))))
theorem s_Mt_likenessOf {o : Nat} {x1 : Option Nat} {x2 : Int32} {x3 : Option Nat} {x4 : Int32} {h : tpH} {R : UInt32 → tpH → Prop} (hw : w_Mt_likenessOf o x1 x2 x3 x4 h R) : tpC Mt_likenessOf 3 [vR (some o), vR x1, vI x2, vR x3, vI x4] h (tpOf R (fun _ _ => False)) := by
  refine tpC_of mv_Mt_likenessOf.2.2.2.1 rfl rfl (Nat.le_of_ble_eq_true rfl) ?_
  show tpR Mt_likenessOf 3 h _ _ 0 [some (vR (some o)), some (vR x1), some (vI x2), some (vR x3), some (vI x4)] [] h
  unfold w_Mt_likenessOf at hw
  refine tq_aload_n dMt_likenessOf_0 rfl rfl ?_
  refine tq_aload_n dMt_likenessOf_1 rfl rfl ?_
  refine tq_iload_n dMt_likenessOf_2 rfl rfl ?_
  refine tq_aload_n dMt_likenessOf_3 rfl rfl ?_
  obtain ⟨f1, hw⟩ := hw
  refine te_callV mv_Mt_countHits (ci := 5) (dc := 2) (as := [vR x1, vI x2, vR x3]) (rest := []) kMt_90 rfl (Nat.le_of_ble_eq_true rfl) (Nat.le_of_ble_eq_true rfl) rfl rfl rfl f1 (Nat.le_of_ble_eq_true rfl) dMt_likenessOf_4 (s_Mt_countHits hw) (fun _ _ hx => False.elim hx) (tk_v fun h2 hw => ?_)
  refine tq_aload_n dMt_likenessOf_7 rfl rfl ?_
  refine tq_aload_n dMt_likenessOf_8 rfl rfl ?_
  refine tq_iload_n dMt_likenessOf_9 rfl rfl ?_
  obtain ⟨a3, e4, f5, hw⟩ := hw
  refine te_callV mv_Tr_below (ci := 11) (dc := 1) (as := [vI x2]) (rest := [vR (some o)]) kMt_94 rfl (Nat.le_of_ble_eq_true rfl) (Nat.le_of_ble_eq_true rfl) rfl rfl e4 f5 (Nat.le_of_ble_eq_true rfl) dMt_likenessOf_10 (s_Tr_below hw) (fun _ _ hx => False.elim hx) (tk_i fun v7 h6 hw => ?_)
  refine tq_aload_n dMt_likenessOf_13 rfl rfl ?_
  refine tq_iload dMt_likenessOf_14 rfl ?_
  obtain ⟨f8, hw⟩ := hw
  refine te_callV mv_Mt_likenessByHits (ci := 5) (dc := 2) (as := [vI v7, vR x3, vI x4]) (rest := []) kMt_97 rfl (Nat.le_of_ble_eq_true rfl) (Nat.le_of_ble_eq_true rfl) rfl rfl rfl f8 (Nat.le_of_ble_eq_true rfl) dMt_likenessOf_16 (s_Mt_likenessByHits hw) (fun _ _ hx => False.elim hx) (tk_f fun v10 h9 hw => ?_)
  exact tq_fret rfl dMt_likenessOf_19 hw
