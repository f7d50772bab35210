/-! T$Finder.<init> -/
theorem dFi_init_0 : decode (mB Fi_init) 0 = .ok (.aload_n 0, 1) := by decide +kernel
theorem dFi_init_1 : decode (mB Fi_init) 1 = .ok (.invokespecial 3, 3) := by decide +kernel
theorem dFi_init_4 : decode (mB Fi_init) 4 = .ok (.aload_n 0, 1) := by decide +kernel
theorem dFi_init_5 : decode (mB Fi_init) 5 = .ok (.new 9, 3) := by decide +kernel
theorem dFi_init_8 : decode (mB Fi_init) 8 = .ok (.dup, 1) := by decide +kernel
theorem dFi_init_9 : decode (mB Fi_init) 9 = .ok (.sipush 300, 3) := by decide +kernel
theorem dFi_init_12 : decode (mB Fi_init) 12 = .ok (.invokespecial 11, 3) := by decide +kernel
theorem dFi_init_15 : decode (mB Fi_init) 15 = .ok (.putfield 14, 3) := by decide +kernel
theorem dFi_init_18 : decode (mB Fi_init) 18 = .ok (.aload_n 0, 1) := by decide +kernel
theorem dFi_init_19 : decode (mB Fi_init) 19 = .ok (.new 9, 3) := by decide +kernel
theorem dFi_init_22 : decode (mB Fi_init) 22 = .ok (.dup, 1) := by decide +kernel
theorem dFi_init_23 : decode (mB Fi_init) 23 = .ok (.sipush 300, 3) := by decide +kernel
theorem dFi_init_26 : decode (mB Fi_init) 26 = .ok (.invokespecial 11, 3) := by decide +kernel
theorem dFi_init_29 : decode (mB Fi_init) 29 = .ok (.putfield 20, 3) := by decide +kernel
theorem dFi_init_32 : decode (mB Fi_init) 32 = .ok (.aload_n 0, 1) := by decide +kernel
theorem dFi_init_33 : decode (mB Fi_init) 33 = .ok (.new 9, 3) := by decide +kernel
theorem dFi_init_36 : decode (mB Fi_init) 36 = .ok (.dup, 1) := by decide +kernel
theorem dFi_init_37 : decode (mB Fi_init) 37 = .ok (.sipush 300, 3) := by decide +kernel
theorem dFi_init_40 : decode (mB Fi_init) 40 = .ok (.invokespecial 11, 3) := by decide +kernel
theorem dFi_init_43 : decode (mB Fi_init) 43 = .ok (.putfield 23, 3) := by decide +kernel
theorem dFi_init_46 : decode (mB Fi_init) 46 = .ok (.aload_n 0, 1) := by decide +kernel
theorem dFi_init_47 : decode (mB Fi_init) 47 = .ok (.new 26, 3) := by decide +kernel
theorem dFi_init_50 : decode (mB Fi_init) 50 = .ok (.dup, 1) := by decide +kernel
theorem dFi_init_51 : decode (mB Fi_init) 51 = .ok (.iconst (-1), 1) := by decide +kernel
theorem dFi_init_52 : decode (mB Fi_init) 52 = .ok (.iconst (-1), 1) := by decide +kernel
theorem dFi_init_53 : decode (mB Fi_init) 53 = .ok (.iconst (-1), 1) := by decide +kernel
theorem dFi_init_54 : decode (mB Fi_init) 54 = .ok (.invokespecial 28, 3) := by decide +kernel
theorem dFi_init_57 : decode (mB Fi_init) 57 = .ok (.putfield 31, 3) := by decide +kernel
theorem dFi_init_60 : decode (mB Fi_init) 60 = .ok (.aload_n 0, 1) := by decide +kernel
theorem dFi_init_61 : decode (mB Fi_init) 61 = .ok (.aload_n 1, 1) := by decide +kernel
theorem dFi_init_62 : decode (mB Fi_init) 62 = .ok (.putfield 35, 3) := by decide +kernel
theorem dFi_init_65 : decode (mB Fi_init) 65 = .ok (.aload_n 0, 1) := by decide +kernel
theorem dFi_init_66 : decode (mB Fi_init) 66 = .ok (.aload_n 2, 1) := by decide +kernel
theorem dFi_init_67 : decode (mB Fi_init) 67 = .ok (.putfield 39, 3) := by decide +kernel
theorem dFi_init_70 : decode (mB Fi_init) 70 = .ok (.aload_n 0, 1) := by decide +kernel
theorem dFi_init_71 : decode (mB Fi_init) 71 = .ok (.aload_n 3, 1) := by decide +kernel
theorem dFi_init_72 : decode (mB Fi_init) 72 = .ok (.putfield 43, 3) := by decide +kernel
theorem dFi_init_75 : decode (mB Fi_init) 75 = .ok (.return_, 1) := by decide +kernel
def w_Fi_init (o : Nat) (x1 : Option Nat) (x2 : Option Nat) (x3 : Option Nat) (h : tpH) (R : tpH → Prop) : Prop :=
  ∀ a1 h2, a1 = hZ h → h2 = nC h 8 0 2 → (w_Ro_init a1 (300 : Int32) h2 (fun h5 => hT h5 o = 2 ∧ (∀ h7, h7 = sR h5 o 3 (some a1) → (∀ a9 h10, a9 = hZ h7 → h10 = nC h7 8 0 2 → (w_Ro_init a9 (300 : Int32) h10 (fun h13 => hT h13 o = 2 ∧ (∀ h15, h15 = sR h13 o 4 (some a9) → (∀ a17 h18, a17 = hZ h15 → h18 = nC h15 8 0 2 → (w_Ro_init a17 (300 : Int32) h18 (fun h21 => hT h21 o = 2 ∧ (∀ h23, h23 = sR h21 o 5 (some a17) → (∀ a25 h26, a25 = hZ h23 → h26 = nC h23 10 0 3 → (w_Sp_init a25 (-1 : Int32) (-1 : Int32) (-1 : Int32) h26 (fun h29 => hT h29 o = 2 ∧ (∀ h31, h31 = sR h29 o 6 (some a25) → (∀ h33, h33 = sR h31 o 0 x1 → (∀ h35, h35 = sR h33 o 1 x2 → (∀ h37, h37 = sR h35 o 2 x3 → (R h37)))))))))))))))))))
theorem s_Fi_init {o : Nat} {x1 : Option Nat} {x2 : Option Nat} {x3 : Option Nat} {h : tpH} {R : tpH → Prop} (hw : w_Fi_init o x1 x2 x3 h R) : tpC Fi_init 2 [vR (some o), vR x1, vR x2, vR x3] h (tpOv R (fun _ _ => False)) := by
  refine tpC_of mi_Fi_init.2.2.2.1 rfl rfl (Nat.le_of_ble_eq_true rfl) ?_
  show tpR Fi_init 2 h _ _ 0 [some (vR (some o)), some (vR x1), some (vR x2), some (vR x3)] [] h
  unfold w_Fi_init at hw
  refine tq_aload_n dFi_init_0 rfl rfl ?_
  refine tq_obj oFi_3 (Nat.le_of_ble_eq_true rfl) (Nat.le_of_ble_eq_true rfl) dFi_init_1 ?_
  refine tq_aload_n dFi_init_4 rfl rfl ?_
  refine tq_new (ci := 7) cFi_9 ti_7 rfl dFi_init_5 (fun a1 h2 e3 e4 => ?_)
  have hw := hw a1 h2 e3 e4
  refine tq_dup dFi_init_8 rfl ?_
  refine tq_sipush (v := (300 : Int32)) dFi_init_9 tns_300 ?_
  refine te_init mi_Ro_init (dc := 1) (as := [vI (300 : Int32)]) (rest := [vR (some a1), vR (some o)]) (Or.inl kFi_11) (Nat.le_of_ble_eq_true rfl) (Nat.le_of_ble_eq_true rfl) rfl rfl rfl (Nat.le_of_ble_eq_true rfl) dFi_init_12 (s_Ro_init hw) (fun _ _ hx => hx) (tk_v fun h5 hw => ?_)
  obtain ⟨f6, hw⟩ := hw
  refine te_putr dFi_init_15 pFi_14 rfl rfl rfl f6 (fun h7 e8 => ?_)
  have hw := hw h7 e8
  refine tq_aload_n dFi_init_18 rfl rfl ?_
  refine tq_new (ci := 7) cFi_9 ti_7 rfl dFi_init_19 (fun a9 h10 e11 e12 => ?_)
  have hw := hw a9 h10 e11 e12
  refine tq_dup dFi_init_22 rfl ?_
  refine tq_sipush (v := (300 : Int32)) dFi_init_23 tns_300 ?_
  refine te_init mi_Ro_init (dc := 1) (as := [vI (300 : Int32)]) (rest := [vR (some a9), vR (some o)]) (Or.inl kFi_11) (Nat.le_of_ble_eq_true rfl) (Nat.le_of_ble_eq_true rfl) rfl rfl rfl (Nat.le_of_ble_eq_true rfl) dFi_init_26 (s_Ro_init hw) (fun _ _ hx => hx) (tk_v fun h13 hw => ?_)
  obtain ⟨f14, hw⟩ := hw
  refine te_putr dFi_init_29 pFi_20 rfl rfl rfl f14 (fun h15 e16 => ?_)
  have hw := hw h15 e16
  refine tq_aload_n dFi_init_32 rfl rfl ?_
  refine tq_new (ci := 7) cFi_9 ti_7 rfl dFi_init_33 (fun a17 h18 e19 e20 => ?_)
  have hw := hw a17 h18 e19 e20
  refine tq_dup dFi_init_36 rfl ?_
  refine tq_sipush (v := (300 : Int32)) dFi_init_37 tns_300 ?_
  refine te_init mi_Ro_init (dc := 1) (as := [vI (300 : Int32)]) (rest := [vR (some a17), vR (some o)]) (Or.inl kFi_11) (Nat.le_of_ble_eq_true rfl) (Nat.le_of_ble_eq_true rfl) rfl rfl rfl (Nat.le_of_ble_eq_true rfl) dFi_init_40 (s_Ro_init hw) (fun _ _ hx => hx) (tk_v fun h21 hw => ?_)
  obtain ⟨f22, hw⟩ := hw
  refine te_putr dFi_init_43 pFi_23 rfl rfl rfl f22 (fun h23 e24 => ?_)
  have hw := hw h23 e24
  refine tq_aload_n dFi_init_46 rfl rfl ?_
  refine tq_new (ci := 9) cFi_26 ti_9 rfl dFi_init_47 (fun a25 h26 e27 e28 => ?_)
  have hw := hw a25 h26 e27 e28
  refine tq_dup dFi_init_50 rfl ?_
  refine tq_iconst (v := (-1 : Int32)) dFi_init_51 tni_m1 ?_
  refine tq_iconst (v := (-1 : Int32)) dFi_init_52 tni_m1 ?_
  refine tq_iconst (v := (-1 : Int32)) dFi_init_53 tni_m1 ?_
  refine te_init mi_Sp_init (dc := 1) (as := [vI (-1 : Int32), vI (-1 : Int32), vI (-1 : Int32)]) (rest := [vR (some a25), vR (some o)]) (Or.inl kFi_28) (Nat.le_of_ble_eq_true rfl) (Nat.le_of_ble_eq_true rfl) rfl rfl rfl (Nat.le_of_ble_eq_true rfl) dFi_init_54 (s_Sp_init hw) (fun _ _ hx => hx) (tk_v fun h29 hw => ?_)
  obtain ⟨f30, hw⟩ := hw
  refine te_putr dFi_init_57 pFi_31 rfl rfl rfl f30 (fun h31 e32 => ?_)
  have hw := hw h31 e32
  refine tq_aload_n dFi_init_60 rfl rfl ?_
  refine tq_aload_n dFi_init_61 rfl rfl ?_
  refine te_putr dFi_init_62 pFi_35 rfl rfl rfl (by rw [e32]; exact f30) (fun h33 e34 => ?_)
  have hw := hw h33 e34
  refine tq_aload_n dFi_init_65 rfl rfl ?_
  refine tq_aload_n dFi_init_66 rfl rfl ?_
  refine te_putr dFi_init_67 pFi_39 rfl rfl rfl (by rw [e34]; exact (by rw [e32]; exact f30)) (fun h35 e36 => ?_)
  have hw := hw h35 e36
  refine tq_aload_n dFi_init_70 rfl rfl ?_
  refine tq_aload_n dFi_init_71 rfl rfl ?_
  refine te_putr dFi_init_72 pFi_43 rfl rfl rfl (by rw [e36]; exact (by rw [e34]; exact (by rw [e32]; exact f30))) (fun h37 e38 => ?_)
  have hw := hw h37 e38
  exact tq_vret rfl dFi_init_75 hw
/-! T$Script.<init> -/
theorem dSc_init_0 : decode (mB Sc_init) 0 = .ok (.aload_n 0, 1) := by decide +kernel
theorem dSc_init_1 : decode (mB Sc_init) 1 = .ok (.invokespecial 1, 3) := by decide +kernel
theorem dSc_init_4 : decode (mB Sc_init) 4 = .ok (.aload_n 0, 1) := by decide +kernel
theorem dSc_init_5 : decode (mB Sc_init) 5 = .ok (.iload_n 1, 1) := by decide +kernel
theorem dSc_init_6 : decode (mB Sc_init) 6 = .ok (.ifCond .le 7, 3) := by decide +kernel
theorem dSc_init_9 : decode (mB Sc_init) 9 = .ok (.iload_n 1, 1) := by decide +kernel
theorem dSc_init_10 : decode (mB Sc_init) 10 = .ok (.goto 4, 3) := by decide +kernel
theorem dSc_init_13 : decode (mB Sc_init) 13 = .ok (.iconst 0, 1) := by decide +kernel
theorem dSc_init_14 : decode (mB Sc_init) 14 = .ok (.anewarray 7, 3) := by decide +kernel
theorem dSc_init_17 : decode (mB Sc_init) 17 = .ok (.putfield 9, 3) := by decide +kernel
theorem dSc_init_20 : decode (mB Sc_init) 20 = .ok (.return_, 1) := by decide +kernel
def w_Sc_init_14 (R : tpH → Prop) (t0 : Int32) (t1 : Option Nat) (h : tpH) : Prop :=
  ¬ t0 < 0 ∧ t0.toNatClampNeg ≤ 1000000 ∧ (∀ a3 h4, a3 = hZ h → h4 = nC h 20 (t0.toNatClampNeg) (t0.toNatClampNeg) → (∃ a7, t1 = some a7 ∧ hT h4 a7 = 9 ∧ (∀ h10, h10 = sR h4 a7 0 (some a3) → (R h10))))
def w_Sc_init (o : Nat) (x1 : Int32) (h : tpH) (R : tpH → Prop) : Prop :=
  (x1 ≤ 0 → (w_Sc_init_14 R (0 : Int32) (some o) h)) ∧ (¬ x1 ≤ 0 → (w_Sc_init_14 R x1 (some o) h))
theorem s_Sc_init_14 {h0 : tpH} {av : List tpV} {R : tpH → Prop} : ∀ (t0 : Int32) (t1 : Option Nat) (h : tpH), w_Sc_init_14 R t0 t1 h → tpR Sc_init 1 h0 av (tpOv R (fun _ _ => False)) 14 [none, none] [vI t0, vR t1] h := by
  intro t0 t1 h hw
  unfold w_Sc_init_14 at hw
  obtain ⟨f1, f2, hw⟩ := hw
  refine tq_anew tpQ_St cSc_7 (by decide) (N := t0.toNatClampNeg) dSc_init_14 f1 rfl f2 (fun a3 h4 e5 e6 => ?_)
  have hw := hw a3 h4 e5 e6
  obtain ⟨a7, e8, f9, hw⟩ := hw
  refine te_putr dSc_init_17 pSc_9 rfl rfl e8 f9 (fun h10 e11 => ?_)
  have hw := hw h10 e11
  exact tq_vret rfl dSc_init_20 hw
theorem s_Sc_init {o : Nat} {x1 : Int32} {h : tpH} {R : tpH → Prop} (hw : w_Sc_init o x1 h R) : tpC Sc_init 1 [vR (some o), vI x1] h (tpOv R (fun _ _ => False)) := by
  refine tpC_of mi_Sc_init.2.2.2.1 rfl rfl (Nat.le_of_ble_eq_true rfl) ?_
  show tpR Sc_init 1 h _ _ 0 [some (vR (some o)), some (vI x1)] [] h
  unfold w_Sc_init at hw
  refine tq_aload_n dSc_init_0 rfl rfl ?_
  refine tq_obj oSc_1 (Nat.le_of_ble_eq_true rfl) (Nat.le_of_ble_eq_true rfl) dSc_init_1 ?_
  refine tq_aload_n dSc_init_4 rfl rfl ?_
  refine tq_iload_n dSc_init_5 rfl rfl ?_
  refine tq_ifle (tgt := 13) dSc_init_6 (by decide) (fun c1 => ?_) (fun c1 => ?_)
  · have hw := hw.1 c1
    refine tq_iconst (v := (0 : Int32)) dSc_init_13 tni_0 ?_
    refine tpR.fo (ls' := [none, none]) ?_ (trivial)
    exact s_Sc_init_14 _ _ _ hw
  · have hw := hw.2 c1
    refine tq_iload_n dSc_init_9 rfl rfl ?_
    refine tq_goto (tgt := 14) dSc_init_10 (by decide) ?_
    refine tpR.fo (ls' := [none, none]) ?_ (trivial)
    exact s_Sc_init_14 _ _ _ hw
/-! T$Script.isTooLong -/
theorem dSc_isTooLong_0 : decode (mB Sc_isTooLong) 0 = .ok (.aload_n 0, 1) := by decide +kernel
theorem dSc_isTooLong_1 : decode (mB Sc_isTooLong) 1 = .ok (.getfield 15, 3) := by decide +kernel
theorem dSc_isTooLong_4 : decode (mB Sc_isTooLong) 4 = .ok (.aload_n 0, 1) := by decide +kernel
theorem dSc_isTooLong_5 : decode (mB Sc_isTooLong) 5 = .ok (.getfield 9, 3) := by decide +kernel
theorem dSc_isTooLong_8 : decode (mB Sc_isTooLong) 8 = .ok (.arraylength, 1) := by decide +kernel
theorem dSc_isTooLong_9 : decode (mB Sc_isTooLong) 9 = .ok (.if_icmp .le 7, 3) := by decide +kernel
theorem dSc_isTooLong_12 : decode (mB Sc_isTooLong) 12 = .ok (.iconst 1, 1) := by decide +kernel
theorem dSc_isTooLong_13 : decode (mB Sc_isTooLong) 13 = .ok (.goto 4, 3) := by decide +kernel
theorem dSc_isTooLong_16 : decode (mB Sc_isTooLong) 16 = .ok (.iconst 0, 1) := by decide +kernel
theorem dSc_isTooLong_17 : decode (mB Sc_isTooLong) 17 = .ok (.ireturn, 1) := by decide +kernel
def w_Sc_isTooLong (o : Nat) (h : tpH) (R : Int32 → tpH → Prop) : Prop :=
  hT h o = 9 ∧ (∃ a2, (hR h o 0) = some a2 ∧ hT h a2 = 20 ∧ (((hI h o 1) ≤ (Int32.ofNat (hL h a2)) → (R (0 : Int32) h)) ∧ (¬ (hI h o 1) ≤ (Int32.ofNat (hL h a2)) → (R (1 : Int32) h))))
theorem s_Sc_isTooLong {o : Nat} {h : tpH} {R : Int32 → tpH → Prop} (hw : w_Sc_isTooLong o h R) : tpC Sc_isTooLong 0 [vR (some o)] h (tpOi R (fun _ _ => False)) := by
  refine tpC_of mv_Sc_isTooLong.2.2.2.1 rfl rfl (Nat.le_of_ble_eq_true rfl) ?_
  show tpR Sc_isTooLong 0 h _ _ 0 [some (vR (some o))] [] h
  unfold w_Sc_isTooLong at hw
  refine tq_aload_n dSc_isTooLong_0 rfl rfl ?_
  obtain ⟨f1, hw⟩ := hw
  refine te_geti dSc_isTooLong_1 fSc_15 rfl rfl f1 ?_
  refine tq_aload_n dSc_isTooLong_4 rfl rfl ?_
  refine te_getr dSc_isTooLong_5 fSc_9 rfl rfl f1 ?_
  obtain ⟨a2, e3, f4, hw⟩ := hw
  refine te_alen dSc_isTooLong_8 e3 (by rw [f4]; decide) ?_
  refine tq_icmple (tgt := 16) dSc_isTooLong_9 (by decide) (fun c5 => ?_) (fun c5 => ?_)
  · have hw := hw.1 c5
    refine tq_iconst (v := (0 : Int32)) dSc_isTooLong_16 tni_0 ?_
    exact tq_iret rfl (by decide) dSc_isTooLong_17 hw
  · have hw := hw.2 c5
    refine tq_iconst (v := (1 : Int32)) dSc_isTooLong_12 tni_1 ?_
    refine tq_goto (tgt := 17) dSc_isTooLong_13 (by decide) ?_
    exact tq_iret rfl (by decide) dSc_isTooLong_17 hw
/-! T$Step.<init> -/
theorem dSt_init_0 : decode (mB St_init) 0 = .ok (.aload_n 0, 1) := by decide +kernel
theorem dSt_init_1 : decode (mB St_init) 1 = .ok (.invokespecial 3, 3) := by decide +kernel
theorem dSt_init_4 : decode (mB St_init) 4 = .ok (.aload_n 0, 1) := by decide +kernel
theorem dSt_init_5 : decode (mB St_init) 5 = .ok (.iload_n 1, 1) := by decide +kernel
theorem dSt_init_6 : decode (mB St_init) 6 = .ok (.putfield 9, 3) := by decide +kernel
theorem dSt_init_9 : decode (mB St_init) 9 = .ok (.aload_n 0, 1) := by decide +kernel
theorem dSt_init_10 : decode (mB St_init) 10 = .ok (.iload_n 2, 1) := by decide +kernel
theorem dSt_init_11 : decode (mB St_init) 11 = .ok (.putfield 15, 3) := by decide +kernel
theorem dSt_init_14 : decode (mB St_init) 14 = .ok (.aload_n 0, 1) := by decide +kernel
theorem dSt_init_15 : decode (mB St_init) 15 = .ok (.iload_n 3, 1) := by decide +kernel
theorem dSt_init_16 : decode (mB St_init) 16 = .ok (.putfield 18, 3) := by decide +kernel
theorem dSt_init_19 : decode (mB St_init) 19 = .ok (.aload_n 0, 1) := by decide +kernel
theorem dSt_init_20 : decode (mB St_init) 20 = .ok (.iload 4, 2) := by decide +kernel
theorem dSt_init_22 : decode (mB St_init) 22 = .ok (.putfield 21, 3) := by decide +kernel
theorem dSt_init_25 : decode (mB St_init) 25 = .ok (.aload_n 0, 1) := by decide +kernel
theorem dSt_init_26 : decode (mB St_init) 26 = .ok (.aload 5, 2) := by decide +kernel
theorem dSt_init_28 : decode (mB St_init) 28 = .ok (.putfield 24, 3) := by decide +kernel
theorem dSt_init_31 : decode (mB St_init) 31 = .ok (.aload_n 0, 1) := by decide +kernel
theorem dSt_init_32 : decode (mB St_init) 32 = .ok (.aload 6, 2) := by decide +kernel
theorem dSt_init_34 : decode (mB St_init) 34 = .ok (.putfield 28, 3) := by decide +kernel
theorem dSt_init_37 : decode (mB St_init) 37 = .ok (.return_, 1) := by decide +kernel
def w_St_init (o : Nat) (x1 : Int32) (x2 : Int32) (x3 : Int32) (x4 : Int32) (x5 : Option Nat) (x6 : Option Nat) (h : tpH) (R : tpH → Prop) : Prop :=
  hT h o = 11 ∧ (∀ h2, h2 = sI h o 0 x1 → (∀ h4, h4 = sI h2 o 1 x2 → (∀ h6, h6 = sI h4 o 2 x3 → (∀ h8, h8 = sI h6 o 3 x4 → (∀ h10, h10 = sR h8 o 4 x5 → (∀ h12, h12 = sR h10 o 5 x6 → (R h12)))))))
theorem s_St_init {o : Nat} {x1 : Int32} {x2 : Int32} {x3 : Int32} {x4 : Int32} {x5 : Option Nat} {x6 : Option Nat} {h : tpH} {R : tpH → Prop} (hw : w_St_init o x1 x2 x3 x4 x5 x6 h R) : tpC St_init 1 [vR (some o), vI x1, vI x2, vI x3, vI x4, vR x5, vR x6] h (tpOv R (fun _ _ => False)) := by
  refine tpC_of mi_St_init.2.2.2.1 rfl rfl (Nat.le_of_ble_eq_true rfl) ?_
  show tpR St_init 1 h _ _ 0 [some (vR (some o)), some (vI x1), some (vI x2), some (vI x3), some (vI x4), some (vR x5), some (vR x6)] [] h
  unfold w_St_init at hw
  refine tq_aload_n dSt_init_0 rfl rfl ?_
  refine tq_obj oSt_3 (Nat.le_of_ble_eq_true rfl) (Nat.le_of_ble_eq_true rfl) dSt_init_1 ?_
  refine tq_aload_n dSt_init_4 rfl rfl ?_
  refine tq_iload_n dSt_init_5 rfl rfl ?_
  obtain ⟨f1, hw⟩ := hw
  refine te_puti dSt_init_6 pSt_9 rfl rfl rfl f1 ⟨rfl, rfl⟩ (fun h2 e3 => ?_)
  have hw := hw h2 e3
  refine tq_aload_n dSt_init_9 rfl rfl ?_
  refine tq_iload_n dSt_init_10 rfl rfl ?_
  refine te_puti dSt_init_11 pSt_15 rfl rfl rfl (by rw [e3]; exact f1) ⟨rfl, rfl⟩ (fun h4 e5 => ?_)
  have hw := hw h4 e5
  refine tq_aload_n dSt_init_14 rfl rfl ?_
  refine tq_iload_n dSt_init_15 rfl rfl ?_
  refine te_puti dSt_init_16 pSt_18 rfl rfl rfl (by rw [e5]; exact (by rw [e3]; exact f1)) ⟨rfl, rfl⟩ (fun h6 e7 => ?_)
  have hw := hw h6 e7
  refine tq_aload_n dSt_init_19 rfl rfl ?_
  refine tq_iload dSt_init_20 rfl ?_
  refine te_puti dSt_init_22 pSt_21 rfl rfl rfl (by rw [e7]; exact (by rw [e5]; exact (by rw [e3]; exact f1))) ⟨rfl, rfl⟩ (fun h8 e9 => ?_)
  have hw := hw h8 e9
  refine tq_aload_n dSt_init_25 rfl rfl ?_
  refine tq_aload dSt_init_26 rfl ?_
  refine te_putr dSt_init_28 pSt_24 rfl rfl rfl (by rw [e9]; exact (by rw [e7]; exact (by rw [e5]; exact (by rw [e3]; exact f1)))) (fun h10 e11 => ?_)
  have hw := hw h10 e11
  refine tq_aload_n dSt_init_31 rfl rfl ?_
  refine tq_aload dSt_init_32 rfl ?_
  refine te_putr dSt_init_34 pSt_28 rfl rfl rfl (by rw [e11]; exact (by rw [e9]; exact (by rw [e7]; exact (by rw [e5]; exact (by rw [e3]; exact f1))))) (fun h12 e13 => ?_)
  have hw := hw h12 e13
  exact tq_vret rfl dSt_init_37 hw
/-! T$Script.add -/
theorem dSc_add_0 : decode (mB Sc_add) 0 = .ok (.aload_n 0, 1) := by decide +kernel
theorem dSc_add_1 : decode (mB Sc_add) 1 = .ok (.getfield 15, 3) := by decide +kernel
theorem dSc_add_4 : decode (mB Sc_add) 4 = .ok (.aload_n 0, 1) := by decide +kernel
theorem dSc_add_5 : decode (mB Sc_add) 5 = .ok (.getfield 9, 3) := by decide +kernel
theorem dSc_add_8 : decode (mB Sc_add) 8 = .ok (.arraylength, 1) := by decide +kernel
theorem dSc_add_9 : decode (mB Sc_add) 9 = .ok (.if_icmp .ge 13, 3) := by decide +kernel
theorem dSc_add_12 : decode (mB Sc_add) 12 = .ok (.aload_n 0, 1) := by decide +kernel
theorem dSc_add_13 : decode (mB Sc_add) 13 = .ok (.getfield 9, 3) := by decide +kernel
theorem dSc_add_16 : decode (mB Sc_add) 16 = .ok (.aload_n 0, 1) := by decide +kernel
theorem dSc_add_17 : decode (mB Sc_add) 17 = .ok (.getfield 15, 3) := by decide +kernel
theorem dSc_add_20 : decode (mB Sc_add) 20 = .ok (.aload_n 1, 1) := by decide +kernel
theorem dSc_add_21 : decode (mB Sc_add) 21 = .ok (.aastore, 1) := by decide +kernel
theorem dSc_add_22 : decode (mB Sc_add) 22 = .ok (.aload_n 0, 1) := by decide +kernel
theorem dSc_add_23 : decode (mB Sc_add) 23 = .ok (.dup, 1) := by decide +kernel
theorem dSc_add_24 : decode (mB Sc_add) 24 = .ok (.getfield 15, 3) := by decide +kernel
theorem dSc_add_27 : decode (mB Sc_add) 27 = .ok (.iconst 1, 1) := by decide +kernel
theorem dSc_add_28 : decode (mB Sc_add) 28 = .ok (.iadd, 1) := by decide +kernel
theorem dSc_add_29 : decode (mB Sc_add) 29 = .ok (.putfield 15, 3) := by decide +kernel
theorem dSc_add_32 : decode (mB Sc_add) 32 = .ok (.return_, 1) := by decide +kernel
def w_Sc_add_22 (R : tpH → Prop) (o : Nat) (h : tpH) : Prop :=
  hT h o = 9 ∧ (∀ h2, h2 = sI h o 1 ((hI h o 1) + (1 : Int32)) → (R h2))
def w_Sc_add (o : Nat) (x1 : Option Nat) (h : tpH) (R : tpH → Prop) : Prop :=
  hT h o = 9 ∧ (∃ a2, (hR h o 0) = some a2 ∧ hT h a2 = 20 ∧ (((Int32.ofNat (hL h a2)) ≤ (hI h o 1) → (w_Sc_add_22 R o h)) ∧ (¬ (Int32.ofNat (hL h a2)) ≤ (hI h o 1) → (vp_in (hI h o 1) (hL h a2) ∧ (∃ a7, x1 = some a7 ∧ hT h a7 = 11 ∧ (∀ h10, h10 = sR h a2 (hI h o 1).toNatClampNeg (some a7) → (w_Sc_add_22 R o h10)))))))
theorem s_Sc_add_22 {h0 : tpH} {av : List tpV} {R : tpH → Prop} : ∀ (o : Nat) (h : tpH), w_Sc_add_22 R o h → tpR Sc_add 0 h0 av (tpOv R (fun _ _ => False)) 22 [some (vR (some o)), none] [] h := by
  intro o h hw
  unfold w_Sc_add_22 at hw
  refine tq_aload_n dSc_add_22 rfl rfl ?_
  refine tq_dup dSc_add_23 rfl ?_
  obtain ⟨f1, hw⟩ := hw
  refine te_geti dSc_add_24 fSc_15 rfl rfl f1 ?_
  refine tq_iconst (v := (1 : Int32)) dSc_add_27 tni_1 ?_
  refine tq_iadd dSc_add_28 ?_
  refine te_puti dSc_add_29 pSc_15 rfl rfl rfl f1 ⟨rfl, rfl⟩ (fun h2 e3 => ?_)
  have hw := hw h2 e3
  exact tq_vret rfl dSc_add_32 hw
theorem s_Sc_add {o : Nat} {x1 : Option Nat} {h : tpH} {R : tpH → Prop} (hw : w_Sc_add o x1 h R) : tpC Sc_add 0 [vR (some o), vR x1] h (tpOv R (fun _ _ => False)) := by
  refine tpC_of mv_Sc_add.2.2.2.1 rfl rfl (Nat.le_of_ble_eq_true rfl) ?_
  show tpR Sc_add 0 h _ _ 0 [some (vR (some o)), some (vR x1)] [] h
  unfold w_Sc_add at hw
  refine tq_aload_n dSc_add_0 rfl rfl ?_
  obtain ⟨f1, hw⟩ := hw
  refine te_geti dSc_add_1 fSc_15 rfl rfl f1 ?_
  refine tq_aload_n dSc_add_4 rfl rfl ?_
  refine te_getr dSc_add_5 fSc_9 rfl rfl f1 ?_
  obtain ⟨a2, e3, f4, hw⟩ := hw
  refine te_alen dSc_add_8 e3 (by rw [f4]; decide) ?_
  refine tq_icmpge (tgt := 22) dSc_add_9 (by decide) (fun c5 => ?_) (fun c5 => ?_)
  · have hw := hw.1 c5
    refine tpR.fo (ls' := [some (vR (some o)), none]) ?_ (And.intro rfl trivial)
    exact s_Sc_add_22 _ _ hw
  · have hw := hw.2 c5
    refine tq_aload_n dSc_add_12 rfl rfl ?_
    refine te_getr dSc_add_13 fSc_9 rfl rfl f1 ?_
    refine tq_aload_n dSc_add_16 rfl rfl ?_
    refine te_geti dSc_add_17 fSc_15 rfl rfl f1 ?_
    refine tq_aload_n dSc_add_20 rfl rfl ?_
    obtain ⟨f6, hw⟩ := hw
    obtain ⟨a7, e8, f9, hw⟩ := hw
    refine te_aast tpQ_St dSc_add_21 e3 f4 f6 e8 f9 (fun h10 e11 => ?_)
    have hw := hw h10 e11
    refine tpR.fo (ls' := [some (vR (some o)), none]) ?_ (And.intro rfl trivial)
    exact s_Sc_add_22 _ _ hw
/-! T$Finder.nameTwin -/
theorem dFi_nameTwin_0 : decode (mB Fi_nameTwin) 0 = .ok (.aload_n 0, 1) := by decide +kernel
theorem dFi_nameTwin_1 : decode (mB Fi_nameTwin) 1 = .ok (.getfield 43, 3) := by decide +kernel
theorem dFi_nameTwin_4 : decode (mB Fi_nameTwin) 4 = .ok (.iload_n 3, 1) := by decide +kernel
theorem dFi_nameTwin_5 : decode (mB Fi_nameTwin) 5 = .ok (.invokevirtual 78, 3) := by decide +kernel
theorem dFi_nameTwin_8 : decode (mB Fi_nameTwin) 8 = .ok (.istore 5, 2) := by decide +kernel
theorem dFi_nameTwin_10 : decode (mB Fi_nameTwin) 10 = .ok (.aload_n 1, 1) := by decide +kernel
theorem dFi_nameTwin_11 : decode (mB Fi_nameTwin) 11 = .ok (.iload 5, 2) := by decide +kernel
theorem dFi_nameTwin_13 : decode (mB Fi_nameTwin) 13 = .ok (.invokevirtual 84, 3) := by decide +kernel
theorem dFi_nameTwin_16 : decode (mB Fi_nameTwin) 16 = .ok (.istore 6, 2) := by decide +kernel
theorem dFi_nameTwin_18 : decode (mB Fi_nameTwin) 18 = .ok (.aload_n 0, 1) := by decide +kernel
theorem dFi_nameTwin_19 : decode (mB Fi_nameTwin) 19 = .ok (.getfield 14, 3) := by decide +kernel
theorem dFi_nameTwin_22 : decode (mB Fi_nameTwin) 22 = .ok (.iload_n 3, 1) := by decide +kernel
theorem dFi_nameTwin_23 : decode (mB Fi_nameTwin) 23 = .ok (.iload 6, 2) := by decide +kernel
theorem dFi_nameTwin_25 : decode (mB Fi_nameTwin) 25 = .ok (.invokevirtual 87, 3) := by decide +kernel
theorem dFi_nameTwin_28 : decode (mB Fi_nameTwin) 28 = .ok (.aload_n 1, 1) := by decide +kernel
theorem dFi_nameTwin_29 : decode (mB Fi_nameTwin) 29 = .ok (.iload 5, 2) := by decide +kernel
theorem dFi_nameTwin_31 : decode (mB Fi_nameTwin) 31 = .ok (.invokevirtual 91, 3) := by decide +kernel
theorem dFi_nameTwin_34 : decode (mB Fi_nameTwin) 34 = .ok (.istore 7, 2) := by decide +kernel
theorem dFi_nameTwin_36 : decode (mB Fi_nameTwin) 36 = .ok (.aload_n 2, 1) := by decide +kernel
theorem dFi_nameTwin_37 : decode (mB Fi_nameTwin) 37 = .ok (.iload_n 3, 1) := by decide +kernel
theorem dFi_nameTwin_38 : decode (mB Fi_nameTwin) 38 = .ok (.invokevirtual 91, 3) := by decide +kernel
theorem dFi_nameTwin_41 : decode (mB Fi_nameTwin) 41 = .ok (.istore 8, 2) := by decide +kernel
theorem dFi_nameTwin_43 : decode (mB Fi_nameTwin) 43 = .ok (.iload 5, 2) := by decide +kernel
theorem dFi_nameTwin_45 : decode (mB Fi_nameTwin) 45 = .ok (.iconst (-1), 1) := by decide +kernel
theorem dFi_nameTwin_46 : decode (mB Fi_nameTwin) 46 = .ok (.if_icmp .eq 37, 3) := by decide +kernel
theorem dFi_nameTwin_49 : decode (mB Fi_nameTwin) 49 = .ok (.iload 7, 2) := by decide +kernel
theorem dFi_nameTwin_51 : decode (mB Fi_nameTwin) 51 = .ok (.iload 8, 2) := by decide +kernel
theorem dFi_nameTwin_53 : decode (mB Fi_nameTwin) 53 = .ok (.if_icmp .eq 30, 3) := by decide +kernel
theorem dFi_nameTwin_56 : decode (mB Fi_nameTwin) 56 = .ok (.aload 4, 2) := by decide +kernel
theorem dFi_nameTwin_58 : decode (mB Fi_nameTwin) 58 = .ok (.new 94, 3) := by decide +kernel
theorem dFi_nameTwin_61 : decode (mB Fi_nameTwin) 61 = .ok (.dup, 1) := by decide +kernel
theorem dFi_nameTwin_62 : decode (mB Fi_nameTwin) 62 = .ok (.iconst 0, 1) := by decide +kernel
theorem dFi_nameTwin_63 : decode (mB Fi_nameTwin) 63 = .ok (.iload 6, 2) := by decide +kernel
theorem dFi_nameTwin_65 : decode (mB Fi_nameTwin) 65 = .ok (.iload 7, 2) := by decide +kernel
theorem dFi_nameTwin_67 : decode (mB Fi_nameTwin) 67 = .ok (.iload 8, 2) := by decide +kernel
theorem dFi_nameTwin_69 : decode (mB Fi_nameTwin) 69 = .ok (.aload_n 0, 1) := by decide +kernel
theorem dFi_nameTwin_70 : decode (mB Fi_nameTwin) 70 = .ok (.getfield 31, 3) := by decide +kernel
theorem dFi_nameTwin_73 : decode (mB Fi_nameTwin) 73 = .ok (.aload_n 0, 1) := by decide +kernel
theorem dFi_nameTwin_74 : decode (mB Fi_nameTwin) 74 = .ok (.getfield 31, 3) := by decide +kernel
theorem dFi_nameTwin_77 : decode (mB Fi_nameTwin) 77 = .ok (.invokespecial 96, 3) := by decide +kernel
theorem dFi_nameTwin_80 : decode (mB Fi_nameTwin) 80 = .ok (.invokevirtual 99, 3) := by decide +kernel
theorem dFi_nameTwin_83 : decode (mB Fi_nameTwin) 83 = .ok (.return_, 1) := by decide +kernel
def w_Fi_nameTwin (o : Nat) (x1 : Option Nat) (x2 : Option Nat) (x3 : Int32) (x4 : Option Nat) (h : tpH) (R : tpH → Prop) : Prop :=
  hT h o = 2 ∧ (∃ a2, (hR h o 2) = some a2 ∧ hT h a2 = 6 ∧ (w_Mt_oldOf a2 x3 h (fun v6 h5 => ∃ a7, x1 = some a7 ∧ hT h5 a7 = 12 ∧ (w_Tr_markOf a7 v6 h5 (fun v11 h10 => hT h10 o = 2 ∧ (∃ a13, (hR h10 o 3) = some a13 ∧ hT h10 a13 = 8 ∧ (w_Ro_put a13 x3 v11 h10 (fun h16 => hT h16 a7 = 12 ∧ (w_Tr_worthOf a7 v6 h16 (fun v19 h18 => ∃ a20, x2 = some a20 ∧ hT h18 a20 = 12 ∧ (w_Tr_worthOf a20 x3 h18 (fun v24 h23 => (v6 = (-1 : Int32) → (R h23)) ∧ (¬ v6 = (-1 : Int32) → ((v19 = v24 → (R h23)) ∧ (¬ v19 = v24 → (∀ a27 h28, a27 = hZ h23 → h28 = nC h23 11 0 6 → (hT h28 o = 2 ∧ (w_St_init a27 (0 : Int32) v11 v19 v24 (hR h28 o 6) (hR h28 o 6) h28 (fun h32 => ∃ a33, x4 = some a33 ∧ hT h32 a33 = 9 ∧ (w_Sc_add a33 (some a27) h32 (fun h36 => R h36)))))))))))))))))))))
theorem s_Fi_nameTwin {o : Nat} {x1 : Option Nat} {x2 : Option Nat} {x3 : Int32} {x4 : Option Nat} {h : tpH} {R : tpH → Prop} (hw : w_Fi_nameTwin o x1 x2 x3 x4 h R) : tpC Fi_nameTwin 2 [vR (some o), vR x1, vR x2, vI x3, vR x4] h (tpOv R (fun _ _ => False)) := by
  refine tpC_of mv_Fi_nameTwin.2.2.2.1 rfl rfl (Nat.le_of_ble_eq_true rfl) ?_
  show tpR Fi_nameTwin 2 h _ _ 0 [some (vR (some o)), some (vR x1), some (vR x2), some (vI x3), some (vR x4), none, none, none, none] [] h
  unfold w_Fi_nameTwin at hw
  refine tq_aload_n dFi_nameTwin_0 rfl rfl ?_
  obtain ⟨f1, hw⟩ := hw
  refine te_getr dFi_nameTwin_1 fFi_43 rfl rfl f1 ?_
  refine tq_iload_n dFi_nameTwin_4 rfl rfl ?_
  obtain ⟨a2, e3, f4, hw⟩ := hw
  refine te_callV mv_Mt_oldOf (ci := 5) (dc := 1) (as := [vI x3]) (rest := []) kFi_78 rfl (Nat.le_of_ble_eq_true rfl) (Nat.le_of_ble_eq_true rfl) rfl rfl e3 f4 (Nat.le_of_ble_eq_true rfl) dFi_nameTwin_5 (s_Mt_oldOf hw) (fun _ _ hx => False.elim hx) (tk_i fun v6 h5 hw => ?_)
  refine tq_istore (ls' := [some (vR (some o)), some (vR x1), some (vR x2), some (vI x3), some (vR x4), some (vI v6), none, none, none]) dFi_nameTwin_8 (Nat.le_of_ble_eq_true rfl) rfl ?_
  refine tq_aload_n dFi_nameTwin_10 rfl rfl ?_
  refine tq_iload dFi_nameTwin_11 rfl ?_
  obtain ⟨a7, e8, f9, hw⟩ := hw
  refine te_callV mv_Tr_markOf (ci := 11) (dc := 1) (as := [vI v6]) (rest := []) kFi_84 rfl (Nat.le_of_ble_eq_true rfl) (Nat.le_of_ble_eq_true rfl) rfl rfl e8 f9 (Nat.le_of_ble_eq_true rfl) dFi_nameTwin_13 (s_Tr_markOf hw) (fun _ _ hx => False.elim hx) (tk_i fun v11 h10 hw => ?_)
  refine tq_istore (ls' := [some (vR (some o)), some (vR x1), some (vR x2), some (vI x3), some (vR x4), some (vI v6), some (vI v11), none, none]) dFi_nameTwin_16 (Nat.le_of_ble_eq_true rfl) rfl ?_
  refine tq_aload_n dFi_nameTwin_18 rfl rfl ?_
  obtain ⟨f12, hw⟩ := hw
  refine te_getr dFi_nameTwin_19 fFi_14 rfl rfl f12 ?_
  refine tq_iload_n dFi_nameTwin_22 rfl rfl ?_
  refine tq_iload dFi_nameTwin_23 rfl ?_
  obtain ⟨a13, e14, f15, hw⟩ := hw
  refine te_callV mv_Ro_put (ci := 7) (dc := 0) (as := [vI x3, vI v11]) (rest := []) kFi_87 rfl (Nat.le_of_ble_eq_true rfl) (Nat.le_of_ble_eq_true rfl) rfl rfl e14 f15 (Nat.le_of_ble_eq_true rfl) dFi_nameTwin_25 (s_Ro_put hw) (fun _ _ hx => False.elim hx) (tk_v fun h16 hw => ?_)
  refine tq_aload_n dFi_nameTwin_28 rfl rfl ?_
  refine tq_iload dFi_nameTwin_29 rfl ?_
  obtain ⟨f17, hw⟩ := hw
  refine te_callV mv_Tr_worthOf (ci := 11) (dc := 1) (as := [vI v6]) (rest := []) kFi_91 rfl (Nat.le_of_ble_eq_true rfl) (Nat.le_of_ble_eq_true rfl) rfl rfl e8 f17 (Nat.le_of_ble_eq_true rfl) dFi_nameTwin_31 (s_Tr_worthOf hw) (fun _ _ hx => False.elim hx) (tk_i fun v19 h18 hw => ?_)
  refine tq_istore (ls' := [some (vR (some o)), some (vR x1), some (vR x2), some (vI x3), some (vR x4), some (vI v6), some (vI v11), some (vI v19), none]) dFi_nameTwin_34 (Nat.le_of_ble_eq_true rfl) rfl ?_
  refine tq_aload_n dFi_nameTwin_36 rfl rfl ?_
  refine tq_iload_n dFi_nameTwin_37 rfl rfl ?_
  obtain ⟨a20, e21, f22, hw⟩ := hw
  refine te_callV mv_Tr_worthOf (ci := 11) (dc := 1) (as := [vI x3]) (rest := []) kFi_91 rfl (Nat.le_of_ble_eq_true rfl) (Nat.le_of_ble_eq_true rfl) rfl rfl e21 f22 (Nat.le_of_ble_eq_true rfl) dFi_nameTwin_38 (s_Tr_worthOf hw) (fun _ _ hx => False.elim hx) (tk_i fun v24 h23 hw => ?_)
  refine tq_istore (ls' := [some (vR (some o)), some (vR x1), some (vR x2), some (vI x3), some (vR x4), some (vI v6), some (vI v11), some (vI v19), some (vI v24)]) dFi_nameTwin_41 (Nat.le_of_ble_eq_true rfl) rfl ?_
  refine tq_iload dFi_nameTwin_43 rfl ?_
  refine tq_iconst (v := (-1 : Int32)) dFi_nameTwin_45 tni_m1 ?_
  refine tq_icmpeq (tgt := 83) dFi_nameTwin_46 (by decide) (fun c25 => ?_) (fun c25 => ?_)
  · have hw := hw.1 c25
    exact tq_vret rfl dFi_nameTwin_83 hw
  · have hw := hw.2 c25
    refine tq_iload dFi_nameTwin_49 rfl ?_
    refine tq_iload dFi_nameTwin_51 rfl ?_
    refine tq_icmpeq (tgt := 83) dFi_nameTwin_53 (by decide) (fun c26 => ?_) (fun c26 => ?_)
    · have hw := hw.1 c26
      exact tq_vret rfl dFi_nameTwin_83 hw
    · have hw := hw.2 c26
      refine tq_aload dFi_nameTwin_56 rfl ?_
      refine tq_new (ci := 10) cFi_94 ti_10 rfl dFi_nameTwin_58 (fun a27 h28 e29 e30 => ?_)
      have hw := hw a27 h28 e29 e30
      refine tq_dup dFi_nameTwin_61 rfl ?_
      refine tq_iconst (v := (0 : Int32)) dFi_nameTwin_62 tni_0 ?_
      refine tq_iload dFi_nameTwin_63 rfl ?_
      refine tq_iload dFi_nameTwin_65 rfl ?_
      refine tq_iload dFi_nameTwin_67 rfl ?_
      refine tq_aload_n dFi_nameTwin_69 rfl rfl ?_
      obtain ⟨f31, hw⟩ := hw
      refine te_getr dFi_nameTwin_70 fFi_31 rfl rfl f31 ?_
      refine tq_aload_n dFi_nameTwin_73 rfl rfl ?_
      refine te_getr dFi_nameTwin_74 fFi_31 rfl rfl f31 ?_
      refine te_init mi_St_init (dc := 1) (as := [vI (0 : Int32), vI v11, vI v19, vI v24, vR (hR h28 o 6), vR (hR h28 o 6)]) (rest := [vR (some a27), vR x4]) (Or.inl kFi_96) (Nat.le_of_ble_eq_true rfl) (Nat.le_of_ble_eq_true rfl) rfl rfl rfl (Nat.le_of_ble_eq_true rfl) dFi_nameTwin_77 (s_St_init hw) (fun _ _ hx => hx) (tk_v fun h32 hw => ?_)
      obtain ⟨a33, e34, f35, hw⟩ := hw
      refine te_callV mv_Sc_add (ci := 8) (dc := 0) (as := [vR (some a27)]) (rest := []) kFi_99 rfl (Nat.le_of_ble_eq_true rfl) (Nat.le_of_ble_eq_true rfl) rfl rfl e34 f35 (Nat.le_of_ble_eq_true rfl) dFi_nameTwin_80 (s_Sc_add hw) (fun _ _ hx => False.elim hx) (tk_v fun h36 hw => ?_)
      exact tq_vret rfl dFi_nameTwin_83 hw
/-! T$Finder.hasToMove -/
theorem dFi_hasToMove_0 : decode (mB Fi_hasToMove) 0 = .ok (.aload_n 0, 1) := by decide +kernel
theorem dFi_hasToMove_1 : decode (mB Fi_hasToMove) 1 = .ok (.getfield 39, 3) := by decide +kernel
theorem dFi_hasToMove_4 : decode (mB Fi_hasToMove) 4 = .ok (.iload_n 1, 1) := by decide +kernel
theorem dFi_hasToMove_5 : decode (mB Fi_hasToMove) 5 = .ok (.invokevirtual 133, 3) := by decide +kernel
theorem dFi_hasToMove_8 : decode (mB Fi_hasToMove) 8 = .ok (.iload_n 2, 1) := by decide +kernel
theorem dFi_hasToMove_9 : decode (mB Fi_hasToMove) 9 = .ok (.if_icmp .eq 5, 3) := by decide +kernel
theorem dFi_hasToMove_12 : decode (mB Fi_hasToMove) 12 = .ok (.iconst 1, 1) := by decide +kernel
theorem dFi_hasToMove_13 : decode (mB Fi_hasToMove) 13 = .ok (.ireturn, 1) := by decide +kernel
theorem dFi_hasToMove_14 : decode (mB Fi_hasToMove) 14 = .ok (.aload_n 0, 1) := by decide +kernel
theorem dFi_hasToMove_15 : decode (mB Fi_hasToMove) 15 = .ok (.getfield 35, 3) := by decide +kernel
theorem dFi_hasToMove_18 : decode (mB Fi_hasToMove) 18 = .ok (.iload_n 2, 1) := by decide +kernel
theorem dFi_hasToMove_19 : decode (mB Fi_hasToMove) 19 = .ok (.invokevirtual 134, 3) := by decide +kernel
theorem dFi_hasToMove_22 : decode (mB Fi_hasToMove) 22 = .ok (.ifCond .ne 24, 3) := by decide +kernel
theorem dFi_hasToMove_25 : decode (mB Fi_hasToMove) 25 = .ok (.iload_n 3, 1) := by decide +kernel
theorem dFi_hasToMove_26 : decode (mB Fi_hasToMove) 26 = .ok (.iconst (-1), 1) := by decide +kernel
theorem dFi_hasToMove_27 : decode (mB Fi_hasToMove) 27 = .ok (.if_icmp .eq 19, 3) := by decide +kernel
theorem dFi_hasToMove_30 : decode (mB Fi_hasToMove) 30 = .ok (.aload_n 0, 1) := by decide +kernel
theorem dFi_hasToMove_31 : decode (mB Fi_hasToMove) 31 = .ok (.getfield 39, 3) := by decide +kernel
theorem dFi_hasToMove_34 : decode (mB Fi_hasToMove) 34 = .ok (.iload_n 1, 1) := by decide +kernel
theorem dFi_hasToMove_35 : decode (mB Fi_hasToMove) 35 = .ok (.iload_n 3, 1) := by decide +kernel
theorem dFi_hasToMove_36 : decode (mB Fi_hasToMove) 36 = .ok (.invokevirtual 140, 3) := by decide +kernel
theorem dFi_hasToMove_39 : decode (mB Fi_hasToMove) 39 = .ok (.ifCond .eq 7, 3) := by decide +kernel
theorem dFi_hasToMove_42 : decode (mB Fi_hasToMove) 42 = .ok (.iconst 1, 1) := by decide +kernel
theorem dFi_hasToMove_43 : decode (mB Fi_hasToMove) 43 = .ok (.goto 4, 3) := by decide +kernel
theorem dFi_hasToMove_46 : decode (mB Fi_hasToMove) 46 = .ok (.iconst 0, 1) := by decide +kernel
theorem dFi_hasToMove_47 : decode (mB Fi_hasToMove) 47 = .ok (.ireturn, 1) := by decide +kernel
def w_Fi_hasToMove (o : Nat) (x1 : Int32) (x2 : Int32) (x3 : Int32) (h : tpH) (R : Int32 → tpH → Prop) : Prop :=
  hT h o = 2 ∧ (∃ a2, (hR h o 1) = some a2 ∧ hT h a2 = 1 ∧ (w_Bu_upOf a2 x1 h (fun v6 h5 => (v6 = x2 → (hT h5 o = 2 ∧ (∃ a9, (hR h5 o 0) = some a9 ∧ hT h5 a9 = 5 ∧ (w_Ma_isLoose a9 x2 h5 (fun v13 h12 => (¬ v13 = 0 → (R (0 : Int32) h12)) ∧ (v13 = 0 → ((x3 = (-1 : Int32) → (R (0 : Int32) h12)) ∧ (¬ x3 = (-1 : Int32) → (hT h12 o = 2 ∧ (∃ a17, (hR h12 o 1) = some a17 ∧ hT h12 a17 = 1 ∧ (w_Bu_standsAhead a17 x1 x3 h12 (fun v21 h20 => (v21 = 0 → (R (0 : Int32) h20)) ∧ (¬ v21 = 0 → (R (1 : Int32) h20)))))))))))))) ∧ (¬ v6 = x2 → (R (1 : Int32) h5)))))
theorem s_Fi_hasToMove {o : Nat} {x1 : Int32} {x2 : Int32} {x3 : Int32} {h : tpH} {R : Int32 → tpH → Prop} (hw : w_Fi_hasToMove o x1 x2 x3 h R) : tpC Fi_hasToMove 2 [vR (some o), vI x1, vI x2, vI x3] h (tpOi R (fun _ _ => False)) := by
  refine tpC_of mv_Fi_hasToMove.2.2.2.1 rfl rfl (Nat.le_of_ble_eq_true rfl) ?_
  show tpR Fi_hasToMove 2 h _ _ 0 [some (vR (some o)), some (vI x1), some (vI x2), some (vI x3)] [] h
  unfold w_Fi_hasToMove at hw
  refine tq_aload_n dFi_hasToMove_0 rfl rfl ?_
  obtain ⟨f1, hw⟩ := hw
  refine te_getr dFi_hasToMove_1 fFi_39 rfl rfl f1 ?_
  refine tq_iload_n dFi_hasToMove_4 rfl rfl ?_
  obtain ⟨a2, e3, f4, hw⟩ := hw
  refine te_callV mv_Bu_upOf (ci := 0) (dc := 1) (as := [vI x1]) (rest := []) kFi_133 rfl (Nat.le_of_ble_eq_true rfl) (Nat.le_of_ble_eq_true rfl) rfl rfl e3 f4 (Nat.le_of_ble_eq_true rfl) dFi_hasToMove_5 (s_Bu_upOf hw) (fun _ _ hx => False.elim hx) (tk_i fun v6 h5 hw => ?_)
  refine tq_iload_n dFi_hasToMove_8 rfl rfl ?_
  refine tq_icmpeq (tgt := 14) dFi_hasToMove_9 (by decide) (fun c7 => ?_) (fun c7 => ?_)
  · have hw := hw.1 c7
    refine tq_aload_n dFi_hasToMove_14 rfl rfl ?_
    obtain ⟨f8, hw⟩ := hw
    refine te_getr dFi_hasToMove_15 fFi_35 rfl rfl f8 ?_
    refine tq_iload_n dFi_hasToMove_18 rfl rfl ?_
    obtain ⟨a9, e10, f11, hw⟩ := hw
    refine te_callV mv_Ma_isLoose (ci := 4) (dc := 1) (as := [vI x2]) (rest := []) kFi_134 rfl (Nat.le_of_ble_eq_true rfl) (Nat.le_of_ble_eq_true rfl) rfl rfl e10 f11 (Nat.le_of_ble_eq_true rfl) dFi_hasToMove_19 (s_Ma_isLoose hw) (fun _ _ hx => False.elim hx) (tk_i fun v13 h12 hw => ?_)
    refine tq_ifne (tgt := 46) dFi_hasToMove_22 (by decide) (fun c14 => ?_) (fun c14 => ?_)
    · have hw := hw.1 c14
      refine tq_iconst (v := (0 : Int32)) dFi_hasToMove_46 tni_0 ?_
      exact tq_iret rfl (by decide) dFi_hasToMove_47 hw
    · have hw := hw.2 c14
      refine tq_iload_n dFi_hasToMove_25 rfl rfl ?_
      refine tq_iconst (v := (-1 : Int32)) dFi_hasToMove_26 tni_m1 ?_
      refine tq_icmpeq (tgt := 46) dFi_hasToMove_27 (by decide) (fun c15 => ?_) (fun c15 => ?_)
      · have hw := hw.1 c15
        refine tq_iconst (v := (0 : Int32)) dFi_hasToMove_46 tni_0 ?_
        exact tq_iret rfl (by decide) dFi_hasToMove_47 hw
      · have hw := hw.2 c15
        refine tq_aload_n dFi_hasToMove_30 rfl rfl ?_
        obtain ⟨f16, hw⟩ := hw
        refine te_getr dFi_hasToMove_31 fFi_39 rfl rfl f16 ?_
        refine tq_iload_n dFi_hasToMove_34 rfl rfl ?_
        refine tq_iload_n dFi_hasToMove_35 rfl rfl ?_
        obtain ⟨a17, e18, f19, hw⟩ := hw
        refine te_callV mv_Bu_standsAhead (ci := 0) (dc := 1) (as := [vI x1, vI x3]) (rest := []) kFi_140 rfl (Nat.le_of_ble_eq_true rfl) (Nat.le_of_ble_eq_true rfl) rfl rfl e18 f19 (Nat.le_of_ble_eq_true rfl) dFi_hasToMove_36 (s_Bu_standsAhead hw) (fun _ _ hx => False.elim hx) (tk_i fun v21 h20 hw => ?_)
        refine tq_ifeq (tgt := 46) dFi_hasToMove_39 (by decide) (fun c22 => ?_) (fun c22 => ?_)
        · have hw := hw.1 c22
          refine tq_iconst (v := (0 : Int32)) dFi_hasToMove_46 tni_0 ?_
          exact tq_iret rfl (by decide) dFi_hasToMove_47 hw
        · have hw := hw.2 c22
          refine tq_iconst (v := (1 : Int32)) dFi_hasToMove_42 tni_1 ?_
          refine tq_goto (tgt := 47) dFi_hasToMove_43 (by decide) ?_
          exact tq_iret rfl (by decide) dFi_hasToMove_47 hw
  · have hw := hw.2 c7
    refine tq_iconst (v := (1 : Int32)) dFi_hasToMove_12 tni_1 ?_
    exact tq_iret rfl (by decide) dFi_hasToMove_13 hw
/-! T$Finder.bringTwin -/
theorem dFi_bringTwin_0 : decode (mB Fi_bringTwin) 0 = .ok (.aload_n 1, 1) := by decide +kernel
theorem dFi_bringTwin_1 : decode (mB Fi_bringTwin) 1 = .ok (.iload_n 2, 1) := by decide +kernel
theorem dFi_bringTwin_2 : decode (mB Fi_bringTwin) 2 = .ok (.invokevirtual 103, 3) := by decide +kernel
theorem dFi_bringTwin_5 : decode (mB Fi_bringTwin) 5 = .ok (.istore 4, 2) := by decide +kernel
theorem dFi_bringTwin_7 : decode (mB Fi_bringTwin) 7 = .ok (.aload_n 0, 1) := by decide +kernel
theorem dFi_bringTwin_8 : decode (mB Fi_bringTwin) 8 = .ok (.getfield 14, 3) := by decide +kernel
theorem dFi_bringTwin_11 : decode (mB Fi_bringTwin) 11 = .ok (.iload 4, 2) := by decide +kernel
theorem dFi_bringTwin_13 : decode (mB Fi_bringTwin) 13 = .ok (.invokevirtual 106, 3) := by decide +kernel
theorem dFi_bringTwin_16 : decode (mB Fi_bringTwin) 16 = .ok (.istore 5, 2) := by decide +kernel
theorem dFi_bringTwin_18 : decode (mB Fi_bringTwin) 18 = .ok (.aload_n 0, 1) := by decide +kernel
theorem dFi_bringTwin_19 : decode (mB Fi_bringTwin) 19 = .ok (.getfield 14, 3) := by decide +kernel
theorem dFi_bringTwin_22 : decode (mB Fi_bringTwin) 22 = .ok (.aload_n 1, 1) := by decide +kernel
theorem dFi_bringTwin_23 : decode (mB Fi_bringTwin) 23 = .ok (.iload 4, 2) := by decide +kernel
theorem dFi_bringTwin_25 : decode (mB Fi_bringTwin) 25 = .ok (.aload_n 1, 1) := by decide +kernel
theorem dFi_bringTwin_26 : decode (mB Fi_bringTwin) 26 = .ok (.iload_n 2, 1) := by decide +kernel
theorem dFi_bringTwin_27 : decode (mB Fi_bringTwin) 27 = .ok (.invokevirtual 109, 3) := by decide +kernel
theorem dFi_bringTwin_30 : decode (mB Fi_bringTwin) 30 = .ok (.iconst 1, 1) := by decide +kernel
theorem dFi_bringTwin_31 : decode (mB Fi_bringTwin) 31 = .ok (.isub, 1) := by decide +kernel
theorem dFi_bringTwin_32 : decode (mB Fi_bringTwin) 32 = .ok (.invokevirtual 112, 3) := by decide +kernel
theorem dFi_bringTwin_35 : decode (mB Fi_bringTwin) 35 = .ok (.invokevirtual 106, 3) := by decide +kernel
theorem dFi_bringTwin_38 : decode (mB Fi_bringTwin) 38 = .ok (.istore 6, 2) := by decide +kernel
theorem dFi_bringTwin_40 : decode (mB Fi_bringTwin) 40 = .ok (.aload_n 0, 1) := by decide +kernel
theorem dFi_bringTwin_41 : decode (mB Fi_bringTwin) 41 = .ok (.getfield 14, 3) := by decide +kernel
theorem dFi_bringTwin_44 : decode (mB Fi_bringTwin) 44 = .ok (.iload_n 2, 1) := by decide +kernel
theorem dFi_bringTwin_45 : decode (mB Fi_bringTwin) 45 = .ok (.invokevirtual 106, 3) := by decide +kernel
theorem dFi_bringTwin_48 : decode (mB Fi_bringTwin) 48 = .ok (.istore 7, 2) := by decide +kernel
theorem dFi_bringTwin_50 : decode (mB Fi_bringTwin) 50 = .ok (.iload 7, 2) := by decide +kernel
theorem dFi_bringTwin_52 : decode (mB Fi_bringTwin) 52 = .ok (.iconst (-1), 1) := by decide +kernel
theorem dFi_bringTwin_53 : decode (mB Fi_bringTwin) 53 = .ok (.if_icmp .ne 83, 3) := by decide +kernel
theorem dFi_bringTwin_56 : decode (mB Fi_bringTwin) 56 = .ok (.aload_n 1, 1) := by decide +kernel
theorem dFi_bringTwin_57 : decode (mB Fi_bringTwin) 57 = .ok (.iload_n 2, 1) := by decide +kernel
theorem dFi_bringTwin_58 : decode (mB Fi_bringTwin) 58 = .ok (.invokevirtual 84, 3) := by decide +kernel
theorem dFi_bringTwin_61 : decode (mB Fi_bringTwin) 61 = .ok (.istore 8, 2) := by decide +kernel
theorem dFi_bringTwin_63 : decode (mB Fi_bringTwin) 63 = .ok (.aload_n 0, 1) := by decide +kernel
theorem dFi_bringTwin_64 : decode (mB Fi_bringTwin) 64 = .ok (.getfield 14, 3) := by decide +kernel
theorem dFi_bringTwin_67 : decode (mB Fi_bringTwin) 67 = .ok (.iload_n 2, 1) := by decide +kernel
theorem dFi_bringTwin_68 : decode (mB Fi_bringTwin) 68 = .ok (.iload 8, 2) := by decide +kernel
theorem dFi_bringTwin_70 : decode (mB Fi_bringTwin) 70 = .ok (.invokevirtual 87, 3) := by decide +kernel
theorem dFi_bringTwin_73 : decode (mB Fi_bringTwin) 73 = .ok (.aload_n 0, 1) := by decide +kernel
theorem dFi_bringTwin_74 : decode (mB Fi_bringTwin) 74 = .ok (.getfield 39, 3) := by decide +kernel
theorem dFi_bringTwin_77 : decode (mB Fi_bringTwin) 77 = .ok (.iload 8, 2) := by decide +kernel
theorem dFi_bringTwin_79 : decode (mB Fi_bringTwin) 79 = .ok (.aload_n 1, 1) := by decide +kernel
theorem dFi_bringTwin_80 : decode (mB Fi_bringTwin) 80 = .ok (.iload_n 2, 1) := by decide +kernel
theorem dFi_bringTwin_81 : decode (mB Fi_bringTwin) 81 = .ok (.invokevirtual 91, 3) := by decide +kernel
theorem dFi_bringTwin_84 : decode (mB Fi_bringTwin) 84 = .ok (.invokevirtual 116, 3) := by decide +kernel
theorem dFi_bringTwin_87 : decode (mB Fi_bringTwin) 87 = .ok (.aload_n 0, 1) := by decide +kernel
theorem dFi_bringTwin_88 : decode (mB Fi_bringTwin) 88 = .ok (.getfield 39, 3) := by decide +kernel
theorem dFi_bringTwin_91 : decode (mB Fi_bringTwin) 91 = .ok (.iload 8, 2) := by decide +kernel
theorem dFi_bringTwin_93 : decode (mB Fi_bringTwin) 93 = .ok (.iload 5, 2) := by decide +kernel
theorem dFi_bringTwin_95 : decode (mB Fi_bringTwin) 95 = .ok (.iload 6, 2) := by decide +kernel
theorem dFi_bringTwin_97 : decode (mB Fi_bringTwin) 97 = .ok (.invokevirtual 119, 3) := by decide +kernel
theorem dFi_bringTwin_100 : decode (mB Fi_bringTwin) 100 = .ok (.aload_n 3, 1) := by decide +kernel
theorem dFi_bringTwin_101 : decode (mB Fi_bringTwin) 101 = .ok (.new 94, 3) := by decide +kernel
theorem dFi_bringTwin_104 : decode (mB Fi_bringTwin) 104 = .ok (.dup, 1) := by decide +kernel
theorem dFi_bringTwin_105 : decode (mB Fi_bringTwin) 105 = .ok (.iconst 1, 1) := by decide +kernel
theorem dFi_bringTwin_106 : decode (mB Fi_bringTwin) 106 = .ok (.iload 8, 2) := by decide +kernel
theorem dFi_bringTwin_108 : decode (mB Fi_bringTwin) 108 = .ok (.iconst (-1), 1) := by decide +kernel
theorem dFi_bringTwin_109 : decode (mB Fi_bringTwin) 109 = .ok (.aload_n 1, 1) := by decide +kernel
theorem dFi_bringTwin_110 : decode (mB Fi_bringTwin) 110 = .ok (.iload_n 2, 1) := by decide +kernel
theorem dFi_bringTwin_111 : decode (mB Fi_bringTwin) 111 = .ok (.invokevirtual 91, 3) := by decide +kernel
theorem dFi_bringTwin_114 : decode (mB Fi_bringTwin) 114 = .ok (.aload_n 0, 1) := by decide +kernel
theorem dFi_bringTwin_115 : decode (mB Fi_bringTwin) 115 = .ok (.getfield 31, 3) := by decide +kernel
theorem dFi_bringTwin_118 : decode (mB Fi_bringTwin) 118 = .ok (.aload_n 0, 1) := by decide +kernel
theorem dFi_bringTwin_119 : decode (mB Fi_bringTwin) 119 = .ok (.getfield 39, 3) := by decide +kernel
theorem dFi_bringTwin_122 : decode (mB Fi_bringTwin) 122 = .ok (.iload 8, 2) := by decide +kernel
theorem dFi_bringTwin_124 : decode (mB Fi_bringTwin) 124 = .ok (.invokevirtual 122, 3) := by decide +kernel
theorem dFi_bringTwin_127 : decode (mB Fi_bringTwin) 127 = .ok (.invokespecial 96, 3) := by decide +kernel
theorem dFi_bringTwin_130 : decode (mB Fi_bringTwin) 130 = .ok (.invokevirtual 99, 3) := by decide +kernel
theorem dFi_bringTwin_133 : decode (mB Fi_bringTwin) 133 = .ok (.goto 76, 3) := by decide +kernel
theorem dFi_bringTwin_136 : decode (mB Fi_bringTwin) 136 = .ok (.aload_n 0, 1) := by decide +kernel
theorem dFi_bringTwin_137 : decode (mB Fi_bringTwin) 137 = .ok (.iload 7, 2) := by decide +kernel
theorem dFi_bringTwin_139 : decode (mB Fi_bringTwin) 139 = .ok (.iload 5, 2) := by decide +kernel
theorem dFi_bringTwin_141 : decode (mB Fi_bringTwin) 141 = .ok (.iload 6, 2) := by decide +kernel
theorem dFi_bringTwin_143 : decode (mB Fi_bringTwin) 143 = .ok (.invokevirtual 126, 3) := by decide +kernel
theorem dFi_bringTwin_146 : decode (mB Fi_bringTwin) 146 = .ok (.ifCond .eq 63, 3) := by decide +kernel
theorem dFi_bringTwin_149 : decode (mB Fi_bringTwin) 149 = .ok (.aload_n 0, 1) := by decide +kernel
theorem dFi_bringTwin_150 : decode (mB Fi_bringTwin) 150 = .ok (.getfield 39, 3) := by decide +kernel
theorem dFi_bringTwin_153 : decode (mB Fi_bringTwin) 153 = .ok (.iload 7, 2) := by decide +kernel
theorem dFi_bringTwin_155 : decode (mB Fi_bringTwin) 155 = .ok (.invokevirtual 122, 3) := by decide +kernel
theorem dFi_bringTwin_158 : decode (mB Fi_bringTwin) 158 = .ok (.astore 8, 2) := by decide +kernel
theorem dFi_bringTwin_160 : decode (mB Fi_bringTwin) 160 = .ok (.aload_n 0, 1) := by decide +kernel
theorem dFi_bringTwin_161 : decode (mB Fi_bringTwin) 161 = .ok (.getfield 39, 3) := by decide +kernel
theorem dFi_bringTwin_164 : decode (mB Fi_bringTwin) 164 = .ok (.iload 7, 2) := by decide +kernel
theorem dFi_bringTwin_166 : decode (mB Fi_bringTwin) 166 = .ok (.invokevirtual 130, 3) := by decide +kernel
theorem dFi_bringTwin_169 : decode (mB Fi_bringTwin) 169 = .ok (.aload_n 0, 1) := by decide +kernel
theorem dFi_bringTwin_170 : decode (mB Fi_bringTwin) 170 = .ok (.getfield 39, 3) := by decide +kernel
theorem dFi_bringTwin_173 : decode (mB Fi_bringTwin) 173 = .ok (.iload 7, 2) := by decide +kernel
theorem dFi_bringTwin_175 : decode (mB Fi_bringTwin) 175 = .ok (.iload 5, 2) := by decide +kernel
theorem dFi_bringTwin_177 : decode (mB Fi_bringTwin) 177 = .ok (.iload 6, 2) := by decide +kernel
theorem dFi_bringTwin_179 : decode (mB Fi_bringTwin) 179 = .ok (.invokevirtual 119, 3) := by decide +kernel
theorem dFi_bringTwin_182 : decode (mB Fi_bringTwin) 182 = .ok (.aload_n 3, 1) := by decide +kernel
theorem dFi_bringTwin_183 : decode (mB Fi_bringTwin) 183 = .ok (.new 94, 3) := by decide +kernel
theorem dFi_bringTwin_186 : decode (mB Fi_bringTwin) 186 = .ok (.dup, 1) := by decide +kernel
theorem dFi_bringTwin_187 : decode (mB Fi_bringTwin) 187 = .ok (.iconst 2, 1) := by decide +kernel
theorem dFi_bringTwin_188 : decode (mB Fi_bringTwin) 188 = .ok (.iload 7, 2) := by decide +kernel
theorem dFi_bringTwin_190 : decode (mB Fi_bringTwin) 190 = .ok (.iconst (-1), 1) := by decide +kernel
theorem dFi_bringTwin_191 : decode (mB Fi_bringTwin) 191 = .ok (.iconst (-1), 1) := by decide +kernel
theorem dFi_bringTwin_192 : decode (mB Fi_bringTwin) 192 = .ok (.aload 8, 2) := by decide +kernel
theorem dFi_bringTwin_194 : decode (mB Fi_bringTwin) 194 = .ok (.aload_n 0, 1) := by decide +kernel
theorem dFi_bringTwin_195 : decode (mB Fi_bringTwin) 195 = .ok (.getfield 39, 3) := by decide +kernel
theorem dFi_bringTwin_198 : decode (mB Fi_bringTwin) 198 = .ok (.iload 7, 2) := by decide +kernel
theorem dFi_bringTwin_200 : decode (mB Fi_bringTwin) 200 = .ok (.invokevirtual 122, 3) := by decide +kernel
theorem dFi_bringTwin_203 : decode (mB Fi_bringTwin) 203 = .ok (.invokespecial 96, 3) := by decide +kernel
theorem dFi_bringTwin_206 : decode (mB Fi_bringTwin) 206 = .ok (.invokevirtual 99, 3) := by decide +kernel
theorem dFi_bringTwin_209 : decode (mB Fi_bringTwin) 209 = .ok (.return_, 1) := by decide +kernel
def w_Fi_bringTwin (o : Nat) (x1 : Option Nat) (x2 : Int32) (x3 : Option Nat) (h : tpH) (R : tpH → Prop) : Prop :=
  ∃ a1, x1 = some a1 ∧ hT h a1 = 12 ∧ (w_Tr_upOf a1 x2 h (fun v5 h4 => hT h4 o = 2 ∧ (∃ a7, (hR h4 o 3) = some a7 ∧ hT h4 a7 = 8 ∧ (w_Ro_at a7 v5 h4 (fun v11 h10 => hT h10 o = 2 ∧ (hT h10 a1 = 12 ∧ (w_Tr_rankOf a1 x2 h10 (fun v15 h14 => hT h14 a1 = 12 ∧ (w_Tr_kid a1 v5 (v15 - (1 : Int32)) h14 (fun v18 h17 => ∃ a19, (hR h10 o 3) = some a19 ∧ hT h17 a19 = 8 ∧ (w_Ro_at a19 v18 h17 (fun v23 h22 => hT h22 o = 2 ∧ (∃ a25, (hR h22 o 3) = some a25 ∧ hT h22 a25 = 8 ∧ (w_Ro_at a25 x2 h22 (fun v29 h28 => (¬ v29 = (-1 : Int32) → (hT h28 o = 2 ∧ (w_Fi_hasToMove o v29 v11 v23 h28 (fun v33 h32 => (v33 = 0 → (R h32)) ∧ (¬ v33 = 0 → (hT h32 o = 2 ∧ (∃ a36, (hR h32 o 1) = some a36 ∧ hT h32 a36 = 1 ∧ (w_Bu_spotOf a36 v29 h32 (fun v40 h39 => hT h39 o = 2 ∧ (∃ a42, (hR h39 o 1) = some a42 ∧ hT h39 a42 = 1 ∧ (w_Bu_cut a42 v29 h39 (fun h45 => hT h45 o = 2 ∧ (∃ a47, (hR h45 o 1) = some a47 ∧ hT h45 a47 = 1 ∧ (w_Bu_hang a47 v29 v11 v23 h45 (fun h50 => ∀ a51 h52, a51 = hZ h50 → h52 = nC h50 11 0 6 → (hT h52 o = 2 ∧ (∃ a56, (hR h52 o 1) = some a56 ∧ hT h52 a56 = 1 ∧ (w_Bu_spotOf a56 v29 h52 (fun v60 h59 => hT h59 a51 = 11 ∧ (w_St_init a51 (2 : Int32) v29 (-1 : Int32) (-1 : Int32) v40 v60 h59 (fun h62 => ∃ a63, x3 = some a63 ∧ hT h62 a63 = 9 ∧ (w_Sc_add a63 (some a51) h62 (fun h66 => R h66))))))))))))))))))))))) ∧ (v29 = (-1 : Int32) → (hT h28 a1 = 12 ∧ (w_Tr_markOf a1 x2 h28 (fun v69 h68 => hT h68 o = 2 ∧ (∃ a71, (hR h68 o 3) = some a71 ∧ hT h68 a71 = 8 ∧ (w_Ro_put a71 x2 v69 h68 (fun h74 => hT h74 o = 2 ∧ (hT h74 a1 = 12 ∧ (w_Tr_worthOf a1 x2 h74 (fun v78 h77 => ∃ a79, (hR h74 o 1) = some a79 ∧ hT h77 a79 = 1 ∧ (w_Bu_sprout a79 v69 v78 h77 (fun h82 => hT h82 o = 2 ∧ (∃ a84, (hR h82 o 1) = some a84 ∧ hT h82 a84 = 1 ∧ (w_Bu_hang a84 v69 v11 v23 h82 (fun h87 => ∀ a88 h89, a88 = hZ h87 → h89 = nC h87 11 0 6 → (hT h89 a1 = 12 ∧ (w_Tr_worthOf a1 x2 h89 (fun v94 h93 => hT h93 o = 2 ∧ (∃ a96, (hR h93 o 1) = some a96 ∧ hT h93 a96 = 1 ∧ (w_Bu_spotOf a96 v69 h93 (fun v100 h99 => hT h99 a88 = 11 ∧ (w_St_init a88 (1 : Int32) v69 (-1 : Int32) v94 (hR h93 o 6) v100 h99 (fun h102 => ∃ a103, x3 = some a103 ∧ hT h102 a103 = 9 ∧ (w_Sc_add a103 (some a88) h102 (fun h106 => R h106))))))))))))))))))))))))))))))))))))))))
theorem s_Fi_bringTwin {o : Nat} {x1 : Option Nat} {x2 : Int32} {x3 : Option Nat} {h : tpH} {R : tpH → Prop} (hw : w_Fi_bringTwin o x1 x2 x3 h R) : tpC Fi_bringTwin 3 [vR (some o), vR x1, vI x2, vR x3] h (tpOv R (fun _ _ => False)) := by
  refine tpC_of mv_Fi_bringTwin.2.2.2.1 rfl rfl (Nat.le_of_ble_eq_true rfl) ?_
  show tpR Fi_bringTwin 3 h _ _ 0 [some (vR (some o)), some (vR x1), some (vI x2), some (vR x3), none, none, none, none, none] [] h
  unfold w_Fi_bringTwin at hw
  refine tq_aload_n dFi_bringTwin_0 rfl rfl ?_
  refine tq_iload_n dFi_bringTwin_1 rfl rfl ?_
  obtain ⟨a1, e2, f3, hw⟩ := hw
  refine te_callV mv_Tr_upOf (ci := 11) (dc := 1) (as := [vI x2]) (rest := []) kFi_103 rfl (Nat.le_of_ble_eq_true rfl) (Nat.le_of_ble_eq_true rfl) rfl rfl e2 f3 (Nat.le_of_ble_eq_true rfl) dFi_bringTwin_2 (s_Tr_upOf hw) (fun _ _ hx => False.elim hx) (tk_i fun v5 h4 hw => ?_)
  refine tq_istore (ls' := [some (vR (some o)), some (vR x1), some (vI x2), some (vR x3), some (vI v5), none, none, none, none]) dFi_bringTwin_5 (Nat.le_of_ble_eq_true rfl) rfl ?_
  refine tq_aload_n dFi_bringTwin_7 rfl rfl ?_
  obtain ⟨f6, hw⟩ := hw
  refine te_getr dFi_bringTwin_8 fFi_14 rfl rfl f6 ?_
  refine tq_iload dFi_bringTwin_11 rfl ?_
  obtain ⟨a7, e8, f9, hw⟩ := hw
  refine te_callV mv_Ro_at (ci := 7) (dc := 0) (as := [vI v5]) (rest := []) kFi_106 rfl (Nat.le_of_ble_eq_true rfl) (Nat.le_of_ble_eq_true rfl) rfl rfl e8 f9 (Nat.le_of_ble_eq_true rfl) dFi_bringTwin_13 (s_Ro_at hw) (fun _ _ hx => False.elim hx) (tk_i fun v11 h10 hw => ?_)
  refine tq_istore (ls' := [some (vR (some o)), some (vR x1), some (vI x2), some (vR x3), some (vI v5), some (vI v11), none, none, none]) dFi_bringTwin_16 (Nat.le_of_ble_eq_true rfl) rfl ?_
  refine tq_aload_n dFi_bringTwin_18 rfl rfl ?_
  obtain ⟨f12, hw⟩ := hw
  refine te_getr dFi_bringTwin_19 fFi_14 rfl rfl f12 ?_
  refine tq_aload_n dFi_bringTwin_22 rfl rfl ?_
  refine tq_iload dFi_bringTwin_23 rfl ?_
  refine tq_aload_n dFi_bringTwin_25 rfl rfl ?_
  refine tq_iload_n dFi_bringTwin_26 rfl rfl ?_
  obtain ⟨f13, hw⟩ := hw
  refine te_callV mv_Tr_rankOf (ci := 11) (dc := 1) (as := [vI x2]) (rest := [vI v5, vR x1, vR (hR h10 o 3)]) kFi_109 rfl (Nat.le_of_ble_eq_true rfl) (Nat.le_of_ble_eq_true rfl) rfl rfl e2 f13 (Nat.le_of_ble_eq_true rfl) dFi_bringTwin_27 (s_Tr_rankOf hw) (fun _ _ hx => False.elim hx) (tk_i fun v15 h14 hw => ?_)
  refine tq_iconst (v := (1 : Int32)) dFi_bringTwin_30 tni_1 ?_
  refine tq_isub dFi_bringTwin_31 ?_
  obtain ⟨f16, hw⟩ := hw
  refine te_callV mv_Tr_kid (ci := 11) (dc := 1) (as := [vI v5, vI (v15 - (1 : Int32))]) (rest := [vR (hR h10 o 3)]) kFi_112 rfl (Nat.le_of_ble_eq_true rfl) (Nat.le_of_ble_eq_true rfl) rfl rfl e2 f16 (Nat.le_of_ble_eq_true rfl) dFi_bringTwin_32 (s_Tr_kid hw) (fun _ _ hx => False.elim hx) (tk_i fun v18 h17 hw => ?_)
  obtain ⟨a19, e20, f21, hw⟩ := hw
  refine te_callV mv_Ro_at (ci := 7) (dc := 0) (as := [vI v18]) (rest := []) kFi_106 rfl (Nat.le_of_ble_eq_true rfl) (Nat.le_of_ble_eq_true rfl) rfl rfl e20 f21 (Nat.le_of_ble_eq_true rfl) dFi_bringTwin_35 (s_Ro_at hw) (fun _ _ hx => False.elim hx) (tk_i fun v23 h22 hw => ?_)
  refine tq_istore (ls' := [some (vR (some o)), some (vR x1), some (vI x2), some (vR x3), some (vI v5), some (vI v11), some (vI v23), none, none]) dFi_bringTwin_38 (Nat.le_of_ble_eq_true rfl) rfl ?_
  refine tq_aload_n dFi_bringTwin_40 rfl rfl ?_
  obtain ⟨f24, hw⟩ := hw
  refine te_getr dFi_bringTwin_41 fFi_14 rfl rfl f24 ?_
  refine tq_iload_n dFi_bringTwin_44 rfl rfl ?_
  obtain ⟨a25, e26, f27, hw⟩ := hw
  refine te_callV mv_Ro_at (ci := 7) (dc := 0) (as := [vI x2]) (rest := []) kFi_106 rfl (Nat.le_of_ble_eq_true rfl) (Nat.le_of_ble_eq_true rfl) rfl rfl e26 f27 (Nat.le_of_ble_eq_true rfl) dFi_bringTwin_45 (s_Ro_at hw) (fun _ _ hx => False.elim hx) (tk_i fun v29 h28 hw => ?_)
  refine tq_istore (ls' := [some (vR (some o)), some (vR x1), some (vI x2), some (vR x3), some (vI v5), some (vI v11), some (vI v23), some (vI v29), none]) dFi_bringTwin_48 (Nat.le_of_ble_eq_true rfl) rfl ?_
  refine tq_iload dFi_bringTwin_50 rfl ?_
  refine tq_iconst (v := (-1 : Int32)) dFi_bringTwin_52 tni_m1 ?_
  refine tq_icmpne (tgt := 136) dFi_bringTwin_53 (by decide) (fun c30 => ?_) (fun c30 => ?_)
  · have hw := hw.1 c30
    refine tq_aload_n dFi_bringTwin_136 rfl rfl ?_
    refine tq_iload dFi_bringTwin_137 rfl ?_
    refine tq_iload dFi_bringTwin_139 rfl ?_
    refine tq_iload dFi_bringTwin_141 rfl ?_
    obtain ⟨f31, hw⟩ := hw
    refine te_callV mv_Fi_hasToMove (ci := 1) (dc := 2) (as := [vI v29, vI v11, vI v23]) (rest := []) kFi_126 rfl (Nat.le_of_ble_eq_true rfl) (Nat.le_of_ble_eq_true rfl) rfl rfl rfl f31 (Nat.le_of_ble_eq_true rfl) dFi_bringTwin_143 (s_Fi_hasToMove hw) (fun _ _ hx => False.elim hx) (tk_i fun v33 h32 hw => ?_)
    refine tq_ifeq (tgt := 209) dFi_bringTwin_146 (by decide) (fun c34 => ?_) (fun c34 => ?_)
    · have hw := hw.1 c34
      exact tq_vret rfl dFi_bringTwin_209 hw
    · have hw := hw.2 c34
      refine tq_aload_n dFi_bringTwin_149 rfl rfl ?_
      obtain ⟨f35, hw⟩ := hw
      refine te_getr dFi_bringTwin_150 fFi_39 rfl rfl f35 ?_
      refine tq_iload dFi_bringTwin_153 rfl ?_
      obtain ⟨a36, e37, f38, hw⟩ := hw
      refine te_callV mv_Bu_spotOf (ci := 0) (dc := 2) (as := [vI v29]) (rest := []) kFi_122 rfl (Nat.le_of_ble_eq_true rfl) (Nat.le_of_ble_eq_true rfl) rfl rfl e37 f38 (Nat.le_of_ble_eq_true rfl) dFi_bringTwin_155 (s_Bu_spotOf hw) (fun _ _ hx => False.elim hx) (tk_r fun v40 h39 hw => ?_)
      refine tq_astore (ls' := [some (vR (some o)), some (vR x1), some (vI x2), some (vR x3), some (vI v5), some (vI v11), some (vI v23), some (vI v29), some (vR v40)]) dFi_bringTwin_158 (Nat.le_of_ble_eq_true rfl) rfl ?_
      refine tq_aload_n dFi_bringTwin_160 rfl rfl ?_
      obtain ⟨f41, hw⟩ := hw
      refine te_getr dFi_bringTwin_161 fFi_39 rfl rfl f41 ?_
      refine tq_iload dFi_bringTwin_164 rfl ?_
      obtain ⟨a42, e43, f44, hw⟩ := hw
      refine te_callV mv_Bu_cut (ci := 0) (dc := 2) (as := [vI v29]) (rest := []) kFi_130 rfl (Nat.le_of_ble_eq_true rfl) (Nat.le_of_ble_eq_true rfl) rfl rfl e43 f44 (Nat.le_of_ble_eq_true rfl) dFi_bringTwin_166 (s_Bu_cut hw) (fun _ _ hx => False.elim hx) (tk_v fun h45 hw => ?_)
      refine tq_aload_n dFi_bringTwin_169 rfl rfl ?_
      obtain ⟨f46, hw⟩ := hw
      refine te_getr dFi_bringTwin_170 fFi_39 rfl rfl f46 ?_
      refine tq_iload dFi_bringTwin_173 rfl ?_
      refine tq_iload dFi_bringTwin_175 rfl ?_
      refine tq_iload dFi_bringTwin_177 rfl ?_
      obtain ⟨a47, e48, f49, hw⟩ := hw
      refine te_callV mv_Bu_hang (ci := 0) (dc := 2) (as := [vI v29, vI v11, vI v23]) (rest := []) kFi_119 rfl (Nat.le_of_ble_eq_true rfl) (Nat.le_of_ble_eq_true rfl) rfl rfl e48 f49 (Nat.le_of_ble_eq_true rfl) dFi_bringTwin_179 (s_Bu_hang hw) (fun _ _ hx => False.elim hx) (tk_v fun h50 hw => ?_)
      refine tq_aload_n dFi_bringTwin_182 rfl rfl ?_
      refine tq_new (ci := 10) cFi_94 ti_10 rfl dFi_bringTwin_183 (fun a51 h52 e53 e54 => ?_)
      have hw := hw a51 h52 e53 e54
      refine tq_dup dFi_bringTwin_186 rfl ?_
      refine tq_iconst (v := (2 : Int32)) dFi_bringTwin_187 tni_2 ?_
      refine tq_iload dFi_bringTwin_188 rfl ?_
      refine tq_iconst (v := (-1 : Int32)) dFi_bringTwin_190 tni_m1 ?_
      refine tq_iconst (v := (-1 : Int32)) dFi_bringTwin_191 tni_m1 ?_
      refine tq_aload dFi_bringTwin_192 rfl ?_
      refine tq_aload_n dFi_bringTwin_194 rfl rfl ?_
      obtain ⟨f55, hw⟩ := hw
      refine te_getr dFi_bringTwin_195 fFi_39 rfl rfl f55 ?_
      refine tq_iload dFi_bringTwin_198 rfl ?_
      obtain ⟨a56, e57, f58, hw⟩ := hw
      refine te_callV mv_Bu_spotOf (ci := 0) (dc := 2) (as := [vI v29]) (rest := [vR v40, vI (-1 : Int32), vI (-1 : Int32), vI v29, vI (2 : Int32), vR (some a51), vR (some a51), vR x3]) kFi_122 rfl (Nat.le_of_ble_eq_true rfl) (Nat.le_of_ble_eq_true rfl) rfl rfl e57 f58 (Nat.le_of_ble_eq_true rfl) dFi_bringTwin_200 (s_Bu_spotOf hw) (fun _ _ hx => False.elim hx) (tk_r fun v60 h59 hw => ?_)
      obtain ⟨f61, hw⟩ := hw
      refine te_init mi_St_init (dc := 1) (as := [vI (2 : Int32), vI v29, vI (-1 : Int32), vI (-1 : Int32), vR v40, vR v60]) (rest := [vR (some a51), vR x3]) (Or.inl kFi_96) (Nat.le_of_ble_eq_true rfl) (Nat.le_of_ble_eq_true rfl) rfl rfl rfl (Nat.le_of_ble_eq_true rfl) dFi_bringTwin_203 (s_St_init hw) (fun _ _ hx => hx) (tk_v fun h62 hw => ?_)
      obtain ⟨a63, e64, f65, hw⟩ := hw
      refine te_callV mv_Sc_add (ci := 8) (dc := 0) (as := [vR (some a51)]) (rest := []) kFi_99 rfl (Nat.le_of_ble_eq_true rfl) (Nat.le_of_ble_eq_true rfl) rfl rfl e64 f65 (Nat.le_of_ble_eq_true rfl) dFi_bringTwin_206 (s_Sc_add hw) (fun _ _ hx => False.elim hx) (tk_v fun h66 hw => ?_)
      exact tq_vret rfl dFi_bringTwin_209 hw
  · have hw := hw.2 c30
    refine tq_aload_n dFi_bringTwin_56 rfl rfl ?_
    refine tq_iload_n dFi_bringTwin_57 rfl rfl ?_
    obtain ⟨f67, hw⟩ := hw
    refine te_callV mv_Tr_markOf (ci := 11) (dc := 1) (as := [vI x2]) (rest := []) kFi_84 rfl (Nat.le_of_ble_eq_true rfl) (Nat.le_of_ble_eq_true rfl) rfl rfl e2 f67 (Nat.le_of_ble_eq_true rfl) dFi_bringTwin_58 (s_Tr_markOf hw) (fun _ _ hx => False.elim hx) (tk_i fun v69 h68 hw => ?_)
    refine tq_istore (ls' := [some (vR (some o)), some (vR x1), some (vI x2), some (vR x3), some (vI v5), some (vI v11), some (vI v23), some (vI v29), some (vI v69)]) dFi_bringTwin_61 (Nat.le_of_ble_eq_true rfl) rfl ?_
    refine tq_aload_n dFi_bringTwin_63 rfl rfl ?_
    obtain ⟨f70, hw⟩ := hw
    refine te_getr dFi_bringTwin_64 fFi_14 rfl rfl f70 ?_
    refine tq_iload_n dFi_bringTwin_67 rfl rfl ?_
    refine tq_iload dFi_bringTwin_68 rfl ?_
    obtain ⟨a71, e72, f73, hw⟩ := hw
    refine te_callV mv_Ro_put (ci := 7) (dc := 0) (as := [vI x2, vI v69]) (rest := []) kFi_87 rfl (Nat.le_of_ble_eq_true rfl) (Nat.le_of_ble_eq_true rfl) rfl rfl e72 f73 (Nat.le_of_ble_eq_true rfl) dFi_bringTwin_70 (s_Ro_put hw) (fun _ _ hx => False.elim hx) (tk_v fun h74 hw => ?_)
    refine tq_aload_n dFi_bringTwin_73 rfl rfl ?_
    obtain ⟨f75, hw⟩ := hw
    refine te_getr dFi_bringTwin_74 fFi_39 rfl rfl f75 ?_
    refine tq_iload dFi_bringTwin_77 rfl ?_
    refine tq_aload_n dFi_bringTwin_79 rfl rfl ?_
    refine tq_iload_n dFi_bringTwin_80 rfl rfl ?_
    obtain ⟨f76, hw⟩ := hw
    refine te_callV mv_Tr_worthOf (ci := 11) (dc := 1) (as := [vI x2]) (rest := [vI v69, vR (hR h74 o 1)]) kFi_91 rfl (Nat.le_of_ble_eq_true rfl) (Nat.le_of_ble_eq_true rfl) rfl rfl e2 f76 (Nat.le_of_ble_eq_true rfl) dFi_bringTwin_81 (s_Tr_worthOf hw) (fun _ _ hx => False.elim hx) (tk_i fun v78 h77 hw => ?_)
    obtain ⟨a79, e80, f81, hw⟩ := hw
    refine te_callV mv_Bu_sprout (ci := 0) (dc := 1) (as := [vI v69, vI v78]) (rest := []) kFi_116 rfl (Nat.le_of_ble_eq_true rfl) (Nat.le_of_ble_eq_true rfl) rfl rfl e80 f81 (Nat.le_of_ble_eq_true rfl) dFi_bringTwin_84 (s_Bu_sprout hw) (fun _ _ hx => False.elim hx) (tk_v fun h82 hw => ?_)
    refine tq_aload_n dFi_bringTwin_87 rfl rfl ?_
    obtain ⟨f83, hw⟩ := hw
    refine te_getr dFi_bringTwin_88 fFi_39 rfl rfl f83 ?_
    refine tq_iload dFi_bringTwin_91 rfl ?_
    refine tq_iload dFi_bringTwin_93 rfl ?_
    refine tq_iload dFi_bringTwin_95 rfl ?_
    obtain ⟨a84, e85, f86, hw⟩ := hw
    refine te_callV mv_Bu_hang (ci := 0) (dc := 2) (as := [vI v69, vI v11, vI v23]) (rest := []) kFi_119 rfl (Nat.le_of_ble_eq_true rfl) (Nat.le_of_ble_eq_true rfl) rfl rfl e85 f86 (Nat.le_of_ble_eq_true rfl) dFi_bringTwin_97 (s_Bu_hang hw) (fun _ _ hx => False.elim hx) (tk_v fun h87 hw => ?_)
    refine tq_aload_n dFi_bringTwin_100 rfl rfl ?_
    refine tq_new (ci := 10) cFi_94 ti_10 rfl dFi_bringTwin_101 (fun a88 h89 e90 e91 => ?_)
    have hw := hw a88 h89 e90 e91
    refine tq_dup dFi_bringTwin_104 rfl ?_
    refine tq_iconst (v := (1 : Int32)) dFi_bringTwin_105 tni_1 ?_
    refine tq_iload dFi_bringTwin_106 rfl ?_
    refine tq_iconst (v := (-1 : Int32)) dFi_bringTwin_108 tni_m1 ?_
    refine tq_aload_n dFi_bringTwin_109 rfl rfl ?_
    refine tq_iload_n dFi_bringTwin_110 rfl rfl ?_
    obtain ⟨f92, hw⟩ := hw
    refine te_callV mv_Tr_worthOf (ci := 11) (dc := 1) (as := [vI x2]) (rest := [vI (-1 : Int32), vI v69, vI (1 : Int32), vR (some a88), vR (some a88), vR x3]) kFi_91 rfl (Nat.le_of_ble_eq_true rfl) (Nat.le_of_ble_eq_true rfl) rfl rfl e2 f92 (Nat.le_of_ble_eq_true rfl) dFi_bringTwin_111 (s_Tr_worthOf hw) (fun _ _ hx => False.elim hx) (tk_i fun v94 h93 hw => ?_)
    refine tq_aload_n dFi_bringTwin_114 rfl rfl ?_
    obtain ⟨f95, hw⟩ := hw
    refine te_getr dFi_bringTwin_115 fFi_31 rfl rfl f95 ?_
    refine tq_aload_n dFi_bringTwin_118 rfl rfl ?_
    refine te_getr dFi_bringTwin_119 fFi_39 rfl rfl f95 ?_
    refine tq_iload dFi_bringTwin_122 rfl ?_
    obtain ⟨a96, e97, f98, hw⟩ := hw
    refine te_callV mv_Bu_spotOf (ci := 0) (dc := 2) (as := [vI v69]) (rest := [vR (hR h93 o 6), vI v94, vI (-1 : Int32), vI v69, vI (1 : Int32), vR (some a88), vR (some a88), vR x3]) kFi_122 rfl (Nat.le_of_ble_eq_true rfl) (Nat.le_of_ble_eq_true rfl) rfl rfl e97 f98 (Nat.le_of_ble_eq_true rfl) dFi_bringTwin_124 (s_Bu_spotOf hw) (fun _ _ hx => False.elim hx) (tk_r fun v100 h99 hw => ?_)
    obtain ⟨f101, hw⟩ := hw
    refine te_init mi_St_init (dc := 1) (as := [vI (1 : Int32), vI v69, vI (-1 : Int32), vI v94, vR (hR h93 o 6), vR v100]) (rest := [vR (some a88), vR x3]) (Or.inl kFi_96) (Nat.le_of_ble_eq_true rfl) (Nat.le_of_ble_eq_true rfl) rfl rfl rfl (Nat.le_of_ble_eq_true rfl) dFi_bringTwin_127 (s_St_init hw) (fun _ _ hx => hx) (tk_v fun h102 hw => ?_)
    obtain ⟨a103, e104, f105, hw⟩ := hw
    refine te_callV mv_Sc_add (ci := 8) (dc := 0) (as := [vR (some a88)]) (rest := []) kFi_99 rfl (Nat.le_of_ble_eq_true rfl) (Nat.le_of_ble_eq_true rfl) rfl rfl e104 f105 (Nat.le_of_ble_eq_true rfl) dFi_bringTwin_130 (s_Sc_add hw) (fun _ _ hx => False.elim hx) (tk_v fun h106 hw => ?_)
    refine tq_goto (tgt := 209) dFi_bringTwin_133 (by decide) ?_
    exact tq_vret rfl dFi_bringTwin_209 hw
/-! T$Finder.removeOthers -/
theorem dFi_removeOthers_0 : decode (mB Fi_removeOthers) 0 = .ok (.aload_n 0, 1) := by decide +kernel
theorem dFi_removeOthers_1 : decode (mB Fi_removeOthers) 1 = .ok (.getfield 20, 3) := by decide +kernel
theorem dFi_removeOthers_4 : decode (mB Fi_removeOthers) 4 = .ok (.sipush 300, 3) := by decide +kernel
theorem dFi_removeOthers_7 : decode (mB Fi_removeOthers) 7 = .ok (.iconst 0, 1) := by decide +kernel
theorem dFi_removeOthers_8 : decode (mB Fi_removeOthers) 8 = .ok (.invokevirtual 144, 3) := by decide +kernel
theorem dFi_removeOthers_11 : decode (mB Fi_removeOthers) 11 = .ok (.iconst 0, 1) := by decide +kernel
theorem dFi_removeOthers_12 : decode (mB Fi_removeOthers) 12 = .ok (.istore_n 3, 1) := by decide +kernel
theorem dFi_removeOthers_13 : decode (mB Fi_removeOthers) 13 = .ok (.iload_n 3, 1) := by decide +kernel
theorem dFi_removeOthers_14 : decode (mB Fi_removeOthers) 14 = .ok (.aload_n 1, 1) := by decide +kernel
theorem dFi_removeOthers_15 : decode (mB Fi_removeOthers) 15 = .ok (.getfield 56, 3) := by decide +kernel
theorem dFi_removeOthers_18 : decode (mB Fi_removeOthers) 18 = .ok (.if_icmp .ge 25, 3) := by decide +kernel
theorem dFi_removeOthers_21 : decode (mB Fi_removeOthers) 21 = .ok (.aload_n 0, 1) := by decide +kernel
theorem dFi_removeOthers_22 : decode (mB Fi_removeOthers) 22 = .ok (.getfield 20, 3) := by decide +kernel
theorem dFi_removeOthers_25 : decode (mB Fi_removeOthers) 25 = .ok (.aload_n 0, 1) := by decide +kernel
theorem dFi_removeOthers_26 : decode (mB Fi_removeOthers) 26 = .ok (.getfield 14, 3) := by decide +kernel
theorem dFi_removeOthers_29 : decode (mB Fi_removeOthers) 29 = .ok (.iload_n 3, 1) := by decide +kernel
theorem dFi_removeOthers_30 : decode (mB Fi_removeOthers) 30 = .ok (.invokevirtual 106, 3) := by decide +kernel
theorem dFi_removeOthers_33 : decode (mB Fi_removeOthers) 33 = .ok (.iconst 1, 1) := by decide +kernel
theorem dFi_removeOthers_34 : decode (mB Fi_removeOthers) 34 = .ok (.invokevirtual 87, 3) := by decide +kernel
theorem dFi_removeOthers_37 : decode (mB Fi_removeOthers) 37 = .ok (.iinc 3 1, 3) := by decide +kernel
theorem dFi_removeOthers_40 : decode (mB Fi_removeOthers) 40 = .ok (.goto (-27), 3) := by decide +kernel
theorem dFi_removeOthers_43 : decode (mB Fi_removeOthers) 43 = .ok (.aload_n 0, 1) := by decide +kernel
theorem dFi_removeOthers_44 : decode (mB Fi_removeOthers) 44 = .ok (.getfield 39, 3) := by decide +kernel
theorem dFi_removeOthers_47 : decode (mB Fi_removeOthers) 47 = .ok (.getfield 147, 3) := by decide +kernel
theorem dFi_removeOthers_50 : decode (mB Fi_removeOthers) 50 = .ok (.istore_n 3, 1) := by decide +kernel
theorem dFi_removeOthers_51 : decode (mB Fi_removeOthers) 51 = .ok (.aload_n 0, 1) := by decide +kernel
theorem dFi_removeOthers_52 : decode (mB Fi_removeOthers) 52 = .ok (.getfield 39, 3) := by decide +kernel
theorem dFi_removeOthers_55 : decode (mB Fi_removeOthers) 55 = .ok (.getfield 148, 3) := by decide +kernel
theorem dFi_removeOthers_58 : decode (mB Fi_removeOthers) 58 = .ok (.istore 4, 2) := by decide +kernel
theorem dFi_removeOthers_60 : decode (mB Fi_removeOthers) 60 = .ok (.iconst 0, 1) := by decide +kernel
theorem dFi_removeOthers_61 : decode (mB Fi_removeOthers) 61 = .ok (.istore 5, 2) := by decide +kernel
theorem dFi_removeOthers_63 : decode (mB Fi_removeOthers) 63 = .ok (.iload 5, 2) := by decide +kernel
theorem dFi_removeOthers_65 : decode (mB Fi_removeOthers) 65 = .ok (.iload_n 3, 1) := by decide +kernel
theorem dFi_removeOthers_66 : decode (mB Fi_removeOthers) 66 = .ok (.if_icmp .ge 44, 3) := by decide +kernel
theorem dFi_removeOthers_69 : decode (mB Fi_removeOthers) 69 = .ok (.iload 4, 2) := by decide +kernel
theorem dFi_removeOthers_71 : decode (mB Fi_removeOthers) 71 = .ok (.iconst (-1), 1) := by decide +kernel
theorem dFi_removeOthers_72 : decode (mB Fi_removeOthers) 72 = .ok (.if_icmp .eq 38, 3) := by decide +kernel
theorem dFi_removeOthers_75 : decode (mB Fi_removeOthers) 75 = .ok (.aload_n 0, 1) := by decide +kernel
theorem dFi_removeOthers_76 : decode (mB Fi_removeOthers) 76 = .ok (.getfield 23, 3) := by decide +kernel
theorem dFi_removeOthers_79 : decode (mB Fi_removeOthers) 79 = .ok (.iload 5, 2) := by decide +kernel
theorem dFi_removeOthers_81 : decode (mB Fi_removeOthers) 81 = .ok (.iload 4, 2) := by decide +kernel
theorem dFi_removeOthers_83 : decode (mB Fi_removeOthers) 83 = .ok (.invokevirtual 87, 3) := by decide +kernel
theorem dFi_removeOthers_86 : decode (mB Fi_removeOthers) 86 = .ok (.aload_n 0, 1) := by decide +kernel
theorem dFi_removeOthers_87 : decode (mB Fi_removeOthers) 87 = .ok (.getfield 39, 3) := by decide +kernel
theorem dFi_removeOthers_90 : decode (mB Fi_removeOthers) 90 = .ok (.iload 4, 2) := by decide +kernel
theorem dFi_removeOthers_92 : decode (mB Fi_removeOthers) 92 = .ok (.aload_n 0, 1) := by decide +kernel
theorem dFi_removeOthers_93 : decode (mB Fi_removeOthers) 93 = .ok (.getfield 39, 3) := by decide +kernel
theorem dFi_removeOthers_96 : decode (mB Fi_removeOthers) 96 = .ok (.getfield 148, 3) := by decide +kernel
theorem dFi_removeOthers_99 : decode (mB Fi_removeOthers) 99 = .ok (.invokevirtual 151, 3) := by decide +kernel
theorem dFi_removeOthers_102 : decode (mB Fi_removeOthers) 102 = .ok (.istore 4, 2) := by decide +kernel
theorem dFi_removeOthers_104 : decode (mB Fi_removeOthers) 104 = .ok (.iinc 5 1, 3) := by decide +kernel
theorem dFi_removeOthers_107 : decode (mB Fi_removeOthers) 107 = .ok (.goto (-44), 3) := by decide +kernel
theorem dFi_removeOthers_110 : decode (mB Fi_removeOthers) 110 = .ok (.iload_n 3, 1) := by decide +kernel
theorem dFi_removeOthers_111 : decode (mB Fi_removeOthers) 111 = .ok (.iconst 1, 1) := by decide +kernel
theorem dFi_removeOthers_112 : decode (mB Fi_removeOthers) 112 = .ok (.isub, 1) := by decide +kernel
theorem dFi_removeOthers_113 : decode (mB Fi_removeOthers) 113 = .ok (.istore 5, 2) := by decide +kernel
theorem dFi_removeOthers_115 : decode (mB Fi_removeOthers) 115 = .ok (.iload 5, 2) := by decide +kernel
theorem dFi_removeOthers_117 : decode (mB Fi_removeOthers) 117 = .ok (.ifCond .lt 86, 3) := by decide +kernel
theorem dFi_removeOthers_120 : decode (mB Fi_removeOthers) 120 = .ok (.aload_n 2, 1) := by decide +kernel
theorem dFi_removeOthers_121 : decode (mB Fi_removeOthers) 121 = .ok (.invokevirtual 62, 3) := by decide +kernel
theorem dFi_removeOthers_124 : decode (mB Fi_removeOthers) 124 = .ok (.ifCond .ne 79, 3) := by decide +kernel
theorem dFi_removeOthers_127 : decode (mB Fi_removeOthers) 127 = .ok (.aload_n 0, 1) := by decide +kernel
theorem dFi_removeOthers_128 : decode (mB Fi_removeOthers) 128 = .ok (.getfield 23, 3) := by decide +kernel
theorem dFi_removeOthers_131 : decode (mB Fi_removeOthers) 131 = .ok (.iload 5, 2) := by decide +kernel
theorem dFi_removeOthers_133 : decode (mB Fi_removeOthers) 133 = .ok (.invokevirtual 106, 3) := by decide +kernel
theorem dFi_removeOthers_136 : decode (mB Fi_removeOthers) 136 = .ok (.istore 4, 2) := by decide +kernel
theorem dFi_removeOthers_138 : decode (mB Fi_removeOthers) 138 = .ok (.aload_n 0, 1) := by decide +kernel
theorem dFi_removeOthers_139 : decode (mB Fi_removeOthers) 139 = .ok (.getfield 20, 3) := by decide +kernel
theorem dFi_removeOthers_142 : decode (mB Fi_removeOthers) 142 = .ok (.iload 4, 2) := by decide +kernel
theorem dFi_removeOthers_144 : decode (mB Fi_removeOthers) 144 = .ok (.invokevirtual 106, 3) := by decide +kernel
theorem dFi_removeOthers_147 : decode (mB Fi_removeOthers) 147 = .ok (.ifCond .ne 50, 3) := by decide +kernel
theorem dFi_removeOthers_150 : decode (mB Fi_removeOthers) 150 = .ok (.aload_n 2, 1) := by decide +kernel
theorem dFi_removeOthers_151 : decode (mB Fi_removeOthers) 151 = .ok (.new 94, 3) := by decide +kernel
theorem dFi_removeOthers_154 : decode (mB Fi_removeOthers) 154 = .ok (.dup, 1) := by decide +kernel
theorem dFi_removeOthers_155 : decode (mB Fi_removeOthers) 155 = .ok (.iconst 3, 1) := by decide +kernel
theorem dFi_removeOthers_156 : decode (mB Fi_removeOthers) 156 = .ok (.iload 4, 2) := by decide +kernel
theorem dFi_removeOthers_158 : decode (mB Fi_removeOthers) 158 = .ok (.aload_n 0, 1) := by decide +kernel
theorem dFi_removeOthers_159 : decode (mB Fi_removeOthers) 159 = .ok (.getfield 39, 3) := by decide +kernel
theorem dFi_removeOthers_162 : decode (mB Fi_removeOthers) 162 = .ok (.iload 4, 2) := by decide +kernel
theorem dFi_removeOthers_164 : decode (mB Fi_removeOthers) 164 = .ok (.invokevirtual 154, 3) := by decide +kernel
theorem dFi_removeOthers_167 : decode (mB Fi_removeOthers) 167 = .ok (.iconst (-1), 1) := by decide +kernel
theorem dFi_removeOthers_168 : decode (mB Fi_removeOthers) 168 = .ok (.aload_n 0, 1) := by decide +kernel
theorem dFi_removeOthers_169 : decode (mB Fi_removeOthers) 169 = .ok (.getfield 39, 3) := by decide +kernel
theorem dFi_removeOthers_172 : decode (mB Fi_removeOthers) 172 = .ok (.iload 4, 2) := by decide +kernel
theorem dFi_removeOthers_174 : decode (mB Fi_removeOthers) 174 = .ok (.invokevirtual 122, 3) := by decide +kernel
theorem dFi_removeOthers_177 : decode (mB Fi_removeOthers) 177 = .ok (.aload_n 0, 1) := by decide +kernel
theorem dFi_removeOthers_178 : decode (mB Fi_removeOthers) 178 = .ok (.getfield 31, 3) := by decide +kernel
theorem dFi_removeOthers_181 : decode (mB Fi_removeOthers) 181 = .ok (.invokespecial 96, 3) := by decide +kernel
theorem dFi_removeOthers_184 : decode (mB Fi_removeOthers) 184 = .ok (.invokevirtual 99, 3) := by decide +kernel
theorem dFi_removeOthers_187 : decode (mB Fi_removeOthers) 187 = .ok (.aload_n 0, 1) := by decide +kernel
theorem dFi_removeOthers_188 : decode (mB Fi_removeOthers) 188 = .ok (.getfield 39, 3) := by decide +kernel
theorem dFi_removeOthers_191 : decode (mB Fi_removeOthers) 191 = .ok (.iload 4, 2) := by decide +kernel
theorem dFi_removeOthers_193 : decode (mB Fi_removeOthers) 193 = .ok (.invokevirtual 155, 3) := by decide +kernel
theorem dFi_removeOthers_196 : decode (mB Fi_removeOthers) 196 = .ok (.pop, 1) := by decide +kernel
theorem dFi_removeOthers_197 : decode (mB Fi_removeOthers) 197 = .ok (.iinc 5 (-1), 3) := by decide +kernel
theorem dFi_removeOthers_200 : decode (mB Fi_removeOthers) 200 = .ok (.goto (-85), 3) := by decide +kernel
theorem dFi_removeOthers_203 : decode (mB Fi_removeOthers) 203 = .ok (.return_, 1) := by decide +kernel
def b_Fi_removeOthers_115 (R : tpH → Prop) (Y : Nat → (Option Nat) → Int32 → tpH → Prop) (o : Nat) (x2 : Option Nat) (x5 : Int32) (h : tpH) : Prop :=
  (x5 < 0 → (R h)) ∧ (¬ x5 < 0 → (∃ a2, x2 = some a2 ∧ hT h a2 = 9 ∧ (w_Sc_isTooLong a2 h (fun v6 h5 => (¬ v6 = 0 → (R h5)) ∧ (v6 = 0 → (hT h5 o = 2 ∧ (∃ a9, (hR h5 o 5) = some a9 ∧ hT h5 a9 = 8 ∧ (w_Ro_at a9 x5 h5 (fun v13 h12 => hT h12 o = 2 ∧ (∃ a15, (hR h12 o 4) = some a15 ∧ hT h12 a15 = 8 ∧ (w_Ro_at a15 v13 h12 (fun v19 h18 => (¬ v19 = 0 → (Y o x2 (x5 + (-1 : Int32)) h18)) ∧ (v19 = 0 → (∀ a21 h22, a21 = hZ h18 → h22 = nC h18 11 0 6 → (hT h22 o = 2 ∧ (∃ a26, (hR h22 o 1) = some a26 ∧ hT h22 a26 = 1 ∧ (w_Bu_worthOf a26 v13 h22 (fun v30 h29 => hT h29 o = 2 ∧ (∃ a32, (hR h29 o 1) = some a32 ∧ hT h29 a32 = 1 ∧ (w_Bu_spotOf a32 v13 h29 (fun v36 h35 => hT h35 o = 2 ∧ (hT h35 a21 = 11 ∧ (w_St_init a21 (3 : Int32) v13 v30 (-1 : Int32) v36 (hR h35 o 6) h35 (fun h39 => hT h39 a2 = 9 ∧ (w_Sc_add a2 (some a21) h39 (fun h41 => hT h41 o = 2 ∧ (∃ a43, (hR h41 o 1) = some a43 ∧ hT h41 a43 = 1 ∧ (w_Bu_erase a43 v13 h41 (fun v47 h46 => Y o x2 (x5 + (-1 : Int32)) h46)))))))))))))))))))))))))))))
def w_Fi_removeOthers_115 (R : tpH → Prop) : Nat → Nat → (Option Nat) → Int32 → tpH → Prop
  | 0 => fun _ _ _ _ => False
  | n + 1 => b_Fi_removeOthers_115 R (w_Fi_removeOthers_115 R n)
def b_Fi_removeOthers_63 (R : tpH → Prop) (Y : Nat → (Option Nat) → Int32 → Int32 → Int32 → tpH → Prop) (o : Nat) (x2 : Option Nat) (x3 : Int32) (x4 : Int32) (x5 : Int32) (h : tpH) : Prop :=
  (x3 ≤ x5 → (∃ n, w_Fi_removeOthers_115 R n o x2 (x3 - (1 : Int32)) h)) ∧ (¬ x3 ≤ x5 → ((x4 = (-1 : Int32) → (∃ n, w_Fi_removeOthers_115 R n o x2 (x3 - (1 : Int32)) h)) ∧ (¬ x4 = (-1 : Int32) → (hT h o = 2 ∧ (∃ a4, (hR h o 5) = some a4 ∧ hT h a4 = 8 ∧ (w_Ro_put a4 x5 x4 h (fun h7 => hT h7 o = 2 ∧ (∃ a9, (hR h7 o 1) = some a9 ∧ hT h7 a9 = 1 ∧ (w_Bu_nextInOrder a9 x4 (hI h7 a9 8) h7 (fun v13 h12 => Y o x2 x3 v13 (x5 + (1 : Int32)) h12))))))))))
def w_Fi_removeOthers_63 (R : tpH → Prop) : Nat → Nat → (Option Nat) → Int32 → Int32 → Int32 → tpH → Prop
  | 0 => fun _ _ _ _ _ _ => False
  | n + 1 => b_Fi_removeOthers_63 R (w_Fi_removeOthers_63 R n)
def b_Fi_removeOthers_13 (R : tpH → Prop) (Y : Nat → (Option Nat) → (Option Nat) → Int32 → tpH → Prop) (o : Nat) (x1 : Option Nat) (x2 : Option Nat) (x3 : Int32) (h : tpH) : Prop :=
  ∃ a1, x1 = some a1 ∧ hT h a1 = 12 ∧ (((hI h a1 0) ≤ x3 → (hT h o = 2 ∧ (∃ a6, (hR h o 1) = some a6 ∧ hT h a6 = 1 ∧ (∃ n, w_Fi_removeOthers_63 R n o x2 (hI h a6 9) (hI h a6 8) (0 : Int32) h)))) ∧ (¬ (hI h a1 0) ≤ x3 → (hT h o = 2 ∧ (∃ a10, (hR h o 3) = some a10 ∧ hT h a10 = 8 ∧ (w_Ro_at a10 x3 h (fun v14 h13 => ∃ a15, (hR h o 4) = some a15 ∧ hT h13 a15 = 8 ∧ (w_Ro_put a15 v14 (1 : Int32) h13 (fun h18 => Y o x1 x2 (x3 + (1 : Int32)) h18))))))))
def w_Fi_removeOthers_13 (R : tpH → Prop) : Nat → Nat → (Option Nat) → (Option Nat) → Int32 → tpH → Prop
  | 0 => fun _ _ _ _ _ => False
  | n + 1 => b_Fi_removeOthers_13 R (w_Fi_removeOthers_13 R n)
def w_Fi_removeOthers (o : Nat) (x1 : Option Nat) (x2 : Option Nat) (h : tpH) (R : tpH → Prop) : Prop :=
  hT h o = 2 ∧ (∃ a2, (hR h o 4) = some a2 ∧ hT h a2 = 8 ∧ (w_Ro_fill a2 (300 : Int32) (0 : Int32) h (fun h5 => ∃ n, w_Fi_removeOthers_13 R n o x1 x2 (0 : Int32) h5)))
theorem s_Fi_removeOthers_115 {h0 : tpH} {av : List tpV} {R : tpH → Prop} : ∀ (n : Nat) (o : Nat) (x2 : Option Nat) (x5 : Int32) (h : tpH), w_Fi_removeOthers_115 R n o x2 x5 h → tpR Fi_removeOthers 4 h0 av (tpOv R (fun _ _ => False)) 115 [some (vR (some o)), none, some (vR x2), none, none, some (vI x5)] [] h := by
  intro n
  induction n with
  | zero => intro o x2 x5 h hw; exact False.elim hw
  | succ n ih =>
    intro o x2 x5 h hw
    change b_Fi_removeOthers_115 R (w_Fi_removeOthers_115 R n) o x2 x5 h at hw
    unfold b_Fi_removeOthers_115 at hw
    refine tq_iload dFi_removeOthers_115 rfl ?_
    refine tq_iflt (tgt := 203) dFi_removeOthers_117 (by decide) (fun c1 => ?_) (fun c1 => ?_)
    · have hw := hw.1 c1
      exact tq_vret rfl dFi_removeOthers_203 hw
    · have hw := hw.2 c1
      refine tq_aload_n dFi_removeOthers_120 rfl rfl ?_
      obtain ⟨a2, e3, f4, hw⟩ := hw
      refine te_callV mv_Sc_isTooLong (ci := 8) (dc := 0) (as := []) (rest := []) kFi_62 rfl (Nat.le_of_ble_eq_true rfl) (Nat.le_of_ble_eq_true rfl) rfl rfl e3 f4 (Nat.le_of_ble_eq_true rfl) dFi_removeOthers_121 (s_Sc_isTooLong hw) (fun _ _ hx => False.elim hx) (tk_i fun v6 h5 hw => ?_)
      refine tq_ifne (tgt := 203) dFi_removeOthers_124 (by decide) (fun c7 => ?_) (fun c7 => ?_)
      · have hw := hw.1 c7
        exact tq_vret rfl dFi_removeOthers_203 hw
      · have hw := hw.2 c7
        refine tq_aload_n dFi_removeOthers_127 rfl rfl ?_
        obtain ⟨f8, hw⟩ := hw
        refine te_getr dFi_removeOthers_128 fFi_23 rfl rfl f8 ?_
        refine tq_iload dFi_removeOthers_131 rfl ?_
        obtain ⟨a9, e10, f11, hw⟩ := hw
        refine te_callV mv_Ro_at (ci := 7) (dc := 0) (as := [vI x5]) (rest := []) kFi_106 rfl (Nat.le_of_ble_eq_true rfl) (Nat.le_of_ble_eq_true rfl) rfl rfl e10 f11 (Nat.le_of_ble_eq_true rfl) dFi_removeOthers_133 (s_Ro_at hw) (fun _ _ hx => False.elim hx) (tk_i fun v13 h12 hw => ?_)
        refine tq_istore (ls' := [some (vR (some o)), none, some (vR x2), none, some (vI v13), some (vI x5)]) dFi_removeOthers_136 (Nat.le_of_ble_eq_true rfl) rfl ?_
        refine tq_aload_n dFi_removeOthers_138 rfl rfl ?_
        obtain ⟨f14, hw⟩ := hw
        refine te_getr dFi_removeOthers_139 fFi_20 rfl rfl f14 ?_
        refine tq_iload dFi_removeOthers_142 rfl ?_
        obtain ⟨a15, e16, f17, hw⟩ := hw
        refine te_callV mv_Ro_at (ci := 7) (dc := 0) (as := [vI v13]) (rest := []) kFi_106 rfl (Nat.le_of_ble_eq_true rfl) (Nat.le_of_ble_eq_true rfl) rfl rfl e16 f17 (Nat.le_of_ble_eq_true rfl) dFi_removeOthers_144 (s_Ro_at hw) (fun _ _ hx => False.elim hx) (tk_i fun v19 h18 hw => ?_)
        refine tq_ifne (tgt := 197) dFi_removeOthers_147 (by decide) (fun c20 => ?_) (fun c20 => ?_)
        · have hw := hw.1 c20
          refine tq_inc (k := (-1 : Int32)) (ls' := [some (vR (some o)), none, some (vR x2), none, some (vI v13), some (vI (x5 + (-1 : Int32)))]) dFi_removeOthers_197 rfl tni_m1 (Nat.le_of_ble_eq_true rfl) rfl ?_
          refine tq_goto (tgt := 115) dFi_removeOthers_200 (by decide) ?_
          refine tpR.fo (ls' := [some (vR (some o)), none, some (vR x2), none, none, some (vI (x5 + (-1 : Int32)))]) ?_ (And.intro rfl (And.intro rfl (And.intro rfl trivial)))
          exact ih _ _ _ _ hw
        · have hw := hw.2 c20
          refine tq_aload_n dFi_removeOthers_150 rfl rfl ?_
          refine tq_new (ci := 10) cFi_94 ti_10 rfl dFi_removeOthers_151 (fun a21 h22 e23 e24 => ?_)
          have hw := hw a21 h22 e23 e24
          refine tq_dup dFi_removeOthers_154 rfl ?_
          refine tq_iconst (v := (3 : Int32)) dFi_removeOthers_155 tni_3 ?_
          refine tq_iload dFi_removeOthers_156 rfl ?_
          refine tq_aload_n dFi_removeOthers_158 rfl rfl ?_
          obtain ⟨f25, hw⟩ := hw
          refine te_getr dFi_removeOthers_159 fFi_39 rfl rfl f25 ?_
          refine tq_iload dFi_removeOthers_162 rfl ?_
          obtain ⟨a26, e27, f28, hw⟩ := hw
          refine te_callV mv_Bu_worthOf (ci := 0) (dc := 1) (as := [vI v13]) (rest := [vI v13, vI (3 : Int32), vR (some a21), vR (some a21), vR x2]) kFi_154 rfl (Nat.le_of_ble_eq_true rfl) (Nat.le_of_ble_eq_true rfl) rfl rfl e27 f28 (Nat.le_of_ble_eq_true rfl) dFi_removeOthers_164 (s_Bu_worthOf hw) (fun _ _ hx => False.elim hx) (tk_i fun v30 h29 hw => ?_)
          refine tq_iconst (v := (-1 : Int32)) dFi_removeOthers_167 tni_m1 ?_
          refine tq_aload_n dFi_removeOthers_168 rfl rfl ?_
          obtain ⟨f31, hw⟩ := hw
          refine te_getr dFi_removeOthers_169 fFi_39 rfl rfl f31 ?_
          refine tq_iload dFi_removeOthers_172 rfl ?_
          obtain ⟨a32, e33, f34, hw⟩ := hw
          refine te_callV mv_Bu_spotOf (ci := 0) (dc := 2) (as := [vI v13]) (rest := [vI (-1 : Int32), vI v30, vI v13, vI (3 : Int32), vR (some a21), vR (some a21), vR x2]) kFi_122 rfl (Nat.le_of_ble_eq_true rfl) (Nat.le_of_ble_eq_true rfl) rfl rfl e33 f34 (Nat.le_of_ble_eq_true rfl) dFi_removeOthers_174 (s_Bu_spotOf hw) (fun _ _ hx => False.elim hx) (tk_r fun v36 h35 hw => ?_)
          refine tq_aload_n dFi_removeOthers_177 rfl rfl ?_
          obtain ⟨f37, hw⟩ := hw
          refine te_getr dFi_removeOthers_178 fFi_31 rfl rfl f37 ?_
          obtain ⟨f38, hw⟩ := hw
          refine te_init mi_St_init (dc := 1) (as := [vI (3 : Int32), vI v13, vI v30, vI (-1 : Int32), vR v36, vR (hR h35 o 6)]) (rest := [vR (some a21), vR x2]) (Or.inl kFi_96) (Nat.le_of_ble_eq_true rfl) (Nat.le_of_ble_eq_true rfl) rfl rfl rfl (Nat.le_of_ble_eq_true rfl) dFi_removeOthers_181 (s_St_init hw) (fun _ _ hx => hx) (tk_v fun h39 hw => ?_)
          obtain ⟨f40, hw⟩ := hw
          refine te_callV mv_Sc_add (ci := 8) (dc := 0) (as := [vR (some a21)]) (rest := []) kFi_99 rfl (Nat.le_of_ble_eq_true rfl) (Nat.le_of_ble_eq_true rfl) rfl rfl e3 f40 (Nat.le_of_ble_eq_true rfl) dFi_removeOthers_184 (s_Sc_add hw) (fun _ _ hx => False.elim hx) (tk_v fun h41 hw => ?_)
          refine tq_aload_n dFi_removeOthers_187 rfl rfl ?_
          obtain ⟨f42, hw⟩ := hw
          refine te_getr dFi_removeOthers_188 fFi_39 rfl rfl f42 ?_
          refine tq_iload dFi_removeOthers_191 rfl ?_
          obtain ⟨a43, e44, f45, hw⟩ := hw
          refine te_callV mv_Bu_erase (ci := 0) (dc := 3) (as := [vI v13]) (rest := []) kFi_155 rfl (Nat.le_of_ble_eq_true rfl) (Nat.le_of_ble_eq_true rfl) rfl rfl e44 f45 (Nat.le_of_ble_eq_true rfl) dFi_removeOthers_193 (s_Bu_erase hw) (fun _ _ hx => False.elim hx) (tk_i fun v47 h46 hw => ?_)
          refine tq_pop dFi_removeOthers_196 rfl ?_
          refine tq_inc (k := (-1 : Int32)) (ls' := [some (vR (some o)), none, some (vR x2), none, some (vI v13), some (vI (x5 + (-1 : Int32)))]) dFi_removeOthers_197 rfl tni_m1 (Nat.le_of_ble_eq_true rfl) rfl ?_
          refine tq_goto (tgt := 115) dFi_removeOthers_200 (by decide) ?_
          refine tpR.fo (ls' := [some (vR (some o)), none, some (vR x2), none, none, some (vI (x5 + (-1 : Int32)))]) ?_ (And.intro rfl (And.intro rfl (And.intro rfl trivial)))
          exact ih _ _ _ _ hw
theorem s_Fi_removeOthers_63 {h0 : tpH} {av : List tpV} {R : tpH → Prop} : ∀ (n : Nat) (o : Nat) (x2 : Option Nat) (x3 : Int32) (x4 : Int32) (x5 : Int32) (h : tpH), w_Fi_removeOthers_63 R n o x2 x3 x4 x5 h → tpR Fi_removeOthers 4 h0 av (tpOv R (fun _ _ => False)) 63 [some (vR (some o)), none, some (vR x2), some (vI x3), some (vI x4), some (vI x5)] [] h := by
  intro n
  induction n with
  | zero => intro o x2 x3 x4 x5 h hw; exact False.elim hw
  | succ n ih =>
    intro o x2 x3 x4 x5 h hw
    change b_Fi_removeOthers_63 R (w_Fi_removeOthers_63 R n) o x2 x3 x4 x5 h at hw
    unfold b_Fi_removeOthers_63 at hw
    refine tq_iload dFi_removeOthers_63 rfl ?_
    refine tq_iload_n dFi_removeOthers_65 rfl rfl ?_
    refine tq_icmpge (tgt := 110) dFi_removeOthers_66 (by decide) (fun c1 => ?_) (fun c1 => ?_)
    · have hw := hw.1 c1
      refine tq_iload_n dFi_removeOthers_110 rfl rfl ?_
      refine tq_iconst (v := (1 : Int32)) dFi_removeOthers_111 tni_1 ?_
      refine tq_isub dFi_removeOthers_112 ?_
      refine tq_istore (ls' := [some (vR (some o)), none, some (vR x2), some (vI x3), some (vI x4), some (vI (x3 - (1 : Int32)))]) dFi_removeOthers_113 (Nat.le_of_ble_eq_true rfl) rfl ?_
      refine tpR.fo (ls' := [some (vR (some o)), none, some (vR x2), none, none, some (vI (x3 - (1 : Int32)))]) ?_ (And.intro rfl (And.intro rfl (And.intro rfl trivial)))
      obtain ⟨n, hw⟩ := hw
      exact s_Fi_removeOthers_115 n _ _ _ _ hw
    · have hw := hw.2 c1
      refine tq_iload dFi_removeOthers_69 rfl ?_
      refine tq_iconst (v := (-1 : Int32)) dFi_removeOthers_71 tni_m1 ?_
      refine tq_icmpeq (tgt := 110) dFi_removeOthers_72 (by decide) (fun c2 => ?_) (fun c2 => ?_)
      · have hw := hw.1 c2
        refine tq_iload_n dFi_removeOthers_110 rfl rfl ?_
        refine tq_iconst (v := (1 : Int32)) dFi_removeOthers_111 tni_1 ?_
        refine tq_isub dFi_removeOthers_112 ?_
        refine tq_istore (ls' := [some (vR (some o)), none, some (vR x2), some (vI x3), some (vI x4), some (vI (x3 - (1 : Int32)))]) dFi_removeOthers_113 (Nat.le_of_ble_eq_true rfl) rfl ?_
        refine tpR.fo (ls' := [some (vR (some o)), none, some (vR x2), none, none, some (vI (x3 - (1 : Int32)))]) ?_ (And.intro rfl (And.intro rfl (And.intro rfl trivial)))
        obtain ⟨n, hw⟩ := hw
        exact s_Fi_removeOthers_115 n _ _ _ _ hw
      · have hw := hw.2 c2
        refine tq_aload_n dFi_removeOthers_75 rfl rfl ?_
        obtain ⟨f3, hw⟩ := hw
        refine te_getr dFi_removeOthers_76 fFi_23 rfl rfl f3 ?_
        refine tq_iload dFi_removeOthers_79 rfl ?_
        refine tq_iload dFi_removeOthers_81 rfl ?_
        obtain ⟨a4, e5, f6, hw⟩ := hw
        refine te_callV mv_Ro_put (ci := 7) (dc := 0) (as := [vI x5, vI x4]) (rest := []) kFi_87 rfl (Nat.le_of_ble_eq_true rfl) (Nat.le_of_ble_eq_true rfl) rfl rfl e5 f6 (Nat.le_of_ble_eq_true rfl) dFi_removeOthers_83 (s_Ro_put hw) (fun _ _ hx => False.elim hx) (tk_v fun h7 hw => ?_)
        refine tq_aload_n dFi_removeOthers_86 rfl rfl ?_
        obtain ⟨f8, hw⟩ := hw
        refine te_getr dFi_removeOthers_87 fFi_39 rfl rfl f8 ?_
        refine tq_iload dFi_removeOthers_90 rfl ?_
        refine tq_aload_n dFi_removeOthers_92 rfl rfl ?_
        refine te_getr dFi_removeOthers_93 fFi_39 rfl rfl f8 ?_
        obtain ⟨a9, e10, f11, hw⟩ := hw
        refine te_geti dFi_removeOthers_96 fFi_148 rfl e10 f11 ?_
        refine te_callV mv_Bu_nextInOrder (ci := 0) (dc := 1) (as := [vI x4, vI (hI h7 a9 8)]) (rest := []) kFi_151 rfl (Nat.le_of_ble_eq_true rfl) (Nat.le_of_ble_eq_true rfl) rfl rfl e10 f11 (Nat.le_of_ble_eq_true rfl) dFi_removeOthers_99 (s_Bu_nextInOrder hw) (fun _ _ hx => False.elim hx) (tk_i fun v13 h12 hw => ?_)
        refine tq_istore (ls' := [some (vR (some o)), none, some (vR x2), some (vI x3), some (vI v13), some (vI x5)]) dFi_removeOthers_102 (Nat.le_of_ble_eq_true rfl) rfl ?_
        refine tq_inc (k := (1 : Int32)) (ls' := [some (vR (some o)), none, some (vR x2), some (vI x3), some (vI v13), some (vI (x5 + (1 : Int32)))]) dFi_removeOthers_104 rfl tni_1 (Nat.le_of_ble_eq_true rfl) rfl ?_
        refine tq_goto (tgt := 63) dFi_removeOthers_107 (by decide) ?_
        refine tpR.fo (ls' := [some (vR (some o)), none, some (vR x2), some (vI x3), some (vI v13), some (vI (x5 + (1 : Int32)))]) ?_ (And.intro rfl (And.intro rfl (And.intro rfl (And.intro rfl (And.intro rfl trivial)))))
        exact ih _ _ _ _ _ _ hw
theorem s_Fi_removeOthers_13 {h0 : tpH} {av : List tpV} {R : tpH → Prop} : ∀ (n : Nat) (o : Nat) (x1 : Option Nat) (x2 : Option Nat) (x3 : Int32) (h : tpH), w_Fi_removeOthers_13 R n o x1 x2 x3 h → tpR Fi_removeOthers 4 h0 av (tpOv R (fun _ _ => False)) 13 [some (vR (some o)), some (vR x1), some (vR x2), some (vI x3), none, none] [] h := by
  intro n
  induction n with
  | zero => intro o x1 x2 x3 h hw; exact False.elim hw
  | succ n ih =>
    intro o x1 x2 x3 h hw
    change b_Fi_removeOthers_13 R (w_Fi_removeOthers_13 R n) o x1 x2 x3 h at hw
    unfold b_Fi_removeOthers_13 at hw
    refine tq_iload_n dFi_removeOthers_13 rfl rfl ?_
    refine tq_aload_n dFi_removeOthers_14 rfl rfl ?_
    obtain ⟨a1, e2, f3, hw⟩ := hw
    refine te_geti dFi_removeOthers_15 fFi_56 rfl e2 f3 ?_
    refine tq_icmpge (tgt := 43) dFi_removeOthers_18 (by decide) (fun c4 => ?_) (fun c4 => ?_)
    · have hw := hw.1 c4
      refine tq_aload_n dFi_removeOthers_43 rfl rfl ?_
      obtain ⟨f5, hw⟩ := hw
      refine te_getr dFi_removeOthers_44 fFi_39 rfl rfl f5 ?_
      obtain ⟨a6, e7, f8, hw⟩ := hw
      refine te_geti dFi_removeOthers_47 fFi_147 rfl e7 f8 ?_
      refine tq_istore_n (ls' := [some (vR (some o)), some (vR x1), some (vR x2), some (vI (hI h a6 9)), none, none]) dFi_removeOthers_50 rfl (Nat.le_of_ble_eq_true rfl) rfl ?_
      refine tq_aload_n dFi_removeOthers_51 rfl rfl ?_
      refine te_getr dFi_removeOthers_52 fFi_39 rfl rfl f5 ?_
      refine te_geti dFi_removeOthers_55 fFi_148 rfl e7 f8 ?_
      refine tq_istore (ls' := [some (vR (some o)), some (vR x1), some (vR x2), some (vI (hI h a6 9)), some (vI (hI h a6 8)), none]) dFi_removeOthers_58 (Nat.le_of_ble_eq_true rfl) rfl ?_
      refine tq_iconst (v := (0 : Int32)) dFi_removeOthers_60 tni_0 ?_
      refine tq_istore (ls' := [some (vR (some o)), some (vR x1), some (vR x2), some (vI (hI h a6 9)), some (vI (hI h a6 8)), some (vI (0 : Int32))]) dFi_removeOthers_61 (Nat.le_of_ble_eq_true rfl) rfl ?_
      refine tpR.fo (ls' := [some (vR (some o)), none, some (vR x2), some (vI (hI h a6 9)), some (vI (hI h a6 8)), some (vI (0 : Int32))]) ?_ (And.intro rfl (And.intro rfl (And.intro rfl (And.intro rfl (And.intro rfl trivial)))))
      obtain ⟨n, hw⟩ := hw
      exact s_Fi_removeOthers_63 n _ _ _ _ _ _ hw
    · have hw := hw.2 c4
      refine tq_aload_n dFi_removeOthers_21 rfl rfl ?_
      obtain ⟨f9, hw⟩ := hw
      refine te_getr dFi_removeOthers_22 fFi_20 rfl rfl f9 ?_
      refine tq_aload_n dFi_removeOthers_25 rfl rfl ?_
      refine te_getr dFi_removeOthers_26 fFi_14 rfl rfl f9 ?_
      refine tq_iload_n dFi_removeOthers_29 rfl rfl ?_
      obtain ⟨a10, e11, f12, hw⟩ := hw
      refine te_callV mv_Ro_at (ci := 7) (dc := 0) (as := [vI x3]) (rest := [vR (hR h o 4)]) kFi_106 rfl (Nat.le_of_ble_eq_true rfl) (Nat.le_of_ble_eq_true rfl) rfl rfl e11 f12 (Nat.le_of_ble_eq_true rfl) dFi_removeOthers_30 (s_Ro_at hw) (fun _ _ hx => False.elim hx) (tk_i fun v14 h13 hw => ?_)
      refine tq_iconst (v := (1 : Int32)) dFi_removeOthers_33 tni_1 ?_
      obtain ⟨a15, e16, f17, hw⟩ := hw
      refine te_callV mv_Ro_put (ci := 7) (dc := 0) (as := [vI v14, vI (1 : Int32)]) (rest := []) kFi_87 rfl (Nat.le_of_ble_eq_true rfl) (Nat.le_of_ble_eq_true rfl) rfl rfl e16 f17 (Nat.le_of_ble_eq_true rfl) dFi_removeOthers_34 (s_Ro_put hw) (fun _ _ hx => False.elim hx) (tk_v fun h18 hw => ?_)
      refine tq_inc (k := (1 : Int32)) (ls' := [some (vR (some o)), some (vR x1), some (vR x2), some (vI (x3 + (1 : Int32))), none, none]) dFi_removeOthers_37 rfl tni_1 (Nat.le_of_ble_eq_true rfl) rfl ?_
      refine tq_goto (tgt := 13) dFi_removeOthers_40 (by decide) ?_
      refine tpR.fo (ls' := [some (vR (some o)), some (vR x1), some (vR x2), some (vI (x3 + (1 : Int32))), none, none]) ?_ (And.intro rfl (And.intro rfl (And.intro rfl (And.intro rfl trivial))))
      exact ih _ _ _ _ _ hw
theorem s_Fi_removeOthers {o : Nat} {x1 : Option Nat} {x2 : Option Nat} {h : tpH} {R : tpH → Prop} (hw : w_Fi_removeOthers o x1 x2 h R) : tpC Fi_removeOthers 4 [vR (some o), vR x1, vR x2] h (tpOv R (fun _ _ => False)) := by
  refine tpC_of mv_Fi_removeOthers.2.2.2.1 rfl rfl (Nat.le_of_ble_eq_true rfl) ?_
  show tpR Fi_removeOthers 4 h _ _ 0 [some (vR (some o)), some (vR x1), some (vR x2), none, none, none] [] h
  unfold w_Fi_removeOthers at hw
  refine tq_aload_n dFi_removeOthers_0 rfl rfl ?_
  obtain ⟨f1, hw⟩ := hw
  refine te_getr dFi_removeOthers_1 fFi_20 rfl rfl f1 ?_
  refine tq_sipush (v := (300 : Int32)) dFi_removeOthers_4 tns_300 ?_
  refine tq_iconst (v := (0 : Int32)) dFi_removeOthers_7 tni_0 ?_
  obtain ⟨a2, e3, f4, hw⟩ := hw
  refine te_callV mv_Ro_fill (ci := 7) (dc := 0) (as := [vI (300 : Int32), vI (0 : Int32)]) (rest := []) kFi_144 rfl (Nat.le_of_ble_eq_true rfl) (Nat.le_of_ble_eq_true rfl) rfl rfl e3 f4 (Nat.le_of_ble_eq_true rfl) dFi_removeOthers_8 (s_Ro_fill hw) (fun _ _ hx => False.elim hx) (tk_v fun h5 hw => ?_)
  refine tq_iconst (v := (0 : Int32)) dFi_removeOthers_11 tni_0 ?_
  refine tq_istore_n (ls' := [some (vR (some o)), some (vR x1), some (vR x2), some (vI (0 : Int32)), none, none]) dFi_removeOthers_12 rfl (Nat.le_of_ble_eq_true rfl) rfl ?_
  refine tpR.fo (ls' := [some (vR (some o)), some (vR x1), some (vR x2), some (vI (0 : Int32)), none, none]) ?_ (And.intro rfl (And.intro rfl (And.intro rfl (And.intro rfl trivial))))
  obtain ⟨n, hw⟩ := hw
  exact s_Fi_removeOthers_13 n _ _ _ _ _ hw
/-! T$Finder.findScript -/
theorem dFi_findScript_0 : decode (mB Fi_findScript) 0 = .ok (.new 47, 3) := by decide +kernel
theorem dFi_findScript_3 : decode (mB Fi_findScript) 3 = .ok (.dup, 1) := by decide +kernel
theorem dFi_findScript_4 : decode (mB Fi_findScript) 4 = .ok (.bipush 100, 2) := by decide +kernel
theorem dFi_findScript_6 : decode (mB Fi_findScript) 6 = .ok (.invokespecial 49, 3) := by decide +kernel
theorem dFi_findScript_9 : decode (mB Fi_findScript) 9 = .ok (.astore_n 3, 1) := by decide +kernel
theorem dFi_findScript_10 : decode (mB Fi_findScript) 10 = .ok (.aload_n 0, 1) := by decide +kernel
theorem dFi_findScript_11 : decode (mB Fi_findScript) 11 = .ok (.getfield 39, 3) := by decide +kernel
theorem dFi_findScript_14 : decode (mB Fi_findScript) 14 = .ok (.aload_n 1, 1) := by decide +kernel
theorem dFi_findScript_15 : decode (mB Fi_findScript) 15 = .ok (.invokevirtual 50, 3) := by decide +kernel
theorem dFi_findScript_18 : decode (mB Fi_findScript) 18 = .ok (.iconst 0, 1) := by decide +kernel
theorem dFi_findScript_19 : decode (mB Fi_findScript) 19 = .ok (.istore 4, 2) := by decide +kernel
theorem dFi_findScript_21 : decode (mB Fi_findScript) 21 = .ok (.iload 4, 2) := by decide +kernel
theorem dFi_findScript_23 : decode (mB Fi_findScript) 23 = .ok (.aload_n 2, 1) := by decide +kernel
theorem dFi_findScript_24 : decode (mB Fi_findScript) 24 = .ok (.getfield 56, 3) := by decide +kernel
theorem dFi_findScript_27 : decode (mB Fi_findScript) 27 = .ok (.if_icmp .ge 25, 3) := by decide +kernel
theorem dFi_findScript_30 : decode (mB Fi_findScript) 30 = .ok (.aload_n 3, 1) := by decide +kernel
theorem dFi_findScript_31 : decode (mB Fi_findScript) 31 = .ok (.invokevirtual 62, 3) := by decide +kernel
theorem dFi_findScript_34 : decode (mB Fi_findScript) 34 = .ok (.ifCond .ne 18, 3) := by decide +kernel
theorem dFi_findScript_37 : decode (mB Fi_findScript) 37 = .ok (.aload_n 0, 1) := by decide +kernel
theorem dFi_findScript_38 : decode (mB Fi_findScript) 38 = .ok (.aload_n 1, 1) := by decide +kernel
theorem dFi_findScript_39 : decode (mB Fi_findScript) 39 = .ok (.aload_n 2, 1) := by decide +kernel
theorem dFi_findScript_40 : decode (mB Fi_findScript) 40 = .ok (.iload 4, 2) := by decide +kernel
theorem dFi_findScript_42 : decode (mB Fi_findScript) 42 = .ok (.aload_n 3, 1) := by decide +kernel
theorem dFi_findScript_43 : decode (mB Fi_findScript) 43 = .ok (.invokevirtual 66, 3) := by decide +kernel
theorem dFi_findScript_46 : decode (mB Fi_findScript) 46 = .ok (.iinc 4 1, 3) := by decide +kernel
theorem dFi_findScript_49 : decode (mB Fi_findScript) 49 = .ok (.goto (-28), 3) := by decide +kernel
theorem dFi_findScript_52 : decode (mB Fi_findScript) 52 = .ok (.iconst 1, 1) := by decide +kernel
theorem dFi_findScript_53 : decode (mB Fi_findScript) 53 = .ok (.istore 4, 2) := by decide +kernel
theorem dFi_findScript_55 : decode (mB Fi_findScript) 55 = .ok (.iload 4, 2) := by decide +kernel
theorem dFi_findScript_57 : decode (mB Fi_findScript) 57 = .ok (.aload_n 2, 1) := by decide +kernel
theorem dFi_findScript_58 : decode (mB Fi_findScript) 58 = .ok (.getfield 56, 3) := by decide +kernel
theorem dFi_findScript_61 : decode (mB Fi_findScript) 61 = .ok (.if_icmp .ge 24, 3) := by decide +kernel
theorem dFi_findScript_64 : decode (mB Fi_findScript) 64 = .ok (.aload_n 3, 1) := by decide +kernel
theorem dFi_findScript_65 : decode (mB Fi_findScript) 65 = .ok (.invokevirtual 62, 3) := by decide +kernel
theorem dFi_findScript_68 : decode (mB Fi_findScript) 68 = .ok (.ifCond .ne 17, 3) := by decide +kernel
theorem dFi_findScript_71 : decode (mB Fi_findScript) 71 = .ok (.aload_n 0, 1) := by decide +kernel
theorem dFi_findScript_72 : decode (mB Fi_findScript) 72 = .ok (.aload_n 2, 1) := by decide +kernel
theorem dFi_findScript_73 : decode (mB Fi_findScript) 73 = .ok (.iload 4, 2) := by decide +kernel
theorem dFi_findScript_75 : decode (mB Fi_findScript) 75 = .ok (.aload_n 3, 1) := by decide +kernel
theorem dFi_findScript_76 : decode (mB Fi_findScript) 76 = .ok (.invokevirtual 70, 3) := by decide +kernel
theorem dFi_findScript_79 : decode (mB Fi_findScript) 79 = .ok (.iinc 4 1, 3) := by decide +kernel
theorem dFi_findScript_82 : decode (mB Fi_findScript) 82 = .ok (.goto (-27), 3) := by decide +kernel
theorem dFi_findScript_85 : decode (mB Fi_findScript) 85 = .ok (.aload_n 0, 1) := by decide +kernel
theorem dFi_findScript_86 : decode (mB Fi_findScript) 86 = .ok (.aload_n 2, 1) := by decide +kernel
theorem dFi_findScript_87 : decode (mB Fi_findScript) 87 = .ok (.aload_n 3, 1) := by decide +kernel
theorem dFi_findScript_88 : decode (mB Fi_findScript) 88 = .ok (.invokevirtual 74, 3) := by decide +kernel
theorem dFi_findScript_91 : decode (mB Fi_findScript) 91 = .ok (.aload_n 3, 1) := by decide +kernel
theorem dFi_findScript_92 : decode (mB Fi_findScript) 92 = .ok (.areturn, 1) := by decide +kernel
def w_Fi_findScript_85 (R : Option Nat → tpH → Prop) (o : Nat) (x2 : Option Nat) (x3 : Option Nat) (h : tpH) : Prop :=
  hT h o = 2 ∧ (w_Fi_removeOthers o x2 x3 h (fun h2 => R x3 h2))
def b_Fi_findScript_55 (R : Option Nat → tpH → Prop) (Y : Nat → (Option Nat) → (Option Nat) → Int32 → tpH → Prop) (o : Nat) (x2 : Option Nat) (x3 : Option Nat) (x4 : Int32) (h : tpH) : Prop :=
  ∃ a1, x2 = some a1 ∧ hT h a1 = 12 ∧ (((hI h a1 0) ≤ x4 → (w_Fi_findScript_85 R o x2 x3 h)) ∧ (¬ (hI h a1 0) ≤ x4 → (∃ a5, x3 = some a5 ∧ hT h a5 = 9 ∧ (w_Sc_isTooLong a5 h (fun v9 h8 => (¬ v9 = 0 → (w_Fi_findScript_85 R o x2 x3 h8)) ∧ (v9 = 0 → (hT h8 o = 2 ∧ (w_Fi_bringTwin o x2 x4 x3 h8 (fun h12 => Y o x2 x3 (x4 + (1 : Int32)) h12)))))))))
def w_Fi_findScript_55 (R : Option Nat → tpH → Prop) : Nat → Nat → (Option Nat) → (Option Nat) → Int32 → tpH → Prop
  | 0 => fun _ _ _ _ _ => False
  | n + 1 => b_Fi_findScript_55 R (w_Fi_findScript_55 R n)
def b_Fi_findScript_21 (R : Option Nat → tpH → Prop) (Y : Nat → (Option Nat) → (Option Nat) → (Option Nat) → Int32 → tpH → Prop) (o : Nat) (x1 : Option Nat) (x2 : Option Nat) (x3 : Option Nat) (x4 : Int32) (h : tpH) : Prop :=
  ∃ a1, x2 = some a1 ∧ hT h a1 = 12 ∧ (((hI h a1 0) ≤ x4 → (∃ n, w_Fi_findScript_55 R n o x2 x3 (1 : Int32) h)) ∧ (¬ (hI h a1 0) ≤ x4 → (∃ a5, x3 = some a5 ∧ hT h a5 = 9 ∧ (w_Sc_isTooLong a5 h (fun v9 h8 => (¬ v9 = 0 → (∃ n, w_Fi_findScript_55 R n o x2 x3 (1 : Int32) h8)) ∧ (v9 = 0 → (hT h8 o = 2 ∧ (w_Fi_nameTwin o x1 x2 x4 x3 h8 (fun h12 => Y o x1 x2 x3 (x4 + (1 : Int32)) h12)))))))))
def w_Fi_findScript_21 (R : Option Nat → tpH → Prop) : Nat → Nat → (Option Nat) → (Option Nat) → (Option Nat) → Int32 → tpH → Prop
  | 0 => fun _ _ _ _ _ _ => False
  | n + 1 => b_Fi_findScript_21 R (w_Fi_findScript_21 R n)
def w_Fi_findScript (o : Nat) (x1 : Option Nat) (x2 : Option Nat) (h : tpH) (R : Option Nat → tpH → Prop) : Prop :=
  ∀ a1 h2, a1 = hZ h → h2 = nC h 9 0 2 → (w_Sc_init a1 (100 : Int32) h2 (fun h5 => hT h5 o = 2 ∧ (∃ a7, (hR h5 o 1) = some a7 ∧ hT h5 a7 = 1 ∧ (w_Bu_takeOver a7 x1 h5 (fun h10 => ∃ n, w_Fi_findScript_21 R n o x1 x2 (some a1) (0 : Int32) h10)))))
theorem s_Fi_findScript_85 {h0 : tpH} {av : List tpV} {R : Option Nat → tpH → Prop} : ∀ (o : Nat) (x2 : Option Nat) (x3 : Option Nat) (h : tpH), w_Fi_findScript_85 R o x2 x3 h → tpR Fi_findScript 5 h0 av (tpOr R (fun _ _ => False)) 85 [some (vR (some o)), none, some (vR x2), some (vR x3), none] [] h := by
  intro o x2 x3 h hw
  unfold w_Fi_findScript_85 at hw
  refine tq_aload_n dFi_findScript_85 rfl rfl ?_
  refine tq_aload_n dFi_findScript_86 rfl rfl ?_
  refine tq_aload_n dFi_findScript_87 rfl rfl ?_
  obtain ⟨f1, hw⟩ := hw
  refine te_callV mv_Fi_removeOthers (ci := 1) (dc := 4) (as := [vR x2, vR x3]) (rest := []) kFi_74 rfl (Nat.le_of_ble_eq_true rfl) (Nat.le_of_ble_eq_true rfl) rfl rfl rfl f1 (Nat.le_of_ble_eq_true rfl) dFi_findScript_88 (s_Fi_removeOthers hw) (fun _ _ hx => False.elim hx) (tk_v fun h2 hw => ?_)
  refine tq_aload_n dFi_findScript_91 rfl rfl ?_
  exact tq_aret rfl rfl dFi_findScript_92 hw
theorem s_Fi_findScript_55 {h0 : tpH} {av : List tpV} {R : Option Nat → tpH → Prop} : ∀ (n : Nat) (o : Nat) (x2 : Option Nat) (x3 : Option Nat) (x4 : Int32) (h : tpH), w_Fi_findScript_55 R n o x2 x3 x4 h → tpR Fi_findScript 5 h0 av (tpOr R (fun _ _ => False)) 55 [some (vR (some o)), none, some (vR x2), some (vR x3), some (vI x4)] [] h := by
  intro n
  induction n with
  | zero => intro o x2 x3 x4 h hw; exact False.elim hw
  | succ n ih =>
    intro o x2 x3 x4 h hw
    change b_Fi_findScript_55 R (w_Fi_findScript_55 R n) o x2 x3 x4 h at hw
    unfold b_Fi_findScript_55 at hw
    refine tq_iload dFi_findScript_55 rfl ?_
    refine tq_aload_n dFi_findScript_57 rfl rfl ?_
    obtain ⟨a1, e2, f3, hw⟩ := hw
    refine te_geti dFi_findScript_58 fFi_56 rfl e2 f3 ?_
    refine tq_icmpge (tgt := 85) dFi_findScript_61 (by decide) (fun c4 => ?_) (fun c4 => ?_)
    · have hw := hw.1 c4
      refine tpR.fo (ls' := [some (vR (some o)), none, some (vR x2), some (vR x3), none]) ?_ (And.intro rfl (And.intro rfl (And.intro rfl trivial)))
      exact s_Fi_findScript_85 _ _ _ _ hw
    · have hw := hw.2 c4
      refine tq_aload_n dFi_findScript_64 rfl rfl ?_
      obtain ⟨a5, e6, f7, hw⟩ := hw
      refine te_callV mv_Sc_isTooLong (ci := 8) (dc := 0) (as := []) (rest := []) kFi_62 rfl (Nat.le_of_ble_eq_true rfl) (Nat.le_of_ble_eq_true rfl) rfl rfl e6 f7 (Nat.le_of_ble_eq_true rfl) dFi_findScript_65 (s_Sc_isTooLong hw) (fun _ _ hx => False.elim hx) (tk_i fun v9 h8 hw => ?_)
      refine tq_ifne (tgt := 85) dFi_findScript_68 (by decide) (fun c10 => ?_) (fun c10 => ?_)
      · have hw := hw.1 c10
        refine tpR.fo (ls' := [some (vR (some o)), none, some (vR x2), some (vR x3), none]) ?_ (And.intro rfl (And.intro rfl (And.intro rfl trivial)))
        exact s_Fi_findScript_85 _ _ _ _ hw
      · have hw := hw.2 c10
        refine tq_aload_n dFi_findScript_71 rfl rfl ?_
        refine tq_aload_n dFi_findScript_72 rfl rfl ?_
        refine tq_iload dFi_findScript_73 rfl ?_
        refine tq_aload_n dFi_findScript_75 rfl rfl ?_
        obtain ⟨f11, hw⟩ := hw
        refine te_callV mv_Fi_bringTwin (ci := 1) (dc := 3) (as := [vR x2, vI x4, vR x3]) (rest := []) kFi_70 rfl (Nat.le_of_ble_eq_true rfl) (Nat.le_of_ble_eq_true rfl) rfl rfl rfl f11 (Nat.le_of_ble_eq_true rfl) dFi_findScript_76 (s_Fi_bringTwin hw) (fun _ _ hx => False.elim hx) (tk_v fun h12 hw => ?_)
        refine tq_inc (k := (1 : Int32)) (ls' := [some (vR (some o)), none, some (vR x2), some (vR x3), some (vI (x4 + (1 : Int32)))]) dFi_findScript_79 rfl tni_1 (Nat.le_of_ble_eq_true rfl) rfl ?_
        refine tq_goto (tgt := 55) dFi_findScript_82 (by decide) ?_
        refine tpR.fo (ls' := [some (vR (some o)), none, some (vR x2), some (vR x3), some (vI (x4 + (1 : Int32)))]) ?_ (And.intro rfl (And.intro rfl (And.intro rfl (And.intro rfl trivial))))
        exact ih _ _ _ _ _ hw
theorem s_Fi_findScript_21 {h0 : tpH} {av : List tpV} {R : Option Nat → tpH → Prop} : ∀ (n : Nat) (o : Nat) (x1 : Option Nat) (x2 : Option Nat) (x3 : Option Nat) (x4 : Int32) (h : tpH), w_Fi_findScript_21 R n o x1 x2 x3 x4 h → tpR Fi_findScript 5 h0 av (tpOr R (fun _ _ => False)) 21 [some (vR (some o)), some (vR x1), some (vR x2), some (vR x3), some (vI x4)] [] h := by
  intro n
  induction n with
  | zero => intro o x1 x2 x3 x4 h hw; exact False.elim hw
  | succ n ih =>
    intro o x1 x2 x3 x4 h hw
    change b_Fi_findScript_21 R (w_Fi_findScript_21 R n) o x1 x2 x3 x4 h at hw
    unfold b_Fi_findScript_21 at hw
    refine tq_iload dFi_findScript_21 rfl ?_
    refine tq_aload_n dFi_findScript_23 rfl rfl ?_
    obtain ⟨a1, e2, f3, hw⟩ := hw
    refine te_geti dFi_findScript_24 fFi_56 rfl e2 f3 ?_
    refine tq_icmpge (tgt := 52) dFi_findScript_27 (by decide) (fun c4 => ?_) (fun c4 => ?_)
    · have hw := hw.1 c4
      refine tq_iconst (v := (1 : Int32)) dFi_findScript_52 tni_1 ?_
      refine tq_istore (ls' := [some (vR (some o)), some (vR x1), some (vR x2), some (vR x3), some (vI (1 : Int32))]) dFi_findScript_53 (Nat.le_of_ble_eq_true rfl) rfl ?_
      refine tpR.fo (ls' := [some (vR (some o)), none, some (vR x2), some (vR x3), some (vI (1 : Int32))]) ?_ (And.intro rfl (And.intro rfl (And.intro rfl (And.intro rfl trivial))))
      obtain ⟨n, hw⟩ := hw
      exact s_Fi_findScript_55 n _ _ _ _ _ hw
    · have hw := hw.2 c4
      refine tq_aload_n dFi_findScript_30 rfl rfl ?_
      obtain ⟨a5, e6, f7, hw⟩ := hw
      refine te_callV mv_Sc_isTooLong (ci := 8) (dc := 0) (as := []) (rest := []) kFi_62 rfl (Nat.le_of_ble_eq_true rfl) (Nat.le_of_ble_eq_true rfl) rfl rfl e6 f7 (Nat.le_of_ble_eq_true rfl) dFi_findScript_31 (s_Sc_isTooLong hw) (fun _ _ hx => False.elim hx) (tk_i fun v9 h8 hw => ?_)
      refine tq_ifne (tgt := 52) dFi_findScript_34 (by decide) (fun c10 => ?_) (fun c10 => ?_)
      · have hw := hw.1 c10
        refine tq_iconst (v := (1 : Int32)) dFi_findScript_52 tni_1 ?_
        refine tq_istore (ls' := [some (vR (some o)), some (vR x1), some (vR x2), some (vR x3), some (vI (1 : Int32))]) dFi_findScript_53 (Nat.le_of_ble_eq_true rfl) rfl ?_
        refine tpR.fo (ls' := [some (vR (some o)), none, some (vR x2), some (vR x3), some (vI (1 : Int32))]) ?_ (And.intro rfl (And.intro rfl (And.intro rfl (And.intro rfl trivial))))
        obtain ⟨n, hw⟩ := hw
        exact s_Fi_findScript_55 n _ _ _ _ _ hw
      · have hw := hw.2 c10
        refine tq_aload_n dFi_findScript_37 rfl rfl ?_
        refine tq_aload_n dFi_findScript_38 rfl rfl ?_
        refine tq_aload_n dFi_findScript_39 rfl rfl ?_
        refine tq_iload dFi_findScript_40 rfl ?_
        refine tq_aload_n dFi_findScript_42 rfl rfl ?_
        obtain ⟨f11, hw⟩ := hw
        refine te_callV mv_Fi_nameTwin (ci := 1) (dc := 2) (as := [vR x1, vR x2, vI x4, vR x3]) (rest := []) kFi_66 rfl (Nat.le_of_ble_eq_true rfl) (Nat.le_of_ble_eq_true rfl) rfl rfl rfl f11 (Nat.le_of_ble_eq_true rfl) dFi_findScript_43 (s_Fi_nameTwin hw) (fun _ _ hx => False.elim hx) (tk_v fun h12 hw => ?_)
        refine tq_inc (k := (1 : Int32)) (ls' := [some (vR (some o)), some (vR x1), some (vR x2), some (vR x3), some (vI (x4 + (1 : Int32)))]) dFi_findScript_46 rfl tni_1 (Nat.le_of_ble_eq_true rfl) rfl ?_
        refine tq_goto (tgt := 21) dFi_findScript_49 (by decide) ?_
        refine tpR.fo (ls' := [some (vR (some o)), some (vR x1), some (vR x2), some (vR x3), some (vI (x4 + (1 : Int32)))]) ?_ (And.intro rfl (And.intro rfl (And.intro rfl (And.intro rfl (And.intro rfl trivial)))))
        exact ih _ _ _ _ _ _ hw
theorem s_Fi_findScript {o : Nat} {x1 : Option Nat} {x2 : Option Nat} {h : tpH} {R : Option Nat → tpH → Prop} (hw : w_Fi_findScript o x1 x2 h R) : tpC Fi_findScript 5 [vR (some o), vR x1, vR x2] h (tpOr R (fun _ _ => False)) := by
  refine tpC_of mv_Fi_findScript.2.2.2.1 rfl rfl (Nat.le_of_ble_eq_true rfl) ?_
  show tpR Fi_findScript 5 h _ _ 0 [some (vR (some o)), some (vR x1), some (vR x2), none, none] [] h
  unfold w_Fi_findScript at hw
  refine tq_new (ci := 8) cFi_47 ti_8 rfl dFi_findScript_0 (fun a1 h2 e3 e4 => ?_)
  have hw := hw a1 h2 e3 e4
  refine tq_dup dFi_findScript_3 rfl ?_
  refine tq_bipush (v := (100 : Int32)) dFi_findScript_4 tnb_100 ?_
  refine te_init mi_Sc_init (dc := 1) (as := [vI (100 : Int32)]) (rest := [vR (some a1)]) (Or.inl kFi_49) (Nat.le_of_ble_eq_true rfl) (Nat.le_of_ble_eq_true rfl) rfl rfl rfl (Nat.le_of_ble_eq_true rfl) dFi_findScript_6 (s_Sc_init hw) (fun _ _ hx => hx) (tk_v fun h5 hw => ?_)
  refine tq_astore_n (ls' := [some (vR (some o)), some (vR x1), some (vR x2), some (vR (some a1)), none]) dFi_findScript_9 rfl (Nat.le_of_ble_eq_true rfl) rfl ?_
  refine tq_aload_n dFi_findScript_10 rfl rfl ?_
  obtain ⟨f6, hw⟩ := hw
  refine te_getr dFi_findScript_11 fFi_39 rfl rfl f6 ?_
  refine tq_aload_n dFi_findScript_14 rfl rfl ?_
  obtain ⟨a7, e8, f9, hw⟩ := hw
  refine te_callV mv_Bu_takeOver (ci := 0) (dc := 3) (as := [vR x1]) (rest := []) kFi_50 rfl (Nat.le_of_ble_eq_true rfl) (Nat.le_of_ble_eq_true rfl) rfl rfl e8 f9 (Nat.le_of_ble_eq_true rfl) dFi_findScript_15 (s_Bu_takeOver hw) (fun _ _ hx => False.elim hx) (tk_v fun h10 hw => ?_)
  refine tq_iconst (v := (0 : Int32)) dFi_findScript_18 tni_0 ?_
  refine tq_istore (ls' := [some (vR (some o)), some (vR x1), some (vR x2), some (vR (some a1)), some (vI (0 : Int32))]) dFi_findScript_19 (Nat.le_of_ble_eq_true rfl) rfl ?_
  refine tpR.fo (ls' := [some (vR (some o)), some (vR x1), some (vR x2), some (vR (some a1)), some (vI (0 : Int32))]) ?_ (And.intro rfl (And.intro rfl (And.intro rfl (And.intro rfl (And.intro rfl trivial)))))
  obtain ⟨n, hw⟩ := hw
  exact s_Fi_findScript_21 n _ _ _ _ _ _ hw
/-! T$Script.stepOrNull -/
theorem dSc_stepOrNull_0 : decode (mB Sc_stepOrNull) 0 = .ok (.iload_n 1, 1) := by decide +kernel
theorem dSc_stepOrNull_1 : decode (mB Sc_stepOrNull) 1 = .ok (.ifCond .lt 29, 3) := by decide +kernel
theorem dSc_stepOrNull_4 : decode (mB Sc_stepOrNull) 4 = .ok (.iload_n 1, 1) := by decide +kernel
theorem dSc_stepOrNull_5 : decode (mB Sc_stepOrNull) 5 = .ok (.aload_n 0, 1) := by decide +kernel
theorem dSc_stepOrNull_6 : decode (mB Sc_stepOrNull) 6 = .ok (.getfield 15, 3) := by decide +kernel
theorem dSc_stepOrNull_9 : decode (mB Sc_stepOrNull) 9 = .ok (.if_icmp .ge 21, 3) := by decide +kernel
theorem dSc_stepOrNull_12 : decode (mB Sc_stepOrNull) 12 = .ok (.iload_n 1, 1) := by decide +kernel
theorem dSc_stepOrNull_13 : decode (mB Sc_stepOrNull) 13 = .ok (.aload_n 0, 1) := by decide +kernel
theorem dSc_stepOrNull_14 : decode (mB Sc_stepOrNull) 14 = .ok (.getfield 9, 3) := by decide +kernel
theorem dSc_stepOrNull_17 : decode (mB Sc_stepOrNull) 17 = .ok (.arraylength, 1) := by decide +kernel
theorem dSc_stepOrNull_18 : decode (mB Sc_stepOrNull) 18 = .ok (.if_icmp .ge 12, 3) := by decide +kernel
theorem dSc_stepOrNull_21 : decode (mB Sc_stepOrNull) 21 = .ok (.aload_n 0, 1) := by decide +kernel
theorem dSc_stepOrNull_22 : decode (mB Sc_stepOrNull) 22 = .ok (.getfield 9, 3) := by decide +kernel
theorem dSc_stepOrNull_25 : decode (mB Sc_stepOrNull) 25 = .ok (.iload_n 1, 1) := by decide +kernel
theorem dSc_stepOrNull_26 : decode (mB Sc_stepOrNull) 26 = .ok (.aaload, 1) := by decide +kernel
theorem dSc_stepOrNull_27 : decode (mB Sc_stepOrNull) 27 = .ok (.goto 4, 3) := by decide +kernel
theorem dSc_stepOrNull_30 : decode (mB Sc_stepOrNull) 30 = .ok (.aconst_null, 1) := by decide +kernel
theorem dSc_stepOrNull_31 : decode (mB Sc_stepOrNull) 31 = .ok (.areturn, 1) := by decide +kernel
def w_Sc_stepOrNull (o : Nat) (x1 : Int32) (h : tpH) (R : Option Nat → tpH → Prop) : Prop :=
  (x1 < 0 → (R none h)) ∧ (¬ x1 < 0 → (hT h o = 9 ∧ (((hI h o 1) ≤ x1 → (R none h)) ∧ (¬ (hI h o 1) ≤ x1 → (∃ a4, (hR h o 0) = some a4 ∧ hT h a4 = 20 ∧ (((Int32.ofNat (hL h a4)) ≤ x1 → (R none h)) ∧ (¬ (Int32.ofNat (hL h a4)) ≤ x1 → (vp_in x1 (hL h a4) ∧ (R (hR h a4 x1.toNatClampNeg) h)))))))))
theorem s_Sc_stepOrNull {o : Nat} {x1 : Int32} {h : tpH} {R : Option Nat → tpH → Prop} (hw : w_Sc_stepOrNull o x1 h R) : tpC Sc_stepOrNull 0 [vR (some o), vI x1] h (tpOr R (fun _ _ => False)) := by
  refine tpC_of mv_Sc_stepOrNull.2.2.2.1 rfl rfl (Nat.le_of_ble_eq_true rfl) ?_
  show tpR Sc_stepOrNull 0 h _ _ 0 [some (vR (some o)), some (vI x1)] [] h
  unfold w_Sc_stepOrNull at hw
  refine tq_iload_n dSc_stepOrNull_0 rfl rfl ?_
  refine tq_iflt (tgt := 30) dSc_stepOrNull_1 (by decide) (fun c1 => ?_) (fun c1 => ?_)
  · have hw := hw.1 c1
    refine tq_null dSc_stepOrNull_30 ?_
    exact tq_aret rfl rfl dSc_stepOrNull_31 hw
  · have hw := hw.2 c1
    refine tq_iload_n dSc_stepOrNull_4 rfl rfl ?_
    refine tq_aload_n dSc_stepOrNull_5 rfl rfl ?_
    obtain ⟨f2, hw⟩ := hw
    refine te_geti dSc_stepOrNull_6 fSc_15 rfl rfl f2 ?_
    refine tq_icmpge (tgt := 30) dSc_stepOrNull_9 (by decide) (fun c3 => ?_) (fun c3 => ?_)
    · have hw := hw.1 c3
      refine tq_null dSc_stepOrNull_30 ?_
      exact tq_aret rfl rfl dSc_stepOrNull_31 hw
    · have hw := hw.2 c3
      refine tq_iload_n dSc_stepOrNull_12 rfl rfl ?_
      refine tq_aload_n dSc_stepOrNull_13 rfl rfl ?_
      refine te_getr dSc_stepOrNull_14 fSc_9 rfl rfl f2 ?_
      obtain ⟨a4, e5, f6, hw⟩ := hw
      refine te_alen dSc_stepOrNull_17 e5 (by rw [f6]; decide) ?_
      refine tq_icmpge (tgt := 30) dSc_stepOrNull_18 (by decide) (fun c7 => ?_) (fun c7 => ?_)
      · have hw := hw.1 c7
        refine tq_null dSc_stepOrNull_30 ?_
        exact tq_aret rfl rfl dSc_stepOrNull_31 hw
      · have hw := hw.2 c7
        refine tq_aload_n dSc_stepOrNull_21 rfl rfl ?_
        refine te_getr dSc_stepOrNull_22 fSc_9 rfl rfl f2 ?_
        refine tq_iload_n dSc_stepOrNull_25 rfl rfl ?_
        obtain ⟨f8, hw⟩ := hw
        refine te_aald tpQ_St dSc_stepOrNull_26 e5 f6 f8 ?_
        refine tq_goto (tgt := 31) dSc_stepOrNull_27 (by decide) ?_
        exact tq_aret rfl rfl dSc_stepOrNull_31 hw
/-! T$Step.turnedBack -/
theorem dSt_turnedBack_0 : decode (mB St_turnedBack) 0 = .ok (.aload_n 0, 1) := by decide +kernel
theorem dSt_turnedBack_1 : decode (mB St_turnedBack) 1 = .ok (.getfield 9, 3) := by decide +kernel
theorem dSt_turnedBack_4 : decode (mB St_turnedBack) 4 = .ok (.iconst 1, 1) := by decide +kernel
theorem dSt_turnedBack_5 : decode (mB St_turnedBack) 5 = .ok (.if_icmp .ne 7, 3) := by decide +kernel
theorem dSt_turnedBack_8 : decode (mB St_turnedBack) 8 = .ok (.iconst 3, 1) := by decide +kernel
theorem dSt_turnedBack_9 : decode (mB St_turnedBack) 9 = .ok (.goto 19, 3) := by decide +kernel
theorem dSt_turnedBack_12 : decode (mB St_turnedBack) 12 = .ok (.aload_n 0, 1) := by decide +kernel
theorem dSt_turnedBack_13 : decode (mB St_turnedBack) 13 = .ok (.getfield 9, 3) := by decide +kernel
theorem dSt_turnedBack_16 : decode (mB St_turnedBack) 16 = .ok (.iconst 3, 1) := by decide +kernel
theorem dSt_turnedBack_17 : decode (mB St_turnedBack) 17 = .ok (.if_icmp .ne 7, 3) := by decide +kernel
theorem dSt_turnedBack_20 : decode (mB St_turnedBack) 20 = .ok (.iconst 1, 1) := by decide +kernel
theorem dSt_turnedBack_21 : decode (mB St_turnedBack) 21 = .ok (.goto 7, 3) := by decide +kernel
theorem dSt_turnedBack_24 : decode (mB St_turnedBack) 24 = .ok (.aload_n 0, 1) := by decide +kernel
theorem dSt_turnedBack_25 : decode (mB St_turnedBack) 25 = .ok (.getfield 9, 3) := by decide +kernel
theorem dSt_turnedBack_28 : decode (mB St_turnedBack) 28 = .ok (.istore_n 1, 1) := by decide +kernel
theorem dSt_turnedBack_29 : decode (mB St_turnedBack) 29 = .ok (.new 10, 3) := by decide +kernel
theorem dSt_turnedBack_32 : decode (mB St_turnedBack) 32 = .ok (.dup, 1) := by decide +kernel
theorem dSt_turnedBack_33 : decode (mB St_turnedBack) 33 = .ok (.iload_n 1, 1) := by decide +kernel
theorem dSt_turnedBack_34 : decode (mB St_turnedBack) 34 = .ok (.aload_n 0, 1) := by decide +kernel
theorem dSt_turnedBack_35 : decode (mB St_turnedBack) 35 = .ok (.getfield 15, 3) := by decide +kernel
theorem dSt_turnedBack_38 : decode (mB St_turnedBack) 38 = .ok (.aload_n 0, 1) := by decide +kernel
theorem dSt_turnedBack_39 : decode (mB St_turnedBack) 39 = .ok (.getfield 21, 3) := by decide +kernel
theorem dSt_turnedBack_42 : decode (mB St_turnedBack) 42 = .ok (.aload_n 0, 1) := by decide +kernel
theorem dSt_turnedBack_43 : decode (mB St_turnedBack) 43 = .ok (.getfield 18, 3) := by decide +kernel
theorem dSt_turnedBack_46 : decode (mB St_turnedBack) 46 = .ok (.aload_n 0, 1) := by decide +kernel
theorem dSt_turnedBack_47 : decode (mB St_turnedBack) 47 = .ok (.getfield 28, 3) := by decide +kernel
theorem dSt_turnedBack_50 : decode (mB St_turnedBack) 50 = .ok (.aload_n 0, 1) := by decide +kernel
theorem dSt_turnedBack_51 : decode (mB St_turnedBack) 51 = .ok (.getfield 24, 3) := by decide +kernel
theorem dSt_turnedBack_54 : decode (mB St_turnedBack) 54 = .ok (.invokespecial 31, 3) := by decide +kernel
theorem dSt_turnedBack_57 : decode (mB St_turnedBack) 57 = .ok (.areturn, 1) := by decide +kernel
def w_St_turnedBack_28 (R : Option Nat → tpH → Prop) (o : Nat) (t0 : Int32) (h : tpH) : Prop :=
  ∀ a1 h2, a1 = hZ h → h2 = nC h 11 0 6 → (hT h2 o = 11 ∧ (w_St_init a1 t0 (hI h2 o 1) (hI h2 o 3) (hI h2 o 2) (hR h2 o 5) (hR h2 o 4) h2 (fun h6 => R (some a1) h6)))
def w_St_turnedBack (o : Nat) (h : tpH) (R : Option Nat → tpH → Prop) : Prop :=
  hT h o = 11 ∧ ((¬ (hI h o 0) = (1 : Int32) → ((¬ (hI h o 0) = (3 : Int32) → (w_St_turnedBack_28 R o (hI h o 0) h)) ∧ ((hI h o 0) = (3 : Int32) → (w_St_turnedBack_28 R o (1 : Int32) h)))) ∧ ((hI h o 0) = (1 : Int32) → (w_St_turnedBack_28 R o (3 : Int32) h)))
theorem s_St_turnedBack_28 {h0 : tpH} {av : List tpV} {R : Option Nat → tpH → Prop} : ∀ (o : Nat) (t0 : Int32) (h : tpH), w_St_turnedBack_28 R o t0 h → tpR St_turnedBack 2 h0 av (tpOr R (fun _ _ => False)) 28 [some (vR (some o)), none] [vI t0] h := by
  intro o t0 h hw
  unfold w_St_turnedBack_28 at hw
  refine tq_istore_n (ls' := [some (vR (some o)), some (vI t0)]) dSt_turnedBack_28 rfl (Nat.le_of_ble_eq_true rfl) rfl ?_
  refine tq_new (ci := 10) cSt_10 ti_10 rfl dSt_turnedBack_29 (fun a1 h2 e3 e4 => ?_)
  have hw := hw a1 h2 e3 e4
  refine tq_dup dSt_turnedBack_32 rfl ?_
  refine tq_iload_n dSt_turnedBack_33 rfl rfl ?_
  refine tq_aload_n dSt_turnedBack_34 rfl rfl ?_
  obtain ⟨f5, hw⟩ := hw
  refine te_geti dSt_turnedBack_35 fSt_15 rfl rfl f5 ?_
  refine tq_aload_n dSt_turnedBack_38 rfl rfl ?_
  refine te_geti dSt_turnedBack_39 fSt_21 rfl rfl f5 ?_
  refine tq_aload_n dSt_turnedBack_42 rfl rfl ?_
  refine te_geti dSt_turnedBack_43 fSt_18 rfl rfl f5 ?_
  refine tq_aload_n dSt_turnedBack_46 rfl rfl ?_
  refine te_getr dSt_turnedBack_47 fSt_28 rfl rfl f5 ?_
  refine tq_aload_n dSt_turnedBack_50 rfl rfl ?_
  refine te_getr dSt_turnedBack_51 fSt_24 rfl rfl f5 ?_
  refine te_init mi_St_init (dc := 1) (as := [vI t0, vI (hI h2 o 1), vI (hI h2 o 3), vI (hI h2 o 2), vR (hR h2 o 5), vR (hR h2 o 4)]) (rest := [vR (some a1)]) (Or.inl kSt_31) (Nat.le_of_ble_eq_true rfl) (Nat.le_of_ble_eq_true rfl) rfl rfl rfl (Nat.le_of_ble_eq_true rfl) dSt_turnedBack_54 (s_St_init hw) (fun _ _ hx => hx) (tk_v fun h6 hw => ?_)
  exact tq_aret rfl rfl dSt_turnedBack_57 hw
theorem s_St_turnedBack {o : Nat} {h : tpH} {R : Option Nat → tpH → Prop} (hw : w_St_turnedBack o h R) : tpC St_turnedBack 2 [vR (some o)] h (tpOr R (fun _ _ => False)) := by
  refine tpC_of mv_St_turnedBack.2.2.2.1 rfl rfl (Nat.le_of_ble_eq_true rfl) ?_
  show tpR St_turnedBack 2 h _ _ 0 [some (vR (some o)), none] [] h
  unfold w_St_turnedBack at hw
  refine tq_aload_n dSt_turnedBack_0 rfl rfl ?_
  obtain ⟨f1, hw⟩ := hw
  refine te_geti dSt_turnedBack_1 fSt_9 rfl rfl f1 ?_
  refine tq_iconst (v := (1 : Int32)) dSt_turnedBack_4 tni_1 ?_
  refine tq_icmpne (tgt := 12) dSt_turnedBack_5 (by decide) (fun c2 => ?_) (fun c2 => ?_)
  · have hw := hw.1 c2
    refine tq_aload_n dSt_turnedBack_12 rfl rfl ?_
    refine te_geti dSt_turnedBack_13 fSt_9 rfl rfl f1 ?_
    refine tq_iconst (v := (3 : Int32)) dSt_turnedBack_16 tni_3 ?_
    refine tq_icmpne (tgt := 24) dSt_turnedBack_17 (by decide) (fun c3 => ?_) (fun c3 => ?_)
    · have hw := hw.1 c3
      refine tq_aload_n dSt_turnedBack_24 rfl rfl ?_
      refine te_geti dSt_turnedBack_25 fSt_9 rfl rfl f1 ?_
      refine tpR.fo (ls' := [some (vR (some o)), none]) ?_ (And.intro rfl trivial)
      exact s_St_turnedBack_28 _ _ _ hw
    · have hw := hw.2 c3
      refine tq_iconst (v := (1 : Int32)) dSt_turnedBack_20 tni_1 ?_
      refine tq_goto (tgt := 28) dSt_turnedBack_21 (by decide) ?_
      refine tpR.fo (ls' := [some (vR (some o)), none]) ?_ (And.intro rfl trivial)
      exact s_St_turnedBack_28 _ _ _ hw
  · have hw := hw.2 c2
    refine tq_iconst (v := (3 : Int32)) dSt_turnedBack_8 tni_3 ?_
    refine tq_goto (tgt := 28) dSt_turnedBack_9 (by decide) ?_
    refine tpR.fo (ls' := [some (vR (some o)), none]) ?_ (And.intro rfl trivial)
    exact s_St_turnedBack_28 _ _ _ hw
/-! T$Script.turnedBack -/
theorem dSc_turnedBack_0 : decode (mB Sc_turnedBack) 0 = .ok (.new 10, 3) := by decide +kernel
theorem dSc_turnedBack_3 : decode (mB Sc_turnedBack) 3 = .ok (.dup, 1) := by decide +kernel
theorem dSc_turnedBack_4 : decode (mB Sc_turnedBack) 4 = .ok (.aload_n 0, 1) := by decide +kernel
theorem dSc_turnedBack_5 : decode (mB Sc_turnedBack) 5 = .ok (.getfield 15, 3) := by decide +kernel
theorem dSc_turnedBack_8 : decode (mB Sc_turnedBack) 8 = .ok (.invokespecial 19, 3) := by decide +kernel
theorem dSc_turnedBack_11 : decode (mB Sc_turnedBack) 11 = .ok (.astore_n 1, 1) := by decide +kernel
theorem dSc_turnedBack_12 : decode (mB Sc_turnedBack) 12 = .ok (.aload_n 0, 1) := by decide +kernel
theorem dSc_turnedBack_13 : decode (mB Sc_turnedBack) 13 = .ok (.getfield 15, 3) := by decide +kernel
theorem dSc_turnedBack_16 : decode (mB Sc_turnedBack) 16 = .ok (.iconst 1, 1) := by decide +kernel
theorem dSc_turnedBack_17 : decode (mB Sc_turnedBack) 17 = .ok (.isub, 1) := by decide +kernel
theorem dSc_turnedBack_18 : decode (mB Sc_turnedBack) 18 = .ok (.istore_n 2, 1) := by decide +kernel
theorem dSc_turnedBack_19 : decode (mB Sc_turnedBack) 19 = .ok (.iload_n 2, 1) := by decide +kernel
theorem dSc_turnedBack_20 : decode (mB Sc_turnedBack) 20 = .ok (.ifCond .lt 27, 3) := by decide +kernel
theorem dSc_turnedBack_23 : decode (mB Sc_turnedBack) 23 = .ok (.aload_n 0, 1) := by decide +kernel
theorem dSc_turnedBack_24 : decode (mB Sc_turnedBack) 24 = .ok (.iload_n 2, 1) := by decide +kernel
theorem dSc_turnedBack_25 : decode (mB Sc_turnedBack) 25 = .ok (.invokevirtual 22, 3) := by decide +kernel
theorem dSc_turnedBack_28 : decode (mB Sc_turnedBack) 28 = .ok (.astore_n 3, 1) := by decide +kernel
theorem dSc_turnedBack_29 : decode (mB Sc_turnedBack) 29 = .ok (.aload_n 3, 1) := by decide +kernel
theorem dSc_turnedBack_30 : decode (mB Sc_turnedBack) 30 = .ok (.ifnull 11, 3) := by decide +kernel
theorem dSc_turnedBack_33 : decode (mB Sc_turnedBack) 33 = .ok (.aload_n 1, 1) := by decide +kernel
theorem dSc_turnedBack_34 : decode (mB Sc_turnedBack) 34 = .ok (.aload_n 3, 1) := by decide +kernel
theorem dSc_turnedBack_35 : decode (mB Sc_turnedBack) 35 = .ok (.invokevirtual 26, 3) := by decide +kernel
theorem dSc_turnedBack_38 : decode (mB Sc_turnedBack) 38 = .ok (.invokevirtual 30, 3) := by decide +kernel
theorem dSc_turnedBack_41 : decode (mB Sc_turnedBack) 41 = .ok (.iinc 2 (-1), 3) := by decide +kernel
theorem dSc_turnedBack_44 : decode (mB Sc_turnedBack) 44 = .ok (.goto (-25), 3) := by decide +kernel
theorem dSc_turnedBack_47 : decode (mB Sc_turnedBack) 47 = .ok (.aload_n 1, 1) := by decide +kernel
theorem dSc_turnedBack_48 : decode (mB Sc_turnedBack) 48 = .ok (.areturn, 1) := by decide +kernel
def b_Sc_turnedBack_19 (R : Option Nat → tpH → Prop) (Y : Nat → (Option Nat) → Int32 → tpH → Prop) (o : Nat) (x1 : Option Nat) (x2 : Int32) (h : tpH) : Prop :=
  (x2 < 0 → (R x1 h)) ∧ (¬ x2 < 0 → (hT h o = 9 ∧ (w_Sc_stepOrNull o x2 h (fun v4 h3 => (v4 = none → (Y o x1 (x2 + (-1 : Int32)) h3)) ∧ (¬ v4 = none → (∃ a6, v4 = some a6 ∧ hT h3 a6 = 11 ∧ (w_St_turnedBack a6 h3 (fun v10 h9 => ∃ a11, x1 = some a11 ∧ hT h9 a11 = 9 ∧ (w_Sc_add a11 v10 h9 (fun h14 => Y o x1 (x2 + (-1 : Int32)) h14))))))))))
def w_Sc_turnedBack_19 (R : Option Nat → tpH → Prop) : Nat → Nat → (Option Nat) → Int32 → tpH → Prop
  | 0 => fun _ _ _ _ => False
  | n + 1 => b_Sc_turnedBack_19 R (w_Sc_turnedBack_19 R n)
def w_Sc_turnedBack (o : Nat) (h : tpH) (R : Option Nat → tpH → Prop) : Prop :=
  ∀ a1 h2, a1 = hZ h → h2 = nC h 9 0 2 → (hT h2 o = 9 ∧ (w_Sc_init a1 (hI h2 o 1) h2 (fun h6 => hT h6 o = 9 ∧ (∃ n, w_Sc_turnedBack_19 R n o (some a1) ((hI h6 o 1) - (1 : Int32)) h6))))
theorem s_Sc_turnedBack_19 {h0 : tpH} {av : List tpV} {R : Option Nat → tpH → Prop} : ∀ (n : Nat) (o : Nat) (x1 : Option Nat) (x2 : Int32) (h : tpH), w_Sc_turnedBack_19 R n o x1 x2 h → tpR Sc_turnedBack 3 h0 av (tpOr R (fun _ _ => False)) 19 [some (vR (some o)), some (vR x1), some (vI x2), none] [] h := by
  intro n
  induction n with
  | zero => intro o x1 x2 h hw; exact False.elim hw
  | succ n ih =>
    intro o x1 x2 h hw
    change b_Sc_turnedBack_19 R (w_Sc_turnedBack_19 R n) o x1 x2 h at hw
    unfold b_Sc_turnedBack_19 at hw
    refine tq_iload_n dSc_turnedBack_19 rfl rfl ?_
    refine tq_iflt (tgt := 47) dSc_turnedBack_20 (by decide) (fun c1 => ?_) (fun c1 => ?_)
    · have hw := hw.1 c1
      refine tq_aload_n dSc_turnedBack_47 rfl rfl ?_
      exact tq_aret rfl rfl dSc_turnedBack_48 hw
    · have hw := hw.2 c1
      refine tq_aload_n dSc_turnedBack_23 rfl rfl ?_
      refine tq_iload_n dSc_turnedBack_24 rfl rfl ?_
      obtain ⟨f2, hw⟩ := hw
      refine te_callV mv_Sc_stepOrNull (ci := 8) (dc := 0) (as := [vI x2]) (rest := []) kSc_22 rfl (Nat.le_of_ble_eq_true rfl) (Nat.le_of_ble_eq_true rfl) rfl rfl rfl f2 (Nat.le_of_ble_eq_true rfl) dSc_turnedBack_25 (s_Sc_stepOrNull hw) (fun _ _ hx => False.elim hx) (tk_r fun v4 h3 hw => ?_)
      refine tq_astore_n (ls' := [some (vR (some o)), some (vR x1), some (vI x2), some (vR v4)]) dSc_turnedBack_28 rfl (Nat.le_of_ble_eq_true rfl) rfl ?_
      refine tq_aload_n dSc_turnedBack_29 rfl rfl ?_
      refine tq_ifnull (tgt := 41) dSc_turnedBack_30 (by decide) (fun c5 => ?_) (fun c5 => ?_)
      · have hw := hw.1 c5
        refine tq_inc (k := (-1 : Int32)) (ls' := [some (vR (some o)), some (vR x1), some (vI (x2 + (-1 : Int32))), some (vR v4)]) dSc_turnedBack_41 rfl tni_m1 (Nat.le_of_ble_eq_true rfl) rfl ?_
        refine tq_goto (tgt := 19) dSc_turnedBack_44 (by decide) ?_
        refine tpR.fo (ls' := [some (vR (some o)), some (vR x1), some (vI (x2 + (-1 : Int32))), none]) ?_ (And.intro rfl (And.intro rfl (And.intro rfl trivial)))
        exact ih _ _ _ _ hw
      · have hw := hw.2 c5
        refine tq_aload_n dSc_turnedBack_33 rfl rfl ?_
        refine tq_aload_n dSc_turnedBack_34 rfl rfl ?_
        obtain ⟨a6, e7, f8, hw⟩ := hw
        refine te_callV mv_St_turnedBack (ci := 10) (dc := 2) (as := []) (rest := [vR x1]) kSc_26 rfl (Nat.le_of_ble_eq_true rfl) (Nat.le_of_ble_eq_true rfl) rfl rfl e7 f8 (Nat.le_of_ble_eq_true rfl) dSc_turnedBack_35 (s_St_turnedBack hw) (fun _ _ hx => False.elim hx) (tk_r fun v10 h9 hw => ?_)
        obtain ⟨a11, e12, f13, hw⟩ := hw
        refine te_callV mv_Sc_add (ci := 8) (dc := 0) (as := [vR v10]) (rest := []) kSc_30 rfl (Nat.le_of_ble_eq_true rfl) (Nat.le_of_ble_eq_true rfl) rfl rfl e12 f13 (Nat.le_of_ble_eq_true rfl) dSc_turnedBack_38 (s_Sc_add hw) (fun _ _ hx => False.elim hx) (tk_v fun h14 hw => ?_)
        refine tq_inc (k := (-1 : Int32)) (ls' := [some (vR (some o)), some (vR x1), some (vI (x2 + (-1 : Int32))), some (vR v4)]) dSc_turnedBack_41 rfl tni_m1 (Nat.le_of_ble_eq_true rfl) rfl ?_
        refine tq_goto (tgt := 19) dSc_turnedBack_44 (by decide) ?_
        refine tpR.fo (ls' := [some (vR (some o)), some (vR x1), some (vI (x2 + (-1 : Int32))), none]) ?_ (And.intro rfl (And.intro rfl (And.intro rfl trivial)))
        exact ih _ _ _ _ hw
theorem s_Sc_turnedBack {o : Nat} {h : tpH} {R : Option Nat → tpH → Prop} (hw : w_Sc_turnedBack o h R) : tpC Sc_turnedBack 3 [vR (some o)] h (tpOr R (fun _ _ => False)) := by
  refine tpC_of mv_Sc_turnedBack.2.2.2.1 rfl rfl (Nat.le_of_ble_eq_true rfl) ?_
  show tpR Sc_turnedBack 3 h _ _ 0 [some (vR (some o)), none, none, none] [] h
  unfold w_Sc_turnedBack at hw
  refine tq_new (ci := 8) cSc_10 ti_8 rfl dSc_turnedBack_0 (fun a1 h2 e3 e4 => ?_)
  have hw := hw a1 h2 e3 e4
  refine tq_dup dSc_turnedBack_3 rfl ?_
  refine tq_aload_n dSc_turnedBack_4 rfl rfl ?_
  obtain ⟨f5, hw⟩ := hw
  refine te_geti dSc_turnedBack_5 fSc_15 rfl rfl f5 ?_
  refine te_init mi_Sc_init (dc := 1) (as := [vI (hI h2 o 1)]) (rest := [vR (some a1)]) (Or.inl kSc_19) (Nat.le_of_ble_eq_true rfl) (Nat.le_of_ble_eq_true rfl) rfl rfl rfl (Nat.le_of_ble_eq_true rfl) dSc_turnedBack_8 (s_Sc_init hw) (fun _ _ hx => hx) (tk_v fun h6 hw => ?_)
  refine tq_astore_n (ls' := [some (vR (some o)), some (vR (some a1)), none, none]) dSc_turnedBack_11 rfl (Nat.le_of_ble_eq_true rfl) rfl ?_
  refine tq_aload_n dSc_turnedBack_12 rfl rfl ?_
  obtain ⟨f7, hw⟩ := hw
  refine te_geti dSc_turnedBack_13 fSc_15 rfl rfl f7 ?_
  refine tq_iconst (v := (1 : Int32)) dSc_turnedBack_16 tni_1 ?_
  refine tq_isub dSc_turnedBack_17 ?_
  refine tq_istore_n (ls' := [some (vR (some o)), some (vR (some a1)), some (vI ((hI h6 o 1) - (1 : Int32))), none]) dSc_turnedBack_18 rfl (Nat.le_of_ble_eq_true rfl) rfl ?_
  refine tpR.fo (ls' := [some (vR (some o)), some (vR (some a1)), some (vI ((hI h6 o 1) - (1 : Int32))), none]) ?_ (And.intro rfl (And.intro rfl (And.intro rfl trivial)))
  obtain ⟨n, hw⟩ := hw
  exact s_Sc_turnedBack_19 n _ _ _ _ hw
/-! T$Step.fits -/
theorem dSt_fits_0 : decode (mB St_fits) 0 = .ok (.aload_n 1, 1) := by decide +kernel
theorem dSt_fits_1 : decode (mB St_fits) 1 = .ok (.aload_n 0, 1) := by decide +kernel
theorem dSt_fits_2 : decode (mB St_fits) 2 = .ok (.getfield 15, 3) := by decide +kernel
theorem dSt_fits_5 : decode (mB St_fits) 5 = .ok (.invokevirtual 62, 3) := by decide +kernel
theorem dSt_fits_8 : decode (mB St_fits) 8 = .ok (.istore_n 2, 1) := by decide +kernel
theorem dSt_fits_9 : decode (mB St_fits) 9 = .ok (.aload_n 0, 1) := by decide +kernel
theorem dSt_fits_10 : decode (mB St_fits) 10 = .ok (.getfield 9, 3) := by decide +kernel
theorem dSt_fits_13 : decode (mB St_fits) 13 = .ok (.tableswitch 89 0 3 #[31, 65, 89, 33], 31) := by decide +kernel
theorem dSt_fits_44 : decode (mB St_fits) 44 = .ok (.iload_n 2, 1) := by decide +kernel
theorem dSt_fits_45 : decode (mB St_fits) 45 = .ok (.ireturn, 1) := by decide +kernel
theorem dSt_fits_46 : decode (mB St_fits) 46 = .ok (.iload_n 2, 1) := by decide +kernel
theorem dSt_fits_47 : decode (mB St_fits) 47 = .ok (.ifCond .eq 29, 3) := by decide +kernel
theorem dSt_fits_50 : decode (mB St_fits) 50 = .ok (.aload_n 1, 1) := by decide +kernel
theorem dSt_fits_51 : decode (mB St_fits) 51 = .ok (.aload_n 0, 1) := by decide +kernel
theorem dSt_fits_52 : decode (mB St_fits) 52 = .ok (.getfield 15, 3) := by decide +kernel
theorem dSt_fits_55 : decode (mB St_fits) 55 = .ok (.invokevirtual 66, 3) := by decide +kernel
theorem dSt_fits_58 : decode (mB St_fits) 58 = .ok (.ifCond .ne 18, 3) := by decide +kernel
theorem dSt_fits_61 : decode (mB St_fits) 61 = .ok (.aload_n 0, 1) := by decide +kernel
theorem dSt_fits_62 : decode (mB St_fits) 62 = .ok (.getfield 15, 3) := by decide +kernel
theorem dSt_fits_65 : decode (mB St_fits) 65 = .ok (.aload_n 1, 1) := by decide +kernel
theorem dSt_fits_66 : decode (mB St_fits) 66 = .ok (.getfield 69, 3) := by decide +kernel
theorem dSt_fits_69 : decode (mB St_fits) 69 = .ok (.if_icmp .eq 7, 3) := by decide +kernel
theorem dSt_fits_72 : decode (mB St_fits) 72 = .ok (.iconst 1, 1) := by decide +kernel
theorem dSt_fits_73 : decode (mB St_fits) 73 = .ok (.goto 4, 3) := by decide +kernel
theorem dSt_fits_76 : decode (mB St_fits) 76 = .ok (.iconst 0, 1) := by decide +kernel
theorem dSt_fits_77 : decode (mB St_fits) 77 = .ok (.ireturn, 1) := by decide +kernel
theorem dSt_fits_78 : decode (mB St_fits) 78 = .ok (.iload_n 2, 1) := by decide +kernel
theorem dSt_fits_79 : decode (mB St_fits) 79 = .ok (.ifCond .ne 21, 3) := by decide +kernel
theorem dSt_fits_82 : decode (mB St_fits) 82 = .ok (.aload_n 1, 1) := by decide +kernel
theorem dSt_fits_83 : decode (mB St_fits) 83 = .ok (.aload_n 0, 1) := by decide +kernel
theorem dSt_fits_84 : decode (mB St_fits) 84 = .ok (.getfield 28, 3) := by decide +kernel
theorem dSt_fits_87 : decode (mB St_fits) 87 = .ok (.getfield 72, 3) := by decide +kernel
theorem dSt_fits_90 : decode (mB St_fits) 90 = .ok (.invokevirtual 62, 3) := by decide +kernel
theorem dSt_fits_93 : decode (mB St_fits) 93 = .ok (.ifCond .eq 7, 3) := by decide +kernel
theorem dSt_fits_96 : decode (mB St_fits) 96 = .ok (.iconst 1, 1) := by decide +kernel
theorem dSt_fits_97 : decode (mB St_fits) 97 = .ok (.goto 4, 3) := by decide +kernel
theorem dSt_fits_100 : decode (mB St_fits) 100 = .ok (.iconst 0, 1) := by decide +kernel
theorem dSt_fits_101 : decode (mB St_fits) 101 = .ok (.ireturn, 1) := by decide +kernel
theorem dSt_fits_102 : decode (mB St_fits) 102 = .ok (.iload_n 2, 1) := by decide +kernel
theorem dSt_fits_103 : decode (mB St_fits) 103 = .ok (.ifCond .eq 39, 3) := by decide +kernel
theorem dSt_fits_106 : decode (mB St_fits) 106 = .ok (.aload_n 1, 1) := by decide +kernel
theorem dSt_fits_107 : decode (mB St_fits) 107 = .ok (.aload_n 0, 1) := by decide +kernel
theorem dSt_fits_108 : decode (mB St_fits) 108 = .ok (.getfield 28, 3) := by decide +kernel
theorem dSt_fits_111 : decode (mB St_fits) 111 = .ok (.getfield 72, 3) := by decide +kernel
theorem dSt_fits_114 : decode (mB St_fits) 114 = .ok (.invokevirtual 62, 3) := by decide +kernel
theorem dSt_fits_117 : decode (mB St_fits) 117 = .ok (.ifCond .eq 25, 3) := by decide +kernel
theorem dSt_fits_120 : decode (mB St_fits) 120 = .ok (.aload_n 1, 1) := by decide +kernel
theorem dSt_fits_121 : decode (mB St_fits) 121 = .ok (.aload_n 0, 1) := by decide +kernel
theorem dSt_fits_122 : decode (mB St_fits) 122 = .ok (.getfield 28, 3) := by decide +kernel
theorem dSt_fits_125 : decode (mB St_fits) 125 = .ok (.getfield 72, 3) := by decide +kernel
theorem dSt_fits_128 : decode (mB St_fits) 128 = .ok (.aload_n 0, 1) := by decide +kernel
theorem dSt_fits_129 : decode (mB St_fits) 129 = .ok (.getfield 15, 3) := by decide +kernel
theorem dSt_fits_132 : decode (mB St_fits) 132 = .ok (.invokevirtual 77, 3) := by decide +kernel
theorem dSt_fits_135 : decode (mB St_fits) 135 = .ok (.ifCond .ne 7, 3) := by decide +kernel
theorem dSt_fits_138 : decode (mB St_fits) 138 = .ok (.iconst 1, 1) := by decide +kernel
theorem dSt_fits_139 : decode (mB St_fits) 139 = .ok (.goto 4, 3) := by decide +kernel
theorem dSt_fits_142 : decode (mB St_fits) 142 = .ok (.iconst 0, 1) := by decide +kernel
theorem dSt_fits_143 : decode (mB St_fits) 143 = .ok (.ireturn, 1) := by decide +kernel
def w_St_fits_102 (R : Int32 → tpH → Prop) (o : Nat) (x1 : Option Nat) (x2 : Int32) (h : tpH) : Prop :=
  (x2 = 0 → (R (0 : Int32) h)) ∧ (¬ x2 = 0 → (hT h o = 11 ∧ (∃ a3, (hR h o 5) = some a3 ∧ hT h a3 = 10 ∧ (∃ a6, x1 = some a6 ∧ hT h a6 = 1 ∧ (w_Bu_has a6 (hI h a3 0) h (fun v10 h9 => (v10 = 0 → (R (0 : Int32) h9)) ∧ (¬ v10 = 0 → (hT h9 o = 11 ∧ (∃ a13, (hR h9 o 5) = some a13 ∧ hT h9 a13 = 10 ∧ (hT h9 a6 = 1 ∧ (w_Bu_isWithin a6 (hI h9 a13 0) (hI h9 o 1) h9 (fun v18 h17 => (¬ v18 = 0 → (R (0 : Int32) h17)) ∧ (v18 = 0 → (R (1 : Int32) h17))))))))))))))
def w_St_fits (o : Nat) (x1 : Option Nat) (h : tpH) (R : Int32 → tpH → Prop) : Prop :=
  hT h o = 11 ∧ (∃ a2, x1 = some a2 ∧ hT h a2 = 1 ∧ (w_Bu_has a2 (hI h o 1) h (fun v6 h5 => hT h5 o = 11 ∧ (((hI h5 o 0).toInt < 0 ∨ 3 < (hI h5 o 0).toInt → (w_St_fits_102 R o x1 v6 h5)) ∧ ((hI h5 o 0).toInt = 0 → (tpB v6 ∧ (R v6 h5))) ∧ ((hI h5 o 0).toInt = 1 → ((¬ v6 = 0 → (R (0 : Int32) h5)) ∧ (v6 = 0 → (∃ a11, (hR h5 o 5) = some a11 ∧ hT h5 a11 = 10 ∧ (hT h5 a2 = 1 ∧ (w_Bu_has a2 (hI h5 a11 0) h5 (fun v16 h15 => (v16 = 0 → (R (0 : Int32) h15)) ∧ (¬ v16 = 0 → (R (1 : Int32) h15))))))))) ∧ ((hI h5 o 0).toInt = 2 → (w_St_fits_102 R o x1 v6 h5)) ∧ ((hI h5 o 0).toInt = 3 → ((v6 = 0 → (R (0 : Int32) h5)) ∧ (¬ v6 = 0 → (hT h5 a2 = 1 ∧ (w_Bu_hasChildren a2 (hI h5 o 1) h5 (fun v21 h20 => (¬ v21 = 0 → (R (0 : Int32) h20)) ∧ (v21 = 0 → (hT h20 o = 11 ∧ (hT h20 a2 = 1 ∧ (((hI h20 o 1) = (hI h20 a2 8) → (R (0 : Int32) h20)) ∧ (¬ (hI h20 o 1) = (hI h20 a2 8) → (R (1 : Int32) h20))))))))))))))))
theorem s_St_fits_102 {h0 : tpH} {av : List tpV} {R : Int32 → tpH → Prop} : ∀ (o : Nat) (x1 : Option Nat) (x2 : Int32) (h : tpH), w_St_fits_102 R o x1 x2 h → tpR St_fits 2 h0 av (tpOi R (fun _ _ => False)) 102 [some (vR (some o)), some (vR x1), some (vI x2)] [] h := by
  intro o x1 x2 h hw
  unfold w_St_fits_102 at hw
  refine tq_iload_n dSt_fits_102 rfl rfl ?_
  refine tq_ifeq (tgt := 142) dSt_fits_103 (by decide) (fun c1 => ?_) (fun c1 => ?_)
  · have hw := hw.1 c1
    refine tq_iconst (v := (0 : Int32)) dSt_fits_142 tni_0 ?_
    exact tq_iret rfl (by decide) dSt_fits_143 hw
  · have hw := hw.2 c1
    refine tq_aload_n dSt_fits_106 rfl rfl ?_
    refine tq_aload_n dSt_fits_107 rfl rfl ?_
    obtain ⟨f2, hw⟩ := hw
    refine te_getr dSt_fits_108 fSt_28 rfl rfl f2 ?_
    obtain ⟨a3, e4, f5, hw⟩ := hw
    refine te_geti dSt_fits_111 fSt_72 rfl e4 f5 ?_
    obtain ⟨a6, e7, f8, hw⟩ := hw
    refine te_callV mv_Bu_has (ci := 0) (dc := 1) (as := [vI (hI h a3 0)]) (rest := []) kSt_62 rfl (Nat.le_of_ble_eq_true rfl) (Nat.le_of_ble_eq_true rfl) rfl rfl e7 f8 (Nat.le_of_ble_eq_true rfl) dSt_fits_114 (s_Bu_has hw) (fun _ _ hx => False.elim hx) (tk_i fun v10 h9 hw => ?_)
    refine tq_ifeq (tgt := 142) dSt_fits_117 (by decide) (fun c11 => ?_) (fun c11 => ?_)
    · have hw := hw.1 c11
      refine tq_iconst (v := (0 : Int32)) dSt_fits_142 tni_0 ?_
      exact tq_iret rfl (by decide) dSt_fits_143 hw
    · have hw := hw.2 c11
      refine tq_aload_n dSt_fits_120 rfl rfl ?_
      refine tq_aload_n dSt_fits_121 rfl rfl ?_
      obtain ⟨f12, hw⟩ := hw
      refine te_getr dSt_fits_122 fSt_28 rfl rfl f12 ?_
      obtain ⟨a13, e14, f15, hw⟩ := hw
      refine te_geti dSt_fits_125 fSt_72 rfl e14 f15 ?_
      refine tq_aload_n dSt_fits_128 rfl rfl ?_
      refine te_geti dSt_fits_129 fSt_15 rfl rfl f12 ?_
      obtain ⟨f16, hw⟩ := hw
      refine te_callV mv_Bu_isWithin (ci := 0) (dc := 1) (as := [vI (hI h9 a13 0), vI (hI h9 o 1)]) (rest := []) kSt_77 rfl (Nat.le_of_ble_eq_true rfl) (Nat.le_of_ble_eq_true rfl) rfl rfl e7 f16 (Nat.le_of_ble_eq_true rfl) dSt_fits_132 (s_Bu_isWithin hw) (fun _ _ hx => False.elim hx) (tk_i fun v18 h17 hw => ?_)
      refine tq_ifne (tgt := 142) dSt_fits_135 (by decide) (fun c19 => ?_) (fun c19 => ?_)
      · have hw := hw.1 c19
        refine tq_iconst (v := (0 : Int32)) dSt_fits_142 tni_0 ?_
        exact tq_iret rfl (by decide) dSt_fits_143 hw
      · have hw := hw.2 c19
        refine tq_iconst (v := (1 : Int32)) dSt_fits_138 tni_1 ?_
        refine tq_goto (tgt := 143) dSt_fits_139 (by decide) ?_
        exact tq_iret rfl (by decide) dSt_fits_143 hw
theorem s_St_fits {o : Nat} {x1 : Option Nat} {h : tpH} {R : Int32 → tpH → Prop} (hw : w_St_fits o x1 h R) : tpC St_fits 2 [vR (some o), vR x1] h (tpOi R (fun _ _ => False)) := by
  refine tpC_of mv_St_fits.2.2.2.1 rfl rfl (Nat.le_of_ble_eq_true rfl) ?_
  show tpR St_fits 2 h _ _ 0 [some (vR (some o)), some (vR x1), none] [] h
  unfold w_St_fits at hw
  refine tq_aload_n dSt_fits_0 rfl rfl ?_
  refine tq_aload_n dSt_fits_1 rfl rfl ?_
  obtain ⟨f1, hw⟩ := hw
  refine te_geti dSt_fits_2 fSt_15 rfl rfl f1 ?_
  obtain ⟨a2, e3, f4, hw⟩ := hw
  refine te_callV mv_Bu_has (ci := 0) (dc := 1) (as := [vI (hI h o 1)]) (rest := []) kSt_62 rfl (Nat.le_of_ble_eq_true rfl) (Nat.le_of_ble_eq_true rfl) rfl rfl e3 f4 (Nat.le_of_ble_eq_true rfl) dSt_fits_5 (s_Bu_has hw) (fun _ _ hx => False.elim hx) (tk_i fun v6 h5 hw => ?_)
  refine tq_istore_n (ls' := [some (vR (some o)), some (vR x1), some (vI v6)]) dSt_fits_8 rfl (Nat.le_of_ble_eq_true rfl) rfl ?_
  refine tq_aload_n dSt_fits_9 rfl rfl ?_
  obtain ⟨f7, hw⟩ := hw
  refine te_geti dSt_fits_10 fSt_9 rfl rfl f7 ?_
  by_cases c8 : (hI h5 o 0).toInt < 0 ∨ 3 < (hI h5 o 0).toInt
  · refine tq_swOut (tgt := 102) dSt_fits_13 c8 (by decide) ?_
    have hw := hw.1 c8
    refine tpR.fo (ls' := [some (vR (some o)), some (vR x1), some (vI v6)]) ?_ (And.intro rfl (And.intro rfl (And.intro rfl trivial)))
    exact s_St_fits_102 _ _ _ _ hw
  · have hw := hw.2
    have hq : (hI h5 o 0).toInt = 0 ∨ (hI h5 o 0).toInt = 1 ∨ (hI h5 o 0).toInt = 2 ∨ (hI h5 o 0).toInt = 3 := by omega
    rcases hq with c8 | c8 | c8 | c8
    · refine tq_swIn (off := 31) (tgt := 44) 0 c8 dSt_fits_13 (by decide) (by decide) (by decide) (by decide) ?_
      have hw := hw.1 c8
      refine tq_iload_n dSt_fits_44 rfl rfl ?_
      obtain ⟨f9, hw⟩ := hw
      exact tq_iret rfl (tpB_n f9) dSt_fits_45 hw
    · refine tq_swIn (off := 65) (tgt := 78) 1 c8 dSt_fits_13 (by decide) (by decide) (by decide) (by decide) ?_
      have hw := hw.2.1 c8
      refine tq_iload_n dSt_fits_78 rfl rfl ?_
      refine tq_ifne (tgt := 100) dSt_fits_79 (by decide) (fun c10 => ?_) (fun c10 => ?_)
      · have hw := hw.1 c10
        refine tq_iconst (v := (0 : Int32)) dSt_fits_100 tni_0 ?_
        exact tq_iret rfl (by decide) dSt_fits_101 hw
      · have hw := hw.2 c10
        refine tq_aload_n dSt_fits_82 rfl rfl ?_
        refine tq_aload_n dSt_fits_83 rfl rfl ?_
        refine te_getr dSt_fits_84 fSt_28 rfl rfl f7 ?_
        obtain ⟨a11, e12, f13, hw⟩ := hw
        refine te_geti dSt_fits_87 fSt_72 rfl e12 f13 ?_
        obtain ⟨f14, hw⟩ := hw
        refine te_callV mv_Bu_has (ci := 0) (dc := 1) (as := [vI (hI h5 a11 0)]) (rest := []) kSt_62 rfl (Nat.le_of_ble_eq_true rfl) (Nat.le_of_ble_eq_true rfl) rfl rfl e3 f14 (Nat.le_of_ble_eq_true rfl) dSt_fits_90 (s_Bu_has hw) (fun _ _ hx => False.elim hx) (tk_i fun v16 h15 hw => ?_)
        refine tq_ifeq (tgt := 100) dSt_fits_93 (by decide) (fun c17 => ?_) (fun c17 => ?_)
        · have hw := hw.1 c17
          refine tq_iconst (v := (0 : Int32)) dSt_fits_100 tni_0 ?_
          exact tq_iret rfl (by decide) dSt_fits_101 hw
        · have hw := hw.2 c17
          refine tq_iconst (v := (1 : Int32)) dSt_fits_96 tni_1 ?_
          refine tq_goto (tgt := 101) dSt_fits_97 (by decide) ?_
          exact tq_iret rfl (by decide) dSt_fits_101 hw
    · refine tq_swIn (off := 89) (tgt := 102) 2 c8 dSt_fits_13 (by decide) (by decide) (by decide) (by decide) ?_
      have hw := hw.2.2.1 c8
      refine tpR.fo (ls' := [some (vR (some o)), some (vR x1), some (vI v6)]) ?_ (And.intro rfl (And.intro rfl (And.intro rfl trivial)))
      exact s_St_fits_102 _ _ _ _ hw
    · refine tq_swIn (off := 33) (tgt := 46) 3 c8 dSt_fits_13 (by decide) (by decide) (by decide) (by decide) ?_
      have hw := hw.2.2.2 c8
      refine tq_iload_n dSt_fits_46 rfl rfl ?_
      refine tq_ifeq (tgt := 76) dSt_fits_47 (by decide) (fun c18 => ?_) (fun c18 => ?_)
      · have hw := hw.1 c18
        refine tq_iconst (v := (0 : Int32)) dSt_fits_76 tni_0 ?_
        exact tq_iret rfl (by decide) dSt_fits_77 hw
      · have hw := hw.2 c18
        refine tq_aload_n dSt_fits_50 rfl rfl ?_
        refine tq_aload_n dSt_fits_51 rfl rfl ?_
        refine te_geti dSt_fits_52 fSt_15 rfl rfl f7 ?_
        obtain ⟨f19, hw⟩ := hw
        refine te_callV mv_Bu_hasChildren (ci := 0) (dc := 1) (as := [vI (hI h5 o 1)]) (rest := []) kSt_66 rfl (Nat.le_of_ble_eq_true rfl) (Nat.le_of_ble_eq_true rfl) rfl rfl e3 f19 (Nat.le_of_ble_eq_true rfl) dSt_fits_55 (s_Bu_hasChildren hw) (fun _ _ hx => False.elim hx) (tk_i fun v21 h20 hw => ?_)
        refine tq_ifne (tgt := 76) dSt_fits_58 (by decide) (fun c22 => ?_) (fun c22 => ?_)
        · have hw := hw.1 c22
          refine tq_iconst (v := (0 : Int32)) dSt_fits_76 tni_0 ?_
          exact tq_iret rfl (by decide) dSt_fits_77 hw
        · have hw := hw.2 c22
          refine tq_aload_n dSt_fits_61 rfl rfl ?_
          obtain ⟨f23, hw⟩ := hw
          refine te_geti dSt_fits_62 fSt_15 rfl rfl f23 ?_
          refine tq_aload_n dSt_fits_65 rfl rfl ?_
          obtain ⟨f24, hw⟩ := hw
          refine te_geti dSt_fits_66 fSt_69 rfl e3 f24 ?_
          refine tq_icmpeq (tgt := 76) dSt_fits_69 (by decide) (fun c25 => ?_) (fun c25 => ?_)
          · have hw := hw.1 c25
            refine tq_iconst (v := (0 : Int32)) dSt_fits_76 tni_0 ?_
            exact tq_iret rfl (by decide) dSt_fits_77 hw
          · have hw := hw.2 c25
            refine tq_iconst (v := (1 : Int32)) dSt_fits_72 tni_1 ?_
            refine tq_goto (tgt := 77) dSt_fits_73 (by decide) ?_
            exact tq_iret rfl (by decide) dSt_fits_77 hw
/-! T$Step.childAhead -/
theorem dSt_childAhead_0 : decode (mB St_childAhead) 0 = .ok (.aload_n 1, 1) := by decide +kernel
theorem dSt_childAhead_1 : decode (mB St_childAhead) 1 = .ok (.aload_n 0, 1) := by decide +kernel
theorem dSt_childAhead_2 : decode (mB St_childAhead) 2 = .ok (.getfield 28, 3) := by decide +kernel
theorem dSt_childAhead_5 : decode (mB St_childAhead) 5 = .ok (.getfield 97, 3) := by decide +kernel
theorem dSt_childAhead_8 : decode (mB St_childAhead) 8 = .ok (.aload_n 0, 1) := by decide +kernel
theorem dSt_childAhead_9 : decode (mB St_childAhead) 9 = .ok (.getfield 28, 3) := by decide +kernel
theorem dSt_childAhead_12 : decode (mB St_childAhead) 12 = .ok (.getfield 72, 3) := by decide +kernel
theorem dSt_childAhead_15 : decode (mB St_childAhead) 15 = .ok (.invokevirtual 109, 3) := by decide +kernel
theorem dSt_childAhead_18 : decode (mB St_childAhead) 18 = .ok (.ifCond .eq 11, 3) := by decide +kernel
theorem dSt_childAhead_21 : decode (mB St_childAhead) 21 = .ok (.aload_n 0, 1) := by decide +kernel
theorem dSt_childAhead_22 : decode (mB St_childAhead) 22 = .ok (.getfield 28, 3) := by decide +kernel
theorem dSt_childAhead_25 : decode (mB St_childAhead) 25 = .ok (.getfield 97, 3) := by decide +kernel
theorem dSt_childAhead_28 : decode (mB St_childAhead) 28 = .ok (.ireturn, 1) := by decide +kernel
theorem dSt_childAhead_29 : decode (mB St_childAhead) 29 = .ok (.aload_n 1, 1) := by decide +kernel
theorem dSt_childAhead_30 : decode (mB St_childAhead) 30 = .ok (.aload_n 0, 1) := by decide +kernel
theorem dSt_childAhead_31 : decode (mB St_childAhead) 31 = .ok (.getfield 28, 3) := by decide +kernel
theorem dSt_childAhead_34 : decode (mB St_childAhead) 34 = .ok (.getfield 103, 3) := by decide +kernel
theorem dSt_childAhead_37 : decode (mB St_childAhead) 37 = .ok (.aload_n 0, 1) := by decide +kernel
theorem dSt_childAhead_38 : decode (mB St_childAhead) 38 = .ok (.getfield 28, 3) := by decide +kernel
theorem dSt_childAhead_41 : decode (mB St_childAhead) 41 = .ok (.getfield 72, 3) := by decide +kernel
theorem dSt_childAhead_44 : decode (mB St_childAhead) 44 = .ok (.invokevirtual 109, 3) := by decide +kernel
theorem dSt_childAhead_47 : decode (mB St_childAhead) 47 = .ok (.ifCond .eq 15, 3) := by decide +kernel
theorem dSt_childAhead_50 : decode (mB St_childAhead) 50 = .ok (.aload_n 1, 1) := by decide +kernel
theorem dSt_childAhead_51 : decode (mB St_childAhead) 51 = .ok (.aload_n 0, 1) := by decide +kernel
theorem dSt_childAhead_52 : decode (mB St_childAhead) 52 = .ok (.getfield 28, 3) := by decide +kernel
theorem dSt_childAhead_55 : decode (mB St_childAhead) 55 = .ok (.getfield 103, 3) := by decide +kernel
theorem dSt_childAhead_58 : decode (mB St_childAhead) 58 = .ok (.invokevirtual 100, 3) := by decide +kernel
theorem dSt_childAhead_61 : decode (mB St_childAhead) 61 = .ok (.ireturn, 1) := by decide +kernel
theorem dSt_childAhead_62 : decode (mB St_childAhead) 62 = .ok (.aload_n 1, 1) := by decide +kernel
theorem dSt_childAhead_63 : decode (mB St_childAhead) 63 = .ok (.aload_n 0, 1) := by decide +kernel
theorem dSt_childAhead_64 : decode (mB St_childAhead) 64 = .ok (.getfield 28, 3) := by decide +kernel
theorem dSt_childAhead_67 : decode (mB St_childAhead) 67 = .ok (.getfield 72, 3) := by decide +kernel
theorem dSt_childAhead_70 : decode (mB St_childAhead) 70 = .ok (.invokevirtual 112, 3) := by decide +kernel
theorem dSt_childAhead_73 : decode (mB St_childAhead) 73 = .ok (.ireturn, 1) := by decide +kernel
def w_St_childAhead (o : Nat) (x1 : Option Nat) (h : tpH) (R : Int32 → tpH → Prop) : Prop :=
  hT h o = 11 ∧ (∃ a2, (hR h o 5) = some a2 ∧ hT h a2 = 10 ∧ (∃ a5, x1 = some a5 ∧ hT h a5 = 1 ∧ (w_Bu_isChild a5 (hI h a2 1) (hI h a2 0) h (fun v9 h8 => (v9 = 0 → (hT h8 o = 11 ∧ (∃ a12, (hR h8 o 5) = some a12 ∧ hT h8 a12 = 10 ∧ (hT h8 a5 = 1 ∧ (w_Bu_isChild a5 (hI h8 a12 2) (hI h8 a12 0) h8 (fun v17 h16 => (v17 = 0 → (hT h16 o = 11 ∧ (∃ a20, (hR h16 o 5) = some a20 ∧ hT h16 a20 = 10 ∧ (hT h16 a5 = 1 ∧ (w_Bu_lastOf a5 (hI h16 a20 0) h16 (fun v25 h24 => R v25 h24)))))) ∧ (¬ v17 = 0 → (hT h16 o = 11 ∧ (∃ a27, (hR h16 o 5) = some a27 ∧ hT h16 a27 = 10 ∧ (hT h16 a5 = 1 ∧ (w_Bu_aheadOf a5 (hI h16 a27 2) h16 (fun v32 h31 => R v32 h31)))))))))))) ∧ (¬ v9 = 0 → (hT h8 o = 11 ∧ (∃ a34, (hR h8 o 5) = some a34 ∧ hT h8 a34 = 10 ∧ (R (hI h8 a34 1) h8))))))))
theorem s_St_childAhead {o : Nat} {x1 : Option Nat} {h : tpH} {R : Int32 → tpH → Prop} (hw : w_St_childAhead o x1 h R) : tpC St_childAhead 2 [vR (some o), vR x1] h (tpOi R (fun _ _ => False)) := by
  refine tpC_of mv_St_childAhead.2.2.2.1 rfl rfl (Nat.le_of_ble_eq_true rfl) ?_
  show tpR St_childAhead 2 h _ _ 0 [some (vR (some o)), some (vR x1)] [] h
  unfold w_St_childAhead at hw
  refine tq_aload_n dSt_childAhead_0 rfl rfl ?_
  refine tq_aload_n dSt_childAhead_1 rfl rfl ?_
  obtain ⟨f1, hw⟩ := hw
  refine te_getr dSt_childAhead_2 fSt_28 rfl rfl f1 ?_
  obtain ⟨a2, e3, f4, hw⟩ := hw
  refine te_geti dSt_childAhead_5 fSt_97 rfl e3 f4 ?_
  refine tq_aload_n dSt_childAhead_8 rfl rfl ?_
  refine te_getr dSt_childAhead_9 fSt_28 rfl rfl f1 ?_
  refine te_geti dSt_childAhead_12 fSt_72 rfl e3 f4 ?_
  obtain ⟨a5, e6, f7, hw⟩ := hw
  refine te_callV mv_Bu_isChild (ci := 0) (dc := 1) (as := [vI (hI h a2 1), vI (hI h a2 0)]) (rest := []) kSt_109 rfl (Nat.le_of_ble_eq_true rfl) (Nat.le_of_ble_eq_true rfl) rfl rfl e6 f7 (Nat.le_of_ble_eq_true rfl) dSt_childAhead_15 (s_Bu_isChild hw) (fun _ _ hx => False.elim hx) (tk_i fun v9 h8 hw => ?_)
  refine tq_ifeq (tgt := 29) dSt_childAhead_18 (by decide) (fun c10 => ?_) (fun c10 => ?_)
  · have hw := hw.1 c10
    refine tq_aload_n dSt_childAhead_29 rfl rfl ?_
    refine tq_aload_n dSt_childAhead_30 rfl rfl ?_
    obtain ⟨f11, hw⟩ := hw
    refine te_getr dSt_childAhead_31 fSt_28 rfl rfl f11 ?_
    obtain ⟨a12, e13, f14, hw⟩ := hw
    refine te_geti dSt_childAhead_34 fSt_103 rfl e13 f14 ?_
    refine tq_aload_n dSt_childAhead_37 rfl rfl ?_
    refine te_getr dSt_childAhead_38 fSt_28 rfl rfl f11 ?_
    refine te_geti dSt_childAhead_41 fSt_72 rfl e13 f14 ?_
    obtain ⟨f15, hw⟩ := hw
    refine te_callV mv_Bu_isChild (ci := 0) (dc := 1) (as := [vI (hI h8 a12 2), vI (hI h8 a12 0)]) (rest := []) kSt_109 rfl (Nat.le_of_ble_eq_true rfl) (Nat.le_of_ble_eq_true rfl) rfl rfl e6 f15 (Nat.le_of_ble_eq_true rfl) dSt_childAhead_44 (s_Bu_isChild hw) (fun _ _ hx => False.elim hx) (tk_i fun v17 h16 hw => ?_)
    refine tq_ifeq (tgt := 62) dSt_childAhead_47 (by decide) (fun c18 => ?_) (fun c18 => ?_)
    · have hw := hw.1 c18
      refine tq_aload_n dSt_childAhead_62 rfl rfl ?_
      refine tq_aload_n dSt_childAhead_63 rfl rfl ?_
      obtain ⟨f19, hw⟩ := hw
      refine te_getr dSt_childAhead_64 fSt_28 rfl rfl f19 ?_
      obtain ⟨a20, e21, f22, hw⟩ := hw
      refine te_geti dSt_childAhead_67 fSt_72 rfl e21 f22 ?_
      obtain ⟨f23, hw⟩ := hw
      refine te_callV mv_Bu_lastOf (ci := 0) (dc := 1) (as := [vI (hI h16 a20 0)]) (rest := []) kSt_112 rfl (Nat.le_of_ble_eq_true rfl) (Nat.le_of_ble_eq_true rfl) rfl rfl e6 f23 (Nat.le_of_ble_eq_true rfl) dSt_childAhead_70 (s_Bu_lastOf hw) (fun _ _ hx => False.elim hx) (tk_i fun v25 h24 hw => ?_)
      exact tq_iret rfl rfl dSt_childAhead_73 hw
    · have hw := hw.2 c18
      refine tq_aload_n dSt_childAhead_50 rfl rfl ?_
      refine tq_aload_n dSt_childAhead_51 rfl rfl ?_
      obtain ⟨f26, hw⟩ := hw
      refine te_getr dSt_childAhead_52 fSt_28 rfl rfl f26 ?_
      obtain ⟨a27, e28, f29, hw⟩ := hw
      refine te_geti dSt_childAhead_55 fSt_103 rfl e28 f29 ?_
      obtain ⟨f30, hw⟩ := hw
      refine te_callV mv_Bu_aheadOf (ci := 0) (dc := 1) (as := [vI (hI h16 a27 2)]) (rest := []) kSt_100 rfl (Nat.le_of_ble_eq_true rfl) (Nat.le_of_ble_eq_true rfl) rfl rfl e6 f30 (Nat.le_of_ble_eq_true rfl) dSt_childAhead_58 (s_Bu_aheadOf hw) (fun _ _ hx => False.elim hx) (tk_i fun v32 h31 hw => ?_)
      exact tq_iret rfl rfl dSt_childAhead_61 hw
  · have hw := hw.2 c10
    refine tq_aload_n dSt_childAhead_21 rfl rfl ?_
    obtain ⟨f33, hw⟩ := hw
    refine te_getr dSt_childAhead_22 fSt_28 rfl rfl f33 ?_
    obtain ⟨a34, e35, f36, hw⟩ := hw
    refine te_geti dSt_childAhead_25 fSt_97 rfl e35 f36 ?_
    exact tq_iret rfl rfl dSt_childAhead_28 hw
/-! T$Step.arriveIn -/
theorem dSt_arriveIn_0 : decode (mB St_arriveIn) 0 = .ok (.aload_n 1, 1) := by decide +kernel
theorem dSt_arriveIn_1 : decode (mB St_arriveIn) 1 = .ok (.aload_n 0, 1) := by decide +kernel
theorem dSt_arriveIn_2 : decode (mB St_arriveIn) 2 = .ok (.getfield 15, 3) := by decide +kernel
theorem dSt_arriveIn_5 : decode (mB St_arriveIn) 5 = .ok (.aload_n 0, 1) := by decide +kernel
theorem dSt_arriveIn_6 : decode (mB St_arriveIn) 6 = .ok (.getfield 28, 3) := by decide +kernel
theorem dSt_arriveIn_9 : decode (mB St_arriveIn) 9 = .ok (.getfield 72, 3) := by decide +kernel
theorem dSt_arriveIn_12 : decode (mB St_arriveIn) 12 = .ok (.aload_n 0, 1) := by decide +kernel
theorem dSt_arriveIn_13 : decode (mB St_arriveIn) 13 = .ok (.aload_n 1, 1) := by decide +kernel
theorem dSt_arriveIn_14 : decode (mB St_arriveIn) 14 = .ok (.invokevirtual 81, 3) := by decide +kernel
theorem dSt_arriveIn_17 : decode (mB St_arriveIn) 17 = .ok (.invokevirtual 84, 3) := by decide +kernel
theorem dSt_arriveIn_20 : decode (mB St_arriveIn) 20 = .ok (.aload_n 1, 1) := by decide +kernel
theorem dSt_arriveIn_21 : decode (mB St_arriveIn) 21 = .ok (.getfield 88, 3) := by decide +kernel
theorem dSt_arriveIn_24 : decode (mB St_arriveIn) 24 = .ok (.aload_n 0, 1) := by decide +kernel
theorem dSt_arriveIn_25 : decode (mB St_arriveIn) 25 = .ok (.getfield 28, 3) := by decide +kernel
theorem dSt_arriveIn_28 : decode (mB St_arriveIn) 28 = .ok (.getfield 72, 3) := by decide +kernel
theorem dSt_arriveIn_31 : decode (mB St_arriveIn) 31 = .ok (.invokevirtual 92, 3) := by decide +kernel
theorem dSt_arriveIn_34 : decode (mB St_arriveIn) 34 = .ok (.ifCond .eq 5, 3) := by decide +kernel
theorem dSt_arriveIn_37 : decode (mB St_arriveIn) 37 = .ok (.iconst 0, 1) := by decide +kernel
theorem dSt_arriveIn_38 : decode (mB St_arriveIn) 38 = .ok (.ireturn, 1) := by decide +kernel
theorem dSt_arriveIn_39 : decode (mB St_arriveIn) 39 = .ok (.iconst 0, 1) := by decide +kernel
theorem dSt_arriveIn_40 : decode (mB St_arriveIn) 40 = .ok (.istore_n 2, 1) := by decide +kernel
theorem dSt_arriveIn_41 : decode (mB St_arriveIn) 41 = .ok (.aload_n 0, 1) := by decide +kernel
theorem dSt_arriveIn_42 : decode (mB St_arriveIn) 42 = .ok (.getfield 28, 3) := by decide +kernel
theorem dSt_arriveIn_45 : decode (mB St_arriveIn) 45 = .ok (.getfield 97, 3) := by decide +kernel
theorem dSt_arriveIn_48 : decode (mB St_arriveIn) 48 = .ok (.iconst (-1), 1) := by decide +kernel
theorem dSt_arriveIn_49 : decode (mB St_arriveIn) 49 = .ok (.if_icmp .eq 24, 3) := by decide +kernel
theorem dSt_arriveIn_52 : decode (mB St_arriveIn) 52 = .ok (.aload_n 1, 1) := by decide +kernel
theorem dSt_arriveIn_53 : decode (mB St_arriveIn) 53 = .ok (.aload_n 0, 1) := by decide +kernel
theorem dSt_arriveIn_54 : decode (mB St_arriveIn) 54 = .ok (.getfield 15, 3) := by decide +kernel
theorem dSt_arriveIn_57 : decode (mB St_arriveIn) 57 = .ok (.invokevirtual 100, 3) := by decide +kernel
theorem dSt_arriveIn_60 : decode (mB St_arriveIn) 60 = .ok (.aload_n 0, 1) := by decide +kernel
theorem dSt_arriveIn_61 : decode (mB St_arriveIn) 61 = .ok (.getfield 28, 3) := by decide +kernel
theorem dSt_arriveIn_64 : decode (mB St_arriveIn) 64 = .ok (.getfield 97, 3) := by decide +kernel
theorem dSt_arriveIn_67 : decode (mB St_arriveIn) 67 = .ok (.if_icmp .eq 6, 3) := by decide +kernel
theorem dSt_arriveIn_70 : decode (mB St_arriveIn) 70 = .ok (.iinc 2 1, 3) := by decide +kernel
theorem dSt_arriveIn_73 : decode (mB St_arriveIn) 73 = .ok (.aload_n 0, 1) := by decide +kernel
theorem dSt_arriveIn_74 : decode (mB St_arriveIn) 74 = .ok (.getfield 28, 3) := by decide +kernel
theorem dSt_arriveIn_77 : decode (mB St_arriveIn) 77 = .ok (.getfield 103, 3) := by decide +kernel
theorem dSt_arriveIn_80 : decode (mB St_arriveIn) 80 = .ok (.iconst (-1), 1) := by decide +kernel
theorem dSt_arriveIn_81 : decode (mB St_arriveIn) 81 = .ok (.if_icmp .eq 24, 3) := by decide +kernel
theorem dSt_arriveIn_84 : decode (mB St_arriveIn) 84 = .ok (.aload_n 1, 1) := by decide +kernel
theorem dSt_arriveIn_85 : decode (mB St_arriveIn) 85 = .ok (.aload_n 0, 1) := by decide +kernel
theorem dSt_arriveIn_86 : decode (mB St_arriveIn) 86 = .ok (.getfield 15, 3) := by decide +kernel
theorem dSt_arriveIn_89 : decode (mB St_arriveIn) 89 = .ok (.invokevirtual 106, 3) := by decide +kernel
theorem dSt_arriveIn_92 : decode (mB St_arriveIn) 92 = .ok (.aload_n 0, 1) := by decide +kernel
theorem dSt_arriveIn_93 : decode (mB St_arriveIn) 93 = .ok (.getfield 28, 3) := by decide +kernel
theorem dSt_arriveIn_96 : decode (mB St_arriveIn) 96 = .ok (.getfield 103, 3) := by decide +kernel
theorem dSt_arriveIn_99 : decode (mB St_arriveIn) 99 = .ok (.if_icmp .eq 6, 3) := by decide +kernel
theorem dSt_arriveIn_102 : decode (mB St_arriveIn) 102 = .ok (.iinc 2 1, 3) := by decide +kernel
theorem dSt_arriveIn_105 : decode (mB St_arriveIn) 105 = .ok (.iload_n 2, 1) := by decide +kernel
theorem dSt_arriveIn_106 : decode (mB St_arriveIn) 106 = .ok (.ireturn, 1) := by decide +kernel
def w_St_arriveIn_73 (R : Int32 → tpH → Prop) (o : Nat) (x1 : Option Nat) (x2 : Int32) (h : tpH) : Prop :=
  hT h o = 11 ∧ (∃ a2, (hR h o 5) = some a2 ∧ hT h a2 = 10 ∧ (((hI h a2 2) = (-1 : Int32) → (R x2 h)) ∧ (¬ (hI h a2 2) = (-1 : Int32) → (∃ a6, x1 = some a6 ∧ hT h a6 = 1 ∧ (w_Bu_behindOf a6 (hI h o 1) h (fun v10 h9 => hT h9 o = 11 ∧ (∃ a12, (hR h9 o 5) = some a12 ∧ hT h9 a12 = 10 ∧ ((v10 = (hI h9 a12 2) → (R x2 h9)) ∧ (¬ v10 = (hI h9 a12 2) → (R (x2 + (1 : Int32)) h9))))))))))
def w_St_arriveIn (o : Nat) (x1 : Option Nat) (h : tpH) (R : Int32 → tpH → Prop) : Prop :=
  hT h o = 11 ∧ (∃ a2, (hR h o 5) = some a2 ∧ hT h a2 = 10 ∧ (w_St_childAhead o x1 h (fun v6 h5 => ∃ a7, x1 = some a7 ∧ hT h5 a7 = 1 ∧ (w_Bu_hang a7 (hI h o 1) (hI h a2 0) v6 h5 (fun h10 => hT h10 a7 = 1 ∧ (hT h10 o = 11 ∧ (∃ a13, (hR h10 o 5) = some a13 ∧ hT h10 a13 = 10 ∧ (∃ a16, (hR h10 a7 0) = some a16 ∧ hT h10 a16 = 5 ∧ (w_Ma_isLoose a16 (hI h10 a13 0) h10 (fun v20 h19 => (v20 = 0 → (hT h19 o = 11 ∧ (∃ a23, (hR h19 o 5) = some a23 ∧ hT h19 a23 = 10 ∧ (((hI h19 a23 1) = (-1 : Int32) → (w_St_arriveIn_73 R o x1 (0 : Int32) h19)) ∧ (¬ (hI h19 a23 1) = (-1 : Int32) → (hT h19 a7 = 1 ∧ (w_Bu_aheadOf a7 (hI h19 o 1) h19 (fun v29 h28 => hT h28 o = 11 ∧ (∃ a31, (hR h28 o 5) = some a31 ∧ hT h28 a31 = 10 ∧ ((v29 = (hI h28 a31 1) → (w_St_arriveIn_73 R o x1 (0 : Int32) h28)) ∧ (¬ v29 = (hI h28 a31 1) → (w_St_arriveIn_73 R o x1 ((0 : Int32) + (1 : Int32)) h28)))))))))))) ∧ (¬ v20 = 0 → (R (0 : Int32) h19))))))))))))
theorem s_St_arriveIn_73 {h0 : tpH} {av : List tpV} {R : Int32 → tpH → Prop} : ∀ (o : Nat) (x1 : Option Nat) (x2 : Int32) (h : tpH), w_St_arriveIn_73 R o x1 x2 h → tpR St_arriveIn 3 h0 av (tpOi R (fun _ _ => False)) 73 [some (vR (some o)), some (vR x1), some (vI x2)] [] h := by
  intro o x1 x2 h hw
  unfold w_St_arriveIn_73 at hw
  refine tq_aload_n dSt_arriveIn_73 rfl rfl ?_
  obtain ⟨f1, hw⟩ := hw
  refine te_getr dSt_arriveIn_74 fSt_28 rfl rfl f1 ?_
  obtain ⟨a2, e3, f4, hw⟩ := hw
  refine te_geti dSt_arriveIn_77 fSt_103 rfl e3 f4 ?_
  refine tq_iconst (v := (-1 : Int32)) dSt_arriveIn_80 tni_m1 ?_
  refine tq_icmpeq (tgt := 105) dSt_arriveIn_81 (by decide) (fun c5 => ?_) (fun c5 => ?_)
  · have hw := hw.1 c5
    refine tq_iload_n dSt_arriveIn_105 rfl rfl ?_
    exact tq_iret rfl rfl dSt_arriveIn_106 hw
  · have hw := hw.2 c5
    refine tq_aload_n dSt_arriveIn_84 rfl rfl ?_
    refine tq_aload_n dSt_arriveIn_85 rfl rfl ?_
    refine te_geti dSt_arriveIn_86 fSt_15 rfl rfl f1 ?_
    obtain ⟨a6, e7, f8, hw⟩ := hw
    refine te_callV mv_Bu_behindOf (ci := 0) (dc := 1) (as := [vI (hI h o 1)]) (rest := []) kSt_106 rfl (Nat.le_of_ble_eq_true rfl) (Nat.le_of_ble_eq_true rfl) rfl rfl e7 f8 (Nat.le_of_ble_eq_true rfl) dSt_arriveIn_89 (s_Bu_behindOf hw) (fun _ _ hx => False.elim hx) (tk_i fun v10 h9 hw => ?_)
    refine tq_aload_n dSt_arriveIn_92 rfl rfl ?_
    obtain ⟨f11, hw⟩ := hw
    refine te_getr dSt_arriveIn_93 fSt_28 rfl rfl f11 ?_
    obtain ⟨a12, e13, f14, hw⟩ := hw
    refine te_geti dSt_arriveIn_96 fSt_103 rfl e13 f14 ?_
    refine tq_icmpeq (tgt := 105) dSt_arriveIn_99 (by decide) (fun c15 => ?_) (fun c15 => ?_)
    · have hw := hw.1 c15
      refine tq_iload_n dSt_arriveIn_105 rfl rfl ?_
      exact tq_iret rfl rfl dSt_arriveIn_106 hw
    · have hw := hw.2 c15
      refine tq_inc (k := (1 : Int32)) (ls' := [some (vR (some o)), some (vR x1), some (vI (x2 + (1 : Int32)))]) dSt_arriveIn_102 rfl tni_1 (Nat.le_of_ble_eq_true rfl) rfl ?_
      refine tq_iload_n dSt_arriveIn_105 rfl rfl ?_
      exact tq_iret rfl rfl dSt_arriveIn_106 hw
theorem s_St_arriveIn {o : Nat} {x1 : Option Nat} {h : tpH} {R : Int32 → tpH → Prop} (hw : w_St_arriveIn o x1 h R) : tpC St_arriveIn 3 [vR (some o), vR x1] h (tpOi R (fun _ _ => False)) := by
  refine tpC_of mv_St_arriveIn.2.2.2.1 rfl rfl (Nat.le_of_ble_eq_true rfl) ?_
  show tpR St_arriveIn 3 h _ _ 0 [some (vR (some o)), some (vR x1), none] [] h
  unfold w_St_arriveIn at hw
  refine tq_aload_n dSt_arriveIn_0 rfl rfl ?_
  refine tq_aload_n dSt_arriveIn_1 rfl rfl ?_
  obtain ⟨f1, hw⟩ := hw
  refine te_geti dSt_arriveIn_2 fSt_15 rfl rfl f1 ?_
  refine tq_aload_n dSt_arriveIn_5 rfl rfl ?_
  refine te_getr dSt_arriveIn_6 fSt_28 rfl rfl f1 ?_
  obtain ⟨a2, e3, f4, hw⟩ := hw
  refine te_geti dSt_arriveIn_9 fSt_72 rfl e3 f4 ?_
  refine tq_aload_n dSt_arriveIn_12 rfl rfl ?_
  refine tq_aload_n dSt_arriveIn_13 rfl rfl ?_
  refine te_callV mv_St_childAhead (ci := 10) (dc := 2) (as := [vR x1]) (rest := [vI (hI h a2 0), vI (hI h o 1), vR x1]) kSt_81 rfl (Nat.le_of_ble_eq_true rfl) (Nat.le_of_ble_eq_true rfl) rfl rfl rfl f1 (Nat.le_of_ble_eq_true rfl) dSt_arriveIn_14 (s_St_childAhead hw) (fun _ _ hx => False.elim hx) (tk_i fun v6 h5 hw => ?_)
  obtain ⟨a7, e8, f9, hw⟩ := hw
  refine te_callV mv_Bu_hang (ci := 0) (dc := 2) (as := [vI (hI h o 1), vI (hI h a2 0), vI v6]) (rest := []) kSt_84 rfl (Nat.le_of_ble_eq_true rfl) (Nat.le_of_ble_eq_true rfl) rfl rfl e8 f9 (Nat.le_of_ble_eq_true rfl) dSt_arriveIn_17 (s_Bu_hang hw) (fun _ _ hx => False.elim hx) (tk_v fun h10 hw => ?_)
  refine tq_aload_n dSt_arriveIn_20 rfl rfl ?_
  obtain ⟨f11, hw⟩ := hw
  refine te_getr dSt_arriveIn_21 fSt_88 rfl e8 f11 ?_
  refine tq_aload_n dSt_arriveIn_24 rfl rfl ?_
  obtain ⟨f12, hw⟩ := hw
  refine te_getr dSt_arriveIn_25 fSt_28 rfl rfl f12 ?_
  obtain ⟨a13, e14, f15, hw⟩ := hw
  refine te_geti dSt_arriveIn_28 fSt_72 rfl e14 f15 ?_
  obtain ⟨a16, e17, f18, hw⟩ := hw
  refine te_callV mv_Ma_isLoose (ci := 4) (dc := 1) (as := [vI (hI h10 a13 0)]) (rest := []) kSt_92 rfl (Nat.le_of_ble_eq_true rfl) (Nat.le_of_ble_eq_true rfl) rfl rfl e17 f18 (Nat.le_of_ble_eq_true rfl) dSt_arriveIn_31 (s_Ma_isLoose hw) (fun _ _ hx => False.elim hx) (tk_i fun v20 h19 hw => ?_)
  refine tq_ifeq (tgt := 39) dSt_arriveIn_34 (by decide) (fun c21 => ?_) (fun c21 => ?_)
  · have hw := hw.1 c21
    refine tq_iconst (v := (0 : Int32)) dSt_arriveIn_39 tni_0 ?_
    refine tq_istore_n (ls' := [some (vR (some o)), some (vR x1), some (vI (0 : Int32))]) dSt_arriveIn_40 rfl (Nat.le_of_ble_eq_true rfl) rfl ?_
    refine tq_aload_n dSt_arriveIn_41 rfl rfl ?_
    obtain ⟨f22, hw⟩ := hw
    refine te_getr dSt_arriveIn_42 fSt_28 rfl rfl f22 ?_
    obtain ⟨a23, e24, f25, hw⟩ := hw
    refine te_geti dSt_arriveIn_45 fSt_97 rfl e24 f25 ?_
    refine tq_iconst (v := (-1 : Int32)) dSt_arriveIn_48 tni_m1 ?_
    refine tq_icmpeq (tgt := 73) dSt_arriveIn_49 (by decide) (fun c26 => ?_) (fun c26 => ?_)
    · have hw := hw.1 c26
      refine tpR.fo (ls' := [some (vR (some o)), some (vR x1), some (vI (0 : Int32))]) ?_ (And.intro rfl (And.intro rfl (And.intro rfl trivial)))
      exact s_St_arriveIn_73 _ _ _ _ hw
    · have hw := hw.2 c26
      refine tq_aload_n dSt_arriveIn_52 rfl rfl ?_
      refine tq_aload_n dSt_arriveIn_53 rfl rfl ?_
      refine te_geti dSt_arriveIn_54 fSt_15 rfl rfl f22 ?_
      obtain ⟨f27, hw⟩ := hw
      refine te_callV mv_Bu_aheadOf (ci := 0) (dc := 1) (as := [vI (hI h19 o 1)]) (rest := []) kSt_100 rfl (Nat.le_of_ble_eq_true rfl) (Nat.le_of_ble_eq_true rfl) rfl rfl e8 f27 (Nat.le_of_ble_eq_true rfl) dSt_arriveIn_57 (s_Bu_aheadOf hw) (fun _ _ hx => False.elim hx) (tk_i fun v29 h28 hw => ?_)
      refine tq_aload_n dSt_arriveIn_60 rfl rfl ?_
      obtain ⟨f30, hw⟩ := hw
      refine te_getr dSt_arriveIn_61 fSt_28 rfl rfl f30 ?_
      obtain ⟨a31, e32, f33, hw⟩ := hw
      refine te_geti dSt_arriveIn_64 fSt_97 rfl e32 f33 ?_
      refine tq_icmpeq (tgt := 73) dSt_arriveIn_67 (by decide) (fun c34 => ?_) (fun c34 => ?_)
      · have hw := hw.1 c34
        refine tpR.fo (ls' := [some (vR (some o)), some (vR x1), some (vI (0 : Int32))]) ?_ (And.intro rfl (And.intro rfl (And.intro rfl trivial)))
        exact s_St_arriveIn_73 _ _ _ _ hw
      · have hw := hw.2 c34
        refine tq_inc (k := (1 : Int32)) (ls' := [some (vR (some o)), some (vR x1), some (vI ((0 : Int32) + (1 : Int32)))]) dSt_arriveIn_70 rfl tni_1 (Nat.le_of_ble_eq_true rfl) rfl ?_
        refine tpR.fo (ls' := [some (vR (some o)), some (vR x1), some (vI ((0 : Int32) + (1 : Int32)))]) ?_ (And.intro rfl (And.intro rfl (And.intro rfl trivial)))
        exact s_St_arriveIn_73 _ _ _ _ hw
  · have hw := hw.2 c21
    refine tq_iconst (v := (0 : Int32)) dSt_arriveIn_37 tni_0 ?_
    exact tq_iret rfl rfl dSt_arriveIn_38 hw
/-! T$Step.playOn -/
theorem dSt_playOn_0 : decode (mB St_playOn) 0 = .ok (.aload_n 0, 1) := by decide +kernel
theorem dSt_playOn_1 : decode (mB St_playOn) 1 = .ok (.aload_n 1, 1) := by decide +kernel
theorem dSt_playOn_2 : decode (mB St_playOn) 2 = .ok (.invokevirtual 34, 3) := by decide +kernel
theorem dSt_playOn_5 : decode (mB St_playOn) 5 = .ok (.ifCond .ne 6, 3) := by decide +kernel
theorem dSt_playOn_8 : decode (mB St_playOn) 8 = .ok (.bipush 10, 2) := by decide +kernel
theorem dSt_playOn_10 : decode (mB St_playOn) 10 = .ok (.ireturn, 1) := by decide +kernel
theorem dSt_playOn_11 : decode (mB St_playOn) 11 = .ok (.aload_n 0, 1) := by decide +kernel
theorem dSt_playOn_12 : decode (mB St_playOn) 12 = .ok (.getfield 9, 3) := by decide +kernel
theorem dSt_playOn_15 : decode (mB St_playOn) 15 = .ok (.tableswitch 93 0 3 #[29, 75, 93, 64], 29) := by decide +kernel
theorem dSt_playOn_44 : decode (mB St_playOn) 44 = .ok (.aload_n 1, 1) := by decide +kernel
theorem dSt_playOn_45 : decode (mB St_playOn) 45 = .ok (.aload_n 0, 1) := by decide +kernel
theorem dSt_playOn_46 : decode (mB St_playOn) 46 = .ok (.getfield 15, 3) := by decide +kernel
theorem dSt_playOn_49 : decode (mB St_playOn) 49 = .ok (.invokevirtual 38, 3) := by decide +kernel
theorem dSt_playOn_52 : decode (mB St_playOn) 52 = .ok (.istore_n 2, 1) := by decide +kernel
theorem dSt_playOn_53 : decode (mB St_playOn) 53 = .ok (.aload_n 1, 1) := by decide +kernel
theorem dSt_playOn_54 : decode (mB St_playOn) 54 = .ok (.aload_n 0, 1) := by decide +kernel
theorem dSt_playOn_55 : decode (mB St_playOn) 55 = .ok (.getfield 15, 3) := by decide +kernel
theorem dSt_playOn_58 : decode (mB St_playOn) 58 = .ok (.aload_n 0, 1) := by decide +kernel
theorem dSt_playOn_59 : decode (mB St_playOn) 59 = .ok (.getfield 21, 3) := by decide +kernel
theorem dSt_playOn_62 : decode (mB St_playOn) 62 = .ok (.invokevirtual 44, 3) := by decide +kernel
theorem dSt_playOn_65 : decode (mB St_playOn) 65 = .ok (.iload_n 2, 1) := by decide +kernel
theorem dSt_playOn_66 : decode (mB St_playOn) 66 = .ok (.aload_n 0, 1) := by decide +kernel
theorem dSt_playOn_67 : decode (mB St_playOn) 67 = .ok (.getfield 18, 3) := by decide +kernel
theorem dSt_playOn_70 : decode (mB St_playOn) 70 = .ok (.if_icmp .ne 7, 3) := by decide +kernel
theorem dSt_playOn_73 : decode (mB St_playOn) 73 = .ok (.iconst 0, 1) := by decide +kernel
theorem dSt_playOn_74 : decode (mB St_playOn) 74 = .ok (.goto 4, 3) := by decide +kernel
theorem dSt_playOn_77 : decode (mB St_playOn) 77 = .ok (.iconst 1, 1) := by decide +kernel
theorem dSt_playOn_78 : decode (mB St_playOn) 78 = .ok (.ireturn, 1) := by decide +kernel
theorem dSt_playOn_79 : decode (mB St_playOn) 79 = .ok (.aload_n 1, 1) := by decide +kernel
theorem dSt_playOn_80 : decode (mB St_playOn) 80 = .ok (.aload_n 0, 1) := by decide +kernel
theorem dSt_playOn_81 : decode (mB St_playOn) 81 = .ok (.getfield 15, 3) := by decide +kernel
theorem dSt_playOn_84 : decode (mB St_playOn) 84 = .ok (.invokevirtual 48, 3) := by decide +kernel
theorem dSt_playOn_87 : decode (mB St_playOn) 87 = .ok (.pop, 1) := by decide +kernel
theorem dSt_playOn_88 : decode (mB St_playOn) 88 = .ok (.iconst 0, 1) := by decide +kernel
theorem dSt_playOn_89 : decode (mB St_playOn) 89 = .ok (.ireturn, 1) := by decide +kernel
theorem dSt_playOn_90 : decode (mB St_playOn) 90 = .ok (.aload_n 1, 1) := by decide +kernel
theorem dSt_playOn_91 : decode (mB St_playOn) 91 = .ok (.aload_n 0, 1) := by decide +kernel
theorem dSt_playOn_92 : decode (mB St_playOn) 92 = .ok (.getfield 15, 3) := by decide +kernel
theorem dSt_playOn_95 : decode (mB St_playOn) 95 = .ok (.aload_n 0, 1) := by decide +kernel
theorem dSt_playOn_96 : decode (mB St_playOn) 96 = .ok (.getfield 21, 3) := by decide +kernel
theorem dSt_playOn_99 : decode (mB St_playOn) 99 = .ok (.invokevirtual 51, 3) := by decide +kernel
theorem dSt_playOn_102 : decode (mB St_playOn) 102 = .ok (.aload_n 0, 1) := by decide +kernel
theorem dSt_playOn_103 : decode (mB St_playOn) 103 = .ok (.aload_n 1, 1) := by decide +kernel
theorem dSt_playOn_104 : decode (mB St_playOn) 104 = .ok (.invokevirtual 54, 3) := by decide +kernel
theorem dSt_playOn_107 : decode (mB St_playOn) 107 = .ok (.ireturn, 1) := by decide +kernel
theorem dSt_playOn_108 : decode (mB St_playOn) 108 = .ok (.aload_n 1, 1) := by decide +kernel
theorem dSt_playOn_109 : decode (mB St_playOn) 109 = .ok (.aload_n 0, 1) := by decide +kernel
theorem dSt_playOn_110 : decode (mB St_playOn) 110 = .ok (.getfield 15, 3) := by decide +kernel
theorem dSt_playOn_113 : decode (mB St_playOn) 113 = .ok (.invokevirtual 58, 3) := by decide +kernel
theorem dSt_playOn_116 : decode (mB St_playOn) 116 = .ok (.aload_n 0, 1) := by decide +kernel
theorem dSt_playOn_117 : decode (mB St_playOn) 117 = .ok (.aload_n 1, 1) := by decide +kernel
theorem dSt_playOn_118 : decode (mB St_playOn) 118 = .ok (.invokevirtual 54, 3) := by decide +kernel
theorem dSt_playOn_121 : decode (mB St_playOn) 121 = .ok (.ireturn, 1) := by decide +kernel
def w_St_playOn_108 (R : Int32 → tpH → Prop) (o : Nat) (x1 : Option Nat) (h : tpH) : Prop :=
  hT h o = 11 ∧ (∃ a2, x1 = some a2 ∧ hT h a2 = 1 ∧ (w_Bu_cut a2 (hI h o 1) h (fun h5 => hT h5 o = 11 ∧ (w_St_arriveIn o x1 h5 (fun v8 h7 => R v8 h7)))))
def w_St_playOn (o : Nat) (x1 : Option Nat) (h : tpH) (R : Int32 → tpH → Prop) : Prop :=
  hT h o = 11 ∧ (w_St_fits o x1 h (fun v3 h2 => (¬ v3 = 0 → (hT h2 o = 11 ∧ (((hI h2 o 0).toInt < 0 ∨ 3 < (hI h2 o 0).toInt → (w_St_playOn_108 R o x1 h2)) ∧ ((hI h2 o 0).toInt = 0 → (∃ a7, x1 = some a7 ∧ hT h2 a7 = 1 ∧ (w_Bu_worthOf a7 (hI h2 o 1) h2 (fun v11 h10 => hT h10 o = 11 ∧ (hT h10 a7 = 1 ∧ (w_Bu_give a7 (hI h10 o 1) (hI h10 o 3) h10 (fun h14 => hT h14 o = 11 ∧ ((¬ v11 = (hI h14 o 2) → (R (1 : Int32) h14)) ∧ (v11 = (hI h14 o 2) → (R (0 : Int32) h14)))))))))) ∧ ((hI h2 o 0).toInt = 1 → (∃ a17, x1 = some a17 ∧ hT h2 a17 = 1 ∧ (w_Bu_sprout a17 (hI h2 o 1) (hI h2 o 3) h2 (fun h20 => hT h20 o = 11 ∧ (w_St_arriveIn o x1 h20 (fun v23 h22 => R v23 h22)))))) ∧ ((hI h2 o 0).toInt = 2 → (w_St_playOn_108 R o x1 h2)) ∧ ((hI h2 o 0).toInt = 3 → (∃ a24, x1 = some a24 ∧ hT h2 a24 = 1 ∧ (w_Bu_erase a24 (hI h2 o 1) h2 (fun v28 h27 => R (0 : Int32) h27))))))) ∧ (v3 = 0 → (R (10 : Int32) h2))))
theorem s_St_playOn_108 {h0 : tpH} {av : List tpV} {R : Int32 → tpH → Prop} : ∀ (o : Nat) (x1 : Option Nat) (h : tpH), w_St_playOn_108 R o x1 h → tpR St_playOn 4 h0 av (tpOi R (fun _ _ => False)) 108 [some (vR (some o)), some (vR x1), none] [] h := by
  intro o x1 h hw
  unfold w_St_playOn_108 at hw
  refine tq_aload_n dSt_playOn_108 rfl rfl ?_
  refine tq_aload_n dSt_playOn_109 rfl rfl ?_
  obtain ⟨f1, hw⟩ := hw
  refine te_geti dSt_playOn_110 fSt_15 rfl rfl f1 ?_
  obtain ⟨a2, e3, f4, hw⟩ := hw
  refine te_callV mv_Bu_cut (ci := 0) (dc := 2) (as := [vI (hI h o 1)]) (rest := []) kSt_58 rfl (Nat.le_of_ble_eq_true rfl) (Nat.le_of_ble_eq_true rfl) rfl rfl e3 f4 (Nat.le_of_ble_eq_true rfl) dSt_playOn_113 (s_Bu_cut hw) (fun _ _ hx => False.elim hx) (tk_v fun h5 hw => ?_)
  refine tq_aload_n dSt_playOn_116 rfl rfl ?_
  refine tq_aload_n dSt_playOn_117 rfl rfl ?_
  obtain ⟨f6, hw⟩ := hw
  refine te_callV mv_St_arriveIn (ci := 10) (dc := 3) (as := [vR x1]) (rest := []) kSt_54 rfl (Nat.le_of_ble_eq_true rfl) (Nat.le_of_ble_eq_true rfl) rfl rfl rfl f6 (Nat.le_of_ble_eq_true rfl) dSt_playOn_118 (s_St_arriveIn hw) (fun _ _ hx => False.elim hx) (tk_i fun v8 h7 hw => ?_)
  exact tq_iret rfl rfl dSt_playOn_121 hw
theorem s_St_playOn {o : Nat} {x1 : Option Nat} {h : tpH} {R : Int32 → tpH → Prop} (hw : w_St_playOn o x1 h R) : tpC St_playOn 4 [vR (some o), vR x1] h (tpOi R (fun _ _ => False)) := by
  refine tpC_of mv_St_playOn.2.2.2.1 rfl rfl (Nat.le_of_ble_eq_true rfl) ?_
  show tpR St_playOn 4 h _ _ 0 [some (vR (some o)), some (vR x1), none] [] h
  unfold w_St_playOn at hw
  refine tq_aload_n dSt_playOn_0 rfl rfl ?_
  refine tq_aload_n dSt_playOn_1 rfl rfl ?_
  obtain ⟨f1, hw⟩ := hw
  refine te_callV mv_St_fits (ci := 10) (dc := 2) (as := [vR x1]) (rest := []) kSt_34 rfl (Nat.le_of_ble_eq_true rfl) (Nat.le_of_ble_eq_true rfl) rfl rfl rfl f1 (Nat.le_of_ble_eq_true rfl) dSt_playOn_2 (s_St_fits hw) (fun _ _ hx => False.elim hx) (tk_i fun v3 h2 hw => ?_)
  refine tq_ifne (tgt := 11) dSt_playOn_5 (by decide) (fun c4 => ?_) (fun c4 => ?_)
  · have hw := hw.1 c4
    refine tq_aload_n dSt_playOn_11 rfl rfl ?_
    obtain ⟨f5, hw⟩ := hw
    refine te_geti dSt_playOn_12 fSt_9 rfl rfl f5 ?_
    by_cases c6 : (hI h2 o 0).toInt < 0 ∨ 3 < (hI h2 o 0).toInt
    · refine tq_swOut (tgt := 108) dSt_playOn_15 c6 (by decide) ?_
      have hw := hw.1 c6
      refine tpR.fo (ls' := [some (vR (some o)), some (vR x1), none]) ?_ (And.intro rfl (And.intro rfl trivial))
      exact s_St_playOn_108 _ _ _ hw
    · have hw := hw.2
      have hq : (hI h2 o 0).toInt = 0 ∨ (hI h2 o 0).toInt = 1 ∨ (hI h2 o 0).toInt = 2 ∨ (hI h2 o 0).toInt = 3 := by omega
      rcases hq with c6 | c6 | c6 | c6
      · refine tq_swIn (off := 29) (tgt := 44) 0 c6 dSt_playOn_15 (by decide) (by decide) (by decide) (by decide) ?_
        have hw := hw.1 c6
        refine tq_aload_n dSt_playOn_44 rfl rfl ?_
        refine tq_aload_n dSt_playOn_45 rfl rfl ?_
        refine te_geti dSt_playOn_46 fSt_15 rfl rfl f5 ?_
        obtain ⟨a7, e8, f9, hw⟩ := hw
        refine te_callV mv_Bu_worthOf (ci := 0) (dc := 1) (as := [vI (hI h2 o 1)]) (rest := []) kSt_38 rfl (Nat.le_of_ble_eq_true rfl) (Nat.le_of_ble_eq_true rfl) rfl rfl e8 f9 (Nat.le_of_ble_eq_true rfl) dSt_playOn_49 (s_Bu_worthOf hw) (fun _ _ hx => False.elim hx) (tk_i fun v11 h10 hw => ?_)
        refine tq_istore_n (ls' := [some (vR (some o)), some (vR x1), some (vI v11)]) dSt_playOn_52 rfl (Nat.le_of_ble_eq_true rfl) rfl ?_
        refine tq_aload_n dSt_playOn_53 rfl rfl ?_
        refine tq_aload_n dSt_playOn_54 rfl rfl ?_
        obtain ⟨f12, hw⟩ := hw
        refine te_geti dSt_playOn_55 fSt_15 rfl rfl f12 ?_
        refine tq_aload_n dSt_playOn_58 rfl rfl ?_
        refine te_geti dSt_playOn_59 fSt_21 rfl rfl f12 ?_
        obtain ⟨f13, hw⟩ := hw
        refine te_callV mv_Bu_give (ci := 0) (dc := 1) (as := [vI (hI h10 o 1), vI (hI h10 o 3)]) (rest := []) kSt_44 rfl (Nat.le_of_ble_eq_true rfl) (Nat.le_of_ble_eq_true rfl) rfl rfl e8 f13 (Nat.le_of_ble_eq_true rfl) dSt_playOn_62 (s_Bu_give hw) (fun _ _ hx => False.elim hx) (tk_v fun h14 hw => ?_)
        refine tq_iload_n dSt_playOn_65 rfl rfl ?_
        refine tq_aload_n dSt_playOn_66 rfl rfl ?_
        obtain ⟨f15, hw⟩ := hw
        refine te_geti dSt_playOn_67 fSt_18 rfl rfl f15 ?_
        refine tq_icmpne (tgt := 77) dSt_playOn_70 (by decide) (fun c16 => ?_) (fun c16 => ?_)
        · have hw := hw.1 c16
          refine tq_iconst (v := (1 : Int32)) dSt_playOn_77 tni_1 ?_
          exact tq_iret rfl rfl dSt_playOn_78 hw
        · have hw := hw.2 c16
          refine tq_iconst (v := (0 : Int32)) dSt_playOn_73 tni_0 ?_
          refine tq_goto (tgt := 78) dSt_playOn_74 (by decide) ?_
          exact tq_iret rfl rfl dSt_playOn_78 hw
      · refine tq_swIn (off := 75) (tgt := 90) 1 c6 dSt_playOn_15 (by decide) (by decide) (by decide) (by decide) ?_
        have hw := hw.2.1 c6
        refine tq_aload_n dSt_playOn_90 rfl rfl ?_
        refine tq_aload_n dSt_playOn_91 rfl rfl ?_
        refine te_geti dSt_playOn_92 fSt_15 rfl rfl f5 ?_
        refine tq_aload_n dSt_playOn_95 rfl rfl ?_
        refine te_geti dSt_playOn_96 fSt_21 rfl rfl f5 ?_
        obtain ⟨a17, e18, f19, hw⟩ := hw
        refine te_callV mv_Bu_sprout (ci := 0) (dc := 1) (as := [vI (hI h2 o 1), vI (hI h2 o 3)]) (rest := []) kSt_51 rfl (Nat.le_of_ble_eq_true rfl) (Nat.le_of_ble_eq_true rfl) rfl rfl e18 f19 (Nat.le_of_ble_eq_true rfl) dSt_playOn_99 (s_Bu_sprout hw) (fun _ _ hx => False.elim hx) (tk_v fun h20 hw => ?_)
        refine tq_aload_n dSt_playOn_102 rfl rfl ?_
        refine tq_aload_n dSt_playOn_103 rfl rfl ?_
        obtain ⟨f21, hw⟩ := hw
        refine te_callV mv_St_arriveIn (ci := 10) (dc := 3) (as := [vR x1]) (rest := []) kSt_54 rfl (Nat.le_of_ble_eq_true rfl) (Nat.le_of_ble_eq_true rfl) rfl rfl rfl f21 (Nat.le_of_ble_eq_true rfl) dSt_playOn_104 (s_St_arriveIn hw) (fun _ _ hx => False.elim hx) (tk_i fun v23 h22 hw => ?_)
        exact tq_iret rfl rfl dSt_playOn_107 hw
      · refine tq_swIn (off := 93) (tgt := 108) 2 c6 dSt_playOn_15 (by decide) (by decide) (by decide) (by decide) ?_
        have hw := hw.2.2.1 c6
        refine tpR.fo (ls' := [some (vR (some o)), some (vR x1), none]) ?_ (And.intro rfl (And.intro rfl trivial))
        exact s_St_playOn_108 _ _ _ hw
      · refine tq_swIn (off := 64) (tgt := 79) 3 c6 dSt_playOn_15 (by decide) (by decide) (by decide) (by decide) ?_
        have hw := hw.2.2.2 c6
        refine tq_aload_n dSt_playOn_79 rfl rfl ?_
        refine tq_aload_n dSt_playOn_80 rfl rfl ?_
        refine te_geti dSt_playOn_81 fSt_15 rfl rfl f5 ?_
        obtain ⟨a24, e25, f26, hw⟩ := hw
        refine te_callV mv_Bu_erase (ci := 0) (dc := 3) (as := [vI (hI h2 o 1)]) (rest := []) kSt_48 rfl (Nat.le_of_ble_eq_true rfl) (Nat.le_of_ble_eq_true rfl) rfl rfl e25 f26 (Nat.le_of_ble_eq_true rfl) dSt_playOn_84 (s_Bu_erase hw) (fun _ _ hx => False.elim hx) (tk_i fun v28 h27 hw => ?_)
        refine tq_pop dSt_playOn_87 rfl ?_
        refine tq_iconst (v := (0 : Int32)) dSt_playOn_88 tni_0 ?_
        exact tq_iret rfl rfl dSt_playOn_89 hw
  · have hw := hw.2 c4
    refine tq_bipush (v := (10 : Int32)) dSt_playOn_8 tnb_10 ?_
    exact tq_iret rfl rfl dSt_playOn_10 hw
/-! T$Script.playOn -/
theorem dSc_playOn_0 : decode (mB Sc_playOn) 0 = .ok (.iconst 0, 1) := by decide +kernel
theorem dSc_playOn_1 : decode (mB Sc_playOn) 1 = .ok (.istore_n 2, 1) := by decide +kernel
theorem dSc_playOn_2 : decode (mB Sc_playOn) 2 = .ok (.iconst 0, 1) := by decide +kernel
theorem dSc_playOn_3 : decode (mB Sc_playOn) 3 = .ok (.istore_n 3, 1) := by decide +kernel
theorem dSc_playOn_4 : decode (mB Sc_playOn) 4 = .ok (.iload_n 3, 1) := by decide +kernel
theorem dSc_playOn_5 : decode (mB Sc_playOn) 5 = .ok (.aload_n 0, 1) := by decide +kernel
theorem dSc_playOn_6 : decode (mB Sc_playOn) 6 = .ok (.getfield 15, 3) := by decide +kernel
theorem dSc_playOn_9 : decode (mB Sc_playOn) 9 = .ok (.if_icmp .ge 30, 3) := by decide +kernel
theorem dSc_playOn_12 : decode (mB Sc_playOn) 12 = .ok (.aload_n 0, 1) := by decide +kernel
theorem dSc_playOn_13 : decode (mB Sc_playOn) 13 = .ok (.iload_n 3, 1) := by decide +kernel
theorem dSc_playOn_14 : decode (mB Sc_playOn) 14 = .ok (.invokevirtual 22, 3) := by decide +kernel
theorem dSc_playOn_17 : decode (mB Sc_playOn) 17 = .ok (.astore 4, 2) := by decide +kernel
theorem dSc_playOn_19 : decode (mB Sc_playOn) 19 = .ok (.aload 4, 2) := by decide +kernel
theorem dSc_playOn_21 : decode (mB Sc_playOn) 21 = .ok (.ifnull 12, 3) := by decide +kernel
theorem dSc_playOn_24 : decode (mB Sc_playOn) 24 = .ok (.iload_n 2, 1) := by decide +kernel
theorem dSc_playOn_25 : decode (mB Sc_playOn) 25 = .ok (.aload 4, 2) := by decide +kernel
theorem dSc_playOn_27 : decode (mB Sc_playOn) 27 = .ok (.aload_n 1, 1) := by decide +kernel
theorem dSc_playOn_28 : decode (mB Sc_playOn) 28 = .ok (.invokevirtual 34, 3) := by decide +kernel
theorem dSc_playOn_31 : decode (mB Sc_playOn) 31 = .ok (.iadd, 1) := by decide +kernel
theorem dSc_playOn_32 : decode (mB Sc_playOn) 32 = .ok (.istore_n 2, 1) := by decide +kernel
theorem dSc_playOn_33 : decode (mB Sc_playOn) 33 = .ok (.iinc 3 1, 3) := by decide +kernel
theorem dSc_playOn_36 : decode (mB Sc_playOn) 36 = .ok (.goto (-32), 3) := by decide +kernel
theorem dSc_playOn_39 : decode (mB Sc_playOn) 39 = .ok (.iload_n 2, 1) := by decide +kernel
theorem dSc_playOn_40 : decode (mB Sc_playOn) 40 = .ok (.ireturn, 1) := by decide +kernel
def b_Sc_playOn_4 (R : Int32 → tpH → Prop) (Y : Nat → (Option Nat) → Int32 → Int32 → tpH → Prop) (o : Nat) (x1 : Option Nat) (x2 : Int32) (x3 : Int32) (h : tpH) : Prop :=
  hT h o = 9 ∧ (((hI h o 1) ≤ x3 → (R x2 h)) ∧ (¬ (hI h o 1) ≤ x3 → (w_Sc_stepOrNull o x3 h (fun v4 h3 => (v4 = none → (Y o x1 x2 (x3 + (1 : Int32)) h3)) ∧ (¬ v4 = none → (∃ a6, v4 = some a6 ∧ hT h3 a6 = 11 ∧ (w_St_playOn a6 x1 h3 (fun v10 h9 => Y o x1 (x2 + v10) (x3 + (1 : Int32)) h9))))))))
def w_Sc_playOn_4 (R : Int32 → tpH → Prop) : Nat → Nat → (Option Nat) → Int32 → Int32 → tpH → Prop
  | 0 => fun _ _ _ _ _ => False
  | n + 1 => b_Sc_playOn_4 R (w_Sc_playOn_4 R n)
def w_Sc_playOn (o : Nat) (x1 : Option Nat) (h : tpH) (R : Int32 → tpH → Prop) : Prop :=
  ∃ n, w_Sc_playOn_4 R n o x1 (0 : Int32) (0 : Int32) h
theorem s_Sc_playOn_4 {h0 : tpH} {av : List tpV} {R : Int32 → tpH → Prop} : ∀ (n : Nat) (o : Nat) (x1 : Option Nat) (x2 : Int32) (x3 : Int32) (h : tpH), w_Sc_playOn_4 R n o x1 x2 x3 h → tpR Sc_playOn 5 h0 av (tpOi R (fun _ _ => False)) 4 [some (vR (some o)), some (vR x1), some (vI x2), some (vI x3), none] [] h := by
  intro n
  induction n with
  | zero => intro o x1 x2 x3 h hw; exact False.elim hw
  | succ n ih =>
    intro o x1 x2 x3 h hw
    change b_Sc_playOn_4 R (w_Sc_playOn_4 R n) o x1 x2 x3 h at hw
    unfold b_Sc_playOn_4 at hw
    refine tq_iload_n dSc_playOn_4 rfl rfl ?_
    refine tq_aload_n dSc_playOn_5 rfl rfl ?_
    obtain ⟨f1, hw⟩ := hw
    refine te_geti dSc_playOn_6 fSc_15 rfl rfl f1 ?_
    refine tq_icmpge (tgt := 39) dSc_playOn_9 (by decide) (fun c2 => ?_) (fun c2 => ?_)
    · have hw := hw.1 c2
      refine tq_iload_n dSc_playOn_39 rfl rfl ?_
      exact tq_iret rfl rfl dSc_playOn_40 hw
    · have hw := hw.2 c2
      refine tq_aload_n dSc_playOn_12 rfl rfl ?_
      refine tq_iload_n dSc_playOn_13 rfl rfl ?_
      refine te_callV mv_Sc_stepOrNull (ci := 8) (dc := 0) (as := [vI x3]) (rest := []) kSc_22 rfl (Nat.le_of_ble_eq_true rfl) (Nat.le_of_ble_eq_true rfl) rfl rfl rfl f1 (Nat.le_of_ble_eq_true rfl) dSc_playOn_14 (s_Sc_stepOrNull hw) (fun _ _ hx => False.elim hx) (tk_r fun v4 h3 hw => ?_)
      refine tq_astore (ls' := [some (vR (some o)), some (vR x1), some (vI x2), some (vI x3), some (vR v4)]) dSc_playOn_17 (Nat.le_of_ble_eq_true rfl) rfl ?_
      refine tq_aload dSc_playOn_19 rfl ?_
      refine tq_ifnull (tgt := 33) dSc_playOn_21 (by decide) (fun c5 => ?_) (fun c5 => ?_)
      · have hw := hw.1 c5
        refine tq_inc (k := (1 : Int32)) (ls' := [some (vR (some o)), some (vR x1), some (vI x2), some (vI (x3 + (1 : Int32))), some (vR v4)]) dSc_playOn_33 rfl tni_1 (Nat.le_of_ble_eq_true rfl) rfl ?_
        refine tq_goto (tgt := 4) dSc_playOn_36 (by decide) ?_
        refine tpR.fo (ls' := [some (vR (some o)), some (vR x1), some (vI x2), some (vI (x3 + (1 : Int32))), none]) ?_ (And.intro rfl (And.intro rfl (And.intro rfl (And.intro rfl trivial))))
        exact ih _ _ _ _ _ hw
      · have hw := hw.2 c5
        refine tq_iload_n dSc_playOn_24 rfl rfl ?_
        refine tq_aload dSc_playOn_25 rfl ?_
        refine tq_aload_n dSc_playOn_27 rfl rfl ?_
        obtain ⟨a6, e7, f8, hw⟩ := hw
        refine te_callV mv_St_playOn (ci := 10) (dc := 4) (as := [vR x1]) (rest := [vI x2]) kSc_34 rfl (Nat.le_of_ble_eq_true rfl) (Nat.le_of_ble_eq_true rfl) rfl rfl e7 f8 (Nat.le_of_ble_eq_true rfl) dSc_playOn_28 (s_St_playOn hw) (fun _ _ hx => False.elim hx) (tk_i fun v10 h9 hw => ?_)
        refine tq_iadd dSc_playOn_31 ?_
        refine tq_istore_n (ls' := [some (vR (some o)), some (vR x1), some (vI (x2 + v10)), some (vI x3), some (vR v4)]) dSc_playOn_32 rfl (Nat.le_of_ble_eq_true rfl) rfl ?_
        refine tq_inc (k := (1 : Int32)) (ls' := [some (vR (some o)), some (vR x1), some (vI (x2 + v10)), some (vI (x3 + (1 : Int32))), some (vR v4)]) dSc_playOn_33 rfl tni_1 (Nat.le_of_ble_eq_true rfl) rfl ?_
        refine tq_goto (tgt := 4) dSc_playOn_36 (by decide) ?_
        refine tpR.fo (ls' := [some (vR (some o)), some (vR x1), some (vI (x2 + v10)), some (vI (x3 + (1 : Int32))), none]) ?_ (And.intro rfl (And.intro rfl (And.intro rfl (And.intro rfl trivial))))
        exact ih _ _ _ _ _ hw
theorem s_Sc_playOn {o : Nat} {x1 : Option Nat} {h : tpH} {R : Int32 → tpH → Prop} (hw : w_Sc_playOn o x1 h R) : tpC Sc_playOn 5 [vR (some o), vR x1] h (tpOi R (fun _ _ => False)) := by
  refine tpC_of mv_Sc_playOn.2.2.2.1 rfl rfl (Nat.le_of_ble_eq_true rfl) ?_
  show tpR Sc_playOn 5 h _ _ 0 [some (vR (some o)), some (vR x1), none, none, none] [] h
  unfold w_Sc_playOn at hw
  refine tq_iconst (v := (0 : Int32)) dSc_playOn_0 tni_0 ?_
  refine tq_istore_n (ls' := [some (vR (some o)), some (vR x1), some (vI (0 : Int32)), none, none]) dSc_playOn_1 rfl (Nat.le_of_ble_eq_true rfl) rfl ?_
  refine tq_iconst (v := (0 : Int32)) dSc_playOn_2 tni_0 ?_
  refine tq_istore_n (ls' := [some (vR (some o)), some (vR x1), some (vI (0 : Int32)), some (vI (0 : Int32)), none]) dSc_playOn_3 rfl (Nat.le_of_ble_eq_true rfl) rfl ?_
  refine tpR.fo (ls' := [some (vR (some o)), some (vR x1), some (vI (0 : Int32)), some (vI (0 : Int32)), none]) ?_ (And.intro rfl (And.intro rfl (And.intro rfl (And.intro rfl trivial))))
  obtain ⟨n, hw⟩ := hw
  exact s_Sc_playOn_4 n _ _ _ _ _ hw
