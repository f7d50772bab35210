/-! T.likeness -/
theorem dTP_likeness_0 : decode (mB TP_likeness) 0 = .ok (.aload_n 0, 1) := by decide +kernel
theorem dTP_likeness_1 : decode (mB TP_likeness) 1 = .ok (.iload_n 1, 1) := by decide +kernel
theorem dTP_likeness_2 : decode (mB TP_likeness) 2 = .ok (.invokevirtual 96, 3) := by decide +kernel
theorem dTP_likeness_5 : decode (mB TP_likeness) 5 = .ok (.astore 5, 2) := by decide +kernel
theorem dTP_likeness_7 : decode (mB TP_likeness) 7 = .ok (.aload_n 0, 1) := by decide +kernel
theorem dTP_likeness_8 : decode (mB TP_likeness) 8 = .ok (.iload_n 2, 1) := by decide +kernel
theorem dTP_likeness_9 : decode (mB TP_likeness) 9 = .ok (.invokevirtual 96, 3) := by decide +kernel
theorem dTP_likeness_12 : decode (mB TP_likeness) 12 = .ok (.astore 6, 2) := by decide +kernel
theorem dTP_likeness_14 : decode (mB TP_likeness) 14 = .ok (.aload_n 0, 1) := by decide +kernel
theorem dTP_likeness_15 : decode (mB TP_likeness) 15 = .ok (.aload 5, 2) := by decide +kernel
theorem dTP_likeness_17 : decode (mB TP_likeness) 17 = .ok (.iload_n 3, 1) := by decide +kernel
theorem dTP_likeness_18 : decode (mB TP_likeness) 18 = .ok (.invokevirtual 305, 3) := by decide +kernel
theorem dTP_likeness_21 : decode (mB TP_likeness) 21 = .ok (.aload_n 0, 1) := by decide +kernel
theorem dTP_likeness_22 : decode (mB TP_likeness) 22 = .ok (.aload 6, 2) := by decide +kernel
theorem dTP_likeness_24 : decode (mB TP_likeness) 24 = .ok (.iload 4, 2) := by decide +kernel
theorem dTP_likeness_26 : decode (mB TP_likeness) 26 = .ok (.invokevirtual 305, 3) := by decide +kernel
theorem dTP_likeness_29 : decode (mB TP_likeness) 29 = .ok (.aload_n 0, 1) := by decide +kernel
theorem dTP_likeness_30 : decode (mB TP_likeness) 30 = .ok (.aload 5, 2) := by decide +kernel
theorem dTP_likeness_32 : decode (mB TP_likeness) 32 = .ok (.aload 6, 2) := by decide +kernel
theorem dTP_likeness_34 : decode (mB TP_likeness) 34 = .ok (.invokevirtual 175, 3) := by decide +kernel
theorem dTP_likeness_37 : decode (mB TP_likeness) 37 = .ok (.aload_n 0, 1) := by decide +kernel
theorem dTP_likeness_38 : decode (mB TP_likeness) 38 = .ok (.getfield 52, 3) := by decide +kernel
theorem dTP_likeness_41 : decode (mB TP_likeness) 41 = .ok (.aload 5, 2) := by decide +kernel
theorem dTP_likeness_43 : decode (mB TP_likeness) 43 = .ok (.aload 6, 2) := by decide +kernel
theorem dTP_likeness_45 : decode (mB TP_likeness) 45 = .ok (.invokevirtual 182, 3) := by decide +kernel
theorem dTP_likeness_48 : decode (mB TP_likeness) 48 = .ok (.aload_n 0, 1) := by decide +kernel
theorem dTP_likeness_49 : decode (mB TP_likeness) 49 = .ok (.getfield 52, 3) := by decide +kernel
theorem dTP_likeness_52 : decode (mB TP_likeness) 52 = .ok (.aload 5, 2) := by decide +kernel
theorem dTP_likeness_54 : decode (mB TP_likeness) 54 = .ok (.aload 5, 2) := by decide +kernel
theorem dTP_likeness_56 : decode (mB TP_likeness) 56 = .ok (.iload_n 3, 1) := by decide +kernel
theorem dTP_likeness_57 : decode (mB TP_likeness) 57 = .ok (.invokevirtual 309, 3) := by decide +kernel
theorem dTP_likeness_60 : decode (mB TP_likeness) 60 = .ok (.aload 6, 2) := by decide +kernel
theorem dTP_likeness_62 : decode (mB TP_likeness) 62 = .ok (.aload 6, 2) := by decide +kernel
theorem dTP_likeness_64 : decode (mB TP_likeness) 64 = .ok (.iload 4, 2) := by decide +kernel
theorem dTP_likeness_66 : decode (mB TP_likeness) 66 = .ok (.invokevirtual 309, 3) := by decide +kernel
theorem dTP_likeness_69 : decode (mB TP_likeness) 69 = .ok (.invokevirtual 315, 3) := by decide +kernel
theorem dTP_likeness_72 : decode (mB TP_likeness) 72 = .ok (.freturn, 1) := by decide +kernel
def w_TP_likeness (o : Nat) (x1 : Int32) (x2 : Int32) (x3 : Int32) (x4 : Int32) (h : tpH) (X : String → tpH → Prop) (R : UInt32 → tpH → Prop) : Prop :=
  hT h o = 13 ∧ (w_TP_needTree o x1 h X (fun v3 h2 => hT h2 o = 13 ∧ (w_TP_needTree o x2 h2 X (fun v6 h5 => hT h5 o = 13 ∧ (w_TP_needHeld o v3 x3 h5 X (fun h8 => hT h8 o = 13 ∧ (w_TP_needHeld o v6 x4 h8 X (fun h10 => hT h10 o = 13 ∧ (w_TP_needLikeRoots o v3 v6 h10 X (fun h12 => hT h12 o = 13 ∧ (∃ a14, (hR h12 o 8) = some a14 ∧ hT h12 a14 = 6 ∧ (w_Mt_settle a14 v3 v6 h12 (fun h17 => hT h17 o = 13 ∧ (∃ a19, v3 = some a19 ∧ hT h17 a19 = 12 ∧ (w_Tr_placeOf a19 x3 h17 (fun v23 h22 => ∃ a24, v6 = some a24 ∧ hT h22 a24 = 12 ∧ (w_Tr_placeOf a24 x4 h22 (fun v28 h27 => ∃ a29, (hR h17 o 8) = some a29 ∧ hT h27 a29 = 6 ∧ (w_Mt_likenessOf a29 v3 v23 v6 v28 h27 (fun v33 h32 => R v33 h32))))))))))))))))))))
theorem s_TP_likeness {o : Nat} {x1 : Int32} {x2 : Int32} {x3 : Int32} {x4 : Int32} {h : tpH} {R : UInt32 → tpH → Prop} {X : String → tpH → Prop} (hw : w_TP_likeness o x1 x2 x3 x4 h X R) : tpC TP_likeness 7 [vR (some o), vI x1, vI x2, vI x3, vI x4] h (tpOf R X) := by
  refine tpC_of mv_TP_likeness.2.2.2.1 rfl rfl (Nat.le_of_ble_eq_true rfl) ?_
  show tpR TP_likeness 7 h _ _ 0 [some (vR (some o)), some (vI x1), some (vI x2), some (vI x3), some (vI x4), none, none] [] h
  unfold w_TP_likeness at hw
  refine tq_aload_n dTP_likeness_0 rfl rfl ?_
  refine tq_iload_n dTP_likeness_1 rfl rfl ?_
  obtain ⟨f1, hw⟩ := hw
  refine te_callV mv_TP_needTree (ci := 12) (dc := 6) (as := [vI x1]) (rest := []) kTP_96 rfl (Nat.le_of_ble_eq_true rfl) (Nat.le_of_ble_eq_true rfl) rfl rfl rfl f1 (Nat.le_of_ble_eq_true rfl) dTP_likeness_2 (s_TP_needTree hw) (fun _ _ hx => tpXx.out rfl hx) (tk_r fun v3 h2 hw => ?_)
  refine tq_astore (ls' := [some (vR (some o)), some (vI x1), some (vI x2), some (vI x3), some (vI x4), some (vR v3), none]) dTP_likeness_5 (Nat.le_of_ble_eq_true rfl) rfl ?_
  refine tq_aload_n dTP_likeness_7 rfl rfl ?_
  refine tq_iload_n dTP_likeness_8 rfl rfl ?_
  obtain ⟨f4, hw⟩ := hw
  refine te_callV mv_TP_needTree (ci := 12) (dc := 6) (as := [vI x2]) (rest := []) kTP_96 rfl (Nat.le_of_ble_eq_true rfl) (Nat.le_of_ble_eq_true rfl) rfl rfl rfl f4 (Nat.le_of_ble_eq_true rfl) dTP_likeness_9 (s_TP_needTree hw) (fun _ _ hx => tpXx.out rfl hx) (tk_r fun v6 h5 hw => ?_)
  refine tq_astore (ls' := [some (vR (some o)), some (vI x1), some (vI x2), some (vI x3), some (vI x4), some (vR v3), some (vR v6)]) dTP_likeness_12 (Nat.le_of_ble_eq_true rfl) rfl ?_
  refine tq_aload_n dTP_likeness_14 rfl rfl ?_
  refine tq_aload dTP_likeness_15 rfl ?_
  refine tq_iload_n dTP_likeness_17 rfl rfl ?_
  obtain ⟨f7, hw⟩ := hw
  refine te_callV mv_TP_needHeld (ci := 12) (dc := 6) (as := [vR v3, vI x3]) (rest := []) kTP_305 rfl (Nat.le_of_ble_eq_true rfl) (Nat.le_of_ble_eq_true rfl) rfl rfl rfl f7 (Nat.le_of_ble_eq_true rfl) dTP_likeness_18 (s_TP_needHeld hw) (fun _ _ hx => tpXx.out rfl hx) (tk_v fun h8 hw => ?_)
  refine tq_aload_n dTP_likeness_21 rfl rfl ?_
  refine tq_aload dTP_likeness_22 rfl ?_
  refine tq_iload dTP_likeness_24 rfl ?_
  obtain ⟨f9, hw⟩ := hw
  refine te_callV mv_TP_needHeld (ci := 12) (dc := 6) (as := [vR v6, vI x4]) (rest := []) kTP_305 rfl (Nat.le_of_ble_eq_true rfl) (Nat.le_of_ble_eq_true rfl) rfl rfl rfl f9 (Nat.le_of_ble_eq_true rfl) dTP_likeness_26 (s_TP_needHeld hw) (fun _ _ hx => tpXx.out rfl hx) (tk_v fun h10 hw => ?_)
  refine tq_aload_n dTP_likeness_29 rfl rfl ?_
  refine tq_aload dTP_likeness_30 rfl ?_
  refine tq_aload dTP_likeness_32 rfl ?_
  obtain ⟨f11, hw⟩ := hw
  refine te_callV mv_TP_needLikeRoots (ci := 12) (dc := 6) (as := [vR v3, vR v6]) (rest := []) kTP_175 rfl (Nat.le_of_ble_eq_true rfl) (Nat.le_of_ble_eq_true rfl) rfl rfl rfl f11 (Nat.le_of_ble_eq_true rfl) dTP_likeness_34 (s_TP_needLikeRoots hw) (fun _ _ hx => tpXx.out rfl hx) (tk_v fun h12 hw => ?_)
  refine tq_aload_n dTP_likeness_37 rfl rfl ?_
  obtain ⟨f13, hw⟩ := hw
  refine te_getr dTP_likeness_38 fTP_52 rfl rfl f13 ?_
  refine tq_aload dTP_likeness_41 rfl ?_
  refine tq_aload dTP_likeness_43 rfl ?_
  obtain ⟨a14, e15, f16, hw⟩ := hw
  refine te_callV mv_Mt_settle (ci := 5) (dc := 5) (as := [vR v3, vR v6]) (rest := []) kTP_182 rfl (Nat.le_of_ble_eq_true rfl) (Nat.le_of_ble_eq_true rfl) rfl rfl e15 f16 (Nat.le_of_ble_eq_true rfl) dTP_likeness_45 (s_Mt_settle hw) (fun _ _ hx => False.elim hx) (tk_v fun h17 hw => ?_)
  refine tq_aload_n dTP_likeness_48 rfl rfl ?_
  obtain ⟨f18, hw⟩ := hw
  refine te_getr dTP_likeness_49 fTP_52 rfl rfl f18 ?_
  refine tq_aload dTP_likeness_52 rfl ?_
  refine tq_aload dTP_likeness_54 rfl ?_
  refine tq_iload_n dTP_likeness_56 rfl rfl ?_
  obtain ⟨a19, e20, f21, hw⟩ := hw
  refine te_callV mv_Tr_placeOf (ci := 11) (dc := 1) (as := [vI x3]) (rest := [vR v3, vR (hR h17 o 8)]) kTP_309 rfl (Nat.le_of_ble_eq_true rfl) (Nat.le_of_ble_eq_true rfl) rfl rfl e20 f21 (Nat.le_of_ble_eq_true rfl) dTP_likeness_57 (s_Tr_placeOf hw) (fun _ _ hx => False.elim hx) (tk_i fun v23 h22 hw => ?_)
  refine tq_aload dTP_likeness_60 rfl ?_
  refine tq_aload dTP_likeness_62 rfl ?_
  refine tq_iload dTP_likeness_64 rfl ?_
  obtain ⟨a24, e25, f26, hw⟩ := hw
  refine te_callV mv_Tr_placeOf (ci := 11) (dc := 1) (as := [vI x4]) (rest := [vR v6, vI v23, vR v3, vR (hR h17 o 8)]) kTP_309 rfl (Nat.le_of_ble_eq_true rfl) (Nat.le_of_ble_eq_true rfl) rfl rfl e25 f26 (Nat.le_of_ble_eq_true rfl) dTP_likeness_66 (s_Tr_placeOf hw) (fun _ _ hx => False.elim hx) (tk_i fun v28 h27 hw => ?_)
  obtain ⟨a29, e30, f31, hw⟩ := hw
  refine te_callV mv_Mt_likenessOf (ci := 5) (dc := 3) (as := [vR v3, vI v23, vR v6, vI v28]) (rest := []) kTP_315 rfl (Nat.le_of_ble_eq_true rfl) (Nat.le_of_ble_eq_true rfl) rfl rfl e30 f31 (Nat.le_of_ble_eq_true rfl) dTP_likeness_69 (s_Mt_likenessOf hw) (fun _ _ hx => False.elim hx) (tk_f fun v33 h32 hw => ?_)
  exact tq_fret rfl dTP_likeness_72 hw
/-! T.steps -/
theorem dTP_steps_0 : decode (mB TP_steps) 0 = .ok (.aload_n 0, 1) := by decide +kernel
theorem dTP_steps_1 : decode (mB TP_steps) 1 = .ok (.iload_n 1, 1) := by decide +kernel
theorem dTP_steps_2 : decode (mB TP_steps) 2 = .ok (.invokevirtual 199, 3) := by decide +kernel
theorem dTP_steps_5 : decode (mB TP_steps) 5 = .ok (.getfield 319, 3) := by decide +kernel
theorem dTP_steps_8 : decode (mB TP_steps) 8 = .ok (.ireturn, 1) := by decide +kernel
def w_TP_steps (o : Nat) (x1 : Int32) (h : tpH) (X : String → tpH → Prop) (R : Int32 → tpH → Prop) : Prop :=
  hT h o = 13 ∧ (w_TP_needScript o x1 h X (fun v3 h2 => ∃ a4, v3 = some a4 ∧ hT h2 a4 = 9 ∧ (R (hI h2 a4 1) h2)))
theorem s_TP_steps {o : Nat} {x1 : Int32} {h : tpH} {R : Int32 → tpH → Prop} {X : String → tpH → Prop} (hw : w_TP_steps o x1 h X R) : tpC TP_steps 7 [vR (some o), vI x1] h (tpOi R X) := by
  refine tpC_of mv_TP_steps.2.2.2.1 rfl rfl (Nat.le_of_ble_eq_true rfl) ?_
  show tpR TP_steps 7 h _ _ 0 [some (vR (some o)), some (vI x1)] [] h
  unfold w_TP_steps at hw
  refine tq_aload_n dTP_steps_0 rfl rfl ?_
  refine tq_iload_n dTP_steps_1 rfl rfl ?_
  obtain ⟨f1, hw⟩ := hw
  refine te_callV mv_TP_needScript (ci := 12) (dc := 6) (as := [vI x1]) (rest := []) kTP_199 rfl (Nat.le_of_ble_eq_true rfl) (Nat.le_of_ble_eq_true rfl) rfl rfl rfl f1 (Nat.le_of_ble_eq_true rfl) dTP_steps_2 (s_TP_needScript hw) (fun _ _ hx => tpXx.out rfl hx) (tk_r fun v3 h2 hw => ?_)
  obtain ⟨a4, e5, f6, hw⟩ := hw
  refine te_geti dTP_steps_5 fTP_319 rfl e5 f6 ?_
  exact tq_iret rfl rfl dTP_steps_8 hw
/-! T.needStep -/
theorem dTP_needStep_0 : decode (mB TP_needStep) 0 = .ok (.aload_n 0, 1) := by decide +kernel
theorem dTP_needStep_1 : decode (mB TP_needStep) 1 = .ok (.iload_n 1, 1) := by decide +kernel
theorem dTP_needStep_2 : decode (mB TP_needStep) 2 = .ok (.invokevirtual 199, 3) := by decide +kernel
theorem dTP_needStep_5 : decode (mB TP_needStep) 5 = .ok (.iload_n 2, 1) := by decide +kernel
theorem dTP_needStep_6 : decode (mB TP_needStep) 6 = .ok (.invokevirtual 392, 3) := by decide +kernel
theorem dTP_needStep_9 : decode (mB TP_needStep) 9 = .ok (.astore_n 3, 1) := by decide +kernel
theorem dTP_needStep_10 : decode (mB TP_needStep) 10 = .ok (.aload_n 3, 1) := by decide +kernel
theorem dTP_needStep_11 : decode (mB TP_needStep) 11 = .ok (.ifnonnull 14, 3) := by decide +kernel
theorem dTP_needStep_14 : decode (mB TP_needStep) 14 = .ok (.new 280, 3) := by decide +kernel
theorem dTP_needStep_17 : decode (mB TP_needStep) 17 = .ok (.dup, 1) := by decide +kernel
theorem dTP_needStep_18 : decode (mB TP_needStep) 18 = .ok (.ldc_w 396, 3) := by decide +kernel
theorem dTP_needStep_21 : decode (mB TP_needStep) 21 = .ok (.invokespecial 284, 3) := by decide +kernel
theorem dTP_needStep_24 : decode (mB TP_needStep) 24 = .ok (.athrow, 1) := by decide +kernel
theorem dTP_needStep_25 : decode (mB TP_needStep) 25 = .ok (.aload_n 3, 1) := by decide +kernel
theorem dTP_needStep_26 : decode (mB TP_needStep) 26 = .ok (.areturn, 1) := by decide +kernel
def w_TP_needStep (o : Nat) (x1 : Int32) (x2 : Int32) (h : tpH) (X : String → tpH → Prop) (R : Option Nat → tpH → Prop) : Prop :=
  hT h o = 13 ∧ (w_TP_needScript o x1 h X (fun v3 h2 => ∃ a4, v3 = some a4 ∧ hT h2 a4 = 9 ∧ (w_Sc_stepOrNull a4 x2 h2 (fun v8 h7 => (¬ v8 = none → (R v8 h7)) ∧ (v8 = none → (X "java/lang/IndexOutOfBoundsException" (nC h7 0 0 6)))))))
theorem s_TP_needStep {o : Nat} {x1 : Int32} {x2 : Int32} {h : tpH} {R : Option Nat → tpH → Prop} {X : String → tpH → Prop} (hw : w_TP_needStep o x1 x2 h X R) : tpC TP_needStep 7 [vR (some o), vI x1, vI x2] h (tpOr R X) := by
  refine tpC_of mv_TP_needStep.2.2.2.1 rfl rfl (Nat.le_of_ble_eq_true rfl) ?_
  show tpR TP_needStep 7 h _ _ 0 [some (vR (some o)), some (vI x1), some (vI x2), none] [] h
  unfold w_TP_needStep at hw
  refine tq_aload_n dTP_needStep_0 rfl rfl ?_
  refine tq_iload_n dTP_needStep_1 rfl rfl ?_
  obtain ⟨f1, hw⟩ := hw
  refine te_callV mv_TP_needScript (ci := 12) (dc := 6) (as := [vI x1]) (rest := []) kTP_199 rfl (Nat.le_of_ble_eq_true rfl) (Nat.le_of_ble_eq_true rfl) rfl rfl rfl f1 (Nat.le_of_ble_eq_true rfl) dTP_needStep_2 (s_TP_needScript hw) (fun _ _ hx => tpXx.out rfl hx) (tk_r fun v3 h2 hw => ?_)
  refine tq_iload_n dTP_needStep_5 rfl rfl ?_
  obtain ⟨a4, e5, f6, hw⟩ := hw
  refine te_callV mv_Sc_stepOrNull (ci := 8) (dc := 0) (as := [vI x2]) (rest := []) kTP_392 rfl (Nat.le_of_ble_eq_true rfl) (Nat.le_of_ble_eq_true rfl) rfl rfl e5 f6 (Nat.le_of_ble_eq_true rfl) dTP_needStep_6 (s_Sc_stepOrNull hw) (fun _ _ hx => False.elim hx) (tk_r fun v8 h7 hw => ?_)
  refine tq_astore_n (ls' := [some (vR (some o)), some (vI x1), some (vI x2), some (vR v8)]) dTP_needStep_9 rfl (Nat.le_of_ble_eq_true rfl) rfl ?_
  refine tq_aload_n dTP_needStep_10 rfl rfl ?_
  refine tq_ifnonnull (tgt := 25) dTP_needStep_11 (by decide) (fun c9 => ?_) (fun c9 => ?_)
  · have hw := hw.1 c9
    refine tq_aload_n dTP_needStep_25 rfl rfl ?_
    exact tq_aret rfl rfl dTP_needStep_26 hw
  · have hw := hw.2 c9
    exact tq_thr thTP_284 cTP_280 (tx := "there is no such step") (by decide +kernel) (Nat.le_of_ble_eq_true rfl) (Nat.le_of_ble_eq_true rfl) rfl ⟨⟨dTP_needStep_14, dTP_needStep_17⟩, Or.inr ⟨dTP_needStep_18, dTP_needStep_21, dTP_needStep_24⟩⟩ hw
/-! T.stepKind -/
theorem dTP_stepKind_0 : decode (mB TP_stepKind) 0 = .ok (.aload_n 0, 1) := by decide +kernel
theorem dTP_stepKind_1 : decode (mB TP_stepKind) 1 = .ok (.iload_n 1, 1) := by decide +kernel
theorem dTP_stepKind_2 : decode (mB TP_stepKind) 2 = .ok (.iload_n 2, 1) := by decide +kernel
theorem dTP_stepKind_3 : decode (mB TP_stepKind) 3 = .ok (.invokevirtual 320, 3) := by decide +kernel
theorem dTP_stepKind_6 : decode (mB TP_stepKind) 6 = .ok (.getfield 324, 3) := by decide +kernel
theorem dTP_stepKind_9 : decode (mB TP_stepKind) 9 = .ok (.ireturn, 1) := by decide +kernel
def w_TP_stepKind (o : Nat) (x1 : Int32) (x2 : Int32) (h : tpH) (X : String → tpH → Prop) (R : Int32 → tpH → Prop) : Prop :=
  hT h o = 13 ∧ (w_TP_needStep o x1 x2 h X (fun v3 h2 => ∃ a4, v3 = some a4 ∧ hT h2 a4 = 11 ∧ (R (hI h2 a4 0) h2)))
theorem s_TP_stepKind {o : Nat} {x1 : Int32} {x2 : Int32} {h : tpH} {R : Int32 → tpH → Prop} {X : String → tpH → Prop} (hw : w_TP_stepKind o x1 x2 h X R) : tpC TP_stepKind 8 [vR (some o), vI x1, vI x2] h (tpOi R X) := by
  refine tpC_of mv_TP_stepKind.2.2.2.1 rfl rfl (Nat.le_of_ble_eq_true rfl) ?_
  show tpR TP_stepKind 8 h _ _ 0 [some (vR (some o)), some (vI x1), some (vI x2)] [] h
  unfold w_TP_stepKind at hw
  refine tq_aload_n dTP_stepKind_0 rfl rfl ?_
  refine tq_iload_n dTP_stepKind_1 rfl rfl ?_
  refine tq_iload_n dTP_stepKind_2 rfl rfl ?_
  obtain ⟨f1, hw⟩ := hw
  refine te_callV mv_TP_needStep (ci := 12) (dc := 7) (as := [vI x1, vI x2]) (rest := []) kTP_320 rfl (Nat.le_of_ble_eq_true rfl) (Nat.le_of_ble_eq_true rfl) rfl rfl rfl f1 (Nat.le_of_ble_eq_true rfl) dTP_stepKind_3 (s_TP_needStep hw) (fun _ _ hx => tpXx.out rfl hx) (tk_r fun v3 h2 hw => ?_)
  obtain ⟨a4, e5, f6, hw⟩ := hw
  refine te_geti dTP_stepKind_6 fTP_324 rfl e5 f6 ?_
  exact tq_iret rfl rfl dTP_stepKind_9 hw
/-! T.stepMark -/
theorem dTP_stepMark_0 : decode (mB TP_stepMark) 0 = .ok (.aload_n 0, 1) := by decide +kernel
theorem dTP_stepMark_1 : decode (mB TP_stepMark) 1 = .ok (.iload_n 1, 1) := by decide +kernel
theorem dTP_stepMark_2 : decode (mB TP_stepMark) 2 = .ok (.iload_n 2, 1) := by decide +kernel
theorem dTP_stepMark_3 : decode (mB TP_stepMark) 3 = .ok (.invokevirtual 320, 3) := by decide +kernel
theorem dTP_stepMark_6 : decode (mB TP_stepMark) 6 = .ok (.getfield 329, 3) := by decide +kernel
theorem dTP_stepMark_9 : decode (mB TP_stepMark) 9 = .ok (.ireturn, 1) := by decide +kernel
def w_TP_stepMark (o : Nat) (x1 : Int32) (x2 : Int32) (h : tpH) (X : String → tpH → Prop) (R : Int32 → tpH → Prop) : Prop :=
  hT h o = 13 ∧ (w_TP_needStep o x1 x2 h X (fun v3 h2 => ∃ a4, v3 = some a4 ∧ hT h2 a4 = 11 ∧ (R (hI h2 a4 1) h2)))
theorem s_TP_stepMark {o : Nat} {x1 : Int32} {x2 : Int32} {h : tpH} {R : Int32 → tpH → Prop} {X : String → tpH → Prop} (hw : w_TP_stepMark o x1 x2 h X R) : tpC TP_stepMark 8 [vR (some o), vI x1, vI x2] h (tpOi R X) := by
  refine tpC_of mv_TP_stepMark.2.2.2.1 rfl rfl (Nat.le_of_ble_eq_true rfl) ?_
  show tpR TP_stepMark 8 h _ _ 0 [some (vR (some o)), some (vI x1), some (vI x2)] [] h
  unfold w_TP_stepMark at hw
  refine tq_aload_n dTP_stepMark_0 rfl rfl ?_
  refine tq_iload_n dTP_stepMark_1 rfl rfl ?_
  refine tq_iload_n dTP_stepMark_2 rfl rfl ?_
  obtain ⟨f1, hw⟩ := hw
  refine te_callV mv_TP_needStep (ci := 12) (dc := 7) (as := [vI x1, vI x2]) (rest := []) kTP_320 rfl (Nat.le_of_ble_eq_true rfl) (Nat.le_of_ble_eq_true rfl) rfl rfl rfl f1 (Nat.le_of_ble_eq_true rfl) dTP_stepMark_3 (s_TP_needStep hw) (fun _ _ hx => tpXx.out rfl hx) (tk_r fun v3 h2 hw => ?_)
  obtain ⟨a4, e5, f6, hw⟩ := hw
  refine te_geti dTP_stepMark_6 fTP_329 rfl e5 f6 ?_
  exact tq_iret rfl rfl dTP_stepMark_9 hw
/-! T.stepTo -/
theorem dTP_stepTo_0 : decode (mB TP_stepTo) 0 = .ok (.aload_n 0, 1) := by decide +kernel
theorem dTP_stepTo_1 : decode (mB TP_stepTo) 1 = .ok (.iload_n 1, 1) := by decide +kernel
theorem dTP_stepTo_2 : decode (mB TP_stepTo) 2 = .ok (.iload_n 2, 1) := by decide +kernel
theorem dTP_stepTo_3 : decode (mB TP_stepTo) 3 = .ok (.invokevirtual 320, 3) := by decide +kernel
theorem dTP_stepTo_6 : decode (mB TP_stepTo) 6 = .ok (.getfield 332, 3) := by decide +kernel
theorem dTP_stepTo_9 : decode (mB TP_stepTo) 9 = .ok (.astore 4, 2) := by decide +kernel
theorem dTP_stepTo_11 : decode (mB TP_stepTo) 11 = .ok (.iload_n 3, 1) := by decide +kernel
theorem dTP_stepTo_12 : decode (mB TP_stepTo) 12 = .ok (.ifCond .eq 11, 3) := by decide +kernel
theorem dTP_stepTo_15 : decode (mB TP_stepTo) 15 = .ok (.aload 4, 2) := by decide +kernel
theorem dTP_stepTo_17 : decode (mB TP_stepTo) 17 = .ok (.getfield 336, 3) := by decide +kernel
theorem dTP_stepTo_20 : decode (mB TP_stepTo) 20 = .ok (.goto 8, 3) := by decide +kernel
theorem dTP_stepTo_23 : decode (mB TP_stepTo) 23 = .ok (.aload 4, 2) := by decide +kernel
theorem dTP_stepTo_25 : decode (mB TP_stepTo) 25 = .ok (.getfield 341, 3) := by decide +kernel
theorem dTP_stepTo_28 : decode (mB TP_stepTo) 28 = .ok (.ireturn, 1) := by decide +kernel
def w_TP_stepTo (o : Nat) (x1 : Int32) (x2 : Int32) (x3 : Int32) (h : tpH) (X : String → tpH → Prop) (R : Int32 → tpH → Prop) : Prop :=
  hT h o = 13 ∧ (w_TP_needStep o x1 x2 h X (fun v3 h2 => ∃ a4, v3 = some a4 ∧ hT h2 a4 = 11 ∧ ((x3 = 0 → (∃ a8, (hR h2 a4 5) = some a8 ∧ hT h2 a8 = 10 ∧ (R (hI h2 a8 1) h2))) ∧ (¬ x3 = 0 → (∃ a11, (hR h2 a4 5) = some a11 ∧ hT h2 a11 = 10 ∧ (R (hI h2 a11 0) h2))))))
theorem s_TP_stepTo {o : Nat} {x1 : Int32} {x2 : Int32} {x3 : Int32} {h : tpH} {R : Int32 → tpH → Prop} {X : String → tpH → Prop} (hw : w_TP_stepTo o x1 x2 x3 h X R) : tpC TP_stepTo 8 [vR (some o), vI x1, vI x2, vI x3] h (tpOi R X) := by
  refine tpC_of mv_TP_stepTo.2.2.2.1 rfl rfl (Nat.le_of_ble_eq_true rfl) ?_
  show tpR TP_stepTo 8 h _ _ 0 [some (vR (some o)), some (vI x1), some (vI x2), some (vI x3), none] [] h
  unfold w_TP_stepTo at hw
  refine tq_aload_n dTP_stepTo_0 rfl rfl ?_
  refine tq_iload_n dTP_stepTo_1 rfl rfl ?_
  refine tq_iload_n dTP_stepTo_2 rfl rfl ?_
  obtain ⟨f1, hw⟩ := hw
  refine te_callV mv_TP_needStep (ci := 12) (dc := 7) (as := [vI x1, vI x2]) (rest := []) kTP_320 rfl (Nat.le_of_ble_eq_true rfl) (Nat.le_of_ble_eq_true rfl) rfl rfl rfl f1 (Nat.le_of_ble_eq_true rfl) dTP_stepTo_3 (s_TP_needStep hw) (fun _ _ hx => tpXx.out rfl hx) (tk_r fun v3 h2 hw => ?_)
  obtain ⟨a4, e5, f6, hw⟩ := hw
  refine te_getr dTP_stepTo_6 fTP_332 rfl e5 f6 ?_
  refine tq_astore (ls' := [some (vR (some o)), some (vI x1), some (vI x2), some (vI x3), some (vR (hR h2 a4 5))]) dTP_stepTo_9 (Nat.le_of_ble_eq_true rfl) rfl ?_
  refine tq_iload_n dTP_stepTo_11 rfl rfl ?_
  refine tq_ifeq (tgt := 23) dTP_stepTo_12 (by decide) (fun c7 => ?_) (fun c7 => ?_)
  · have hw := hw.1 c7
    refine tq_aload dTP_stepTo_23 rfl ?_
    obtain ⟨a8, e9, f10, hw⟩ := hw
    refine te_geti dTP_stepTo_25 fTP_341 rfl e9 f10 ?_
    exact tq_iret rfl rfl dTP_stepTo_28 hw
  · have hw := hw.2 c7
    refine tq_aload dTP_stepTo_15 rfl ?_
    obtain ⟨a11, e12, f13, hw⟩ := hw
    refine te_geti dTP_stepTo_17 fTP_336 rfl e12 f13 ?_
    refine tq_goto (tgt := 28) dTP_stepTo_20 (by decide) ?_
    exact tq_iret rfl rfl dTP_stepTo_28 hw
/-! T.conflicts -/
theorem dTP_conflicts_0 : decode (mB TP_conflicts) 0 = .ok (.aload_n 0, 1) := by decide +kernel
theorem dTP_conflicts_1 : decode (mB TP_conflicts) 1 = .ok (.getfield 70, 3) := by decide +kernel
theorem dTP_conflicts_4 : decode (mB TP_conflicts) 4 = .ok (.getfield 344, 3) := by decide +kernel
theorem dTP_conflicts_7 : decode (mB TP_conflicts) 7 = .ok (.getfield 347, 3) := by decide +kernel
theorem dTP_conflicts_10 : decode (mB TP_conflicts) 10 = .ok (.ireturn, 1) := by decide +kernel
def w_TP_conflicts (o : Nat) (h : tpH) (R : Int32 → tpH → Prop) : Prop :=
  hT h o = 13 ∧ (∃ a2, (hR h o 11) = some a2 ∧ hT h a2 = 7 ∧ (∃ a5, (hR h a2 10) = some a5 ∧ hT h a5 = 8 ∧ (R (hI h a5 1) h)))
theorem s_TP_conflicts {o : Nat} {h : tpH} {R : Int32 → tpH → Prop} (hw : w_TP_conflicts o h R) : tpC TP_conflicts 0 [vR (some o)] h (tpOi R (fun _ _ => False)) := by
  refine tpC_of mv_TP_conflicts.2.2.2.1 rfl rfl (Nat.le_of_ble_eq_true rfl) ?_
  show tpR TP_conflicts 0 h _ _ 0 [some (vR (some o))] [] h
  unfold w_TP_conflicts at hw
  refine tq_aload_n dTP_conflicts_0 rfl rfl ?_
  obtain ⟨f1, hw⟩ := hw
  refine te_getr dTP_conflicts_1 fTP_70 rfl rfl f1 ?_
  obtain ⟨a2, e3, f4, hw⟩ := hw
  refine te_getr dTP_conflicts_4 fTP_344 rfl e3 f4 ?_
  obtain ⟨a5, e6, f7, hw⟩ := hw
  refine te_geti dTP_conflicts_7 fTP_347 rfl e6 f7 ?_
  exact tq_iret rfl rfl dTP_conflicts_10 hw
/-! T.needConflict -/
theorem dTP_needConflict_0 : decode (mB TP_needConflict) 0 = .ok (.iload_n 1, 1) := by decide +kernel
theorem dTP_needConflict_1 : decode (mB TP_needConflict) 1 = .ok (.ifCond .lt 17, 3) := by decide +kernel
theorem dTP_needConflict_4 : decode (mB TP_needConflict) 4 = .ok (.iload_n 1, 1) := by decide +kernel
theorem dTP_needConflict_5 : decode (mB TP_needConflict) 5 = .ok (.aload_n 0, 1) := by decide +kernel
theorem dTP_needConflict_6 : decode (mB TP_needConflict) 6 = .ok (.getfield 70, 3) := by decide +kernel
theorem dTP_needConflict_9 : decode (mB TP_needConflict) 9 = .ok (.getfield 344, 3) := by decide +kernel
theorem dTP_needConflict_12 : decode (mB TP_needConflict) 12 = .ok (.getfield 347, 3) := by decide +kernel
theorem dTP_needConflict_15 : decode (mB TP_needConflict) 15 = .ok (.if_icmp .lt 14, 3) := by decide +kernel
theorem dTP_needConflict_18 : decode (mB TP_needConflict) 18 = .ok (.new 280, 3) := by decide +kernel
theorem dTP_needConflict_21 : decode (mB TP_needConflict) 21 = .ok (.dup, 1) := by decide +kernel
theorem dTP_needConflict_22 : decode (mB TP_needConflict) 22 = .ok (.ldc_w 403, 3) := by decide +kernel
theorem dTP_needConflict_25 : decode (mB TP_needConflict) 25 = .ok (.invokespecial 284, 3) := by decide +kernel
theorem dTP_needConflict_28 : decode (mB TP_needConflict) 28 = .ok (.athrow, 1) := by decide +kernel
theorem dTP_needConflict_29 : decode (mB TP_needConflict) 29 = .ok (.return_, 1) := by decide +kernel
def w_TP_needConflict (o : Nat) (x1 : Int32) (h : tpH) (X : String → tpH → Prop) (R : tpH → Prop) : Prop :=
  (x1 < 0 → (X "java/lang/IndexOutOfBoundsException" (nC h 0 0 6))) ∧ (¬ x1 < 0 → (hT h o = 13 ∧ (∃ a3, (hR h o 11) = some a3 ∧ hT h a3 = 7 ∧ (∃ a6, (hR h a3 10) = some a6 ∧ hT h a6 = 8 ∧ ((x1 < (hI h a6 1) → (R h)) ∧ (¬ x1 < (hI h a6 1) → (X "java/lang/IndexOutOfBoundsException" (nC h 0 0 6))))))))
theorem s_TP_needConflict {o : Nat} {x1 : Int32} {h : tpH} {R : tpH → Prop} {X : String → tpH → Prop} (hw : w_TP_needConflict o x1 h X R) : tpC TP_needConflict 6 [vR (some o), vI x1] h (tpOv R X) := by
  refine tpC_of mv_TP_needConflict.2.2.2.1 rfl rfl (Nat.le_of_ble_eq_true rfl) ?_
  show tpR TP_needConflict 6 h _ _ 0 [some (vR (some o)), some (vI x1)] [] h
  unfold w_TP_needConflict at hw
  refine tq_iload_n dTP_needConflict_0 rfl rfl ?_
  refine tq_iflt (tgt := 18) dTP_needConflict_1 (by decide) (fun c1 => ?_) (fun c1 => ?_)
  · have hw := hw.1 c1
    exact tq_thr thTP_284 cTP_280 (tx := "there is no such conflict") (by decide +kernel) (Nat.le_of_ble_eq_true rfl) (Nat.le_of_ble_eq_true rfl) rfl ⟨⟨dTP_needConflict_18, dTP_needConflict_21⟩, Or.inr ⟨dTP_needConflict_22, dTP_needConflict_25, dTP_needConflict_28⟩⟩ hw
  · have hw := hw.2 c1
    refine tq_iload_n dTP_needConflict_4 rfl rfl ?_
    refine tq_aload_n dTP_needConflict_5 rfl rfl ?_
    obtain ⟨f2, hw⟩ := hw
    refine te_getr dTP_needConflict_6 fTP_70 rfl rfl f2 ?_
    obtain ⟨a3, e4, f5, hw⟩ := hw
    refine te_getr dTP_needConflict_9 fTP_344 rfl e4 f5 ?_
    obtain ⟨a6, e7, f8, hw⟩ := hw
    refine te_geti dTP_needConflict_12 fTP_347 rfl e7 f8 ?_
    refine tq_icmplt (tgt := 29) dTP_needConflict_15 (by decide) (fun c9 => ?_) (fun c9 => ?_)
    · have hw := hw.1 c9
      exact tq_vret rfl dTP_needConflict_29 hw
    · have hw := hw.2 c9
      exact tq_thr thTP_284 cTP_280 (tx := "there is no such conflict") (by decide +kernel) (Nat.le_of_ble_eq_true rfl) (Nat.le_of_ble_eq_true rfl) rfl ⟨⟨dTP_needConflict_18, dTP_needConflict_21⟩, Or.inr ⟨dTP_needConflict_22, dTP_needConflict_25, dTP_needConflict_28⟩⟩ hw
/-! T.conflictKind -/
theorem dTP_conflictKind_0 : decode (mB TP_conflictKind) 0 = .ok (.aload_n 0, 1) := by decide +kernel
theorem dTP_conflictKind_1 : decode (mB TP_conflictKind) 1 = .ok (.iload_n 1, 1) := by decide +kernel
theorem dTP_conflictKind_2 : decode (mB TP_conflictKind) 2 = .ok (.invokevirtual 350, 3) := by decide +kernel
theorem dTP_conflictKind_5 : decode (mB TP_conflictKind) 5 = .ok (.aload_n 0, 1) := by decide +kernel
theorem dTP_conflictKind_6 : decode (mB TP_conflictKind) 6 = .ok (.getfield 70, 3) := by decide +kernel
theorem dTP_conflictKind_9 : decode (mB TP_conflictKind) 9 = .ok (.getfield 344, 3) := by decide +kernel
theorem dTP_conflictKind_12 : decode (mB TP_conflictKind) 12 = .ok (.iload_n 1, 1) := by decide +kernel
theorem dTP_conflictKind_13 : decode (mB TP_conflictKind) 13 = .ok (.invokevirtual 223, 3) := by decide +kernel
theorem dTP_conflictKind_16 : decode (mB TP_conflictKind) 16 = .ok (.ireturn, 1) := by decide +kernel
def w_TP_conflictKind (o : Nat) (x1 : Int32) (h : tpH) (X : String → tpH → Prop) (R : Int32 → tpH → Prop) : Prop :=
  hT h o = 13 ∧ (w_TP_needConflict o x1 h X (fun h2 => hT h2 o = 13 ∧ (∃ a4, (hR h2 o 11) = some a4 ∧ hT h2 a4 = 7 ∧ (∃ a7, (hR h2 a4 10) = some a7 ∧ hT h2 a7 = 8 ∧ (w_Ro_at a7 x1 h2 (fun v11 h10 => R v11 h10))))))
theorem s_TP_conflictKind {o : Nat} {x1 : Int32} {h : tpH} {R : Int32 → tpH → Prop} {X : String → tpH → Prop} (hw : w_TP_conflictKind o x1 h X R) : tpC TP_conflictKind 7 [vR (some o), vI x1] h (tpOi R X) := by
  refine tpC_of mv_TP_conflictKind.2.2.2.1 rfl rfl (Nat.le_of_ble_eq_true rfl) ?_
  show tpR TP_conflictKind 7 h _ _ 0 [some (vR (some o)), some (vI x1)] [] h
  unfold w_TP_conflictKind at hw
  refine tq_aload_n dTP_conflictKind_0 rfl rfl ?_
  refine tq_iload_n dTP_conflictKind_1 rfl rfl ?_
  obtain ⟨f1, hw⟩ := hw
  refine te_callV mv_TP_needConflict (ci := 12) (dc := 6) (as := [vI x1]) (rest := []) kTP_350 rfl (Nat.le_of_ble_eq_true rfl) (Nat.le_of_ble_eq_true rfl) rfl rfl rfl f1 (Nat.le_of_ble_eq_true rfl) dTP_conflictKind_2 (s_TP_needConflict hw) (fun _ _ hx => tpXx.out rfl hx) (tk_v fun h2 hw => ?_)
  refine tq_aload_n dTP_conflictKind_5 rfl rfl ?_
  obtain ⟨f3, hw⟩ := hw
  refine te_getr dTP_conflictKind_6 fTP_70 rfl rfl f3 ?_
  obtain ⟨a4, e5, f6, hw⟩ := hw
  refine te_getr dTP_conflictKind_9 fTP_344 rfl e5 f6 ?_
  refine tq_iload_n dTP_conflictKind_12 rfl rfl ?_
  obtain ⟨a7, e8, f9, hw⟩ := hw
  refine te_callV mv_Ro_at (ci := 7) (dc := 0) (as := [vI x1]) (rest := []) kTP_223 rfl (Nat.le_of_ble_eq_true rfl) (Nat.le_of_ble_eq_true rfl) rfl rfl e8 f9 (Nat.le_of_ble_eq_true rfl) dTP_conflictKind_13 (s_Ro_at hw) (fun _ _ hx => False.elim hx) (tk_i fun v11 h10 hw => ?_)
  exact tq_iret rfl rfl dTP_conflictKind_16 hw
/-! T.conflictMark -/
theorem dTP_conflictMark_0 : decode (mB TP_conflictMark) 0 = .ok (.aload_n 0, 1) := by decide +kernel
theorem dTP_conflictMark_1 : decode (mB TP_conflictMark) 1 = .ok (.iload_n 1, 1) := by decide +kernel
theorem dTP_conflictMark_2 : decode (mB TP_conflictMark) 2 = .ok (.invokevirtual 350, 3) := by decide +kernel
theorem dTP_conflictMark_5 : decode (mB TP_conflictMark) 5 = .ok (.aload_n 0, 1) := by decide +kernel
theorem dTP_conflictMark_6 : decode (mB TP_conflictMark) 6 = .ok (.getfield 70, 3) := by decide +kernel
theorem dTP_conflictMark_9 : decode (mB TP_conflictMark) 9 = .ok (.getfield 353, 3) := by decide +kernel
theorem dTP_conflictMark_12 : decode (mB TP_conflictMark) 12 = .ok (.iload_n 1, 1) := by decide +kernel
theorem dTP_conflictMark_13 : decode (mB TP_conflictMark) 13 = .ok (.invokevirtual 223, 3) := by decide +kernel
theorem dTP_conflictMark_16 : decode (mB TP_conflictMark) 16 = .ok (.ireturn, 1) := by decide +kernel
def w_TP_conflictMark (o : Nat) (x1 : Int32) (h : tpH) (X : String → tpH → Prop) (R : Int32 → tpH → Prop) : Prop :=
  hT h o = 13 ∧ (w_TP_needConflict o x1 h X (fun h2 => hT h2 o = 13 ∧ (∃ a4, (hR h2 o 11) = some a4 ∧ hT h2 a4 = 7 ∧ (∃ a7, (hR h2 a4 11) = some a7 ∧ hT h2 a7 = 8 ∧ (w_Ro_at a7 x1 h2 (fun v11 h10 => R v11 h10))))))
theorem s_TP_conflictMark {o : Nat} {x1 : Int32} {h : tpH} {R : Int32 → tpH → Prop} {X : String → tpH → Prop} (hw : w_TP_conflictMark o x1 h X R) : tpC TP_conflictMark 7 [vR (some o), vI x1] h (tpOi R X) := by
  refine tpC_of mv_TP_conflictMark.2.2.2.1 rfl rfl (Nat.le_of_ble_eq_true rfl) ?_
  show tpR TP_conflictMark 7 h _ _ 0 [some (vR (some o)), some (vI x1)] [] h
  unfold w_TP_conflictMark at hw
  refine tq_aload_n dTP_conflictMark_0 rfl rfl ?_
  refine tq_iload_n dTP_conflictMark_1 rfl rfl ?_
  obtain ⟨f1, hw⟩ := hw
  refine te_callV mv_TP_needConflict (ci := 12) (dc := 6) (as := [vI x1]) (rest := []) kTP_350 rfl (Nat.le_of_ble_eq_true rfl) (Nat.le_of_ble_eq_true rfl) rfl rfl rfl f1 (Nat.le_of_ble_eq_true rfl) dTP_conflictMark_2 (s_TP_needConflict hw) (fun _ _ hx => tpXx.out rfl hx) (tk_v fun h2 hw => ?_)
  refine tq_aload_n dTP_conflictMark_5 rfl rfl ?_
  obtain ⟨f3, hw⟩ := hw
  refine te_getr dTP_conflictMark_6 fTP_70 rfl rfl f3 ?_
  obtain ⟨a4, e5, f6, hw⟩ := hw
  refine te_getr dTP_conflictMark_9 fTP_353 rfl e5 f6 ?_
  refine tq_iload_n dTP_conflictMark_12 rfl rfl ?_
  obtain ⟨a7, e8, f9, hw⟩ := hw
  refine te_callV mv_Ro_at (ci := 7) (dc := 0) (as := [vI x1]) (rest := []) kTP_223 rfl (Nat.le_of_ble_eq_true rfl) (Nat.le_of_ble_eq_true rfl) rfl rfl e8 f9 (Nat.le_of_ble_eq_true rfl) dTP_conflictMark_13 (s_Ro_at hw) (fun _ _ hx => False.elim hx) (tk_i fun v11 h10 hw => ?_)
  exact tq_iret rfl rfl dTP_conflictMark_16 hw
/-! T.versions -/
theorem dTP_versions_0 : decode (mB TP_versions) 0 = .ok (.aload_n 0, 1) := by decide +kernel
theorem dTP_versions_1 : decode (mB TP_versions) 1 = .ok (.getfield 77, 3) := by decide +kernel
theorem dTP_versions_4 : decode (mB TP_versions) 4 = .ok (.getfield 356, 3) := by decide +kernel
theorem dTP_versions_7 : decode (mB TP_versions) 7 = .ok (.ireturn, 1) := by decide +kernel
def w_TP_versions (o : Nat) (h : tpH) (R : Int32 → tpH → Prop) : Prop :=
  hT h o = 13 ∧ (∃ a2, (hR h o 12) = some a2 ∧ hT h a2 = 3 ∧ (R (hI h a2 5) h))
theorem s_TP_versions {o : Nat} {h : tpH} {R : Int32 → tpH → Prop} (hw : w_TP_versions o h R) : tpC TP_versions 0 [vR (some o)] h (tpOi R (fun _ _ => False)) := by
  refine tpC_of mv_TP_versions.2.2.2.1 rfl rfl (Nat.le_of_ble_eq_true rfl) ?_
  show tpR TP_versions 0 h _ _ 0 [some (vR (some o))] [] h
  unfold w_TP_versions at hw
  refine tq_aload_n dTP_versions_0 rfl rfl ?_
  obtain ⟨f1, hw⟩ := hw
  refine te_getr dTP_versions_1 fTP_77 rfl rfl f1 ?_
  obtain ⟨a2, e3, f4, hw⟩ := hw
  refine te_geti dTP_versions_4 fTP_356 rfl e3 f4 ?_
  exact tq_iret rfl rfl dTP_versions_7 hw
/-! T.treeOf -/
theorem dTP_treeOf_0 : decode (mB TP_treeOf) 0 = .ok (.aload_n 0, 1) := by decide +kernel
theorem dTP_treeOf_1 : decode (mB TP_treeOf) 1 = .ok (.iload_n 1, 1) := by decide +kernel
theorem dTP_treeOf_2 : decode (mB TP_treeOf) 2 = .ok (.invokevirtual 251, 3) := by decide +kernel
theorem dTP_treeOf_5 : decode (mB TP_treeOf) 5 = .ok (.aload_n 0, 1) := by decide +kernel
theorem dTP_treeOf_6 : decode (mB TP_treeOf) 6 = .ok (.getfield 77, 3) := by decide +kernel
theorem dTP_treeOf_9 : decode (mB TP_treeOf) 9 = .ok (.iload_n 1, 1) := by decide +kernel
theorem dTP_treeOf_10 : decode (mB TP_treeOf) 10 = .ok (.invokevirtual 357, 3) := by decide +kernel
theorem dTP_treeOf_13 : decode (mB TP_treeOf) 13 = .ok (.ireturn, 1) := by decide +kernel
def w_TP_treeOf (o : Nat) (x1 : Int32) (h : tpH) (X : String → tpH → Prop) (R : Int32 → tpH → Prop) : Prop :=
  hT h o = 13 ∧ (w_TP_needVersion o x1 h X (fun h2 => hT h2 o = 13 ∧ (∃ a4, (hR h2 o 12) = some a4 ∧ hT h2 a4 = 3 ∧ (w_Hi_treeNumber a4 x1 h2 (fun v8 h7 => R v8 h7)))))
theorem s_TP_treeOf {o : Nat} {x1 : Int32} {h : tpH} {R : Int32 → tpH → Prop} {X : String → tpH → Prop} (hw : w_TP_treeOf o x1 h X R) : tpC TP_treeOf 7 [vR (some o), vI x1] h (tpOi R X) := by
  refine tpC_of mv_TP_treeOf.2.2.2.1 rfl rfl (Nat.le_of_ble_eq_true rfl) ?_
  show tpR TP_treeOf 7 h _ _ 0 [some (vR (some o)), some (vI x1)] [] h
  unfold w_TP_treeOf at hw
  refine tq_aload_n dTP_treeOf_0 rfl rfl ?_
  refine tq_iload_n dTP_treeOf_1 rfl rfl ?_
  obtain ⟨f1, hw⟩ := hw
  refine te_callV mv_TP_needVersion (ci := 12) (dc := 6) (as := [vI x1]) (rest := []) kTP_251 rfl (Nat.le_of_ble_eq_true rfl) (Nat.le_of_ble_eq_true rfl) rfl rfl rfl f1 (Nat.le_of_ble_eq_true rfl) dTP_treeOf_2 (s_TP_needVersion hw) (fun _ _ hx => tpXx.out rfl hx) (tk_v fun h2 hw => ?_)
  refine tq_aload_n dTP_treeOf_5 rfl rfl ?_
  obtain ⟨f3, hw⟩ := hw
  refine te_getr dTP_treeOf_6 fTP_77 rfl rfl f3 ?_
  refine tq_iload_n dTP_treeOf_9 rfl rfl ?_
  obtain ⟨a4, e5, f6, hw⟩ := hw
  refine te_callV mv_Hi_treeNumber (ci := 2) (dc := 1) (as := [vI x1]) (rest := []) kTP_357 rfl (Nat.le_of_ble_eq_true rfl) (Nat.le_of_ble_eq_true rfl) rfl rfl e5 f6 (Nat.le_of_ble_eq_true rfl) dTP_treeOf_10 (s_Hi_treeNumber hw) (fun _ _ hx => False.elim hx) (tk_i fun v8 h7 hw => ?_)
  exact tq_iret rfl rfl dTP_treeOf_13 hw
/-! T.parentWithSame -/
theorem dTP_parentWithSame_0 : decode (mB TP_parentWithSame) 0 = .ok (.aload_n 0, 1) := by decide +kernel
theorem dTP_parentWithSame_1 : decode (mB TP_parentWithSame) 1 = .ok (.iload_n 1, 1) := by decide +kernel
theorem dTP_parentWithSame_2 : decode (mB TP_parentWithSame) 2 = .ok (.invokevirtual 264, 3) := by decide +kernel
theorem dTP_parentWithSame_5 : decode (mB TP_parentWithSame) 5 = .ok (.astore_n 3, 1) := by decide +kernel
theorem dTP_parentWithSame_6 : decode (mB TP_parentWithSame) 6 = .ok (.aload_n 0, 1) := by decide +kernel
theorem dTP_parentWithSame_7 : decode (mB TP_parentWithSame) 7 = .ok (.getfield 77, 3) := by decide +kernel
theorem dTP_parentWithSame_10 : decode (mB TP_parentWithSame) 10 = .ok (.iload_n 1, 1) := by decide +kernel
theorem dTP_parentWithSame_11 : decode (mB TP_parentWithSame) 11 = .ok (.invokevirtual 267, 3) := by decide +kernel
theorem dTP_parentWithSame_14 : decode (mB TP_parentWithSame) 14 = .ok (.istore 4, 2) := by decide +kernel
theorem dTP_parentWithSame_16 : decode (mB TP_parentWithSame) 16 = .ok (.iload 4, 2) := by decide +kernel
theorem dTP_parentWithSame_18 : decode (mB TP_parentWithSame) 18 = .ok (.iconst (-1), 1) := by decide +kernel
theorem dTP_parentWithSame_19 : decode (mB TP_parentWithSame) 19 = .ok (.if_icmp .eq 20, 3) := by decide +kernel
theorem dTP_parentWithSame_22 : decode (mB TP_parentWithSame) 22 = .ok (.aload_n 0, 1) := by decide +kernel
theorem dTP_parentWithSame_23 : decode (mB TP_parentWithSame) 23 = .ok (.iload 4, 2) := by decide +kernel
theorem dTP_parentWithSame_25 : decode (mB TP_parentWithSame) 25 = .ok (.invokevirtual 264, 3) := by decide +kernel
theorem dTP_parentWithSame_28 : decode (mB TP_parentWithSame) 28 = .ok (.aload_n 3, 1) := by decide +kernel
theorem dTP_parentWithSame_29 : decode (mB TP_parentWithSame) 29 = .ok (.iload_n 2, 1) := by decide +kernel
theorem dTP_parentWithSame_30 : decode (mB TP_parentWithSame) 30 = .ok (.invokevirtual 445, 3) := by decide +kernel
theorem dTP_parentWithSame_33 : decode (mB TP_parentWithSame) 33 = .ok (.ifCond .eq 6, 3) := by decide +kernel
theorem dTP_parentWithSame_36 : decode (mB TP_parentWithSame) 36 = .ok (.iload 4, 2) := by decide +kernel
theorem dTP_parentWithSame_38 : decode (mB TP_parentWithSame) 38 = .ok (.ireturn, 1) := by decide +kernel
theorem dTP_parentWithSame_39 : decode (mB TP_parentWithSame) 39 = .ok (.aload_n 0, 1) := by decide +kernel
theorem dTP_parentWithSame_40 : decode (mB TP_parentWithSame) 40 = .ok (.getfield 77, 3) := by decide +kernel
theorem dTP_parentWithSame_43 : decode (mB TP_parentWithSame) 43 = .ok (.iload_n 1, 1) := by decide +kernel
theorem dTP_parentWithSame_44 : decode (mB TP_parentWithSame) 44 = .ok (.invokevirtual 449, 3) := by decide +kernel
theorem dTP_parentWithSame_47 : decode (mB TP_parentWithSame) 47 = .ok (.istore 5, 2) := by decide +kernel
theorem dTP_parentWithSame_49 : decode (mB TP_parentWithSame) 49 = .ok (.iload 5, 2) := by decide +kernel
theorem dTP_parentWithSame_51 : decode (mB TP_parentWithSame) 51 = .ok (.iconst (-1), 1) := by decide +kernel
theorem dTP_parentWithSame_52 : decode (mB TP_parentWithSame) 52 = .ok (.if_icmp .eq 22, 3) := by decide +kernel
theorem dTP_parentWithSame_55 : decode (mB TP_parentWithSame) 55 = .ok (.aload_n 0, 1) := by decide +kernel
theorem dTP_parentWithSame_56 : decode (mB TP_parentWithSame) 56 = .ok (.iload 5, 2) := by decide +kernel
theorem dTP_parentWithSame_58 : decode (mB TP_parentWithSame) 58 = .ok (.invokevirtual 264, 3) := by decide +kernel
theorem dTP_parentWithSame_61 : decode (mB TP_parentWithSame) 61 = .ok (.aload_n 3, 1) := by decide +kernel
theorem dTP_parentWithSame_62 : decode (mB TP_parentWithSame) 62 = .ok (.iload_n 2, 1) := by decide +kernel
theorem dTP_parentWithSame_63 : decode (mB TP_parentWithSame) 63 = .ok (.invokevirtual 445, 3) := by decide +kernel
theorem dTP_parentWithSame_66 : decode (mB TP_parentWithSame) 66 = .ok (.ifCond .eq 8, 3) := by decide +kernel
theorem dTP_parentWithSame_69 : decode (mB TP_parentWithSame) 69 = .ok (.iload 5, 2) := by decide +kernel
theorem dTP_parentWithSame_71 : decode (mB TP_parentWithSame) 71 = .ok (.goto 4, 3) := by decide +kernel
theorem dTP_parentWithSame_74 : decode (mB TP_parentWithSame) 74 = .ok (.iconst (-1), 1) := by decide +kernel
theorem dTP_parentWithSame_75 : decode (mB TP_parentWithSame) 75 = .ok (.ireturn, 1) := by decide +kernel
def w_TP_parentWithSame_39 (R : Int32 → tpH → Prop) (X : String → tpH → Prop) (o : Nat) (x1 : Int32) (x2 : Int32) (x3 : Option Nat) (h : tpH) : Prop :=
  hT h o = 13 ∧ (∃ a2, (hR h o 12) = some a2 ∧ hT h a2 = 3 ∧ (w_Hi_secondOf a2 x1 h (fun v6 h5 => (v6 = (-1 : Int32) → (R (-1 : Int32) h5)) ∧ (¬ v6 = (-1 : Int32) → (hT h5 o = 13 ∧ (w_TP_treeOfVersion o v6 h5 X (fun v10 h9 => ∃ a11, v10 = some a11 ∧ hT h9 a11 = 12 ∧ (w_Tr_hasSame a11 x3 x2 h9 (fun v15 h14 => (v15 = 0 → (R (-1 : Int32) h14)) ∧ (¬ v15 = 0 → (R v6 h14)))))))))))
def w_TP_parentWithSame (o : Nat) (x1 : Int32) (x2 : Int32) (h : tpH) (X : String → tpH → Prop) (R : Int32 → tpH → Prop) : Prop :=
  hT h o = 13 ∧ (w_TP_treeOfVersion o x1 h X (fun v3 h2 => hT h2 o = 13 ∧ (∃ a5, (hR h2 o 12) = some a5 ∧ hT h2 a5 = 3 ∧ (w_Hi_firstOf a5 x1 h2 (fun v9 h8 => (v9 = (-1 : Int32) → (w_TP_parentWithSame_39 R X o x1 x2 v3 h8)) ∧ (¬ v9 = (-1 : Int32) → (hT h8 o = 13 ∧ (w_TP_treeOfVersion o v9 h8 X (fun v13 h12 => ∃ a14, v13 = some a14 ∧ hT h12 a14 = 12 ∧ (w_Tr_hasSame a14 v3 x2 h12 (fun v18 h17 => (v18 = 0 → (w_TP_parentWithSame_39 R X o x1 x2 v3 h17)) ∧ (¬ v18 = 0 → (R v9 h17)))))))))))))
theorem s_TP_parentWithSame_39 {h0 : tpH} {av : List tpV} {R : Int32 → tpH → Prop} {X : String → tpH → Prop} : ∀ (o : Nat) (x1 : Int32) (x2 : Int32) (x3 : Option Nat) (h : tpH), w_TP_parentWithSame_39 R X o x1 x2 x3 h → tpR TP_parentWithSame 8 h0 av (tpOi R X) 39 [some (vR (some o)), some (vI x1), some (vI x2), some (vR x3), none, none] [] h := by
  intro o x1 x2 x3 h hw
  unfold w_TP_parentWithSame_39 at hw
  refine tq_aload_n dTP_parentWithSame_39 rfl rfl ?_
  obtain ⟨f1, hw⟩ := hw
  refine te_getr dTP_parentWithSame_40 fTP_77 rfl rfl f1 ?_
  refine tq_iload_n dTP_parentWithSame_43 rfl rfl ?_
  obtain ⟨a2, e3, f4, hw⟩ := hw
  refine te_callV mv_Hi_secondOf (ci := 2) (dc := 1) (as := [vI x1]) (rest := []) kTP_449 rfl (Nat.le_of_ble_eq_true rfl) (Nat.le_of_ble_eq_true rfl) rfl rfl e3 f4 (Nat.le_of_ble_eq_true rfl) dTP_parentWithSame_44 (s_Hi_secondOf hw) (fun _ _ hx => False.elim hx) (tk_i fun v6 h5 hw => ?_)
  refine tq_istore (ls' := [some (vR (some o)), some (vI x1), some (vI x2), some (vR x3), none, some (vI v6)]) dTP_parentWithSame_47 (Nat.le_of_ble_eq_true rfl) rfl ?_
  refine tq_iload dTP_parentWithSame_49 rfl ?_
  refine tq_iconst (v := (-1 : Int32)) dTP_parentWithSame_51 tni_m1 ?_
  refine tq_icmpeq (tgt := 74) dTP_parentWithSame_52 (by decide) (fun c7 => ?_) (fun c7 => ?_)
  · have hw := hw.1 c7
    refine tq_iconst (v := (-1 : Int32)) dTP_parentWithSame_74 tni_m1 ?_
    exact tq_iret rfl rfl dTP_parentWithSame_75 hw
  · have hw := hw.2 c7
    refine tq_aload_n dTP_parentWithSame_55 rfl rfl ?_
    refine tq_iload dTP_parentWithSame_56 rfl ?_
    obtain ⟨f8, hw⟩ := hw
    refine te_callV mv_TP_treeOfVersion (ci := 12) (dc := 7) (as := [vI v6]) (rest := []) kTP_264 rfl (Nat.le_of_ble_eq_true rfl) (Nat.le_of_ble_eq_true rfl) rfl rfl rfl f8 (Nat.le_of_ble_eq_true rfl) dTP_parentWithSame_58 (s_TP_treeOfVersion hw) (fun _ _ hx => tpXx.out rfl hx) (tk_r fun v10 h9 hw => ?_)
    refine tq_aload_n dTP_parentWithSame_61 rfl rfl ?_
    refine tq_iload_n dTP_parentWithSame_62 rfl rfl ?_
    obtain ⟨a11, e12, f13, hw⟩ := hw
    refine te_callV mv_Tr_hasSame (ci := 11) (dc := 1) (as := [vR x3, vI x2]) (rest := []) kTP_445 rfl (Nat.le_of_ble_eq_true rfl) (Nat.le_of_ble_eq_true rfl) rfl rfl e12 f13 (Nat.le_of_ble_eq_true rfl) dTP_parentWithSame_63 (s_Tr_hasSame hw) (fun _ _ hx => False.elim hx) (tk_i fun v15 h14 hw => ?_)
    refine tq_ifeq (tgt := 74) dTP_parentWithSame_66 (by decide) (fun c16 => ?_) (fun c16 => ?_)
    · have hw := hw.1 c16
      refine tq_iconst (v := (-1 : Int32)) dTP_parentWithSame_74 tni_m1 ?_
      exact tq_iret rfl rfl dTP_parentWithSame_75 hw
    · have hw := hw.2 c16
      refine tq_iload dTP_parentWithSame_69 rfl ?_
      refine tq_goto (tgt := 75) dTP_parentWithSame_71 (by decide) ?_
      exact tq_iret rfl rfl dTP_parentWithSame_75 hw
theorem s_TP_parentWithSame {o : Nat} {x1 : Int32} {x2 : Int32} {h : tpH} {R : Int32 → tpH → Prop} {X : String → tpH → Prop} (hw : w_TP_parentWithSame o x1 x2 h X R) : tpC TP_parentWithSame 8 [vR (some o), vI x1, vI x2] h (tpOi R X) := by
  refine tpC_of mv_TP_parentWithSame.2.2.2.1 rfl rfl (Nat.le_of_ble_eq_true rfl) ?_
  show tpR TP_parentWithSame 8 h _ _ 0 [some (vR (some o)), some (vI x1), some (vI x2), none, none, none] [] h
  unfold w_TP_parentWithSame at hw
  refine tq_aload_n dTP_parentWithSame_0 rfl rfl ?_
  refine tq_iload_n dTP_parentWithSame_1 rfl rfl ?_
  obtain ⟨f1, hw⟩ := hw
  refine te_callV mv_TP_treeOfVersion (ci := 12) (dc := 7) (as := [vI x1]) (rest := []) kTP_264 rfl (Nat.le_of_ble_eq_true rfl) (Nat.le_of_ble_eq_true rfl) rfl rfl rfl f1 (Nat.le_of_ble_eq_true rfl) dTP_parentWithSame_2 (s_TP_treeOfVersion hw) (fun _ _ hx => tpXx.out rfl hx) (tk_r fun v3 h2 hw => ?_)
  refine tq_astore_n (ls' := [some (vR (some o)), some (vI x1), some (vI x2), some (vR v3), none, none]) dTP_parentWithSame_5 rfl (Nat.le_of_ble_eq_true rfl) rfl ?_
  refine tq_aload_n dTP_parentWithSame_6 rfl rfl ?_
  obtain ⟨f4, hw⟩ := hw
  refine te_getr dTP_parentWithSame_7 fTP_77 rfl rfl f4 ?_
  refine tq_iload_n dTP_parentWithSame_10 rfl rfl ?_
  obtain ⟨a5, e6, f7, hw⟩ := hw
  refine te_callV mv_Hi_firstOf (ci := 2) (dc := 1) (as := [vI x1]) (rest := []) kTP_267 rfl (Nat.le_of_ble_eq_true rfl) (Nat.le_of_ble_eq_true rfl) rfl rfl e6 f7 (Nat.le_of_ble_eq_true rfl) dTP_parentWithSame_11 (s_Hi_firstOf hw) (fun _ _ hx => False.elim hx) (tk_i fun v9 h8 hw => ?_)
  refine tq_istore (ls' := [some (vR (some o)), some (vI x1), some (vI x2), some (vR v3), some (vI v9), none]) dTP_parentWithSame_14 (Nat.le_of_ble_eq_true rfl) rfl ?_
  refine tq_iload dTP_parentWithSame_16 rfl ?_
  refine tq_iconst (v := (-1 : Int32)) dTP_parentWithSame_18 tni_m1 ?_
  refine tq_icmpeq (tgt := 39) dTP_parentWithSame_19 (by decide) (fun c10 => ?_) (fun c10 => ?_)
  · have hw := hw.1 c10
    refine tpR.fo (ls' := [some (vR (some o)), some (vI x1), some (vI x2), some (vR v3), none, none]) ?_ (And.intro rfl (And.intro rfl (And.intro rfl (And.intro rfl trivial))))
    exact s_TP_parentWithSame_39 _ _ _ _ _ hw
  · have hw := hw.2 c10
    refine tq_aload_n dTP_parentWithSame_22 rfl rfl ?_
    refine tq_iload dTP_parentWithSame_23 rfl ?_
    obtain ⟨f11, hw⟩ := hw
    refine te_callV mv_TP_treeOfVersion (ci := 12) (dc := 7) (as := [vI v9]) (rest := []) kTP_264 rfl (Nat.le_of_ble_eq_true rfl) (Nat.le_of_ble_eq_true rfl) rfl rfl rfl f11 (Nat.le_of_ble_eq_true rfl) dTP_parentWithSame_25 (s_TP_treeOfVersion hw) (fun _ _ hx => tpXx.out rfl hx) (tk_r fun v13 h12 hw => ?_)
    refine tq_aload_n dTP_parentWithSame_28 rfl rfl ?_
    refine tq_iload_n dTP_parentWithSame_29 rfl rfl ?_
    obtain ⟨a14, e15, f16, hw⟩ := hw
    refine te_callV mv_Tr_hasSame (ci := 11) (dc := 1) (as := [vR v3, vI x2]) (rest := []) kTP_445 rfl (Nat.le_of_ble_eq_true rfl) (Nat.le_of_ble_eq_true rfl) rfl rfl e15 f16 (Nat.le_of_ble_eq_true rfl) dTP_parentWithSame_30 (s_Tr_hasSame hw) (fun _ _ hx => False.elim hx) (tk_i fun v18 h17 hw => ?_)
    refine tq_ifeq (tgt := 39) dTP_parentWithSame_33 (by decide) (fun c19 => ?_) (fun c19 => ?_)
    · have hw := hw.1 c19
      refine tpR.fo (ls' := [some (vR (some o)), some (vI x1), some (vI x2), some (vR v3), none, none]) ?_ (And.intro rfl (And.intro rfl (And.intro rfl (And.intro rfl trivial))))
      exact s_TP_parentWithSame_39 _ _ _ _ _ hw
    · have hw := hw.2 c19
      refine tq_iload dTP_parentWithSame_36 rfl ?_
      exact tq_iret rfl rfl dTP_parentWithSame_38 hw
/-! T.touched -/
theorem dTP_touched_0 : decode (mB TP_touched) 0 = .ok (.aload_n 0, 1) := by decide +kernel
theorem dTP_touched_1 : decode (mB TP_touched) 1 = .ok (.iload_n 1, 1) := by decide +kernel
theorem dTP_touched_2 : decode (mB TP_touched) 2 = .ok (.invokevirtual 251, 3) := by decide +kernel
theorem dTP_touched_5 : decode (mB TP_touched) 5 = .ok (.aload_n 0, 1) := by decide +kernel
theorem dTP_touched_6 : decode (mB TP_touched) 6 = .ok (.iload_n 2, 1) := by decide +kernel
theorem dTP_touched_7 : decode (mB TP_touched) 7 = .ok (.invokevirtual 288, 3) := by decide +kernel
theorem dTP_touched_10 : decode (mB TP_touched) 10 = .ok (.aload_n 0, 1) := by decide +kernel
theorem dTP_touched_11 : decode (mB TP_touched) 11 = .ok (.iload_n 1, 1) := by decide +kernel
theorem dTP_touched_12 : decode (mB TP_touched) 12 = .ok (.invokevirtual 264, 3) := by decide +kernel
theorem dTP_touched_15 : decode (mB TP_touched) 15 = .ok (.iload_n 2, 1) := by decide +kernel
theorem dTP_touched_16 : decode (mB TP_touched) 16 = .ok (.invokevirtual 360, 3) := by decide +kernel
theorem dTP_touched_19 : decode (mB TP_touched) 19 = .ok (.ifCond .ne 5, 3) := by decide +kernel
theorem dTP_touched_22 : decode (mB TP_touched) 22 = .ok (.iconst (-1), 1) := by decide +kernel
theorem dTP_touched_23 : decode (mB TP_touched) 23 = .ok (.ireturn, 1) := by decide +kernel
theorem dTP_touched_24 : decode (mB TP_touched) 24 = .ok (.iload_n 1, 1) := by decide +kernel
theorem dTP_touched_25 : decode (mB TP_touched) 25 = .ok (.istore_n 3, 1) := by decide +kernel
theorem dTP_touched_26 : decode (mB TP_touched) 26 = .ok (.iconst 0, 1) := by decide +kernel
theorem dTP_touched_27 : decode (mB TP_touched) 27 = .ok (.istore 4, 2) := by decide +kernel
theorem dTP_touched_29 : decode (mB TP_touched) 29 = .ok (.iload 4, 2) := by decide +kernel
theorem dTP_touched_31 : decode (mB TP_touched) 31 = .ok (.bipush 30, 2) := by decide +kernel
theorem dTP_touched_33 : decode (mB TP_touched) 33 = .ok (.if_icmp .ge 29, 3) := by decide +kernel
theorem dTP_touched_36 : decode (mB TP_touched) 36 = .ok (.aload_n 0, 1) := by decide +kernel
theorem dTP_touched_37 : decode (mB TP_touched) 37 = .ok (.iload_n 3, 1) := by decide +kernel
theorem dTP_touched_38 : decode (mB TP_touched) 38 = .ok (.iload_n 2, 1) := by decide +kernel
theorem dTP_touched_39 : decode (mB TP_touched) 39 = .ok (.invokevirtual 364, 3) := by decide +kernel
theorem dTP_touched_42 : decode (mB TP_touched) 42 = .ok (.istore 5, 2) := by decide +kernel
theorem dTP_touched_44 : decode (mB TP_touched) 44 = .ok (.iload 5, 2) := by decide +kernel
theorem dTP_touched_46 : decode (mB TP_touched) 46 = .ok (.iconst (-1), 1) := by decide +kernel
theorem dTP_touched_47 : decode (mB TP_touched) 47 = .ok (.if_icmp .ne 6, 3) := by decide +kernel
theorem dTP_touched_50 : decode (mB TP_touched) 50 = .ok (.goto 12, 3) := by decide +kernel
theorem dTP_touched_53 : decode (mB TP_touched) 53 = .ok (.iload 5, 2) := by decide +kernel
theorem dTP_touched_55 : decode (mB TP_touched) 55 = .ok (.istore_n 3, 1) := by decide +kernel
theorem dTP_touched_56 : decode (mB TP_touched) 56 = .ok (.iinc 4 1, 3) := by decide +kernel
theorem dTP_touched_59 : decode (mB TP_touched) 59 = .ok (.goto (-30), 3) := by decide +kernel
theorem dTP_touched_62 : decode (mB TP_touched) 62 = .ok (.iload_n 3, 1) := by decide +kernel
theorem dTP_touched_63 : decode (mB TP_touched) 63 = .ok (.ireturn, 1) := by decide +kernel
def b_TP_touched_29 (R : Int32 → tpH → Prop) (X : String → tpH → Prop) (Y : Nat → Int32 → Int32 → Int32 → tpH → Prop) (o : Nat) (x2 : Int32) (x3 : Int32) (x4 : Int32) (h : tpH) : Prop :=
  ((30 : Int32) ≤ x4 → (R x3 h)) ∧ (¬ (30 : Int32) ≤ x4 → (hT h o = 13 ∧ (w_TP_parentWithSame o x3 x2 h X (fun v4 h3 => (¬ v4 = (-1 : Int32) → (Y o x2 v4 (x4 + (1 : Int32)) h3)) ∧ (v4 = (-1 : Int32) → (R x3 h3))))))
def w_TP_touched_29 (R : Int32 → tpH → Prop) (X : String → tpH → Prop) : Nat → Nat → Int32 → Int32 → Int32 → tpH → Prop
  | 0 => fun _ _ _ _ _ => False
  | n + 1 => b_TP_touched_29 R X (w_TP_touched_29 R X n)
def w_TP_touched (o : Nat) (x1 : Int32) (x2 : Int32) (h : tpH) (X : String → tpH → Prop) (R : Int32 → tpH → Prop) : Prop :=
  hT h o = 13 ∧ (w_TP_needVersion o x1 h X (fun h2 => hT h2 o = 13 ∧ (w_TP_needMade o x2 h2 X (fun h4 => hT h4 o = 13 ∧ (w_TP_treeOfVersion o x1 h4 X (fun v7 h6 => ∃ a8, v7 = some a8 ∧ hT h6 a8 = 12 ∧ (w_Tr_holds a8 x2 h6 (fun v12 h11 => (¬ v12 = 0 → (∃ n, w_TP_touched_29 R X n o x2 x1 (0 : Int32) h11)) ∧ (v12 = 0 → (R (-1 : Int32) h11))))))))))
theorem s_TP_touched_29 {h0 : tpH} {av : List tpV} {R : Int32 → tpH → Prop} {X : String → tpH → Prop} : ∀ (n : Nat) (o : Nat) (x2 : Int32) (x3 : Int32) (x4 : Int32) (h : tpH), w_TP_touched_29 R X n o x2 x3 x4 h → tpR TP_touched 9 h0 av (tpOi R X) 29 [some (vR (some o)), none, some (vI x2), some (vI x3), some (vI x4), none] [] h := by
  intro n
  induction n with
  | zero => intro o x2 x3 x4 h hw; exact False.elim hw
  | succ n ih =>
    intro o x2 x3 x4 h hw
    change b_TP_touched_29 R X (w_TP_touched_29 R X n) o x2 x3 x4 h at hw
    unfold b_TP_touched_29 at hw
    refine tq_iload dTP_touched_29 rfl ?_
    refine tq_bipush (v := (30 : Int32)) dTP_touched_31 tnb_30 ?_
    refine tq_icmpge (tgt := 62) dTP_touched_33 (by decide) (fun c1 => ?_) (fun c1 => ?_)
    · have hw := hw.1 c1
      refine tq_iload_n dTP_touched_62 rfl rfl ?_
      exact tq_iret rfl rfl dTP_touched_63 hw
    · have hw := hw.2 c1
      refine tq_aload_n dTP_touched_36 rfl rfl ?_
      refine tq_iload_n dTP_touched_37 rfl rfl ?_
      refine tq_iload_n dTP_touched_38 rfl rfl ?_
      obtain ⟨f2, hw⟩ := hw
      refine te_callV mv_TP_parentWithSame (ci := 12) (dc := 8) (as := [vI x3, vI x2]) (rest := []) kTP_364 rfl (Nat.le_of_ble_eq_true rfl) (Nat.le_of_ble_eq_true rfl) rfl rfl rfl f2 (Nat.le_of_ble_eq_true rfl) dTP_touched_39 (s_TP_parentWithSame hw) (fun _ _ hx => tpXx.out rfl hx) (tk_i fun v4 h3 hw => ?_)
      refine tq_istore (ls' := [some (vR (some o)), none, some (vI x2), some (vI x3), some (vI x4), some (vI v4)]) dTP_touched_42 (Nat.le_of_ble_eq_true rfl) rfl ?_
      refine tq_iload dTP_touched_44 rfl ?_
      refine tq_iconst (v := (-1 : Int32)) dTP_touched_46 tni_m1 ?_
      refine tq_icmpne (tgt := 53) dTP_touched_47 (by decide) (fun c5 => ?_) (fun c5 => ?_)
      · have hw := hw.1 c5
        refine tq_iload dTP_touched_53 rfl ?_
        refine tq_istore_n (ls' := [some (vR (some o)), none, some (vI x2), some (vI v4), some (vI x4), some (vI v4)]) dTP_touched_55 rfl (Nat.le_of_ble_eq_true rfl) rfl ?_
        refine tq_inc (k := (1 : Int32)) (ls' := [some (vR (some o)), none, some (vI x2), some (vI v4), some (vI (x4 + (1 : Int32))), some (vI v4)]) dTP_touched_56 rfl tni_1 (Nat.le_of_ble_eq_true rfl) rfl ?_
        refine tq_goto (tgt := 29) dTP_touched_59 (by decide) ?_
        refine tpR.fo (ls' := [some (vR (some o)), none, some (vI x2), some (vI v4), some (vI (x4 + (1 : Int32))), none]) ?_ (And.intro rfl (And.intro rfl (And.intro rfl (And.intro rfl trivial))))
        exact ih _ _ _ _ _ hw
      · have hw := hw.2 c5
        refine tq_goto (tgt := 62) dTP_touched_50 (by decide) ?_
        refine tq_iload_n dTP_touched_62 rfl rfl ?_
        exact tq_iret rfl rfl dTP_touched_63 hw
theorem s_TP_touched {o : Nat} {x1 : Int32} {x2 : Int32} {h : tpH} {R : Int32 → tpH → Prop} {X : String → tpH → Prop} (hw : w_TP_touched o x1 x2 h X R) : tpC TP_touched 9 [vR (some o), vI x1, vI x2] h (tpOi R X) := by
  refine tpC_of mv_TP_touched.2.2.2.1 rfl rfl (Nat.le_of_ble_eq_true rfl) ?_
  show tpR TP_touched 9 h _ _ 0 [some (vR (some o)), some (vI x1), some (vI x2), none, none, none] [] h
  unfold w_TP_touched at hw
  refine tq_aload_n dTP_touched_0 rfl rfl ?_
  refine tq_iload_n dTP_touched_1 rfl rfl ?_
  obtain ⟨f1, hw⟩ := hw
  refine te_callV mv_TP_needVersion (ci := 12) (dc := 6) (as := [vI x1]) (rest := []) kTP_251 rfl (Nat.le_of_ble_eq_true rfl) (Nat.le_of_ble_eq_true rfl) rfl rfl rfl f1 (Nat.le_of_ble_eq_true rfl) dTP_touched_2 (s_TP_needVersion hw) (fun _ _ hx => tpXx.out rfl hx) (tk_v fun h2 hw => ?_)
  refine tq_aload_n dTP_touched_5 rfl rfl ?_
  refine tq_iload_n dTP_touched_6 rfl rfl ?_
  obtain ⟨f3, hw⟩ := hw
  refine te_callV mv_TP_needMade (ci := 12) (dc := 6) (as := [vI x2]) (rest := []) kTP_288 rfl (Nat.le_of_ble_eq_true rfl) (Nat.le_of_ble_eq_true rfl) rfl rfl rfl f3 (Nat.le_of_ble_eq_true rfl) dTP_touched_7 (s_TP_needMade hw) (fun _ _ hx => tpXx.out rfl hx) (tk_v fun h4 hw => ?_)
  refine tq_aload_n dTP_touched_10 rfl rfl ?_
  refine tq_iload_n dTP_touched_11 rfl rfl ?_
  obtain ⟨f5, hw⟩ := hw
  refine te_callV mv_TP_treeOfVersion (ci := 12) (dc := 7) (as := [vI x1]) (rest := []) kTP_264 rfl (Nat.le_of_ble_eq_true rfl) (Nat.le_of_ble_eq_true rfl) rfl rfl rfl f5 (Nat.le_of_ble_eq_true rfl) dTP_touched_12 (s_TP_treeOfVersion hw) (fun _ _ hx => tpXx.out rfl hx) (tk_r fun v7 h6 hw => ?_)
  refine tq_iload_n dTP_touched_15 rfl rfl ?_
  obtain ⟨a8, e9, f10, hw⟩ := hw
  refine te_callV mv_Tr_holds (ci := 11) (dc := 1) (as := [vI x2]) (rest := []) kTP_360 rfl (Nat.le_of_ble_eq_true rfl) (Nat.le_of_ble_eq_true rfl) rfl rfl e9 f10 (Nat.le_of_ble_eq_true rfl) dTP_touched_16 (s_Tr_holds hw) (fun _ _ hx => False.elim hx) (tk_i fun v12 h11 hw => ?_)
  refine tq_ifne (tgt := 24) dTP_touched_19 (by decide) (fun c13 => ?_) (fun c13 => ?_)
  · have hw := hw.1 c13
    refine tq_iload_n dTP_touched_24 rfl rfl ?_
    refine tq_istore_n (ls' := [some (vR (some o)), some (vI x1), some (vI x2), some (vI x1), none, none]) dTP_touched_25 rfl (Nat.le_of_ble_eq_true rfl) rfl ?_
    refine tq_iconst (v := (0 : Int32)) dTP_touched_26 tni_0 ?_
    refine tq_istore (ls' := [some (vR (some o)), some (vI x1), some (vI x2), some (vI x1), some (vI (0 : Int32)), none]) dTP_touched_27 (Nat.le_of_ble_eq_true rfl) rfl ?_
    refine tpR.fo (ls' := [some (vR (some o)), none, some (vI x2), some (vI x1), some (vI (0 : Int32)), none]) ?_ (And.intro rfl (And.intro rfl (And.intro rfl (And.intro rfl trivial))))
    obtain ⟨n, hw⟩ := hw
    exact s_TP_touched_29 n _ _ _ _ _ hw
  · have hw := hw.2 c13
    refine tq_iconst (v := (-1 : Int32)) dTP_touched_22 tni_m1 ?_
    exact tq_iret rfl rfl dTP_touched_23 hw
/-! T.look -/
theorem dTP_look_0 : decode (mB TP_look) 0 = .ok (.aload_n 0, 1) := by decide +kernel
theorem dTP_look_1 : decode (mB TP_look) 1 = .ok (.iload_n 1, 1) := by decide +kernel
theorem dTP_look_2 : decode (mB TP_look) 2 = .ok (.invokevirtual 251, 3) := by decide +kernel
theorem dTP_look_5 : decode (mB TP_look) 5 = .ok (.aload_n 0, 1) := by decide +kernel
theorem dTP_look_6 : decode (mB TP_look) 6 = .ok (.iload_n 2, 1) := by decide +kernel
theorem dTP_look_7 : decode (mB TP_look) 7 = .ok (.invokevirtual 251, 3) := by decide +kernel
theorem dTP_look_10 : decode (mB TP_look) 10 = .ok (.aload_n 0, 1) := by decide +kernel
theorem dTP_look_11 : decode (mB TP_look) 11 = .ok (.iload_n 3, 1) := by decide +kernel
theorem dTP_look_12 : decode (mB TP_look) 12 = .ok (.invokevirtual 367, 3) := by decide +kernel
theorem dTP_look_15 : decode (mB TP_look) 15 = .ok (.aload_n 0, 1) := by decide +kernel
theorem dTP_look_16 : decode (mB TP_look) 16 = .ok (.iload 4, 2) := by decide +kernel
theorem dTP_look_18 : decode (mB TP_look) 18 = .ok (.invokevirtual 132, 3) := by decide +kernel
theorem dTP_look_21 : decode (mB TP_look) 21 = .ok (.aload_n 0, 1) := by decide +kernel
theorem dTP_look_22 : decode (mB TP_look) 22 = .ok (.getfield 77, 3) := by decide +kernel
theorem dTP_look_25 : decode (mB TP_look) 25 = .ok (.iload_n 1, 1) := by decide +kernel
theorem dTP_look_26 : decode (mB TP_look) 26 = .ok (.iload_n 2, 1) := by decide +kernel
theorem dTP_look_27 : decode (mB TP_look) 27 = .ok (.invokevirtual 370, 3) := by decide +kernel
theorem dTP_look_30 : decode (mB TP_look) 30 = .ok (.ifCond .ne 14, 3) := by decide +kernel
theorem dTP_look_33 : decode (mB TP_look) 33 = .ok (.new 116, 3) := by decide +kernel
theorem dTP_look_36 : decode (mB TP_look) 36 = .ok (.dup, 1) := by decide +kernel
theorem dTP_look_37 : decode (mB TP_look) 37 = .ok (.ldc_w 373, 3) := by decide +kernel
theorem dTP_look_40 : decode (mB TP_look) 40 = .ok (.invokespecial 120, 3) := by decide +kernel
theorem dTP_look_43 : decode (mB TP_look) 43 = .ok (.athrow, 1) := by decide +kernel
theorem dTP_look_44 : decode (mB TP_look) 44 = .ok (.iconst 0, 1) := by decide +kernel
theorem dTP_look_45 : decode (mB TP_look) 45 = .ok (.istore 5, 2) := by decide +kernel
theorem dTP_look_47 : decode (mB TP_look) 47 = .ok (.aload_n 0, 1) := by decide +kernel
theorem dTP_look_48 : decode (mB TP_look) 48 = .ok (.getfield 77, 3) := by decide +kernel
theorem dTP_look_51 : decode (mB TP_look) 51 = .ok (.getfield 375, 3) := by decide +kernel
theorem dTP_look_54 : decode (mB TP_look) 54 = .ok (.iconst 1, 1) := by decide +kernel
theorem dTP_look_55 : decode (mB TP_look) 55 = .ok (.isub, 1) := by decide +kernel
theorem dTP_look_56 : decode (mB TP_look) 56 = .ok (.istore 6, 2) := by decide +kernel
theorem dTP_look_58 : decode (mB TP_look) 58 = .ok (.iconst 0, 1) := by decide +kernel
theorem dTP_look_59 : decode (mB TP_look) 59 = .ok (.istore 7, 2) := by decide +kernel
theorem dTP_look_61 : decode (mB TP_look) 61 = .ok (.iload 7, 2) := by decide +kernel
theorem dTP_look_63 : decode (mB TP_look) 63 = .ok (.bipush 30, 2) := by decide +kernel
theorem dTP_look_65 : decode (mB TP_look) 65 = .ok (.if_icmp .ge 64, 3) := by decide +kernel
theorem dTP_look_68 : decode (mB TP_look) 68 = .ok (.iload 5, 2) := by decide +kernel
theorem dTP_look_70 : decode (mB TP_look) 70 = .ok (.iload 6, 2) := by decide +kernel
theorem dTP_look_72 : decode (mB TP_look) 72 = .ok (.if_icmp .ge 57, 3) := by decide +kernel
theorem dTP_look_75 : decode (mB TP_look) 75 = .ok (.iload 5, 2) := by decide +kernel
theorem dTP_look_77 : decode (mB TP_look) 77 = .ok (.iload 6, 2) := by decide +kernel
theorem dTP_look_79 : decode (mB TP_look) 79 = .ok (.iadd, 1) := by decide +kernel
theorem dTP_look_80 : decode (mB TP_look) 80 = .ok (.iconst 2, 1) := by decide +kernel
theorem dTP_look_81 : decode (mB TP_look) 81 = .ok (.idiv, 1) := by decide +kernel
theorem dTP_look_82 : decode (mB TP_look) 82 = .ok (.istore 8, 2) := by decide +kernel
theorem dTP_look_84 : decode (mB TP_look) 84 = .ok (.aload_n 0, 1) := by decide +kernel
theorem dTP_look_85 : decode (mB TP_look) 85 = .ok (.aload_n 0, 1) := by decide +kernel
theorem dTP_look_86 : decode (mB TP_look) 86 = .ok (.getfield 77, 3) := by decide +kernel
theorem dTP_look_89 : decode (mB TP_look) 89 = .ok (.iload 8, 2) := by decide +kernel
theorem dTP_look_91 : decode (mB TP_look) 91 = .ok (.invokevirtual 378, 3) := by decide +kernel
theorem dTP_look_94 : decode (mB TP_look) 94 = .ok (.invokevirtual 264, 3) := by decide +kernel
theorem dTP_look_97 : decode (mB TP_look) 97 = .ok (.aload_n 0, 1) := by decide +kernel
theorem dTP_look_98 : decode (mB TP_look) 98 = .ok (.getfield 10, 3) := by decide +kernel
theorem dTP_look_101 : decode (mB TP_look) 101 = .ok (.iload_n 3, 1) := by decide +kernel
theorem dTP_look_102 : decode (mB TP_look) 102 = .ok (.iload 4, 2) := by decide +kernel
theorem dTP_look_104 : decode (mB TP_look) 104 = .ok (.invokevirtual 381, 3) := by decide +kernel
theorem dTP_look_107 : decode (mB TP_look) 107 = .ok (.ifCond .eq 10, 3) := by decide +kernel
theorem dTP_look_110 : decode (mB TP_look) 110 = .ok (.iload 8, 2) := by decide +kernel
theorem dTP_look_112 : decode (mB TP_look) 112 = .ok (.istore 6, 2) := by decide +kernel
theorem dTP_look_114 : decode (mB TP_look) 114 = .ok (.goto 9, 3) := by decide +kernel
theorem dTP_look_117 : decode (mB TP_look) 117 = .ok (.iload 8, 2) := by decide +kernel
theorem dTP_look_119 : decode (mB TP_look) 119 = .ok (.iconst 1, 1) := by decide +kernel
theorem dTP_look_120 : decode (mB TP_look) 120 = .ok (.iadd, 1) := by decide +kernel
theorem dTP_look_121 : decode (mB TP_look) 121 = .ok (.istore 5, 2) := by decide +kernel
theorem dTP_look_123 : decode (mB TP_look) 123 = .ok (.iinc 7 1, 3) := by decide +kernel
theorem dTP_look_126 : decode (mB TP_look) 126 = .ok (.goto (-65), 3) := by decide +kernel
theorem dTP_look_129 : decode (mB TP_look) 129 = .ok (.aload_n 0, 1) := by decide +kernel
theorem dTP_look_130 : decode (mB TP_look) 130 = .ok (.getfield 77, 3) := by decide +kernel
theorem dTP_look_133 : decode (mB TP_look) 133 = .ok (.iload 5, 2) := by decide +kernel
theorem dTP_look_135 : decode (mB TP_look) 135 = .ok (.invokevirtual 378, 3) := by decide +kernel
theorem dTP_look_138 : decode (mB TP_look) 138 = .ok (.istore 7, 2) := by decide +kernel
theorem dTP_look_140 : decode (mB TP_look) 140 = .ok (.aload_n 0, 1) := by decide +kernel
theorem dTP_look_141 : decode (mB TP_look) 141 = .ok (.iload 7, 2) := by decide +kernel
theorem dTP_look_143 : decode (mB TP_look) 143 = .ok (.invokevirtual 264, 3) := by decide +kernel
theorem dTP_look_146 : decode (mB TP_look) 146 = .ok (.aload_n 0, 1) := by decide +kernel
theorem dTP_look_147 : decode (mB TP_look) 147 = .ok (.getfield 10, 3) := by decide +kernel
theorem dTP_look_150 : decode (mB TP_look) 150 = .ok (.iload_n 3, 1) := by decide +kernel
theorem dTP_look_151 : decode (mB TP_look) 151 = .ok (.iload 4, 2) := by decide +kernel
theorem dTP_look_153 : decode (mB TP_look) 153 = .ok (.invokevirtual 381, 3) := by decide +kernel
theorem dTP_look_156 : decode (mB TP_look) 156 = .ok (.ifCond .eq 8, 3) := by decide +kernel
theorem dTP_look_159 : decode (mB TP_look) 159 = .ok (.iload 7, 2) := by decide +kernel
theorem dTP_look_161 : decode (mB TP_look) 161 = .ok (.goto 4, 3) := by decide +kernel
theorem dTP_look_164 : decode (mB TP_look) 164 = .ok (.iconst (-1), 1) := by decide +kernel
theorem dTP_look_165 : decode (mB TP_look) 165 = .ok (.ireturn, 1) := by decide +kernel
def w_TP_look_129 (R : Int32 → tpH → Prop) (X : String → tpH → Prop) (o : Nat) (x3 : Int32) (x4 : Int32) (x5 : Int32) (h : tpH) : Prop :=
  hT h o = 13 ∧ (∃ a2, (hR h o 12) = some a2 ∧ hT h a2 = 3 ∧ (w_Hi_onLine a2 x5 h (fun v6 h5 => hT h5 o = 13 ∧ (w_TP_treeOfVersion o v6 h5 X (fun v9 h8 => hT h8 o = 13 ∧ (∃ a11, v9 = some a11 ∧ hT h8 a11 = 12 ∧ (w_Tr_shows a11 (hR h8 o 0) x3 x4 h8 (fun v15 h14 => (v15 = 0 → (R (-1 : Int32) h14)) ∧ (¬ v15 = 0 → (R v6 h14))))))))))
def b_TP_look_61 (R : Int32 → tpH → Prop) (X : String → tpH → Prop) (Y : Nat → Int32 → Int32 → Int32 → Int32 → Int32 → tpH → Prop) (o : Nat) (x3 : Int32) (x4 : Int32) (x5 : Int32) (x6 : Int32) (x7 : Int32) (h : tpH) : Prop :=
  ((30 : Int32) ≤ x7 → (w_TP_look_129 R X o x3 x4 x5 h)) ∧ (¬ (30 : Int32) ≤ x7 → ((x6 ≤ x5 → (w_TP_look_129 R X o x3 x4 x5 h)) ∧ (¬ x6 ≤ x5 → (hT h o = 13 ∧ (∃ a4, (hR h o 12) = some a4 ∧ hT h a4 = 3 ∧ (w_Hi_onLine a4 ((x5 + x6) / (2 : Int32)) h (fun v8 h7 => hT h7 o = 13 ∧ (w_TP_treeOfVersion o v8 h7 X (fun v11 h10 => hT h10 o = 13 ∧ (∃ a13, v11 = some a13 ∧ hT h10 a13 = 12 ∧ (w_Tr_shows a13 (hR h10 o 0) x3 x4 h10 (fun v17 h16 => (v17 = 0 → (Y o x3 x4 (((x5 + x6) / (2 : Int32)) + (1 : Int32)) x6 (x7 + (1 : Int32)) h16)) ∧ (¬ v17 = 0 → (Y o x3 x4 x5 ((x5 + x6) / (2 : Int32)) (x7 + (1 : Int32)) h16))))))))))))))
def w_TP_look_61 (R : Int32 → tpH → Prop) (X : String → tpH → Prop) : Nat → Nat → Int32 → Int32 → Int32 → Int32 → Int32 → tpH → Prop
  | 0 => fun _ _ _ _ _ _ _ => False
  | n + 1 => b_TP_look_61 R X (w_TP_look_61 R X n)
def w_TP_look (o : Nat) (x1 : Int32) (x2 : Int32) (x3 : Int32) (x4 : Int32) (h : tpH) (X : String → tpH → Prop) (R : Int32 → tpH → Prop) : Prop :=
  hT h o = 13 ∧ (w_TP_needVersion o x1 h X (fun h2 => hT h2 o = 13 ∧ (w_TP_needVersion o x2 h2 X (fun h4 => hT h4 o = 13 ∧ (w_TP_needKind o x3 h4 X (fun h6 => hT h6 o = 13 ∧ (w_TP_needValue o x4 h6 X (fun h8 => hT h8 o = 13 ∧ (∃ a10, (hR h8 o 12) = some a10 ∧ hT h8 a10 = 3 ∧ (w_Hi_layLine a10 x1 x2 h8 (fun v14 h13 => (¬ v14 = 0 → (hT h13 o = 13 ∧ (∃ a17, (hR h13 o 12) = some a17 ∧ hT h13 a17 = 3 ∧ (∃ n, w_TP_look_61 R X n o x3 x4 (0 : Int32) ((hI h13 a17 6) - (1 : Int32)) (0 : Int32) h13)))) ∧ (v14 = 0 → (X "java/lang/IllegalStateException" (nC h13 0 0 6))))))))))))))
theorem s_TP_look_129 {h0 : tpH} {av : List tpV} {R : Int32 → tpH → Prop} {X : String → tpH → Prop} : ∀ (o : Nat) (x3 : Int32) (x4 : Int32) (x5 : Int32) (h : tpH), w_TP_look_129 R X o x3 x4 x5 h → tpR TP_look 8 h0 av (tpOi R X) 129 [some (vR (some o)), none, none, some (vI x3), some (vI x4), some (vI x5), none, none, none] [] h := by
  intro o x3 x4 x5 h hw
  unfold w_TP_look_129 at hw
  refine tq_aload_n dTP_look_129 rfl rfl ?_
  obtain ⟨f1, hw⟩ := hw
  refine te_getr dTP_look_130 fTP_77 rfl rfl f1 ?_
  refine tq_iload dTP_look_133 rfl ?_
  obtain ⟨a2, e3, f4, hw⟩ := hw
  refine te_callV mv_Hi_onLine (ci := 2) (dc := 1) (as := [vI x5]) (rest := []) kTP_378 rfl (Nat.le_of_ble_eq_true rfl) (Nat.le_of_ble_eq_true rfl) rfl rfl e3 f4 (Nat.le_of_ble_eq_true rfl) dTP_look_135 (s_Hi_onLine hw) (fun _ _ hx => False.elim hx) (tk_i fun v6 h5 hw => ?_)
  refine tq_istore (ls' := [some (vR (some o)), none, none, some (vI x3), some (vI x4), some (vI x5), none, some (vI v6), none]) dTP_look_138 (Nat.le_of_ble_eq_true rfl) rfl ?_
  refine tq_aload_n dTP_look_140 rfl rfl ?_
  refine tq_iload dTP_look_141 rfl ?_
  obtain ⟨f7, hw⟩ := hw
  refine te_callV mv_TP_treeOfVersion (ci := 12) (dc := 7) (as := [vI v6]) (rest := []) kTP_264 rfl (Nat.le_of_ble_eq_true rfl) (Nat.le_of_ble_eq_true rfl) rfl rfl rfl f7 (Nat.le_of_ble_eq_true rfl) dTP_look_143 (s_TP_treeOfVersion hw) (fun _ _ hx => tpXx.out rfl hx) (tk_r fun v9 h8 hw => ?_)
  refine tq_aload_n dTP_look_146 rfl rfl ?_
  obtain ⟨f10, hw⟩ := hw
  refine te_getr dTP_look_147 fTP_10 rfl rfl f10 ?_
  refine tq_iload_n dTP_look_150 rfl rfl ?_
  refine tq_iload dTP_look_151 rfl ?_
  obtain ⟨a11, e12, f13, hw⟩ := hw
  refine te_callV mv_Tr_shows (ci := 11) (dc := 2) (as := [vR (hR h8 o 0), vI x3, vI x4]) (rest := []) kTP_381 rfl (Nat.le_of_ble_eq_true rfl) (Nat.le_of_ble_eq_true rfl) rfl rfl e12 f13 (Nat.le_of_ble_eq_true rfl) dTP_look_153 (s_Tr_shows hw) (fun _ _ hx => False.elim hx) (tk_i fun v15 h14 hw => ?_)
  refine tq_ifeq (tgt := 164) dTP_look_156 (by decide) (fun c16 => ?_) (fun c16 => ?_)
  · have hw := hw.1 c16
    refine tq_iconst (v := (-1 : Int32)) dTP_look_164 tni_m1 ?_
    exact tq_iret rfl rfl dTP_look_165 hw
  · have hw := hw.2 c16
    refine tq_iload dTP_look_159 rfl ?_
    refine tq_goto (tgt := 165) dTP_look_161 (by decide) ?_
    exact tq_iret rfl rfl dTP_look_165 hw
theorem s_TP_look_61 {h0 : tpH} {av : List tpV} {R : Int32 → tpH → Prop} {X : String → tpH → Prop} : ∀ (n : Nat) (o : Nat) (x3 : Int32) (x4 : Int32) (x5 : Int32) (x6 : Int32) (x7 : Int32) (h : tpH), w_TP_look_61 R X n o x3 x4 x5 x6 x7 h → tpR TP_look 8 h0 av (tpOi R X) 61 [some (vR (some o)), none, none, some (vI x3), some (vI x4), some (vI x5), some (vI x6), some (vI x7), none] [] h := by
  intro n
  induction n with
  | zero => intro o x3 x4 x5 x6 x7 h hw; exact False.elim hw
  | succ n ih =>
    intro o x3 x4 x5 x6 x7 h hw
    change b_TP_look_61 R X (w_TP_look_61 R X n) o x3 x4 x5 x6 x7 h at hw
    unfold b_TP_look_61 at hw
    refine tq_iload dTP_look_61 rfl ?_
    refine tq_bipush (v := (30 : Int32)) dTP_look_63 tnb_30 ?_
    refine tq_icmpge (tgt := 129) dTP_look_65 (by decide) (fun c1 => ?_) (fun c1 => ?_)
    · have hw := hw.1 c1
      refine tpR.fo (ls' := [some (vR (some o)), none, none, some (vI x3), some (vI x4), some (vI x5), none, none, none]) ?_ (And.intro rfl (And.intro rfl (And.intro rfl (And.intro rfl trivial))))
      exact s_TP_look_129 _ _ _ _ _ hw
    · have hw := hw.2 c1
      refine tq_iload dTP_look_68 rfl ?_
      refine tq_iload dTP_look_70 rfl ?_
      refine tq_icmpge (tgt := 129) dTP_look_72 (by decide) (fun c2 => ?_) (fun c2 => ?_)
      · have hw := hw.1 c2
        refine tpR.fo (ls' := [some (vR (some o)), none, none, some (vI x3), some (vI x4), some (vI x5), none, none, none]) ?_ (And.intro rfl (And.intro rfl (And.intro rfl (And.intro rfl trivial))))
        exact s_TP_look_129 _ _ _ _ _ hw
      · have hw := hw.2 c2
        refine tq_iload dTP_look_75 rfl ?_
        refine tq_iload dTP_look_77 rfl ?_
        refine tq_iadd dTP_look_79 ?_
        refine tq_iconst (v := (2 : Int32)) dTP_look_80 tni_2 ?_
        refine tq_idiv dTP_look_81 (by decide) ?_
        refine tq_istore (ls' := [some (vR (some o)), none, none, some (vI x3), some (vI x4), some (vI x5), some (vI x6), some (vI x7), some (vI ((x5 + x6) / (2 : Int32)))]) dTP_look_82 (Nat.le_of_ble_eq_true rfl) rfl ?_
        refine tq_aload_n dTP_look_84 rfl rfl ?_
        refine tq_aload_n dTP_look_85 rfl rfl ?_
        obtain ⟨f3, hw⟩ := hw
        refine te_getr dTP_look_86 fTP_77 rfl rfl f3 ?_
        refine tq_iload dTP_look_89 rfl ?_
        obtain ⟨a4, e5, f6, hw⟩ := hw
        refine te_callV mv_Hi_onLine (ci := 2) (dc := 1) (as := [vI ((x5 + x6) / (2 : Int32))]) (rest := [vR (some o)]) kTP_378 rfl (Nat.le_of_ble_eq_true rfl) (Nat.le_of_ble_eq_true rfl) rfl rfl e5 f6 (Nat.le_of_ble_eq_true rfl) dTP_look_91 (s_Hi_onLine hw) (fun _ _ hx => False.elim hx) (tk_i fun v8 h7 hw => ?_)
        obtain ⟨f9, hw⟩ := hw
        refine te_callV mv_TP_treeOfVersion (ci := 12) (dc := 7) (as := [vI v8]) (rest := []) kTP_264 rfl (Nat.le_of_ble_eq_true rfl) (Nat.le_of_ble_eq_true rfl) rfl rfl rfl f9 (Nat.le_of_ble_eq_true rfl) dTP_look_94 (s_TP_treeOfVersion hw) (fun _ _ hx => tpXx.out rfl hx) (tk_r fun v11 h10 hw => ?_)
        refine tq_aload_n dTP_look_97 rfl rfl ?_
        obtain ⟨f12, hw⟩ := hw
        refine te_getr dTP_look_98 fTP_10 rfl rfl f12 ?_
        refine tq_iload_n dTP_look_101 rfl rfl ?_
        refine tq_iload dTP_look_102 rfl ?_
        obtain ⟨a13, e14, f15, hw⟩ := hw
        refine te_callV mv_Tr_shows (ci := 11) (dc := 2) (as := [vR (hR h10 o 0), vI x3, vI x4]) (rest := []) kTP_381 rfl (Nat.le_of_ble_eq_true rfl) (Nat.le_of_ble_eq_true rfl) rfl rfl e14 f15 (Nat.le_of_ble_eq_true rfl) dTP_look_104 (s_Tr_shows hw) (fun _ _ hx => False.elim hx) (tk_i fun v17 h16 hw => ?_)
        refine tq_ifeq (tgt := 117) dTP_look_107 (by decide) (fun c18 => ?_) (fun c18 => ?_)
        · have hw := hw.1 c18
          refine tq_iload dTP_look_117 rfl ?_
          refine tq_iconst (v := (1 : Int32)) dTP_look_119 tni_1 ?_
          refine tq_iadd dTP_look_120 ?_
          refine tq_istore (ls' := [some (vR (some o)), none, none, some (vI x3), some (vI x4), some (vI (((x5 + x6) / (2 : Int32)) + (1 : Int32))), some (vI x6), some (vI x7), some (vI ((x5 + x6) / (2 : Int32)))]) dTP_look_121 (Nat.le_of_ble_eq_true rfl) rfl ?_
          refine tq_inc (k := (1 : Int32)) (ls' := [some (vR (some o)), none, none, some (vI x3), some (vI x4), some (vI (((x5 + x6) / (2 : Int32)) + (1 : Int32))), some (vI x6), some (vI (x7 + (1 : Int32))), some (vI ((x5 + x6) / (2 : Int32)))]) dTP_look_123 rfl tni_1 (Nat.le_of_ble_eq_true rfl) rfl ?_
          refine tq_goto (tgt := 61) dTP_look_126 (by decide) ?_
          refine tpR.fo (ls' := [some (vR (some o)), none, none, some (vI x3), some (vI x4), some (vI (((x5 + x6) / (2 : Int32)) + (1 : Int32))), some (vI x6), some (vI (x7 + (1 : Int32))), none]) ?_ (And.intro rfl (And.intro rfl (And.intro rfl (And.intro rfl (And.intro rfl (And.intro rfl trivial))))))
          exact ih _ _ _ _ _ _ _ hw
        · have hw := hw.2 c18
          refine tq_iload dTP_look_110 rfl ?_
          refine tq_istore (ls' := [some (vR (some o)), none, none, some (vI x3), some (vI x4), some (vI x5), some (vI ((x5 + x6) / (2 : Int32))), some (vI x7), some (vI ((x5 + x6) / (2 : Int32)))]) dTP_look_112 (Nat.le_of_ble_eq_true rfl) rfl ?_
          refine tq_goto (tgt := 123) dTP_look_114 (by decide) ?_
          refine tq_inc (k := (1 : Int32)) (ls' := [some (vR (some o)), none, none, some (vI x3), some (vI x4), some (vI x5), some (vI ((x5 + x6) / (2 : Int32))), some (vI (x7 + (1 : Int32))), some (vI ((x5 + x6) / (2 : Int32)))]) dTP_look_123 rfl tni_1 (Nat.le_of_ble_eq_true rfl) rfl ?_
          refine tq_goto (tgt := 61) dTP_look_126 (by decide) ?_
          refine tpR.fo (ls' := [some (vR (some o)), none, none, some (vI x3), some (vI x4), some (vI x5), some (vI ((x5 + x6) / (2 : Int32))), some (vI (x7 + (1 : Int32))), none]) ?_ (And.intro rfl (And.intro rfl (And.intro rfl (And.intro rfl (And.intro rfl (And.intro rfl trivial))))))
          exact ih _ _ _ _ _ _ _ hw
theorem s_TP_look {o : Nat} {x1 : Int32} {x2 : Int32} {x3 : Int32} {x4 : Int32} {h : tpH} {R : Int32 → tpH → Prop} {X : String → tpH → Prop} (hw : w_TP_look o x1 x2 x3 x4 h X R) : tpC TP_look 8 [vR (some o), vI x1, vI x2, vI x3, vI x4] h (tpOi R X) := by
  refine tpC_of mv_TP_look.2.2.2.1 rfl rfl (Nat.le_of_ble_eq_true rfl) ?_
  show tpR TP_look 8 h _ _ 0 [some (vR (some o)), some (vI x1), some (vI x2), some (vI x3), some (vI x4), none, none, none, none] [] h
  unfold w_TP_look at hw
  refine tq_aload_n dTP_look_0 rfl rfl ?_
  refine tq_iload_n dTP_look_1 rfl rfl ?_
  obtain ⟨f1, hw⟩ := hw
  refine te_callV mv_TP_needVersion (ci := 12) (dc := 6) (as := [vI x1]) (rest := []) kTP_251 rfl (Nat.le_of_ble_eq_true rfl) (Nat.le_of_ble_eq_true rfl) rfl rfl rfl f1 (Nat.le_of_ble_eq_true rfl) dTP_look_2 (s_TP_needVersion hw) (fun _ _ hx => tpXx.out rfl hx) (tk_v fun h2 hw => ?_)
  refine tq_aload_n dTP_look_5 rfl rfl ?_
  refine tq_iload_n dTP_look_6 rfl rfl ?_
  obtain ⟨f3, hw⟩ := hw
  refine te_callV mv_TP_needVersion (ci := 12) (dc := 6) (as := [vI x2]) (rest := []) kTP_251 rfl (Nat.le_of_ble_eq_true rfl) (Nat.le_of_ble_eq_true rfl) rfl rfl rfl f3 (Nat.le_of_ble_eq_true rfl) dTP_look_7 (s_TP_needVersion hw) (fun _ _ hx => tpXx.out rfl hx) (tk_v fun h4 hw => ?_)
  refine tq_aload_n dTP_look_10 rfl rfl ?_
  refine tq_iload_n dTP_look_11 rfl rfl ?_
  obtain ⟨f5, hw⟩ := hw
  refine te_callV mv_TP_needKind (ci := 12) (dc := 6) (as := [vI x3]) (rest := []) kTP_367 rfl (Nat.le_of_ble_eq_true rfl) (Nat.le_of_ble_eq_true rfl) rfl rfl rfl f5 (Nat.le_of_ble_eq_true rfl) dTP_look_12 (s_TP_needKind hw) (fun _ _ hx => tpXx.out rfl hx) (tk_v fun h6 hw => ?_)
  refine tq_aload_n dTP_look_15 rfl rfl ?_
  refine tq_iload dTP_look_16 rfl ?_
  obtain ⟨f7, hw⟩ := hw
  refine te_callV mv_TP_needValue (ci := 12) (dc := 6) (as := [vI x4]) (rest := []) kTP_132 rfl (Nat.le_of_ble_eq_true rfl) (Nat.le_of_ble_eq_true rfl) rfl rfl rfl f7 (Nat.le_of_ble_eq_true rfl) dTP_look_18 (s_TP_needValue hw) (fun _ _ hx => tpXx.out rfl hx) (tk_v fun h8 hw => ?_)
  refine tq_aload_n dTP_look_21 rfl rfl ?_
  obtain ⟨f9, hw⟩ := hw
  refine te_getr dTP_look_22 fTP_77 rfl rfl f9 ?_
  refine tq_iload_n dTP_look_25 rfl rfl ?_
  refine tq_iload_n dTP_look_26 rfl rfl ?_
  obtain ⟨a10, e11, f12, hw⟩ := hw
  refine te_callV mv_Hi_layLine (ci := 2) (dc := 1) (as := [vI x1, vI x2]) (rest := []) kTP_370 rfl (Nat.le_of_ble_eq_true rfl) (Nat.le_of_ble_eq_true rfl) rfl rfl e11 f12 (Nat.le_of_ble_eq_true rfl) dTP_look_27 (s_Hi_layLine hw) (fun _ _ hx => False.elim hx) (tk_i fun v14 h13 hw => ?_)
  refine tq_ifne (tgt := 44) dTP_look_30 (by decide) (fun c15 => ?_) (fun c15 => ?_)
  · have hw := hw.1 c15
    refine tq_iconst (v := (0 : Int32)) dTP_look_44 tni_0 ?_
    refine tq_istore (ls' := [some (vR (some o)), some (vI x1), some (vI x2), some (vI x3), some (vI x4), some (vI (0 : Int32)), none, none, none]) dTP_look_45 (Nat.le_of_ble_eq_true rfl) rfl ?_
    refine tq_aload_n dTP_look_47 rfl rfl ?_
    obtain ⟨f16, hw⟩ := hw
    refine te_getr dTP_look_48 fTP_77 rfl rfl f16 ?_
    obtain ⟨a17, e18, f19, hw⟩ := hw
    refine te_geti dTP_look_51 fTP_375 rfl e18 f19 ?_
    refine tq_iconst (v := (1 : Int32)) dTP_look_54 tni_1 ?_
    refine tq_isub dTP_look_55 ?_
    refine tq_istore (ls' := [some (vR (some o)), some (vI x1), some (vI x2), some (vI x3), some (vI x4), some (vI (0 : Int32)), some (vI ((hI h13 a17 6) - (1 : Int32))), none, none]) dTP_look_56 (Nat.le_of_ble_eq_true rfl) rfl ?_
    refine tq_iconst (v := (0 : Int32)) dTP_look_58 tni_0 ?_
    refine tq_istore (ls' := [some (vR (some o)), some (vI x1), some (vI x2), some (vI x3), some (vI x4), some (vI (0 : Int32)), some (vI ((hI h13 a17 6) - (1 : Int32))), some (vI (0 : Int32)), none]) dTP_look_59 (Nat.le_of_ble_eq_true rfl) rfl ?_
    refine tpR.fo (ls' := [some (vR (some o)), none, none, some (vI x3), some (vI x4), some (vI (0 : Int32)), some (vI ((hI h13 a17 6) - (1 : Int32))), some (vI (0 : Int32)), none]) ?_ (And.intro rfl (And.intro rfl (And.intro rfl (And.intro rfl (And.intro rfl (And.intro rfl trivial))))))
    obtain ⟨n, hw⟩ := hw
    exact s_TP_look_61 n _ _ _ _ _ _ _ hw
  · have hw := hw.2 c15
    exact tq_thr thTP_120 cTP_116 (tx := "the later version does not reach the earlier one") (by decide +kernel) (Nat.le_of_ble_eq_true rfl) (Nat.le_of_ble_eq_true rfl) rfl ⟨⟨dTP_look_33, dTP_look_36⟩, Or.inr ⟨dTP_look_37, dTP_look_40, dTP_look_43⟩⟩ hw
