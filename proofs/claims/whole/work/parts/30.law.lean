/-! TLaw.begin -/
theorem dLw_begin_0 : decode (mB Lw_begin) 0 = .ok (.aload 4, 2) := by decide +kernel
theorem dLw_begin_2 : decode (mB Lw_begin) 2 = .ok (.iconst 0, 1) := by decide +kernel
theorem dLw_begin_3 : decode (mB Lw_begin) 3 = .ok (.aload_n 0, 1) := by decide +kernel
theorem dLw_begin_4 : decode (mB Lw_begin) 4 = .ok (.iload_n 1, 1) := by decide +kernel
theorem dLw_begin_5 : decode (mB Lw_begin) 5 = .ok (.iload_n 2, 1) := by decide +kernel
theorem dLw_begin_6 : decode (mB Lw_begin) 6 = .ok (.iload_n 3, 1) := by decide +kernel
theorem dLw_begin_7 : decode (mB Lw_begin) 7 = .ok (.invokevirtual 7, 3) := by decide +kernel
theorem dLw_begin_10 : decode (mB Lw_begin) 10 = .ok (.i2l, 1) := by decide +kernel
theorem dLw_begin_11 : decode (mB Lw_begin) 11 = .ok (.lastore, 1) := by decide +kernel
theorem dLw_begin_12 : decode (mB Lw_begin) 12 = .ok (.goto 11, 3) := by decide +kernel
theorem dLw_begin_15 : decode (mB Lw_begin) 15 = .ok (.astore 5, 2) := by decide +kernel
theorem dLw_begin_17 : decode (mB Lw_begin) 17 = .ok (.iconst 1, 1) := by decide +kernel
theorem dLw_begin_18 : decode (mB Lw_begin) 18 = .ok (.ireturn, 1) := by decide +kernel
theorem dLw_begin_19 : decode (mB Lw_begin) 19 = .ok (.astore 5, 2) := by decide +kernel
theorem dLw_begin_21 : decode (mB Lw_begin) 21 = .ok (.iconst 2, 1) := by decide +kernel
theorem dLw_begin_22 : decode (mB Lw_begin) 22 = .ok (.ireturn, 1) := by decide +kernel
theorem dLw_begin_23 : decode (mB Lw_begin) 23 = .ok (.iconst 0, 1) := by decide +kernel
theorem dLw_begin_24 : decode (mB Lw_begin) 24 = .ok (.ireturn, 1) := by decide +kernel
def w_Lw_begin (x0 : Option Nat) (x1 : Int32) (x2 : Int32) (x3 : Int32) (x4 : Option Nat) (h : tpH) (R : Int32 → tpH → Prop) : Prop :=
  ∃ a1, x0 = some a1 ∧ hT h a1 = 13 ∧ (w_TP_begin a1 x1 x2 x3 h (fun E h6 => (E = "java/lang/IllegalArgumentException" ∧ (R (1 : Int32) h6)) ∨ (E = "java/lang/IllegalStateException" ∧ (R (2 : Int32) h6))) (fun v5 h4 => ∃ a7, x4 = some a7 ∧ hT h4 a7 = 17 ∧ (vp_in (0 : Int32) (hL h4 a7) ∧ (∀ h11, h11 = sJ h4 a7 (0 : Int32).toNatClampNeg (v5.toInt64) → (R (0 : Int32) h11)))))
theorem s_Lw_begin {x0 : Option Nat} {x1 : Int32} {x2 : Int32} {x3 : Int32} {x4 : Option Nat} {h : tpH} {R : Int32 → tpH → Prop} (hw : w_Lw_begin x0 x1 x2 x3 x4 h R) : tpC Lw_begin 9 [vR x0, vI x1, vI x2, vI x3, vR x4] h (tpOi R (fun _ _ => False)) := by
  refine tpC_ofH ms_Lw_begin.2.2.2 (by intro hz; cases hz) rfl (Nat.le_of_ble_eq_true rfl) ?_
  show tpR Lw_begin 9 h _ _ 0 [some (vR x0), some (vI x1), some (vI x2), some (vI x3), some (vR x4), none] [] h
  unfold w_Lw_begin at hw
  refine tq_aload dLw_begin_0 rfl ?_
  refine tq_iconst (v := (0 : Int32)) dLw_begin_2 tni_0 ?_
  refine tq_aload_n dLw_begin_3 rfl rfl ?_
  refine tq_iload_n dLw_begin_4 rfl rfl ?_
  refine tq_iload_n dLw_begin_5 rfl rfl ?_
  refine tq_iload_n dLw_begin_6 rfl rfl ?_
  obtain ⟨a1, e2, f3, hw⟩ := hw
  refine te_callV mv_TP_begin (ci := 12) (dc := 8) (as := [vI x1, vI x2, vI x3]) (rest := [vI (0 : Int32), vR x4]) kLw_7 rfl (Nat.le_of_ble_eq_true rfl) (Nat.le_of_ble_eq_true rfl) rfl rfl e2 f3 (Nat.le_of_ble_eq_true rfl) dLw_begin_7 (s_TP_begin hw) ?_ (tk_i fun v5 h4 hw => ?_)
  · intro E h6 hw
    rcases hw with ⟨rfl, hw⟩ | ⟨rfl, hw⟩
    · refine tpXx.catch (ls' := [some (vR x0), some (vI x1), some (vI x2), some (vI x3), some (vR x4), none]) [] ⟨0, 12, 15, 13⟩ [⟨0, 12, 19, 15⟩] rfl (fun _ hz => nomatch hz) (by decide) (by decide) cLw_13 (Or.inl ⟨dLw_begin_15, rfl⟩) (Nat.le_of_ble_eq_true rfl) rfl ?_
      refine tq_iconst (v := (1 : Int32)) dLw_begin_17 tni_1 ?_
      exact tq_iret rfl rfl dLw_begin_18 hw
    · refine tpXx.catch (ls' := [some (vR x0), some (vI x1), some (vI x2), some (vI x3), some (vR x4), none]) [⟨0, 12, 15, 13⟩] ⟨0, 12, 19, 15⟩ [] rfl (List.forall_mem_cons.mpr ⟨Or.inr ⟨by decide, _, cLw_13, by decide +kernel⟩, fun _ hz => nomatch hz⟩) (by decide) (by decide) cLw_15 (Or.inl ⟨dLw_begin_19, rfl⟩) (Nat.le_of_ble_eq_true rfl) rfl ?_
      refine tq_iconst (v := (2 : Int32)) dLw_begin_21 tni_2 ?_
      exact tq_iret rfl rfl dLw_begin_22 hw
  refine tq_i2l dLw_begin_10 ?_
  obtain ⟨a7, e8, f9, hw⟩ := hw
  obtain ⟨f10, hw⟩ := hw
  refine te_last dLw_begin_11 e8 f9 f10 (fun h11 e12 => ?_)
  have hw := hw h11 e12
  refine tq_goto (tgt := 23) dLw_begin_12 (by decide) ?_
  refine tq_iconst (v := (0 : Int32)) dLw_begin_23 tni_0 ?_
  exact tq_iret rfl rfl dLw_begin_24 hw
/-! TLaw.copy -/
theorem dLw_copy_0 : decode (mB Lw_copy) 0 = .ok (.aload_n 2, 1) := by decide +kernel
theorem dLw_copy_1 : decode (mB Lw_copy) 1 = .ok (.iconst 0, 1) := by decide +kernel
theorem dLw_copy_2 : decode (mB Lw_copy) 2 = .ok (.aload_n 0, 1) := by decide +kernel
theorem dLw_copy_3 : decode (mB Lw_copy) 3 = .ok (.iload_n 1, 1) := by decide +kernel
theorem dLw_copy_4 : decode (mB Lw_copy) 4 = .ok (.invokevirtual 17, 3) := by decide +kernel
theorem dLw_copy_7 : decode (mB Lw_copy) 7 = .ok (.i2l, 1) := by decide +kernel
theorem dLw_copy_8 : decode (mB Lw_copy) 8 = .ok (.lastore, 1) := by decide +kernel
theorem dLw_copy_9 : decode (mB Lw_copy) 9 = .ok (.goto 6, 3) := by decide +kernel
theorem dLw_copy_12 : decode (mB Lw_copy) 12 = .ok (.astore_n 3, 1) := by decide +kernel
theorem dLw_copy_13 : decode (mB Lw_copy) 13 = .ok (.iconst 1, 1) := by decide +kernel
theorem dLw_copy_14 : decode (mB Lw_copy) 14 = .ok (.ireturn, 1) := by decide +kernel
theorem dLw_copy_15 : decode (mB Lw_copy) 15 = .ok (.iconst 0, 1) := by decide +kernel
theorem dLw_copy_16 : decode (mB Lw_copy) 16 = .ok (.ireturn, 1) := by decide +kernel
def w_Lw_copy (x0 : Option Nat) (x1 : Int32) (x2 : Option Nat) (h : tpH) (R : Int32 → tpH → Prop) : Prop :=
  ∃ a1, x0 = some a1 ∧ hT h a1 = 13 ∧ (w_TP_copy a1 x1 h (fun E h6 => (E = "java/lang/IndexOutOfBoundsException" ∧ (R (1 : Int32) h6))) (fun v5 h4 => ∃ a7, x2 = some a7 ∧ hT h4 a7 = 17 ∧ (vp_in (0 : Int32) (hL h4 a7) ∧ (∀ h11, h11 = sJ h4 a7 (0 : Int32).toNatClampNeg (v5.toInt64) → (R (0 : Int32) h11)))))
theorem s_Lw_copy {x0 : Option Nat} {x1 : Int32} {x2 : Option Nat} {h : tpH} {R : Int32 → tpH → Prop} (hw : w_Lw_copy x0 x1 x2 h R) : tpC Lw_copy 8 [vR x0, vI x1, vR x2] h (tpOi R (fun _ _ => False)) := by
  refine tpC_ofH ms_Lw_copy.2.2.2 (by intro hz; cases hz) rfl (Nat.le_of_ble_eq_true rfl) ?_
  show tpR Lw_copy 8 h _ _ 0 [some (vR x0), some (vI x1), some (vR x2), none] [] h
  unfold w_Lw_copy at hw
  refine tq_aload_n dLw_copy_0 rfl rfl ?_
  refine tq_iconst (v := (0 : Int32)) dLw_copy_1 tni_0 ?_
  refine tq_aload_n dLw_copy_2 rfl rfl ?_
  refine tq_iload_n dLw_copy_3 rfl rfl ?_
  obtain ⟨a1, e2, f3, hw⟩ := hw
  refine te_callV mv_TP_copy (ci := 12) (dc := 7) (as := [vI x1]) (rest := [vI (0 : Int32), vR x2]) kLw_17 rfl (Nat.le_of_ble_eq_true rfl) (Nat.le_of_ble_eq_true rfl) rfl rfl e2 f3 (Nat.le_of_ble_eq_true rfl) dLw_copy_4 (s_TP_copy hw) ?_ (tk_i fun v5 h4 hw => ?_)
  · intro E h6 hw
    obtain ⟨rfl, hw⟩ := hw
    refine tpXx.catch (ls' := [some (vR x0), some (vI x1), some (vR x2), none]) [] ⟨0, 9, 12, 21⟩ [] rfl (fun _ hz => nomatch hz) (by decide) (by decide) cLw_21 (Or.inr ⟨3, rfl, dLw_copy_12, rfl⟩) (Nat.le_of_ble_eq_true rfl) rfl ?_
    refine tq_iconst (v := (1 : Int32)) dLw_copy_13 tni_1 ?_
    exact tq_iret rfl rfl dLw_copy_14 hw
  refine tq_i2l dLw_copy_7 ?_
  obtain ⟨a7, e8, f9, hw⟩ := hw
  obtain ⟨f10, hw⟩ := hw
  refine te_last dLw_copy_8 e8 f9 f10 (fun h11 e12 => ?_)
  have hw := hw h11 e12
  refine tq_goto (tgt := 15) dLw_copy_9 (by decide) ?_
  refine tq_iconst (v := (0 : Int32)) dLw_copy_15 tni_0 ?_
  exact tq_iret rfl rfl dLw_copy_16 hw
/-! TLaw.node -/
theorem dLw_node_0 : decode (mB Lw_node) 0 = .ok (.aload 6, 2) := by decide +kernel
theorem dLw_node_2 : decode (mB Lw_node) 2 = .ok (.iconst 0, 1) := by decide +kernel
theorem dLw_node_3 : decode (mB Lw_node) 3 = .ok (.aload_n 0, 1) := by decide +kernel
theorem dLw_node_4 : decode (mB Lw_node) 4 = .ok (.iload_n 1, 1) := by decide +kernel
theorem dLw_node_5 : decode (mB Lw_node) 5 = .ok (.iload_n 2, 1) := by decide +kernel
theorem dLw_node_6 : decode (mB Lw_node) 6 = .ok (.iload_n 3, 1) := by decide +kernel
theorem dLw_node_7 : decode (mB Lw_node) 7 = .ok (.iload 4, 2) := by decide +kernel
theorem dLw_node_9 : decode (mB Lw_node) 9 = .ok (.iload 5, 2) := by decide +kernel
theorem dLw_node_11 : decode (mB Lw_node) 11 = .ok (.invokevirtual 23, 3) := by decide +kernel
theorem dLw_node_14 : decode (mB Lw_node) 14 = .ok (.i2l, 1) := by decide +kernel
theorem dLw_node_15 : decode (mB Lw_node) 15 = .ok (.lastore, 1) := by decide +kernel
theorem dLw_node_16 : decode (mB Lw_node) 16 = .ok (.goto 15, 3) := by decide +kernel
theorem dLw_node_19 : decode (mB Lw_node) 19 = .ok (.astore 7, 2) := by decide +kernel
theorem dLw_node_21 : decode (mB Lw_node) 21 = .ok (.iconst 1, 1) := by decide +kernel
theorem dLw_node_22 : decode (mB Lw_node) 22 = .ok (.ireturn, 1) := by decide +kernel
theorem dLw_node_23 : decode (mB Lw_node) 23 = .ok (.astore 7, 2) := by decide +kernel
theorem dLw_node_25 : decode (mB Lw_node) 25 = .ok (.iconst 2, 1) := by decide +kernel
theorem dLw_node_26 : decode (mB Lw_node) 26 = .ok (.ireturn, 1) := by decide +kernel
theorem dLw_node_27 : decode (mB Lw_node) 27 = .ok (.astore 7, 2) := by decide +kernel
theorem dLw_node_29 : decode (mB Lw_node) 29 = .ok (.iconst 3, 1) := by decide +kernel
theorem dLw_node_30 : decode (mB Lw_node) 30 = .ok (.ireturn, 1) := by decide +kernel
theorem dLw_node_31 : decode (mB Lw_node) 31 = .ok (.iconst 0, 1) := by decide +kernel
theorem dLw_node_32 : decode (mB Lw_node) 32 = .ok (.ireturn, 1) := by decide +kernel
def w_Lw_node (x0 : Option Nat) (x1 : Int32) (x2 : Int32) (x3 : Int32) (x4 : Int32) (x5 : Int32) (x6 : Option Nat) (h : tpH) (R : Int32 → tpH → Prop) : Prop :=
  ∃ a1, x0 = some a1 ∧ hT h a1 = 13 ∧ (w_TP_node a1 x1 x2 x3 x4 x5 h (fun E h6 => (E = "java/lang/IndexOutOfBoundsException" ∧ (R (1 : Int32) h6)) ∨ (E = "java/lang/IllegalArgumentException" ∧ (R (2 : Int32) h6)) ∨ (E = "java/lang/IllegalStateException" ∧ (R (3 : Int32) h6))) (fun v5 h4 => ∃ a7, x6 = some a7 ∧ hT h4 a7 = 17 ∧ (vp_in (0 : Int32) (hL h4 a7) ∧ (∀ h11, h11 = sJ h4 a7 (0 : Int32).toNatClampNeg (v5.toInt64) → (R (0 : Int32) h11)))))
theorem s_Lw_node {x0 : Option Nat} {x1 : Int32} {x2 : Int32} {x3 : Int32} {x4 : Int32} {x5 : Int32} {x6 : Option Nat} {h : tpH} {R : Int32 → tpH → Prop} (hw : w_Lw_node x0 x1 x2 x3 x4 x5 x6 h R) : tpC Lw_node 9 [vR x0, vI x1, vI x2, vI x3, vI x4, vI x5, vR x6] h (tpOi R (fun _ _ => False)) := by
  refine tpC_ofH ms_Lw_node.2.2.2 (by intro hz; cases hz) rfl (Nat.le_of_ble_eq_true rfl) ?_
  show tpR Lw_node 9 h _ _ 0 [some (vR x0), some (vI x1), some (vI x2), some (vI x3), some (vI x4), some (vI x5), some (vR x6), none] [] h
  unfold w_Lw_node at hw
  refine tq_aload dLw_node_0 rfl ?_
  refine tq_iconst (v := (0 : Int32)) dLw_node_2 tni_0 ?_
  refine tq_aload_n dLw_node_3 rfl rfl ?_
  refine tq_iload_n dLw_node_4 rfl rfl ?_
  refine tq_iload_n dLw_node_5 rfl rfl ?_
  refine tq_iload_n dLw_node_6 rfl rfl ?_
  refine tq_iload dLw_node_7 rfl ?_
  refine tq_iload dLw_node_9 rfl ?_
  obtain ⟨a1, e2, f3, hw⟩ := hw
  refine te_callV mv_TP_node (ci := 12) (dc := 8) (as := [vI x1, vI x2, vI x3, vI x4, vI x5]) (rest := [vI (0 : Int32), vR x6]) kLw_23 rfl (Nat.le_of_ble_eq_true rfl) (Nat.le_of_ble_eq_true rfl) rfl rfl e2 f3 (Nat.le_of_ble_eq_true rfl) dLw_node_11 (s_TP_node hw) ?_ (tk_i fun v5 h4 hw => ?_)
  · intro E h6 hw
    rcases hw with ⟨rfl, hw⟩ | ⟨rfl, hw⟩ | ⟨rfl, hw⟩
    · refine tpXx.catch (ls' := [some (vR x0), some (vI x1), some (vI x2), some (vI x3), some (vI x4), some (vI x5), some (vR x6), none]) [] ⟨0, 16, 19, 21⟩ [⟨0, 16, 23, 13⟩, ⟨0, 16, 27, 15⟩] rfl (fun _ hz => nomatch hz) (by decide) (by decide) cLw_21 (Or.inl ⟨dLw_node_19, rfl⟩) (Nat.le_of_ble_eq_true rfl) rfl ?_
      refine tq_iconst (v := (1 : Int32)) dLw_node_21 tni_1 ?_
      exact tq_iret rfl rfl dLw_node_22 hw
    · refine tpXx.catch (ls' := [some (vR x0), some (vI x1), some (vI x2), some (vI x3), some (vI x4), some (vI x5), some (vR x6), none]) [⟨0, 16, 19, 21⟩] ⟨0, 16, 23, 13⟩ [⟨0, 16, 27, 15⟩] rfl (List.forall_mem_cons.mpr ⟨Or.inr ⟨by decide, _, cLw_21, by decide +kernel⟩, fun _ hz => nomatch hz⟩) (by decide) (by decide) cLw_13 (Or.inl ⟨dLw_node_23, rfl⟩) (Nat.le_of_ble_eq_true rfl) rfl ?_
      refine tq_iconst (v := (2 : Int32)) dLw_node_25 tni_2 ?_
      exact tq_iret rfl rfl dLw_node_26 hw
    · refine tpXx.catch (ls' := [some (vR x0), some (vI x1), some (vI x2), some (vI x3), some (vI x4), some (vI x5), some (vR x6), none]) [⟨0, 16, 19, 21⟩, ⟨0, 16, 23, 13⟩] ⟨0, 16, 27, 15⟩ [] rfl (List.forall_mem_cons.mpr ⟨Or.inr ⟨by decide, _, cLw_21, by decide +kernel⟩, List.forall_mem_cons.mpr ⟨Or.inr ⟨by decide, _, cLw_13, by decide +kernel⟩, fun _ hz => nomatch hz⟩⟩) (by decide) (by decide) cLw_15 (Or.inl ⟨dLw_node_27, rfl⟩) (Nat.le_of_ble_eq_true rfl) rfl ?_
      refine tq_iconst (v := (3 : Int32)) dLw_node_29 tni_3 ?_
      exact tq_iret rfl rfl dLw_node_30 hw
  refine tq_i2l dLw_node_14 ?_
  obtain ⟨a7, e8, f9, hw⟩ := hw
  obtain ⟨f10, hw⟩ := hw
  refine te_last dLw_node_15 e8 f9 f10 (fun h11 e12 => ?_)
  have hw := hw h11 e12
  refine tq_goto (tgt := 31) dLw_node_16 (by decide) ?_
  refine tq_iconst (v := (0 : Int32)) dLw_node_31 tni_0 ?_
  exact tq_iret rfl rfl dLw_node_32 hw
/-! TLaw.set -/
theorem dLw_set_0 : decode (mB Lw_set) 0 = .ok (.aload_n 3, 1) := by decide +kernel
theorem dLw_set_1 : decode (mB Lw_set) 1 = .ok (.iconst 0, 1) := by decide +kernel
theorem dLw_set_2 : decode (mB Lw_set) 2 = .ok (.aload_n 0, 1) := by decide +kernel
theorem dLw_set_3 : decode (mB Lw_set) 3 = .ok (.iload_n 1, 1) := by decide +kernel
theorem dLw_set_4 : decode (mB Lw_set) 4 = .ok (.iload_n 2, 1) := by decide +kernel
theorem dLw_set_5 : decode (mB Lw_set) 5 = .ok (.invokevirtual 27, 3) := by decide +kernel
theorem dLw_set_8 : decode (mB Lw_set) 8 = .ok (.i2l, 1) := by decide +kernel
theorem dLw_set_9 : decode (mB Lw_set) 9 = .ok (.lastore, 1) := by decide +kernel
theorem dLw_set_10 : decode (mB Lw_set) 10 = .ok (.goto 11, 3) := by decide +kernel
theorem dLw_set_13 : decode (mB Lw_set) 13 = .ok (.astore 4, 2) := by decide +kernel
theorem dLw_set_15 : decode (mB Lw_set) 15 = .ok (.iconst 1, 1) := by decide +kernel
theorem dLw_set_16 : decode (mB Lw_set) 16 = .ok (.ireturn, 1) := by decide +kernel
theorem dLw_set_17 : decode (mB Lw_set) 17 = .ok (.astore 4, 2) := by decide +kernel
theorem dLw_set_19 : decode (mB Lw_set) 19 = .ok (.iconst 2, 1) := by decide +kernel
theorem dLw_set_20 : decode (mB Lw_set) 20 = .ok (.ireturn, 1) := by decide +kernel
theorem dLw_set_21 : decode (mB Lw_set) 21 = .ok (.iconst 0, 1) := by decide +kernel
theorem dLw_set_22 : decode (mB Lw_set) 22 = .ok (.ireturn, 1) := by decide +kernel
def w_Lw_set (x0 : Option Nat) (x1 : Int32) (x2 : Int32) (x3 : Option Nat) (h : tpH) (R : Int32 → tpH → Prop) : Prop :=
  ∃ a1, x0 = some a1 ∧ hT h a1 = 13 ∧ (w_TP_set a1 x1 x2 h (fun E h6 => (E = "java/lang/IndexOutOfBoundsException" ∧ (R (1 : Int32) h6)) ∨ (E = "java/lang/IllegalArgumentException" ∧ (R (2 : Int32) h6))) (fun v5 h4 => ∃ a7, x3 = some a7 ∧ hT h4 a7 = 17 ∧ (vp_in (0 : Int32) (hL h4 a7) ∧ (∀ h11, h11 = sJ h4 a7 (0 : Int32).toNatClampNeg (v5.toInt64) → (R (0 : Int32) h11)))))
theorem s_Lw_set {x0 : Option Nat} {x1 : Int32} {x2 : Int32} {x3 : Option Nat} {h : tpH} {R : Int32 → tpH → Prop} (hw : w_Lw_set x0 x1 x2 x3 h R) : tpC Lw_set 8 [vR x0, vI x1, vI x2, vR x3] h (tpOi R (fun _ _ => False)) := by
  refine tpC_ofH ms_Lw_set.2.2.2 (by intro hz; cases hz) rfl (Nat.le_of_ble_eq_true rfl) ?_
  show tpR Lw_set 8 h _ _ 0 [some (vR x0), some (vI x1), some (vI x2), some (vR x3), none] [] h
  unfold w_Lw_set at hw
  refine tq_aload_n dLw_set_0 rfl rfl ?_
  refine tq_iconst (v := (0 : Int32)) dLw_set_1 tni_0 ?_
  refine tq_aload_n dLw_set_2 rfl rfl ?_
  refine tq_iload_n dLw_set_3 rfl rfl ?_
  refine tq_iload_n dLw_set_4 rfl rfl ?_
  obtain ⟨a1, e2, f3, hw⟩ := hw
  refine te_callV mv_TP_set (ci := 12) (dc := 7) (as := [vI x1, vI x2]) (rest := [vI (0 : Int32), vR x3]) kLw_27 rfl (Nat.le_of_ble_eq_true rfl) (Nat.le_of_ble_eq_true rfl) rfl rfl e2 f3 (Nat.le_of_ble_eq_true rfl) dLw_set_5 (s_TP_set hw) ?_ (tk_i fun v5 h4 hw => ?_)
  · intro E h6 hw
    rcases hw with ⟨rfl, hw⟩ | ⟨rfl, hw⟩
    · refine tpXx.catch (ls' := [some (vR x0), some (vI x1), some (vI x2), some (vR x3), none]) [] ⟨0, 10, 13, 21⟩ [⟨0, 10, 17, 13⟩] rfl (fun _ hz => nomatch hz) (by decide) (by decide) cLw_21 (Or.inl ⟨dLw_set_13, rfl⟩) (Nat.le_of_ble_eq_true rfl) rfl ?_
      refine tq_iconst (v := (1 : Int32)) dLw_set_15 tni_1 ?_
      exact tq_iret rfl rfl dLw_set_16 hw
    · refine tpXx.catch (ls' := [some (vR x0), some (vI x1), some (vI x2), some (vR x3), none]) [⟨0, 10, 13, 21⟩] ⟨0, 10, 17, 13⟩ [] rfl (List.forall_mem_cons.mpr ⟨Or.inr ⟨by decide, _, cLw_21, by decide +kernel⟩, fun _ hz => nomatch hz⟩) (by decide) (by decide) cLw_13 (Or.inl ⟨dLw_set_17, rfl⟩) (Nat.le_of_ble_eq_true rfl) rfl ?_
      refine tq_iconst (v := (2 : Int32)) dLw_set_19 tni_2 ?_
      exact tq_iret rfl rfl dLw_set_20 hw
  refine tq_i2l dLw_set_8 ?_
  obtain ⟨a7, e8, f9, hw⟩ := hw
  obtain ⟨f10, hw⟩ := hw
  refine te_last dLw_set_9 e8 f9 f10 (fun h11 e12 => ?_)
  have hw := hw h11 e12
  refine tq_goto (tgt := 21) dLw_set_10 (by decide) ?_
  refine tq_iconst (v := (0 : Int32)) dLw_set_21 tni_0 ?_
  exact tq_iret rfl rfl dLw_set_22 hw
/-! TLaw.move -/
theorem dLw_move_0 : decode (mB Lw_move) 0 = .ok (.aload 4, 2) := by decide +kernel
theorem dLw_move_2 : decode (mB Lw_move) 2 = .ok (.iconst 0, 1) := by decide +kernel
theorem dLw_move_3 : decode (mB Lw_move) 3 = .ok (.aload_n 0, 1) := by decide +kernel
theorem dLw_move_4 : decode (mB Lw_move) 4 = .ok (.iload_n 1, 1) := by decide +kernel
theorem dLw_move_5 : decode (mB Lw_move) 5 = .ok (.iload_n 2, 1) := by decide +kernel
theorem dLw_move_6 : decode (mB Lw_move) 6 = .ok (.iload_n 3, 1) := by decide +kernel
theorem dLw_move_7 : decode (mB Lw_move) 7 = .ok (.invokevirtual 31, 3) := by decide +kernel
theorem dLw_move_10 : decode (mB Lw_move) 10 = .ok (.i2l, 1) := by decide +kernel
theorem dLw_move_11 : decode (mB Lw_move) 11 = .ok (.lastore, 1) := by decide +kernel
theorem dLw_move_12 : decode (mB Lw_move) 12 = .ok (.goto 11, 3) := by decide +kernel
theorem dLw_move_15 : decode (mB Lw_move) 15 = .ok (.astore 5, 2) := by decide +kernel
theorem dLw_move_17 : decode (mB Lw_move) 17 = .ok (.iconst 1, 1) := by decide +kernel
theorem dLw_move_18 : decode (mB Lw_move) 18 = .ok (.ireturn, 1) := by decide +kernel
theorem dLw_move_19 : decode (mB Lw_move) 19 = .ok (.astore 5, 2) := by decide +kernel
theorem dLw_move_21 : decode (mB Lw_move) 21 = .ok (.iconst 2, 1) := by decide +kernel
theorem dLw_move_22 : decode (mB Lw_move) 22 = .ok (.ireturn, 1) := by decide +kernel
theorem dLw_move_23 : decode (mB Lw_move) 23 = .ok (.iconst 0, 1) := by decide +kernel
theorem dLw_move_24 : decode (mB Lw_move) 24 = .ok (.ireturn, 1) := by decide +kernel
def w_Lw_move (x0 : Option Nat) (x1 : Int32) (x2 : Int32) (x3 : Int32) (x4 : Option Nat) (h : tpH) (R : Int32 → tpH → Prop) : Prop :=
  ∃ a1, x0 = some a1 ∧ hT h a1 = 13 ∧ (w_TP_move a1 x1 x2 x3 h (fun E h6 => (E = "java/lang/IndexOutOfBoundsException" ∧ (R (1 : Int32) h6)) ∨ (E = "java/lang/IllegalStateException" ∧ (R (2 : Int32) h6))) (fun v5 h4 => ∃ a7, x4 = some a7 ∧ hT h4 a7 = 17 ∧ (vp_in (0 : Int32) (hL h4 a7) ∧ (∀ h11, h11 = sJ h4 a7 (0 : Int32).toNatClampNeg (v5.toInt64) → (R (0 : Int32) h11)))))
theorem s_Lw_move {x0 : Option Nat} {x1 : Int32} {x2 : Int32} {x3 : Int32} {x4 : Option Nat} {h : tpH} {R : Int32 → tpH → Prop} (hw : w_Lw_move x0 x1 x2 x3 x4 h R) : tpC Lw_move 8 [vR x0, vI x1, vI x2, vI x3, vR x4] h (tpOi R (fun _ _ => False)) := by
  refine tpC_ofH ms_Lw_move.2.2.2 (by intro hz; cases hz) rfl (Nat.le_of_ble_eq_true rfl) ?_
  show tpR Lw_move 8 h _ _ 0 [some (vR x0), some (vI x1), some (vI x2), some (vI x3), some (vR x4), none] [] h
  unfold w_Lw_move at hw
  refine tq_aload dLw_move_0 rfl ?_
  refine tq_iconst (v := (0 : Int32)) dLw_move_2 tni_0 ?_
  refine tq_aload_n dLw_move_3 rfl rfl ?_
  refine tq_iload_n dLw_move_4 rfl rfl ?_
  refine tq_iload_n dLw_move_5 rfl rfl ?_
  refine tq_iload_n dLw_move_6 rfl rfl ?_
  obtain ⟨a1, e2, f3, hw⟩ := hw
  refine te_callV mv_TP_move (ci := 12) (dc := 7) (as := [vI x1, vI x2, vI x3]) (rest := [vI (0 : Int32), vR x4]) kLw_31 rfl (Nat.le_of_ble_eq_true rfl) (Nat.le_of_ble_eq_true rfl) rfl rfl e2 f3 (Nat.le_of_ble_eq_true rfl) dLw_move_7 (s_TP_move hw) ?_ (tk_i fun v5 h4 hw => ?_)
  · intro E h6 hw
    rcases hw with ⟨rfl, hw⟩ | ⟨rfl, hw⟩
    · refine tpXx.catch (ls' := [some (vR x0), some (vI x1), some (vI x2), some (vI x3), some (vR x4), none]) [] ⟨0, 12, 15, 21⟩ [⟨0, 12, 19, 15⟩] rfl (fun _ hz => nomatch hz) (by decide) (by decide) cLw_21 (Or.inl ⟨dLw_move_15, rfl⟩) (Nat.le_of_ble_eq_true rfl) rfl ?_
      refine tq_iconst (v := (1 : Int32)) dLw_move_17 tni_1 ?_
      exact tq_iret rfl rfl dLw_move_18 hw
    · refine tpXx.catch (ls' := [some (vR x0), some (vI x1), some (vI x2), some (vI x3), some (vR x4), none]) [⟨0, 12, 15, 21⟩] ⟨0, 12, 19, 15⟩ [] rfl (List.forall_mem_cons.mpr ⟨Or.inr ⟨by decide, _, cLw_21, by decide +kernel⟩, fun _ hz => nomatch hz⟩) (by decide) (by decide) cLw_15 (Or.inl ⟨dLw_move_19, rfl⟩) (Nat.le_of_ble_eq_true rfl) rfl ?_
      refine tq_iconst (v := (2 : Int32)) dLw_move_21 tni_2 ?_
      exact tq_iret rfl rfl dLw_move_22 hw
  refine tq_i2l dLw_move_10 ?_
  obtain ⟨a7, e8, f9, hw⟩ := hw
  obtain ⟨f10, hw⟩ := hw
  refine te_last dLw_move_11 e8 f9 f10 (fun h11 e12 => ?_)
  have hw := hw h11 e12
  refine tq_goto (tgt := 23) dLw_move_12 (by decide) ?_
  refine tq_iconst (v := (0 : Int32)) dLw_move_23 tni_0 ?_
  exact tq_iret rfl rfl dLw_move_24 hw
/-! TLaw.drop -/
theorem dLw_drop_0 : decode (mB Lw_drop) 0 = .ok (.aload_n 2, 1) := by decide +kernel
theorem dLw_drop_1 : decode (mB Lw_drop) 1 = .ok (.iconst 0, 1) := by decide +kernel
theorem dLw_drop_2 : decode (mB Lw_drop) 2 = .ok (.aload_n 0, 1) := by decide +kernel
theorem dLw_drop_3 : decode (mB Lw_drop) 3 = .ok (.iload_n 1, 1) := by decide +kernel
theorem dLw_drop_4 : decode (mB Lw_drop) 4 = .ok (.invokevirtual 34, 3) := by decide +kernel
theorem dLw_drop_7 : decode (mB Lw_drop) 7 = .ok (.i2l, 1) := by decide +kernel
theorem dLw_drop_8 : decode (mB Lw_drop) 8 = .ok (.lastore, 1) := by decide +kernel
theorem dLw_drop_9 : decode (mB Lw_drop) 9 = .ok (.goto 9, 3) := by decide +kernel
theorem dLw_drop_12 : decode (mB Lw_drop) 12 = .ok (.astore_n 3, 1) := by decide +kernel
theorem dLw_drop_13 : decode (mB Lw_drop) 13 = .ok (.iconst 1, 1) := by decide +kernel
theorem dLw_drop_14 : decode (mB Lw_drop) 14 = .ok (.ireturn, 1) := by decide +kernel
theorem dLw_drop_15 : decode (mB Lw_drop) 15 = .ok (.astore_n 3, 1) := by decide +kernel
theorem dLw_drop_16 : decode (mB Lw_drop) 16 = .ok (.iconst 2, 1) := by decide +kernel
theorem dLw_drop_17 : decode (mB Lw_drop) 17 = .ok (.ireturn, 1) := by decide +kernel
theorem dLw_drop_18 : decode (mB Lw_drop) 18 = .ok (.iconst 0, 1) := by decide +kernel
theorem dLw_drop_19 : decode (mB Lw_drop) 19 = .ok (.ireturn, 1) := by decide +kernel
def w_Lw_drop (x0 : Option Nat) (x1 : Int32) (x2 : Option Nat) (h : tpH) (R : Int32 → tpH → Prop) : Prop :=
  ∃ a1, x0 = some a1 ∧ hT h a1 = 13 ∧ (w_TP_drop a1 x1 h (fun E h6 => (E = "java/lang/IndexOutOfBoundsException" ∧ (R (1 : Int32) h6)) ∨ (E = "java/lang/IllegalStateException" ∧ (R (2 : Int32) h6))) (fun v5 h4 => ∃ a7, x2 = some a7 ∧ hT h4 a7 = 17 ∧ (vp_in (0 : Int32) (hL h4 a7) ∧ (∀ h11, h11 = sJ h4 a7 (0 : Int32).toNatClampNeg (v5.toInt64) → (R (0 : Int32) h11)))))
theorem s_Lw_drop {x0 : Option Nat} {x1 : Int32} {x2 : Option Nat} {h : tpH} {R : Int32 → tpH → Prop} (hw : w_Lw_drop x0 x1 x2 h R) : tpC Lw_drop 8 [vR x0, vI x1, vR x2] h (tpOi R (fun _ _ => False)) := by
  refine tpC_ofH ms_Lw_drop.2.2.2 (by intro hz; cases hz) rfl (Nat.le_of_ble_eq_true rfl) ?_
  show tpR Lw_drop 8 h _ _ 0 [some (vR x0), some (vI x1), some (vR x2), none] [] h
  unfold w_Lw_drop at hw
  refine tq_aload_n dLw_drop_0 rfl rfl ?_
  refine tq_iconst (v := (0 : Int32)) dLw_drop_1 tni_0 ?_
  refine tq_aload_n dLw_drop_2 rfl rfl ?_
  refine tq_iload_n dLw_drop_3 rfl rfl ?_
  obtain ⟨a1, e2, f3, hw⟩ := hw
  refine te_callV mv_TP_drop (ci := 12) (dc := 7) (as := [vI x1]) (rest := [vI (0 : Int32), vR x2]) kLw_34 rfl (Nat.le_of_ble_eq_true rfl) (Nat.le_of_ble_eq_true rfl) rfl rfl e2 f3 (Nat.le_of_ble_eq_true rfl) dLw_drop_4 (s_TP_drop hw) ?_ (tk_i fun v5 h4 hw => ?_)
  · intro E h6 hw
    rcases hw with ⟨rfl, hw⟩ | ⟨rfl, hw⟩
    · refine tpXx.catch (ls' := [some (vR x0), some (vI x1), some (vR x2), none]) [] ⟨0, 9, 12, 21⟩ [⟨0, 9, 15, 15⟩] rfl (fun _ hz => nomatch hz) (by decide) (by decide) cLw_21 (Or.inr ⟨3, rfl, dLw_drop_12, rfl⟩) (Nat.le_of_ble_eq_true rfl) rfl ?_
      refine tq_iconst (v := (1 : Int32)) dLw_drop_13 tni_1 ?_
      exact tq_iret rfl rfl dLw_drop_14 hw
    · refine tpXx.catch (ls' := [some (vR x0), some (vI x1), some (vR x2), none]) [⟨0, 9, 12, 21⟩] ⟨0, 9, 15, 15⟩ [] rfl (List.forall_mem_cons.mpr ⟨Or.inr ⟨by decide, _, cLw_21, by decide +kernel⟩, fun _ hz => nomatch hz⟩) (by decide) (by decide) cLw_15 (Or.inr ⟨3, rfl, dLw_drop_15, rfl⟩) (Nat.le_of_ble_eq_true rfl) rfl ?_
      refine tq_iconst (v := (2 : Int32)) dLw_drop_16 tni_2 ?_
      exact tq_iret rfl rfl dLw_drop_17 hw
  refine tq_i2l dLw_drop_7 ?_
  obtain ⟨a7, e8, f9, hw⟩ := hw
  obtain ⟨f10, hw⟩ := hw
  refine te_last dLw_drop_8 e8 f9 f10 (fun h11 e12 => ?_)
  have hw := hw h11 e12
  refine tq_goto (tgt := 18) dLw_drop_9 (by decide) ?_
  refine tq_iconst (v := (0 : Int32)) dLw_drop_18 tni_0 ?_
  exact tq_iret rfl rfl dLw_drop_19 hw
/-! TLaw.seal -/
theorem dLw_seal_0 : decode (mB Lw_seal) 0 = .ok (.aload_n 1, 1) := by decide +kernel
theorem dLw_seal_1 : decode (mB Lw_seal) 1 = .ok (.iconst 0, 1) := by decide +kernel
theorem dLw_seal_2 : decode (mB Lw_seal) 2 = .ok (.aload_n 0, 1) := by decide +kernel
theorem dLw_seal_3 : decode (mB Lw_seal) 3 = .ok (.invokevirtual 37, 3) := by decide +kernel
theorem dLw_seal_6 : decode (mB Lw_seal) 6 = .ok (.i2l, 1) := by decide +kernel
theorem dLw_seal_7 : decode (mB Lw_seal) 7 = .ok (.lastore, 1) := by decide +kernel
theorem dLw_seal_8 : decode (mB Lw_seal) 8 = .ok (.goto 6, 3) := by decide +kernel
theorem dLw_seal_11 : decode (mB Lw_seal) 11 = .ok (.astore_n 2, 1) := by decide +kernel
theorem dLw_seal_12 : decode (mB Lw_seal) 12 = .ok (.iconst 1, 1) := by decide +kernel
theorem dLw_seal_13 : decode (mB Lw_seal) 13 = .ok (.ireturn, 1) := by decide +kernel
theorem dLw_seal_14 : decode (mB Lw_seal) 14 = .ok (.iconst 0, 1) := by decide +kernel
theorem dLw_seal_15 : decode (mB Lw_seal) 15 = .ok (.ireturn, 1) := by decide +kernel
def w_Lw_seal (x0 : Option Nat) (x1 : Option Nat) (h : tpH) (R : Int32 → tpH → Prop) : Prop :=
  ∃ a1, x0 = some a1 ∧ hT h a1 = 13 ∧ (w_TP_seal a1 h (fun E h6 => (E = "java/lang/IllegalStateException" ∧ (R (1 : Int32) h6))) (fun v5 h4 => ∃ a7, x1 = some a7 ∧ hT h4 a7 = 17 ∧ (vp_in (0 : Int32) (hL h4 a7) ∧ (∀ h11, h11 = sJ h4 a7 (0 : Int32).toNatClampNeg (v5.toInt64) → (R (0 : Int32) h11)))))
theorem s_Lw_seal {x0 : Option Nat} {x1 : Option Nat} {h : tpH} {R : Int32 → tpH → Prop} (hw : w_Lw_seal x0 x1 h R) : tpC Lw_seal 8 [vR x0, vR x1] h (tpOi R (fun _ _ => False)) := by
  refine tpC_ofH ms_Lw_seal.2.2.2 (by intro hz; cases hz) rfl (Nat.le_of_ble_eq_true rfl) ?_
  show tpR Lw_seal 8 h _ _ 0 [some (vR x0), some (vR x1), none] [] h
  unfold w_Lw_seal at hw
  refine tq_aload_n dLw_seal_0 rfl rfl ?_
  refine tq_iconst (v := (0 : Int32)) dLw_seal_1 tni_0 ?_
  refine tq_aload_n dLw_seal_2 rfl rfl ?_
  obtain ⟨a1, e2, f3, hw⟩ := hw
  refine te_callV mv_TP_seal (ci := 12) (dc := 7) (as := []) (rest := [vI (0 : Int32), vR x1]) kLw_37 rfl (Nat.le_of_ble_eq_true rfl) (Nat.le_of_ble_eq_true rfl) rfl rfl e2 f3 (Nat.le_of_ble_eq_true rfl) dLw_seal_3 (s_TP_seal hw) ?_ (tk_i fun v5 h4 hw => ?_)
  · intro E h6 hw
    obtain ⟨rfl, hw⟩ := hw
    refine tpXx.catch (ls' := [some (vR x0), some (vR x1), none]) [] ⟨0, 8, 11, 15⟩ [] rfl (fun _ hz => nomatch hz) (by decide) (by decide) cLw_15 (Or.inr ⟨2, rfl, dLw_seal_11, rfl⟩) (Nat.le_of_ble_eq_true rfl) rfl ?_
    refine tq_iconst (v := (1 : Int32)) dLw_seal_12 tni_1 ?_
    exact tq_iret rfl rfl dLw_seal_13 hw
  refine tq_i2l dLw_seal_6 ?_
  obtain ⟨a7, e8, f9, hw⟩ := hw
  obtain ⟨f10, hw⟩ := hw
  refine te_last dLw_seal_7 e8 f9 f10 (fun h11 e12 => ?_)
  have hw := hw h11 e12
  refine tq_goto (tgt := 14) dLw_seal_8 (by decide) ?_
  refine tq_iconst (v := (0 : Int32)) dLw_seal_14 tni_0 ?_
  exact tq_iret rfl rfl dLw_seal_15 hw
/-! TLaw.find -/
theorem dLw_find_0 : decode (mB Lw_find) 0 = .ok (.aload_n 3, 1) := by decide +kernel
theorem dLw_find_1 : decode (mB Lw_find) 1 = .ok (.iconst 0, 1) := by decide +kernel
theorem dLw_find_2 : decode (mB Lw_find) 2 = .ok (.aload_n 0, 1) := by decide +kernel
theorem dLw_find_3 : decode (mB Lw_find) 3 = .ok (.iload_n 1, 1) := by decide +kernel
theorem dLw_find_4 : decode (mB Lw_find) 4 = .ok (.iload_n 2, 1) := by decide +kernel
theorem dLw_find_5 : decode (mB Lw_find) 5 = .ok (.invokevirtual 41, 3) := by decide +kernel
theorem dLw_find_8 : decode (mB Lw_find) 8 = .ok (.i2l, 1) := by decide +kernel
theorem dLw_find_9 : decode (mB Lw_find) 9 = .ok (.lastore, 1) := by decide +kernel
theorem dLw_find_10 : decode (mB Lw_find) 10 = .ok (.goto 11, 3) := by decide +kernel
theorem dLw_find_13 : decode (mB Lw_find) 13 = .ok (.astore 4, 2) := by decide +kernel
theorem dLw_find_15 : decode (mB Lw_find) 15 = .ok (.iconst 1, 1) := by decide +kernel
theorem dLw_find_16 : decode (mB Lw_find) 16 = .ok (.ireturn, 1) := by decide +kernel
theorem dLw_find_17 : decode (mB Lw_find) 17 = .ok (.astore 4, 2) := by decide +kernel
theorem dLw_find_19 : decode (mB Lw_find) 19 = .ok (.iconst 2, 1) := by decide +kernel
theorem dLw_find_20 : decode (mB Lw_find) 20 = .ok (.ireturn, 1) := by decide +kernel
theorem dLw_find_21 : decode (mB Lw_find) 21 = .ok (.iconst 0, 1) := by decide +kernel
theorem dLw_find_22 : decode (mB Lw_find) 22 = .ok (.ireturn, 1) := by decide +kernel
def w_Lw_find (x0 : Option Nat) (x1 : Int32) (x2 : Int32) (x3 : Option Nat) (h : tpH) (R : Int32 → tpH → Prop) : Prop :=
  ∃ a1, x0 = some a1 ∧ hT h a1 = 13 ∧ (w_TP_find a1 x1 x2 h (fun E h6 => (E = "java/lang/IndexOutOfBoundsException" ∧ (R (1 : Int32) h6)) ∨ (E = "java/lang/IllegalStateException" ∧ (R (2 : Int32) h6))) (fun v5 h4 => ∃ a7, x3 = some a7 ∧ hT h4 a7 = 17 ∧ (vp_in (0 : Int32) (hL h4 a7) ∧ (∀ h11, h11 = sJ h4 a7 (0 : Int32).toNatClampNeg (v5.toInt64) → (R (0 : Int32) h11)))))
theorem s_Lw_find {x0 : Option Nat} {x1 : Int32} {x2 : Int32} {x3 : Option Nat} {h : tpH} {R : Int32 → tpH → Prop} (hw : w_Lw_find x0 x1 x2 x3 h R) : tpC Lw_find 8 [vR x0, vI x1, vI x2, vR x3] h (tpOi R (fun _ _ => False)) := by
  refine tpC_ofH ms_Lw_find.2.2.2 (by intro hz; cases hz) rfl (Nat.le_of_ble_eq_true rfl) ?_
  show tpR Lw_find 8 h _ _ 0 [some (vR x0), some (vI x1), some (vI x2), some (vR x3), none] [] h
  unfold w_Lw_find at hw
  refine tq_aload_n dLw_find_0 rfl rfl ?_
  refine tq_iconst (v := (0 : Int32)) dLw_find_1 tni_0 ?_
  refine tq_aload_n dLw_find_2 rfl rfl ?_
  refine tq_iload_n dLw_find_3 rfl rfl ?_
  refine tq_iload_n dLw_find_4 rfl rfl ?_
  obtain ⟨a1, e2, f3, hw⟩ := hw
  refine te_callV mv_TP_find (ci := 12) (dc := 7) (as := [vI x1, vI x2]) (rest := [vI (0 : Int32), vR x3]) kLw_41 rfl (Nat.le_of_ble_eq_true rfl) (Nat.le_of_ble_eq_true rfl) rfl rfl e2 f3 (Nat.le_of_ble_eq_true rfl) dLw_find_5 (s_TP_find hw) ?_ (tk_i fun v5 h4 hw => ?_)
  · intro E h6 hw
    rcases hw with ⟨rfl, hw⟩ | ⟨rfl, hw⟩
    · refine tpXx.catch (ls' := [some (vR x0), some (vI x1), some (vI x2), some (vR x3), none]) [] ⟨0, 10, 13, 21⟩ [⟨0, 10, 17, 15⟩] rfl (fun _ hz => nomatch hz) (by decide) (by decide) cLw_21 (Or.inl ⟨dLw_find_13, rfl⟩) (Nat.le_of_ble_eq_true rfl) rfl ?_
      refine tq_iconst (v := (1 : Int32)) dLw_find_15 tni_1 ?_
      exact tq_iret rfl rfl dLw_find_16 hw
    · refine tpXx.catch (ls' := [some (vR x0), some (vI x1), some (vI x2), some (vR x3), none]) [⟨0, 10, 13, 21⟩] ⟨0, 10, 17, 15⟩ [] rfl (List.forall_mem_cons.mpr ⟨Or.inr ⟨by decide, _, cLw_21, by decide +kernel⟩, fun _ hz => nomatch hz⟩) (by decide) (by decide) cLw_15 (Or.inl ⟨dLw_find_17, rfl⟩) (Nat.le_of_ble_eq_true rfl) rfl ?_
      refine tq_iconst (v := (2 : Int32)) dLw_find_19 tni_2 ?_
      exact tq_iret rfl rfl dLw_find_20 hw
  refine tq_i2l dLw_find_8 ?_
  obtain ⟨a7, e8, f9, hw⟩ := hw
  obtain ⟨f10, hw⟩ := hw
  refine te_last dLw_find_9 e8 f9 f10 (fun h11 e12 => ?_)
  have hw := hw h11 e12
  refine tq_goto (tgt := 21) dLw_find_10 (by decide) ?_
  refine tq_iconst (v := (0 : Int32)) dLw_find_21 tni_0 ?_
  exact tq_iret rfl rfl dLw_find_22 hw
/-! TLaw.turn -/
theorem dLw_turn_0 : decode (mB Lw_turn) 0 = .ok (.aload_n 2, 1) := by decide +kernel
theorem dLw_turn_1 : decode (mB Lw_turn) 1 = .ok (.iconst 0, 1) := by decide +kernel
theorem dLw_turn_2 : decode (mB Lw_turn) 2 = .ok (.aload_n 0, 1) := by decide +kernel
theorem dLw_turn_3 : decode (mB Lw_turn) 3 = .ok (.iload_n 1, 1) := by decide +kernel
theorem dLw_turn_4 : decode (mB Lw_turn) 4 = .ok (.invokevirtual 44, 3) := by decide +kernel
theorem dLw_turn_7 : decode (mB Lw_turn) 7 = .ok (.i2l, 1) := by decide +kernel
theorem dLw_turn_8 : decode (mB Lw_turn) 8 = .ok (.lastore, 1) := by decide +kernel
theorem dLw_turn_9 : decode (mB Lw_turn) 9 = .ok (.goto 9, 3) := by decide +kernel
theorem dLw_turn_12 : decode (mB Lw_turn) 12 = .ok (.astore_n 3, 1) := by decide +kernel
theorem dLw_turn_13 : decode (mB Lw_turn) 13 = .ok (.iconst 1, 1) := by decide +kernel
theorem dLw_turn_14 : decode (mB Lw_turn) 14 = .ok (.ireturn, 1) := by decide +kernel
theorem dLw_turn_15 : decode (mB Lw_turn) 15 = .ok (.astore_n 3, 1) := by decide +kernel
theorem dLw_turn_16 : decode (mB Lw_turn) 16 = .ok (.iconst 2, 1) := by decide +kernel
theorem dLw_turn_17 : decode (mB Lw_turn) 17 = .ok (.ireturn, 1) := by decide +kernel
theorem dLw_turn_18 : decode (mB Lw_turn) 18 = .ok (.iconst 0, 1) := by decide +kernel
theorem dLw_turn_19 : decode (mB Lw_turn) 19 = .ok (.ireturn, 1) := by decide +kernel
def w_Lw_turn (x0 : Option Nat) (x1 : Int32) (x2 : Option Nat) (h : tpH) (R : Int32 → tpH → Prop) : Prop :=
  ∃ a1, x0 = some a1 ∧ hT h a1 = 13 ∧ (w_TP_turn a1 x1 h (fun E h6 => (E = "java/lang/IndexOutOfBoundsException" ∧ (R (1 : Int32) h6)) ∨ (E = "java/lang/IllegalStateException" ∧ (R (2 : Int32) h6))) (fun v5 h4 => ∃ a7, x2 = some a7 ∧ hT h4 a7 = 17 ∧ (vp_in (0 : Int32) (hL h4 a7) ∧ (∀ h11, h11 = sJ h4 a7 (0 : Int32).toNatClampNeg (v5.toInt64) → (R (0 : Int32) h11)))))
theorem s_Lw_turn {x0 : Option Nat} {x1 : Int32} {x2 : Option Nat} {h : tpH} {R : Int32 → tpH → Prop} (hw : w_Lw_turn x0 x1 x2 h R) : tpC Lw_turn 8 [vR x0, vI x1, vR x2] h (tpOi R (fun _ _ => False)) := by
  refine tpC_ofH ms_Lw_turn.2.2.2 (by intro hz; cases hz) rfl (Nat.le_of_ble_eq_true rfl) ?_
  show tpR Lw_turn 8 h _ _ 0 [some (vR x0), some (vI x1), some (vR x2), none] [] h
  unfold w_Lw_turn at hw
  refine tq_aload_n dLw_turn_0 rfl rfl ?_
  refine tq_iconst (v := (0 : Int32)) dLw_turn_1 tni_0 ?_
  refine tq_aload_n dLw_turn_2 rfl rfl ?_
  refine tq_iload_n dLw_turn_3 rfl rfl ?_
  obtain ⟨a1, e2, f3, hw⟩ := hw
  refine te_callV mv_TP_turn (ci := 12) (dc := 7) (as := [vI x1]) (rest := [vI (0 : Int32), vR x2]) kLw_44 rfl (Nat.le_of_ble_eq_true rfl) (Nat.le_of_ble_eq_true rfl) rfl rfl e2 f3 (Nat.le_of_ble_eq_true rfl) dLw_turn_4 (s_TP_turn hw) ?_ (tk_i fun v5 h4 hw => ?_)
  · intro E h6 hw
    rcases hw with ⟨rfl, hw⟩ | ⟨rfl, hw⟩
    · refine tpXx.catch (ls' := [some (vR x0), some (vI x1), some (vR x2), none]) [] ⟨0, 9, 12, 21⟩ [⟨0, 9, 15, 15⟩] rfl (fun _ hz => nomatch hz) (by decide) (by decide) cLw_21 (Or.inr ⟨3, rfl, dLw_turn_12, rfl⟩) (Nat.le_of_ble_eq_true rfl) rfl ?_
      refine tq_iconst (v := (1 : Int32)) dLw_turn_13 tni_1 ?_
      exact tq_iret rfl rfl dLw_turn_14 hw
    · refine tpXx.catch (ls' := [some (vR x0), some (vI x1), some (vR x2), none]) [⟨0, 9, 12, 21⟩] ⟨0, 9, 15, 15⟩ [] rfl (List.forall_mem_cons.mpr ⟨Or.inr ⟨by decide, _, cLw_21, by decide +kernel⟩, fun _ hz => nomatch hz⟩) (by decide) (by decide) cLw_15 (Or.inr ⟨3, rfl, dLw_turn_15, rfl⟩) (Nat.le_of_ble_eq_true rfl) rfl ?_
      refine tq_iconst (v := (2 : Int32)) dLw_turn_16 tni_2 ?_
      exact tq_iret rfl rfl dLw_turn_17 hw
  refine tq_i2l dLw_turn_7 ?_
  obtain ⟨a7, e8, f9, hw⟩ := hw
  obtain ⟨f10, hw⟩ := hw
  refine te_last dLw_turn_8 e8 f9 f10 (fun h11 e12 => ?_)
  have hw := hw h11 e12
  refine tq_goto (tgt := 18) dLw_turn_9 (by decide) ?_
  refine tq_iconst (v := (0 : Int32)) dLw_turn_18 tni_0 ?_
  exact tq_iret rfl rfl dLw_turn_19 hw
/-! TLaw.apply -/
theorem dLw_apply_0 : decode (mB Lw_apply) 0 = .ok (.aload_n 3, 1) := by decide +kernel
theorem dLw_apply_1 : decode (mB Lw_apply) 1 = .ok (.iconst 0, 1) := by decide +kernel
theorem dLw_apply_2 : decode (mB Lw_apply) 2 = .ok (.aload_n 0, 1) := by decide +kernel
theorem dLw_apply_3 : decode (mB Lw_apply) 3 = .ok (.iload_n 1, 1) := by decide +kernel
theorem dLw_apply_4 : decode (mB Lw_apply) 4 = .ok (.iload_n 2, 1) := by decide +kernel
theorem dLw_apply_5 : decode (mB Lw_apply) 5 = .ok (.invokevirtual 47, 3) := by decide +kernel
theorem dLw_apply_8 : decode (mB Lw_apply) 8 = .ok (.i2l, 1) := by decide +kernel
theorem dLw_apply_9 : decode (mB Lw_apply) 9 = .ok (.lastore, 1) := by decide +kernel
theorem dLw_apply_10 : decode (mB Lw_apply) 10 = .ok (.goto 11, 3) := by decide +kernel
theorem dLw_apply_13 : decode (mB Lw_apply) 13 = .ok (.astore 4, 2) := by decide +kernel
theorem dLw_apply_15 : decode (mB Lw_apply) 15 = .ok (.iconst 1, 1) := by decide +kernel
theorem dLw_apply_16 : decode (mB Lw_apply) 16 = .ok (.ireturn, 1) := by decide +kernel
theorem dLw_apply_17 : decode (mB Lw_apply) 17 = .ok (.astore 4, 2) := by decide +kernel
theorem dLw_apply_19 : decode (mB Lw_apply) 19 = .ok (.iconst 2, 1) := by decide +kernel
theorem dLw_apply_20 : decode (mB Lw_apply) 20 = .ok (.ireturn, 1) := by decide +kernel
theorem dLw_apply_21 : decode (mB Lw_apply) 21 = .ok (.iconst 0, 1) := by decide +kernel
theorem dLw_apply_22 : decode (mB Lw_apply) 22 = .ok (.ireturn, 1) := by decide +kernel
def w_Lw_apply (x0 : Option Nat) (x1 : Int32) (x2 : Int32) (x3 : Option Nat) (h : tpH) (R : Int32 → tpH → Prop) : Prop :=
  ∃ a1, x0 = some a1 ∧ hT h a1 = 13 ∧ (w_TP_apply a1 x1 x2 h (fun E h6 => (E = "java/lang/IndexOutOfBoundsException" ∧ (R (1 : Int32) h6)) ∨ (E = "java/lang/IllegalStateException" ∧ (R (2 : Int32) h6))) (fun v5 h4 => ∃ a7, x3 = some a7 ∧ hT h4 a7 = 17 ∧ (vp_in (0 : Int32) (hL h4 a7) ∧ (∀ h11, h11 = sJ h4 a7 (0 : Int32).toNatClampNeg (v5.toInt64) → (R (0 : Int32) h11)))))
theorem s_Lw_apply {x0 : Option Nat} {x1 : Int32} {x2 : Int32} {x3 : Option Nat} {h : tpH} {R : Int32 → tpH → Prop} (hw : w_Lw_apply x0 x1 x2 x3 h R) : tpC Lw_apply 8 [vR x0, vI x1, vI x2, vR x3] h (tpOi R (fun _ _ => False)) := by
  refine tpC_ofH ms_Lw_apply.2.2.2 (by intro hz; cases hz) rfl (Nat.le_of_ble_eq_true rfl) ?_
  show tpR Lw_apply 8 h _ _ 0 [some (vR x0), some (vI x1), some (vI x2), some (vR x3), none] [] h
  unfold w_Lw_apply at hw
  refine tq_aload_n dLw_apply_0 rfl rfl ?_
  refine tq_iconst (v := (0 : Int32)) dLw_apply_1 tni_0 ?_
  refine tq_aload_n dLw_apply_2 rfl rfl ?_
  refine tq_iload_n dLw_apply_3 rfl rfl ?_
  refine tq_iload_n dLw_apply_4 rfl rfl ?_
  obtain ⟨a1, e2, f3, hw⟩ := hw
  refine te_callV mv_TP_apply (ci := 12) (dc := 7) (as := [vI x1, vI x2]) (rest := [vI (0 : Int32), vR x3]) kLw_47 rfl (Nat.le_of_ble_eq_true rfl) (Nat.le_of_ble_eq_true rfl) rfl rfl e2 f3 (Nat.le_of_ble_eq_true rfl) dLw_apply_5 (s_TP_apply hw) ?_ (tk_i fun v5 h4 hw => ?_)
  · intro E h6 hw
    rcases hw with ⟨rfl, hw⟩ | ⟨rfl, hw⟩
    · refine tpXx.catch (ls' := [some (vR x0), some (vI x1), some (vI x2), some (vR x3), none]) [] ⟨0, 10, 13, 21⟩ [⟨0, 10, 17, 15⟩] rfl (fun _ hz => nomatch hz) (by decide) (by decide) cLw_21 (Or.inl ⟨dLw_apply_13, rfl⟩) (Nat.le_of_ble_eq_true rfl) rfl ?_
      refine tq_iconst (v := (1 : Int32)) dLw_apply_15 tni_1 ?_
      exact tq_iret rfl rfl dLw_apply_16 hw
    · refine tpXx.catch (ls' := [some (vR x0), some (vI x1), some (vI x2), some (vR x3), none]) [⟨0, 10, 13, 21⟩] ⟨0, 10, 17, 15⟩ [] rfl (List.forall_mem_cons.mpr ⟨Or.inr ⟨by decide, _, cLw_21, by decide +kernel⟩, fun _ hz => nomatch hz⟩) (by decide) (by decide) cLw_15 (Or.inl ⟨dLw_apply_17, rfl⟩) (Nat.le_of_ble_eq_true rfl) rfl ?_
      refine tq_iconst (v := (2 : Int32)) dLw_apply_19 tni_2 ?_
      exact tq_iret rfl rfl dLw_apply_20 hw
  refine tq_i2l dLw_apply_8 ?_
  obtain ⟨a7, e8, f9, hw⟩ := hw
  obtain ⟨f10, hw⟩ := hw
  refine te_last dLw_apply_9 e8 f9 f10 (fun h11 e12 => ?_)
  have hw := hw h11 e12
  refine tq_goto (tgt := 21) dLw_apply_10 (by decide) ?_
  refine tq_iconst (v := (0 : Int32)) dLw_apply_21 tni_0 ?_
  exact tq_iret rfl rfl dLw_apply_22 hw
/-! TLaw.setPolicy -/
theorem dLw_setPolicy_0 : decode (mB Lw_setPolicy) 0 = .ok (.aload_n 3, 1) := by decide +kernel
theorem dLw_setPolicy_1 : decode (mB Lw_setPolicy) 1 = .ok (.iconst 0, 1) := by decide +kernel
theorem dLw_setPolicy_2 : decode (mB Lw_setPolicy) 2 = .ok (.aload_n 0, 1) := by decide +kernel
theorem dLw_setPolicy_3 : decode (mB Lw_setPolicy) 3 = .ok (.iload_n 1, 1) := by decide +kernel
theorem dLw_setPolicy_4 : decode (mB Lw_setPolicy) 4 = .ok (.iload_n 2, 1) := by decide +kernel
theorem dLw_setPolicy_5 : decode (mB Lw_setPolicy) 5 = .ok (.invokevirtual 50, 3) := by decide +kernel
theorem dLw_setPolicy_8 : decode (mB Lw_setPolicy) 8 = .ok (.i2l, 1) := by decide +kernel
theorem dLw_setPolicy_9 : decode (mB Lw_setPolicy) 9 = .ok (.lastore, 1) := by decide +kernel
theorem dLw_setPolicy_10 : decode (mB Lw_setPolicy) 10 = .ok (.goto 7, 3) := by decide +kernel
theorem dLw_setPolicy_13 : decode (mB Lw_setPolicy) 13 = .ok (.astore 4, 2) := by decide +kernel
theorem dLw_setPolicy_15 : decode (mB Lw_setPolicy) 15 = .ok (.iconst 1, 1) := by decide +kernel
theorem dLw_setPolicy_16 : decode (mB Lw_setPolicy) 16 = .ok (.ireturn, 1) := by decide +kernel
theorem dLw_setPolicy_17 : decode (mB Lw_setPolicy) 17 = .ok (.iconst 0, 1) := by decide +kernel
theorem dLw_setPolicy_18 : decode (mB Lw_setPolicy) 18 = .ok (.ireturn, 1) := by decide +kernel
def w_Lw_setPolicy (x0 : Option Nat) (x1 : Int32) (x2 : Int32) (x3 : Option Nat) (h : tpH) (R : Int32 → tpH → Prop) : Prop :=
  ∃ a1, x0 = some a1 ∧ hT h a1 = 13 ∧ (w_TP_setPolicy a1 x1 x2 h (fun E h6 => (E = "java/lang/IllegalArgumentException" ∧ (R (1 : Int32) h6))) (fun v5 h4 => ∃ a7, x3 = some a7 ∧ hT h4 a7 = 17 ∧ (vp_in (0 : Int32) (hL h4 a7) ∧ (∀ h11, h11 = sJ h4 a7 (0 : Int32).toNatClampNeg (v5.toInt64) → (R (0 : Int32) h11)))))
theorem s_Lw_setPolicy {x0 : Option Nat} {x1 : Int32} {x2 : Int32} {x3 : Option Nat} {h : tpH} {R : Int32 → tpH → Prop} (hw : w_Lw_setPolicy x0 x1 x2 x3 h R) : tpC Lw_setPolicy 7 [vR x0, vI x1, vI x2, vR x3] h (tpOi R (fun _ _ => False)) := by
  refine tpC_ofH ms_Lw_setPolicy.2.2.2 (by intro hz; cases hz) rfl (Nat.le_of_ble_eq_true rfl) ?_
  show tpR Lw_setPolicy 7 h _ _ 0 [some (vR x0), some (vI x1), some (vI x2), some (vR x3), none] [] h
  unfold w_Lw_setPolicy at hw
  refine tq_aload_n dLw_setPolicy_0 rfl rfl ?_
  refine tq_iconst (v := (0 : Int32)) dLw_setPolicy_1 tni_0 ?_
  refine tq_aload_n dLw_setPolicy_2 rfl rfl ?_
  refine tq_iload_n dLw_setPolicy_3 rfl rfl ?_
  refine tq_iload_n dLw_setPolicy_4 rfl rfl ?_
  obtain ⟨a1, e2, f3, hw⟩ := hw
  refine te_callV mv_TP_setPolicy (ci := 12) (dc := 6) (as := [vI x1, vI x2]) (rest := [vI (0 : Int32), vR x3]) kLw_50 rfl (Nat.le_of_ble_eq_true rfl) (Nat.le_of_ble_eq_true rfl) rfl rfl e2 f3 (Nat.le_of_ble_eq_true rfl) dLw_setPolicy_5 (s_TP_setPolicy hw) ?_ (tk_i fun v5 h4 hw => ?_)
  · intro E h6 hw
    obtain ⟨rfl, hw⟩ := hw
    refine tpXx.catch (ls' := [some (vR x0), some (vI x1), some (vI x2), some (vR x3), none]) [] ⟨0, 10, 13, 13⟩ [] rfl (fun _ hz => nomatch hz) (by decide) (by decide) cLw_13 (Or.inl ⟨dLw_setPolicy_13, rfl⟩) (Nat.le_of_ble_eq_true rfl) rfl ?_
    refine tq_iconst (v := (1 : Int32)) dLw_setPolicy_15 tni_1 ?_
    exact tq_iret rfl rfl dLw_setPolicy_16 hw
  refine tq_i2l dLw_setPolicy_8 ?_
  obtain ⟨a7, e8, f9, hw⟩ := hw
  obtain ⟨f10, hw⟩ := hw
  refine te_last dLw_setPolicy_9 e8 f9 f10 (fun h11 e12 => ?_)
  have hw := hw h11 e12
  refine tq_goto (tgt := 17) dLw_setPolicy_10 (by decide) ?_
  refine tq_iconst (v := (0 : Int32)) dLw_setPolicy_17 tni_0 ?_
  exact tq_iret rfl rfl dLw_setPolicy_18 hw
/-! TLaw.merge -/
theorem dLw_merge_0 : decode (mB Lw_merge) 0 = .ok (.aload 4, 2) := by decide +kernel
theorem dLw_merge_2 : decode (mB Lw_merge) 2 = .ok (.iconst 0, 1) := by decide +kernel
theorem dLw_merge_3 : decode (mB Lw_merge) 3 = .ok (.aload_n 0, 1) := by decide +kernel
theorem dLw_merge_4 : decode (mB Lw_merge) 4 = .ok (.iload_n 1, 1) := by decide +kernel
theorem dLw_merge_5 : decode (mB Lw_merge) 5 = .ok (.iload_n 2, 1) := by decide +kernel
theorem dLw_merge_6 : decode (mB Lw_merge) 6 = .ok (.iload_n 3, 1) := by decide +kernel
theorem dLw_merge_7 : decode (mB Lw_merge) 7 = .ok (.invokevirtual 53, 3) := by decide +kernel
theorem dLw_merge_10 : decode (mB Lw_merge) 10 = .ok (.i2l, 1) := by decide +kernel
theorem dLw_merge_11 : decode (mB Lw_merge) 11 = .ok (.lastore, 1) := by decide +kernel
theorem dLw_merge_12 : decode (mB Lw_merge) 12 = .ok (.goto 11, 3) := by decide +kernel
theorem dLw_merge_15 : decode (mB Lw_merge) 15 = .ok (.astore 5, 2) := by decide +kernel
theorem dLw_merge_17 : decode (mB Lw_merge) 17 = .ok (.iconst 1, 1) := by decide +kernel
theorem dLw_merge_18 : decode (mB Lw_merge) 18 = .ok (.ireturn, 1) := by decide +kernel
theorem dLw_merge_19 : decode (mB Lw_merge) 19 = .ok (.astore 5, 2) := by decide +kernel
theorem dLw_merge_21 : decode (mB Lw_merge) 21 = .ok (.iconst 2, 1) := by decide +kernel
theorem dLw_merge_22 : decode (mB Lw_merge) 22 = .ok (.ireturn, 1) := by decide +kernel
theorem dLw_merge_23 : decode (mB Lw_merge) 23 = .ok (.iconst 0, 1) := by decide +kernel
theorem dLw_merge_24 : decode (mB Lw_merge) 24 = .ok (.ireturn, 1) := by decide +kernel
def w_Lw_merge (x0 : Option Nat) (x1 : Int32) (x2 : Int32) (x3 : Int32) (x4 : Option Nat) (h : tpH) (R : Int32 → tpH → Prop) : Prop :=
  ∃ a1, x0 = some a1 ∧ hT h a1 = 13 ∧ (w_TP_merge a1 x1 x2 x3 h (fun E h6 => (E = "java/lang/IndexOutOfBoundsException" ∧ (R (1 : Int32) h6)) ∨ (E = "java/lang/IllegalStateException" ∧ (R (2 : Int32) h6))) (fun v5 h4 => ∃ a7, x4 = some a7 ∧ hT h4 a7 = 17 ∧ (vp_in (0 : Int32) (hL h4 a7) ∧ (∀ h11, h11 = sJ h4 a7 (0 : Int32).toNatClampNeg (v5.toInt64) → (R (0 : Int32) h11)))))
theorem s_Lw_merge {x0 : Option Nat} {x1 : Int32} {x2 : Int32} {x3 : Int32} {x4 : Option Nat} {h : tpH} {R : Int32 → tpH → Prop} (hw : w_Lw_merge x0 x1 x2 x3 x4 h R) : tpC Lw_merge 10 [vR x0, vI x1, vI x2, vI x3, vR x4] h (tpOi R (fun _ _ => False)) := by
  refine tpC_ofH ms_Lw_merge.2.2.2 (by intro hz; cases hz) rfl (Nat.le_of_ble_eq_true rfl) ?_
  show tpR Lw_merge 10 h _ _ 0 [some (vR x0), some (vI x1), some (vI x2), some (vI x3), some (vR x4), none] [] h
  unfold w_Lw_merge at hw
  refine tq_aload dLw_merge_0 rfl ?_
  refine tq_iconst (v := (0 : Int32)) dLw_merge_2 tni_0 ?_
  refine tq_aload_n dLw_merge_3 rfl rfl ?_
  refine tq_iload_n dLw_merge_4 rfl rfl ?_
  refine tq_iload_n dLw_merge_5 rfl rfl ?_
  refine tq_iload_n dLw_merge_6 rfl rfl ?_
  obtain ⟨a1, e2, f3, hw⟩ := hw
  refine te_callV mv_TP_merge (ci := 12) (dc := 9) (as := [vI x1, vI x2, vI x3]) (rest := [vI (0 : Int32), vR x4]) kLw_53 rfl (Nat.le_of_ble_eq_true rfl) (Nat.le_of_ble_eq_true rfl) rfl rfl e2 f3 (Nat.le_of_ble_eq_true rfl) dLw_merge_7 (s_TP_merge hw) ?_ (tk_i fun v5 h4 hw => ?_)
  · intro E h6 hw
    rcases hw with ⟨rfl, hw⟩ | ⟨rfl, hw⟩
    · refine tpXx.catch (ls' := [some (vR x0), some (vI x1), some (vI x2), some (vI x3), some (vR x4), none]) [] ⟨0, 12, 15, 21⟩ [⟨0, 12, 19, 15⟩] rfl (fun _ hz => nomatch hz) (by decide) (by decide) cLw_21 (Or.inl ⟨dLw_merge_15, rfl⟩) (Nat.le_of_ble_eq_true rfl) rfl ?_
      refine tq_iconst (v := (1 : Int32)) dLw_merge_17 tni_1 ?_
      exact tq_iret rfl rfl dLw_merge_18 hw
    · refine tpXx.catch (ls' := [some (vR x0), some (vI x1), some (vI x2), some (vI x3), some (vR x4), none]) [⟨0, 12, 15, 21⟩] ⟨0, 12, 19, 15⟩ [] rfl (List.forall_mem_cons.mpr ⟨Or.inr ⟨by decide, _, cLw_21, by decide +kernel⟩, fun _ hz => nomatch hz⟩) (by decide) (by decide) cLw_15 (Or.inl ⟨dLw_merge_19, rfl⟩) (Nat.le_of_ble_eq_true rfl) rfl ?_
      refine tq_iconst (v := (2 : Int32)) dLw_merge_21 tni_2 ?_
      exact tq_iret rfl rfl dLw_merge_22 hw
  refine tq_i2l dLw_merge_10 ?_
  obtain ⟨a7, e8, f9, hw⟩ := hw
  obtain ⟨f10, hw⟩ := hw
  refine te_last dLw_merge_11 e8 f9 f10 (fun h11 e12 => ?_)
  have hw := hw h11 e12
  refine tq_goto (tgt := 23) dLw_merge_12 (by decide) ?_
  refine tq_iconst (v := (0 : Int32)) dLw_merge_23 tni_0 ?_
  exact tq_iret rfl rfl dLw_merge_24 hw
/-! TLaw.version -/
theorem dLw_version_0 : decode (mB Lw_version) 0 = .ok (.aload 4, 2) := by decide +kernel
theorem dLw_version_2 : decode (mB Lw_version) 2 = .ok (.iconst 0, 1) := by decide +kernel
theorem dLw_version_3 : decode (mB Lw_version) 3 = .ok (.aload_n 0, 1) := by decide +kernel
theorem dLw_version_4 : decode (mB Lw_version) 4 = .ok (.iload_n 1, 1) := by decide +kernel
theorem dLw_version_5 : decode (mB Lw_version) 5 = .ok (.iload_n 2, 1) := by decide +kernel
theorem dLw_version_6 : decode (mB Lw_version) 6 = .ok (.iload_n 3, 1) := by decide +kernel
theorem dLw_version_7 : decode (mB Lw_version) 7 = .ok (.invokevirtual 56, 3) := by decide +kernel
theorem dLw_version_10 : decode (mB Lw_version) 10 = .ok (.i2l, 1) := by decide +kernel
theorem dLw_version_11 : decode (mB Lw_version) 11 = .ok (.lastore, 1) := by decide +kernel
theorem dLw_version_12 : decode (mB Lw_version) 12 = .ok (.goto 15, 3) := by decide +kernel
theorem dLw_version_15 : decode (mB Lw_version) 15 = .ok (.astore 5, 2) := by decide +kernel
theorem dLw_version_17 : decode (mB Lw_version) 17 = .ok (.iconst 1, 1) := by decide +kernel
theorem dLw_version_18 : decode (mB Lw_version) 18 = .ok (.ireturn, 1) := by decide +kernel
theorem dLw_version_19 : decode (mB Lw_version) 19 = .ok (.astore 5, 2) := by decide +kernel
theorem dLw_version_21 : decode (mB Lw_version) 21 = .ok (.iconst 2, 1) := by decide +kernel
theorem dLw_version_22 : decode (mB Lw_version) 22 = .ok (.ireturn, 1) := by decide +kernel
theorem dLw_version_23 : decode (mB Lw_version) 23 = .ok (.astore 5, 2) := by decide +kernel
theorem dLw_version_25 : decode (mB Lw_version) 25 = .ok (.iconst 3, 1) := by decide +kernel
theorem dLw_version_26 : decode (mB Lw_version) 26 = .ok (.ireturn, 1) := by decide +kernel
theorem dLw_version_27 : decode (mB Lw_version) 27 = .ok (.iconst 0, 1) := by decide +kernel
theorem dLw_version_28 : decode (mB Lw_version) 28 = .ok (.ireturn, 1) := by decide +kernel
def w_Lw_version (x0 : Option Nat) (x1 : Int32) (x2 : Int32) (x3 : Int32) (x4 : Option Nat) (h : tpH) (R : Int32 → tpH → Prop) : Prop :=
  ∃ a1, x0 = some a1 ∧ hT h a1 = 13 ∧ (w_TP_version a1 x1 x2 x3 h (fun E h6 => (E = "java/lang/IndexOutOfBoundsException" ∧ (R (1 : Int32) h6)) ∨ (E = "java/lang/IllegalArgumentException" ∧ (R (2 : Int32) h6)) ∨ (E = "java/lang/IllegalStateException" ∧ (R (3 : Int32) h6))) (fun v5 h4 => ∃ a7, x4 = some a7 ∧ hT h4 a7 = 17 ∧ (vp_in (0 : Int32) (hL h4 a7) ∧ (∀ h11, h11 = sJ h4 a7 (0 : Int32).toNatClampNeg (v5.toInt64) → (R (0 : Int32) h11)))))
theorem s_Lw_version {x0 : Option Nat} {x1 : Int32} {x2 : Int32} {x3 : Int32} {x4 : Option Nat} {h : tpH} {R : Int32 → tpH → Prop} (hw : w_Lw_version x0 x1 x2 x3 x4 h R) : tpC Lw_version 9 [vR x0, vI x1, vI x2, vI x3, vR x4] h (tpOi R (fun _ _ => False)) := by
  refine tpC_ofH ms_Lw_version.2.2.2 (by intro hz; cases hz) rfl (Nat.le_of_ble_eq_true rfl) ?_
  show tpR Lw_version 9 h _ _ 0 [some (vR x0), some (vI x1), some (vI x2), some (vI x3), some (vR x4), none] [] h
  unfold w_Lw_version at hw
  refine tq_aload dLw_version_0 rfl ?_
  refine tq_iconst (v := (0 : Int32)) dLw_version_2 tni_0 ?_
  refine tq_aload_n dLw_version_3 rfl rfl ?_
  refine tq_iload_n dLw_version_4 rfl rfl ?_
  refine tq_iload_n dLw_version_5 rfl rfl ?_
  refine tq_iload_n dLw_version_6 rfl rfl ?_
  obtain ⟨a1, e2, f3, hw⟩ := hw
  refine te_callV mv_TP_version (ci := 12) (dc := 8) (as := [vI x1, vI x2, vI x3]) (rest := [vI (0 : Int32), vR x4]) kLw_56 rfl (Nat.le_of_ble_eq_true rfl) (Nat.le_of_ble_eq_true rfl) rfl rfl e2 f3 (Nat.le_of_ble_eq_true rfl) dLw_version_7 (s_TP_version hw) ?_ (tk_i fun v5 h4 hw => ?_)
  · intro E h6 hw
    rcases hw with ⟨rfl, hw⟩ | ⟨rfl, hw⟩ | ⟨rfl, hw⟩
    · refine tpXx.catch (ls' := [some (vR x0), some (vI x1), some (vI x2), some (vI x3), some (vR x4), none]) [] ⟨0, 12, 15, 21⟩ [⟨0, 12, 19, 13⟩, ⟨0, 12, 23, 15⟩] rfl (fun _ hz => nomatch hz) (by decide) (by decide) cLw_21 (Or.inl ⟨dLw_version_15, rfl⟩) (Nat.le_of_ble_eq_true rfl) rfl ?_
      refine tq_iconst (v := (1 : Int32)) dLw_version_17 tni_1 ?_
      exact tq_iret rfl rfl dLw_version_18 hw
    · refine tpXx.catch (ls' := [some (vR x0), some (vI x1), some (vI x2), some (vI x3), some (vR x4), none]) [⟨0, 12, 15, 21⟩] ⟨0, 12, 19, 13⟩ [⟨0, 12, 23, 15⟩] rfl (List.forall_mem_cons.mpr ⟨Or.inr ⟨by decide, _, cLw_21, by decide +kernel⟩, fun _ hz => nomatch hz⟩) (by decide) (by decide) cLw_13 (Or.inl ⟨dLw_version_19, rfl⟩) (Nat.le_of_ble_eq_true rfl) rfl ?_
      refine tq_iconst (v := (2 : Int32)) dLw_version_21 tni_2 ?_
      exact tq_iret rfl rfl dLw_version_22 hw
    · refine tpXx.catch (ls' := [some (vR x0), some (vI x1), some (vI x2), some (vI x3), some (vR x4), none]) [⟨0, 12, 15, 21⟩, ⟨0, 12, 19, 13⟩] ⟨0, 12, 23, 15⟩ [] rfl (List.forall_mem_cons.mpr ⟨Or.inr ⟨by decide, _, cLw_21, by decide +kernel⟩, List.forall_mem_cons.mpr ⟨Or.inr ⟨by decide, _, cLw_13, by decide +kernel⟩, fun _ hz => nomatch hz⟩⟩) (by decide) (by decide) cLw_15 (Or.inl ⟨dLw_version_23, rfl⟩) (Nat.le_of_ble_eq_true rfl) rfl ?_
      refine tq_iconst (v := (3 : Int32)) dLw_version_25 tni_3 ?_
      exact tq_iret rfl rfl dLw_version_26 hw
  refine tq_i2l dLw_version_10 ?_
  obtain ⟨a7, e8, f9, hw⟩ := hw
  obtain ⟨f10, hw⟩ := hw
  refine te_last dLw_version_11 e8 f9 f10 (fun h11 e12 => ?_)
  have hw := hw h11 e12
  refine tq_goto (tgt := 27) dLw_version_12 (by decide) ?_
  refine tq_iconst (v := (0 : Int32)) dLw_version_27 tni_0 ?_
  exact tq_iret rfl rfl dLw_version_28 hw
/-! TLaw.mergeVersions -/
theorem dLw_mergeVersions_0 : decode (mB Lw_mergeVersions) 0 = .ok (.aload_n 3, 1) := by decide +kernel
theorem dLw_mergeVersions_1 : decode (mB Lw_mergeVersions) 1 = .ok (.iconst 0, 1) := by decide +kernel
theorem dLw_mergeVersions_2 : decode (mB Lw_mergeVersions) 2 = .ok (.aload_n 0, 1) := by decide +kernel
theorem dLw_mergeVersions_3 : decode (mB Lw_mergeVersions) 3 = .ok (.iload_n 1, 1) := by decide +kernel
theorem dLw_mergeVersions_4 : decode (mB Lw_mergeVersions) 4 = .ok (.iload_n 2, 1) := by decide +kernel
theorem dLw_mergeVersions_5 : decode (mB Lw_mergeVersions) 5 = .ok (.invokevirtual 59, 3) := by decide +kernel
theorem dLw_mergeVersions_8 : decode (mB Lw_mergeVersions) 8 = .ok (.i2l, 1) := by decide +kernel
theorem dLw_mergeVersions_9 : decode (mB Lw_mergeVersions) 9 = .ok (.lastore, 1) := by decide +kernel
theorem dLw_mergeVersions_10 : decode (mB Lw_mergeVersions) 10 = .ok (.goto 15, 3) := by decide +kernel
theorem dLw_mergeVersions_13 : decode (mB Lw_mergeVersions) 13 = .ok (.astore 4, 2) := by decide +kernel
theorem dLw_mergeVersions_15 : decode (mB Lw_mergeVersions) 15 = .ok (.iconst 1, 1) := by decide +kernel
theorem dLw_mergeVersions_16 : decode (mB Lw_mergeVersions) 16 = .ok (.ireturn, 1) := by decide +kernel
theorem dLw_mergeVersions_17 : decode (mB Lw_mergeVersions) 17 = .ok (.astore 4, 2) := by decide +kernel
theorem dLw_mergeVersions_19 : decode (mB Lw_mergeVersions) 19 = .ok (.iconst 2, 1) := by decide +kernel
theorem dLw_mergeVersions_20 : decode (mB Lw_mergeVersions) 20 = .ok (.ireturn, 1) := by decide +kernel
theorem dLw_mergeVersions_21 : decode (mB Lw_mergeVersions) 21 = .ok (.astore 4, 2) := by decide +kernel
theorem dLw_mergeVersions_23 : decode (mB Lw_mergeVersions) 23 = .ok (.iconst 3, 1) := by decide +kernel
theorem dLw_mergeVersions_24 : decode (mB Lw_mergeVersions) 24 = .ok (.ireturn, 1) := by decide +kernel
theorem dLw_mergeVersions_25 : decode (mB Lw_mergeVersions) 25 = .ok (.iconst 0, 1) := by decide +kernel
theorem dLw_mergeVersions_26 : decode (mB Lw_mergeVersions) 26 = .ok (.ireturn, 1) := by decide +kernel
def w_Lw_mergeVersions (x0 : Option Nat) (x1 : Int32) (x2 : Int32) (x3 : Option Nat) (h : tpH) (R : Int32 → tpH → Prop) : Prop :=
  ∃ a1, x0 = some a1 ∧ hT h a1 = 13 ∧ (w_TP_mergeVersions a1 x1 x2 h (fun E h6 => (E = "java/lang/IndexOutOfBoundsException" ∧ (R (1 : Int32) h6)) ∨ (E = "java/lang/IllegalArgumentException" ∧ (R (2 : Int32) h6)) ∨ (E = "java/lang/IllegalStateException" ∧ (R (3 : Int32) h6))) (fun v5 h4 => ∃ a7, x3 = some a7 ∧ hT h4 a7 = 17 ∧ (vp_in (0 : Int32) (hL h4 a7) ∧ (∀ h11, h11 = sJ h4 a7 (0 : Int32).toNatClampNeg (v5.toInt64) → (R (0 : Int32) h11)))))
theorem s_Lw_mergeVersions {x0 : Option Nat} {x1 : Int32} {x2 : Int32} {x3 : Option Nat} {h : tpH} {R : Int32 → tpH → Prop} (hw : w_Lw_mergeVersions x0 x1 x2 x3 h R) : tpC Lw_mergeVersions 10 [vR x0, vI x1, vI x2, vR x3] h (tpOi R (fun _ _ => False)) := by
  refine tpC_ofH ms_Lw_mergeVersions.2.2.2 (by intro hz; cases hz) rfl (Nat.le_of_ble_eq_true rfl) ?_
  show tpR Lw_mergeVersions 10 h _ _ 0 [some (vR x0), some (vI x1), some (vI x2), some (vR x3), none] [] h
  unfold w_Lw_mergeVersions at hw
  refine tq_aload_n dLw_mergeVersions_0 rfl rfl ?_
  refine tq_iconst (v := (0 : Int32)) dLw_mergeVersions_1 tni_0 ?_
  refine tq_aload_n dLw_mergeVersions_2 rfl rfl ?_
  refine tq_iload_n dLw_mergeVersions_3 rfl rfl ?_
  refine tq_iload_n dLw_mergeVersions_4 rfl rfl ?_
  obtain ⟨a1, e2, f3, hw⟩ := hw
  refine te_callV mv_TP_mergeVersions (ci := 12) (dc := 9) (as := [vI x1, vI x2]) (rest := [vI (0 : Int32), vR x3]) kLw_59 rfl (Nat.le_of_ble_eq_true rfl) (Nat.le_of_ble_eq_true rfl) rfl rfl e2 f3 (Nat.le_of_ble_eq_true rfl) dLw_mergeVersions_5 (s_TP_mergeVersions hw) ?_ (tk_i fun v5 h4 hw => ?_)
  · intro E h6 hw
    rcases hw with ⟨rfl, hw⟩ | ⟨rfl, hw⟩ | ⟨rfl, hw⟩
    · refine tpXx.catch (ls' := [some (vR x0), some (vI x1), some (vI x2), some (vR x3), none]) [] ⟨0, 10, 13, 21⟩ [⟨0, 10, 17, 13⟩, ⟨0, 10, 21, 15⟩] rfl (fun _ hz => nomatch hz) (by decide) (by decide) cLw_21 (Or.inl ⟨dLw_mergeVersions_13, rfl⟩) (Nat.le_of_ble_eq_true rfl) rfl ?_
      refine tq_iconst (v := (1 : Int32)) dLw_mergeVersions_15 tni_1 ?_
      exact tq_iret rfl rfl dLw_mergeVersions_16 hw
    · refine tpXx.catch (ls' := [some (vR x0), some (vI x1), some (vI x2), some (vR x3), none]) [⟨0, 10, 13, 21⟩] ⟨0, 10, 17, 13⟩ [⟨0, 10, 21, 15⟩] rfl (List.forall_mem_cons.mpr ⟨Or.inr ⟨by decide, _, cLw_21, by decide +kernel⟩, fun _ hz => nomatch hz⟩) (by decide) (by decide) cLw_13 (Or.inl ⟨dLw_mergeVersions_17, rfl⟩) (Nat.le_of_ble_eq_true rfl) rfl ?_
      refine tq_iconst (v := (2 : Int32)) dLw_mergeVersions_19 tni_2 ?_
      exact tq_iret rfl rfl dLw_mergeVersions_20 hw
    · refine tpXx.catch (ls' := [some (vR x0), some (vI x1), some (vI x2), some (vR x3), none]) [⟨0, 10, 13, 21⟩, ⟨0, 10, 17, 13⟩] ⟨0, 10, 21, 15⟩ [] rfl (List.forall_mem_cons.mpr ⟨Or.inr ⟨by decide, _, cLw_21, by decide +kernel⟩, List.forall_mem_cons.mpr ⟨Or.inr ⟨by decide, _, cLw_13, by decide +kernel⟩, fun _ hz => nomatch hz⟩⟩) (by decide) (by decide) cLw_15 (Or.inl ⟨dLw_mergeVersions_21, rfl⟩) (Nat.le_of_ble_eq_true rfl) rfl ?_
      refine tq_iconst (v := (3 : Int32)) dLw_mergeVersions_23 tni_3 ?_
      exact tq_iret rfl rfl dLw_mergeVersions_24 hw
  refine tq_i2l dLw_mergeVersions_8 ?_
  obtain ⟨a7, e8, f9, hw⟩ := hw
  obtain ⟨f10, hw⟩ := hw
  refine te_last dLw_mergeVersions_9 e8 f9 f10 (fun h11 e12 => ?_)
  have hw := hw h11 e12
  refine tq_goto (tgt := 25) dLw_mergeVersions_10 (by decide) ?_
  refine tq_iconst (v := (0 : Int32)) dLw_mergeVersions_25 tni_0 ?_
  exact tq_iret rfl rfl dLw_mergeVersions_26 hw
/-! TLaw.takeBack -/
theorem dLw_takeBack_0 : decode (mB Lw_takeBack) 0 = .ok (.aload_n 3, 1) := by decide +kernel
theorem dLw_takeBack_1 : decode (mB Lw_takeBack) 1 = .ok (.iconst 0, 1) := by decide +kernel
theorem dLw_takeBack_2 : decode (mB Lw_takeBack) 2 = .ok (.aload_n 0, 1) := by decide +kernel
theorem dLw_takeBack_3 : decode (mB Lw_takeBack) 3 = .ok (.iload_n 1, 1) := by decide +kernel
theorem dLw_takeBack_4 : decode (mB Lw_takeBack) 4 = .ok (.iload_n 2, 1) := by decide +kernel
theorem dLw_takeBack_5 : decode (mB Lw_takeBack) 5 = .ok (.invokevirtual 62, 3) := by decide +kernel
theorem dLw_takeBack_8 : decode (mB Lw_takeBack) 8 = .ok (.i2l, 1) := by decide +kernel
theorem dLw_takeBack_9 : decode (mB Lw_takeBack) 9 = .ok (.lastore, 1) := by decide +kernel
theorem dLw_takeBack_10 : decode (mB Lw_takeBack) 10 = .ok (.goto 11, 3) := by decide +kernel
theorem dLw_takeBack_13 : decode (mB Lw_takeBack) 13 = .ok (.astore 4, 2) := by decide +kernel
theorem dLw_takeBack_15 : decode (mB Lw_takeBack) 15 = .ok (.iconst 1, 1) := by decide +kernel
theorem dLw_takeBack_16 : decode (mB Lw_takeBack) 16 = .ok (.ireturn, 1) := by decide +kernel
theorem dLw_takeBack_17 : decode (mB Lw_takeBack) 17 = .ok (.astore 4, 2) := by decide +kernel
theorem dLw_takeBack_19 : decode (mB Lw_takeBack) 19 = .ok (.iconst 2, 1) := by decide +kernel
theorem dLw_takeBack_20 : decode (mB Lw_takeBack) 20 = .ok (.ireturn, 1) := by decide +kernel
theorem dLw_takeBack_21 : decode (mB Lw_takeBack) 21 = .ok (.iconst 0, 1) := by decide +kernel
theorem dLw_takeBack_22 : decode (mB Lw_takeBack) 22 = .ok (.ireturn, 1) := by decide +kernel
def w_Lw_takeBack (x0 : Option Nat) (x1 : Int32) (x2 : Int32) (x3 : Option Nat) (h : tpH) (R : Int32 → tpH → Prop) : Prop :=
  ∃ a1, x0 = some a1 ∧ hT h a1 = 13 ∧ (w_TP_takeBack a1 x1 x2 h (fun E h6 => (E = "java/lang/IndexOutOfBoundsException" ∧ (R (1 : Int32) h6)) ∨ (E = "java/lang/IllegalStateException" ∧ (R (2 : Int32) h6))) (fun v5 h4 => ∃ a7, x3 = some a7 ∧ hT h4 a7 = 17 ∧ (vp_in (0 : Int32) (hL h4 a7) ∧ (∀ h11, h11 = sJ h4 a7 (0 : Int32).toNatClampNeg (v5.toInt64) → (R (0 : Int32) h11)))))
theorem s_Lw_takeBack {x0 : Option Nat} {x1 : Int32} {x2 : Int32} {x3 : Option Nat} {h : tpH} {R : Int32 → tpH → Prop} (hw : w_Lw_takeBack x0 x1 x2 x3 h R) : tpC Lw_takeBack 10 [vR x0, vI x1, vI x2, vR x3] h (tpOi R (fun _ _ => False)) := by
  refine tpC_ofH ms_Lw_takeBack.2.2.2 (by intro hz; cases hz) rfl (Nat.le_of_ble_eq_true rfl) ?_
  show tpR Lw_takeBack 10 h _ _ 0 [some (vR x0), some (vI x1), some (vI x2), some (vR x3), none] [] h
  unfold w_Lw_takeBack at hw
  refine tq_aload_n dLw_takeBack_0 rfl rfl ?_
  refine tq_iconst (v := (0 : Int32)) dLw_takeBack_1 tni_0 ?_
  refine tq_aload_n dLw_takeBack_2 rfl rfl ?_
  refine tq_iload_n dLw_takeBack_3 rfl rfl ?_
  refine tq_iload_n dLw_takeBack_4 rfl rfl ?_
  obtain ⟨a1, e2, f3, hw⟩ := hw
  refine te_callV mv_TP_takeBack (ci := 12) (dc := 9) (as := [vI x1, vI x2]) (rest := [vI (0 : Int32), vR x3]) kLw_62 rfl (Nat.le_of_ble_eq_true rfl) (Nat.le_of_ble_eq_true rfl) rfl rfl e2 f3 (Nat.le_of_ble_eq_true rfl) dLw_takeBack_5 (s_TP_takeBack hw) ?_ (tk_i fun v5 h4 hw => ?_)
  · intro E h6 hw
    rcases hw with ⟨rfl, hw⟩ | ⟨rfl, hw⟩
    · refine tpXx.catch (ls' := [some (vR x0), some (vI x1), some (vI x2), some (vR x3), none]) [] ⟨0, 10, 13, 21⟩ [⟨0, 10, 17, 15⟩] rfl (fun _ hz => nomatch hz) (by decide) (by decide) cLw_21 (Or.inl ⟨dLw_takeBack_13, rfl⟩) (Nat.le_of_ble_eq_true rfl) rfl ?_
      refine tq_iconst (v := (1 : Int32)) dLw_takeBack_15 tni_1 ?_
      exact tq_iret rfl rfl dLw_takeBack_16 hw
    · refine tpXx.catch (ls' := [some (vR x0), some (vI x1), some (vI x2), some (vR x3), none]) [⟨0, 10, 13, 21⟩] ⟨0, 10, 17, 15⟩ [] rfl (List.forall_mem_cons.mpr ⟨Or.inr ⟨by decide, _, cLw_21, by decide +kernel⟩, fun _ hz => nomatch hz⟩) (by decide) (by decide) cLw_15 (Or.inl ⟨dLw_takeBack_17, rfl⟩) (Nat.le_of_ble_eq_true rfl) rfl ?_
      refine tq_iconst (v := (2 : Int32)) dLw_takeBack_19 tni_2 ?_
      exact tq_iret rfl rfl dLw_takeBack_20 hw
  refine tq_i2l dLw_takeBack_8 ?_
  obtain ⟨a7, e8, f9, hw⟩ := hw
  obtain ⟨f10, hw⟩ := hw
  refine te_last dLw_takeBack_9 e8 f9 f10 (fun h11 e12 => ?_)
  have hw := hw h11 e12
  refine tq_goto (tgt := 21) dLw_takeBack_10 (by decide) ?_
  refine tq_iconst (v := (0 : Int32)) dLw_takeBack_21 tni_0 ?_
  exact tq_iret rfl rfl dLw_takeBack_22 hw
/-! TLaw.size -/
theorem dLw_size_0 : decode (mB Lw_size) 0 = .ok (.aload_n 2, 1) := by decide +kernel
theorem dLw_size_1 : decode (mB Lw_size) 1 = .ok (.iconst 0, 1) := by decide +kernel
theorem dLw_size_2 : decode (mB Lw_size) 2 = .ok (.aload_n 0, 1) := by decide +kernel
theorem dLw_size_3 : decode (mB Lw_size) 3 = .ok (.iload_n 1, 1) := by decide +kernel
theorem dLw_size_4 : decode (mB Lw_size) 4 = .ok (.invokevirtual 65, 3) := by decide +kernel
theorem dLw_size_7 : decode (mB Lw_size) 7 = .ok (.i2l, 1) := by decide +kernel
theorem dLw_size_8 : decode (mB Lw_size) 8 = .ok (.lastore, 1) := by decide +kernel
theorem dLw_size_9 : decode (mB Lw_size) 9 = .ok (.goto 6, 3) := by decide +kernel
theorem dLw_size_12 : decode (mB Lw_size) 12 = .ok (.astore_n 3, 1) := by decide +kernel
theorem dLw_size_13 : decode (mB Lw_size) 13 = .ok (.iconst 1, 1) := by decide +kernel
theorem dLw_size_14 : decode (mB Lw_size) 14 = .ok (.ireturn, 1) := by decide +kernel
theorem dLw_size_15 : decode (mB Lw_size) 15 = .ok (.iconst 0, 1) := by decide +kernel
theorem dLw_size_16 : decode (mB Lw_size) 16 = .ok (.ireturn, 1) := by decide +kernel
def w_Lw_size (x0 : Option Nat) (x1 : Int32) (x2 : Option Nat) (h : tpH) (R : Int32 → tpH → Prop) : Prop :=
  ∃ a1, x0 = some a1 ∧ hT h a1 = 13 ∧ (w_TP_size a1 x1 h (fun E h6 => (E = "java/lang/IndexOutOfBoundsException" ∧ (R (1 : Int32) h6))) (fun v5 h4 => ∃ a7, x2 = some a7 ∧ hT h4 a7 = 17 ∧ (vp_in (0 : Int32) (hL h4 a7) ∧ (∀ h11, h11 = sJ h4 a7 (0 : Int32).toNatClampNeg (v5.toInt64) → (R (0 : Int32) h11)))))
theorem s_Lw_size {x0 : Option Nat} {x1 : Int32} {x2 : Option Nat} {h : tpH} {R : Int32 → tpH → Prop} (hw : w_Lw_size x0 x1 x2 h R) : tpC Lw_size 8 [vR x0, vI x1, vR x2] h (tpOi R (fun _ _ => False)) := by
  refine tpC_ofH ms_Lw_size.2.2.2 (by intro hz; cases hz) rfl (Nat.le_of_ble_eq_true rfl) ?_
  show tpR Lw_size 8 h _ _ 0 [some (vR x0), some (vI x1), some (vR x2), none] [] h
  unfold w_Lw_size at hw
  refine tq_aload_n dLw_size_0 rfl rfl ?_
  refine tq_iconst (v := (0 : Int32)) dLw_size_1 tni_0 ?_
  refine tq_aload_n dLw_size_2 rfl rfl ?_
  refine tq_iload_n dLw_size_3 rfl rfl ?_
  obtain ⟨a1, e2, f3, hw⟩ := hw
  refine te_callV mv_TP_size (ci := 12) (dc := 7) (as := [vI x1]) (rest := [vI (0 : Int32), vR x2]) kLw_65 rfl (Nat.le_of_ble_eq_true rfl) (Nat.le_of_ble_eq_true rfl) rfl rfl e2 f3 (Nat.le_of_ble_eq_true rfl) dLw_size_4 (s_TP_size hw) ?_ (tk_i fun v5 h4 hw => ?_)
  · intro E h6 hw
    obtain ⟨rfl, hw⟩ := hw
    refine tpXx.catch (ls' := [some (vR x0), some (vI x1), some (vR x2), none]) [] ⟨0, 9, 12, 21⟩ [] rfl (fun _ hz => nomatch hz) (by decide) (by decide) cLw_21 (Or.inr ⟨3, rfl, dLw_size_12, rfl⟩) (Nat.le_of_ble_eq_true rfl) rfl ?_
    refine tq_iconst (v := (1 : Int32)) dLw_size_13 tni_1 ?_
    exact tq_iret rfl rfl dLw_size_14 hw
  refine tq_i2l dLw_size_7 ?_
  obtain ⟨a7, e8, f9, hw⟩ := hw
  obtain ⟨f10, hw⟩ := hw
  refine te_last dLw_size_8 e8 f9 f10 (fun h11 e12 => ?_)
  have hw := hw h11 e12
  refine tq_goto (tgt := 15) dLw_size_9 (by decide) ?_
  refine tq_iconst (v := (0 : Int32)) dLw_size_15 tni_0 ?_
  exact tq_iret rfl rfl dLw_size_16 hw
/-! TLaw.markAt -/
theorem dLw_markAt_0 : decode (mB Lw_markAt) 0 = .ok (.aload_n 3, 1) := by decide +kernel
theorem dLw_markAt_1 : decode (mB Lw_markAt) 1 = .ok (.iconst 0, 1) := by decide +kernel
theorem dLw_markAt_2 : decode (mB Lw_markAt) 2 = .ok (.aload_n 0, 1) := by decide +kernel
theorem dLw_markAt_3 : decode (mB Lw_markAt) 3 = .ok (.iload_n 1, 1) := by decide +kernel
theorem dLw_markAt_4 : decode (mB Lw_markAt) 4 = .ok (.iload_n 2, 1) := by decide +kernel
theorem dLw_markAt_5 : decode (mB Lw_markAt) 5 = .ok (.invokevirtual 68, 3) := by decide +kernel
theorem dLw_markAt_8 : decode (mB Lw_markAt) 8 = .ok (.i2l, 1) := by decide +kernel
theorem dLw_markAt_9 : decode (mB Lw_markAt) 9 = .ok (.lastore, 1) := by decide +kernel
theorem dLw_markAt_10 : decode (mB Lw_markAt) 10 = .ok (.goto 7, 3) := by decide +kernel
theorem dLw_markAt_13 : decode (mB Lw_markAt) 13 = .ok (.astore 4, 2) := by decide +kernel
theorem dLw_markAt_15 : decode (mB Lw_markAt) 15 = .ok (.iconst 1, 1) := by decide +kernel
theorem dLw_markAt_16 : decode (mB Lw_markAt) 16 = .ok (.ireturn, 1) := by decide +kernel
theorem dLw_markAt_17 : decode (mB Lw_markAt) 17 = .ok (.iconst 0, 1) := by decide +kernel
theorem dLw_markAt_18 : decode (mB Lw_markAt) 18 = .ok (.ireturn, 1) := by decide +kernel
def w_Lw_markAt (x0 : Option Nat) (x1 : Int32) (x2 : Int32) (x3 : Option Nat) (h : tpH) (R : Int32 → tpH → Prop) : Prop :=
  ∃ a1, x0 = some a1 ∧ hT h a1 = 13 ∧ (w_TP_markAt a1 x1 x2 h (fun E h6 => (E = "java/lang/IndexOutOfBoundsException" ∧ (R (1 : Int32) h6))) (fun v5 h4 => ∃ a7, x3 = some a7 ∧ hT h4 a7 = 17 ∧ (vp_in (0 : Int32) (hL h4 a7) ∧ (∀ h11, h11 = sJ h4 a7 (0 : Int32).toNatClampNeg (v5.toInt64) → (R (0 : Int32) h11)))))
theorem s_Lw_markAt {x0 : Option Nat} {x1 : Int32} {x2 : Int32} {x3 : Option Nat} {h : tpH} {R : Int32 → tpH → Prop} (hw : w_Lw_markAt x0 x1 x2 x3 h R) : tpC Lw_markAt 8 [vR x0, vI x1, vI x2, vR x3] h (tpOi R (fun _ _ => False)) := by
  refine tpC_ofH ms_Lw_markAt.2.2.2 (by intro hz; cases hz) rfl (Nat.le_of_ble_eq_true rfl) ?_
  show tpR Lw_markAt 8 h _ _ 0 [some (vR x0), some (vI x1), some (vI x2), some (vR x3), none] [] h
  unfold w_Lw_markAt at hw
  refine tq_aload_n dLw_markAt_0 rfl rfl ?_
  refine tq_iconst (v := (0 : Int32)) dLw_markAt_1 tni_0 ?_
  refine tq_aload_n dLw_markAt_2 rfl rfl ?_
  refine tq_iload_n dLw_markAt_3 rfl rfl ?_
  refine tq_iload_n dLw_markAt_4 rfl rfl ?_
  obtain ⟨a1, e2, f3, hw⟩ := hw
  refine te_callV mv_TP_markAt (ci := 12) (dc := 7) (as := [vI x1, vI x2]) (rest := [vI (0 : Int32), vR x3]) kLw_68 rfl (Nat.le_of_ble_eq_true rfl) (Nat.le_of_ble_eq_true rfl) rfl rfl e2 f3 (Nat.le_of_ble_eq_true rfl) dLw_markAt_5 (s_TP_markAt hw) ?_ (tk_i fun v5 h4 hw => ?_)
  · intro E h6 hw
    obtain ⟨rfl, hw⟩ := hw
    refine tpXx.catch (ls' := [some (vR x0), some (vI x1), some (vI x2), some (vR x3), none]) [] ⟨0, 10, 13, 21⟩ [] rfl (fun _ hz => nomatch hz) (by decide) (by decide) cLw_21 (Or.inl ⟨dLw_markAt_13, rfl⟩) (Nat.le_of_ble_eq_true rfl) rfl ?_
    refine tq_iconst (v := (1 : Int32)) dLw_markAt_15 tni_1 ?_
    exact tq_iret rfl rfl dLw_markAt_16 hw
  refine tq_i2l dLw_markAt_8 ?_
  obtain ⟨a7, e8, f9, hw⟩ := hw
  obtain ⟨f10, hw⟩ := hw
  refine te_last dLw_markAt_9 e8 f9 f10 (fun h11 e12 => ?_)
  have hw := hw h11 e12
  refine tq_goto (tgt := 17) dLw_markAt_10 (by decide) ?_
  refine tq_iconst (v := (0 : Int32)) dLw_markAt_17 tni_0 ?_
  exact tq_iret rfl rfl dLw_markAt_18 hw
/-! TLaw.value -/
theorem dLw_value_0 : decode (mB Lw_value) 0 = .ok (.aload_n 3, 1) := by decide +kernel
theorem dLw_value_1 : decode (mB Lw_value) 1 = .ok (.iconst 0, 1) := by decide +kernel
theorem dLw_value_2 : decode (mB Lw_value) 2 = .ok (.aload_n 0, 1) := by decide +kernel
theorem dLw_value_3 : decode (mB Lw_value) 3 = .ok (.iload_n 1, 1) := by decide +kernel
theorem dLw_value_4 : decode (mB Lw_value) 4 = .ok (.iload_n 2, 1) := by decide +kernel
theorem dLw_value_5 : decode (mB Lw_value) 5 = .ok (.invokevirtual 71, 3) := by decide +kernel
theorem dLw_value_8 : decode (mB Lw_value) 8 = .ok (.i2l, 1) := by decide +kernel
theorem dLw_value_9 : decode (mB Lw_value) 9 = .ok (.lastore, 1) := by decide +kernel
theorem dLw_value_10 : decode (mB Lw_value) 10 = .ok (.goto 7, 3) := by decide +kernel
theorem dLw_value_13 : decode (mB Lw_value) 13 = .ok (.astore 4, 2) := by decide +kernel
theorem dLw_value_15 : decode (mB Lw_value) 15 = .ok (.iconst 1, 1) := by decide +kernel
theorem dLw_value_16 : decode (mB Lw_value) 16 = .ok (.ireturn, 1) := by decide +kernel
theorem dLw_value_17 : decode (mB Lw_value) 17 = .ok (.iconst 0, 1) := by decide +kernel
theorem dLw_value_18 : decode (mB Lw_value) 18 = .ok (.ireturn, 1) := by decide +kernel
def w_Lw_value (x0 : Option Nat) (x1 : Int32) (x2 : Int32) (x3 : Option Nat) (h : tpH) (R : Int32 → tpH → Prop) : Prop :=
  ∃ a1, x0 = some a1 ∧ hT h a1 = 13 ∧ (w_TP_value a1 x1 x2 h (fun E h6 => (E = "java/lang/IndexOutOfBoundsException" ∧ (R (1 : Int32) h6))) (fun v5 h4 => ∃ a7, x3 = some a7 ∧ hT h4 a7 = 17 ∧ (vp_in (0 : Int32) (hL h4 a7) ∧ (∀ h11, h11 = sJ h4 a7 (0 : Int32).toNatClampNeg (v5.toInt64) → (R (0 : Int32) h11)))))
theorem s_Lw_value {x0 : Option Nat} {x1 : Int32} {x2 : Int32} {x3 : Option Nat} {h : tpH} {R : Int32 → tpH → Prop} (hw : w_Lw_value x0 x1 x2 x3 h R) : tpC Lw_value 8 [vR x0, vI x1, vI x2, vR x3] h (tpOi R (fun _ _ => False)) := by
  refine tpC_ofH ms_Lw_value.2.2.2 (by intro hz; cases hz) rfl (Nat.le_of_ble_eq_true rfl) ?_
  show tpR Lw_value 8 h _ _ 0 [some (vR x0), some (vI x1), some (vI x2), some (vR x3), none] [] h
  unfold w_Lw_value at hw
  refine tq_aload_n dLw_value_0 rfl rfl ?_
  refine tq_iconst (v := (0 : Int32)) dLw_value_1 tni_0 ?_
  refine tq_aload_n dLw_value_2 rfl rfl ?_
  refine tq_iload_n dLw_value_3 rfl rfl ?_
  refine tq_iload_n dLw_value_4 rfl rfl ?_
  obtain ⟨a1, e2, f3, hw⟩ := hw
  refine te_callV mv_TP_value (ci := 12) (dc := 7) (as := [vI x1, vI x2]) (rest := [vI (0 : Int32), vR x3]) kLw_71 rfl (Nat.le_of_ble_eq_true rfl) (Nat.le_of_ble_eq_true rfl) rfl rfl e2 f3 (Nat.le_of_ble_eq_true rfl) dLw_value_5 (s_TP_value hw) ?_ (tk_i fun v5 h4 hw => ?_)
  · intro E h6 hw
    obtain ⟨rfl, hw⟩ := hw
    refine tpXx.catch (ls' := [some (vR x0), some (vI x1), some (vI x2), some (vR x3), none]) [] ⟨0, 10, 13, 21⟩ [] rfl (fun _ hz => nomatch hz) (by decide) (by decide) cLw_21 (Or.inl ⟨dLw_value_13, rfl⟩) (Nat.le_of_ble_eq_true rfl) rfl ?_
    refine tq_iconst (v := (1 : Int32)) dLw_value_15 tni_1 ?_
    exact tq_iret rfl rfl dLw_value_16 hw
  refine tq_i2l dLw_value_8 ?_
  obtain ⟨a7, e8, f9, hw⟩ := hw
  obtain ⟨f10, hw⟩ := hw
  refine te_last dLw_value_9 e8 f9 f10 (fun h11 e12 => ?_)
  have hw := hw h11 e12
  refine tq_goto (tgt := 17) dLw_value_10 (by decide) ?_
  refine tq_iconst (v := (0 : Int32)) dLw_value_17 tni_0 ?_
  exact tq_iret rfl rfl dLw_value_18 hw
/-! TLaw.parent -/
theorem dLw_parent_0 : decode (mB Lw_parent) 0 = .ok (.aload_n 3, 1) := by decide +kernel
theorem dLw_parent_1 : decode (mB Lw_parent) 1 = .ok (.iconst 0, 1) := by decide +kernel
theorem dLw_parent_2 : decode (mB Lw_parent) 2 = .ok (.aload_n 0, 1) := by decide +kernel
theorem dLw_parent_3 : decode (mB Lw_parent) 3 = .ok (.iload_n 1, 1) := by decide +kernel
theorem dLw_parent_4 : decode (mB Lw_parent) 4 = .ok (.iload_n 2, 1) := by decide +kernel
theorem dLw_parent_5 : decode (mB Lw_parent) 5 = .ok (.invokevirtual 74, 3) := by decide +kernel
theorem dLw_parent_8 : decode (mB Lw_parent) 8 = .ok (.i2l, 1) := by decide +kernel
theorem dLw_parent_9 : decode (mB Lw_parent) 9 = .ok (.lastore, 1) := by decide +kernel
theorem dLw_parent_10 : decode (mB Lw_parent) 10 = .ok (.goto 7, 3) := by decide +kernel
theorem dLw_parent_13 : decode (mB Lw_parent) 13 = .ok (.astore 4, 2) := by decide +kernel
theorem dLw_parent_15 : decode (mB Lw_parent) 15 = .ok (.iconst 1, 1) := by decide +kernel
theorem dLw_parent_16 : decode (mB Lw_parent) 16 = .ok (.ireturn, 1) := by decide +kernel
theorem dLw_parent_17 : decode (mB Lw_parent) 17 = .ok (.iconst 0, 1) := by decide +kernel
theorem dLw_parent_18 : decode (mB Lw_parent) 18 = .ok (.ireturn, 1) := by decide +kernel
def w_Lw_parent (x0 : Option Nat) (x1 : Int32) (x2 : Int32) (x3 : Option Nat) (h : tpH) (R : Int32 → tpH → Prop) : Prop :=
  ∃ a1, x0 = some a1 ∧ hT h a1 = 13 ∧ (w_TP_parent a1 x1 x2 h (fun E h6 => (E = "java/lang/IndexOutOfBoundsException" ∧ (R (1 : Int32) h6))) (fun v5 h4 => ∃ a7, x3 = some a7 ∧ hT h4 a7 = 17 ∧ (vp_in (0 : Int32) (hL h4 a7) ∧ (∀ h11, h11 = sJ h4 a7 (0 : Int32).toNatClampNeg (v5.toInt64) → (R (0 : Int32) h11)))))
theorem s_Lw_parent {x0 : Option Nat} {x1 : Int32} {x2 : Int32} {x3 : Option Nat} {h : tpH} {R : Int32 → tpH → Prop} (hw : w_Lw_parent x0 x1 x2 x3 h R) : tpC Lw_parent 8 [vR x0, vI x1, vI x2, vR x3] h (tpOi R (fun _ _ => False)) := by
  refine tpC_ofH ms_Lw_parent.2.2.2 (by intro hz; cases hz) rfl (Nat.le_of_ble_eq_true rfl) ?_
  show tpR Lw_parent 8 h _ _ 0 [some (vR x0), some (vI x1), some (vI x2), some (vR x3), none] [] h
  unfold w_Lw_parent at hw
  refine tq_aload_n dLw_parent_0 rfl rfl ?_
  refine tq_iconst (v := (0 : Int32)) dLw_parent_1 tni_0 ?_
  refine tq_aload_n dLw_parent_2 rfl rfl ?_
  refine tq_iload_n dLw_parent_3 rfl rfl ?_
  refine tq_iload_n dLw_parent_4 rfl rfl ?_
  obtain ⟨a1, e2, f3, hw⟩ := hw
  refine te_callV mv_TP_parent (ci := 12) (dc := 7) (as := [vI x1, vI x2]) (rest := [vI (0 : Int32), vR x3]) kLw_74 rfl (Nat.le_of_ble_eq_true rfl) (Nat.le_of_ble_eq_true rfl) rfl rfl e2 f3 (Nat.le_of_ble_eq_true rfl) dLw_parent_5 (s_TP_parent hw) ?_ (tk_i fun v5 h4 hw => ?_)
  · intro E h6 hw
    obtain ⟨rfl, hw⟩ := hw
    refine tpXx.catch (ls' := [some (vR x0), some (vI x1), some (vI x2), some (vR x3), none]) [] ⟨0, 10, 13, 21⟩ [] rfl (fun _ hz => nomatch hz) (by decide) (by decide) cLw_21 (Or.inl ⟨dLw_parent_13, rfl⟩) (Nat.le_of_ble_eq_true rfl) rfl ?_
    refine tq_iconst (v := (1 : Int32)) dLw_parent_15 tni_1 ?_
    exact tq_iret rfl rfl dLw_parent_16 hw
  refine tq_i2l dLw_parent_8 ?_
  obtain ⟨a7, e8, f9, hw⟩ := hw
  obtain ⟨f10, hw⟩ := hw
  refine te_last dLw_parent_9 e8 f9 f10 (fun h11 e12 => ?_)
  have hw := hw h11 e12
  refine tq_goto (tgt := 17) dLw_parent_10 (by decide) ?_
  refine tq_iconst (v := (0 : Int32)) dLw_parent_17 tni_0 ?_
  exact tq_iret rfl rfl dLw_parent_18 hw
/-! TLaw.areAlike -/
theorem dLw_areAlike_0 : decode (mB Lw_areAlike) 0 = .ok (.aload_n 3, 1) := by decide +kernel
theorem dLw_areAlike_1 : decode (mB Lw_areAlike) 1 = .ok (.iconst 0, 1) := by decide +kernel
theorem dLw_areAlike_2 : decode (mB Lw_areAlike) 2 = .ok (.aload_n 0, 1) := by decide +kernel
theorem dLw_areAlike_3 : decode (mB Lw_areAlike) 3 = .ok (.iload_n 1, 1) := by decide +kernel
theorem dLw_areAlike_4 : decode (mB Lw_areAlike) 4 = .ok (.iload_n 2, 1) := by decide +kernel
theorem dLw_areAlike_5 : decode (mB Lw_areAlike) 5 = .ok (.invokevirtual 77, 3) := by decide +kernel
theorem dLw_areAlike_8 : decode (mB Lw_areAlike) 8 = .ok (.ifCond .eq 7, 3) := by decide +kernel
theorem dLw_areAlike_11 : decode (mB Lw_areAlike) 11 = .ok (.lconst 1, 1) := by decide +kernel
theorem dLw_areAlike_12 : decode (mB Lw_areAlike) 12 = .ok (.goto 4, 3) := by decide +kernel
theorem dLw_areAlike_15 : decode (mB Lw_areAlike) 15 = .ok (.lconst 0, 1) := by decide +kernel
theorem dLw_areAlike_16 : decode (mB Lw_areAlike) 16 = .ok (.lastore, 1) := by decide +kernel
theorem dLw_areAlike_17 : decode (mB Lw_areAlike) 17 = .ok (.goto 7, 3) := by decide +kernel
theorem dLw_areAlike_20 : decode (mB Lw_areAlike) 20 = .ok (.astore 4, 2) := by decide +kernel
theorem dLw_areAlike_22 : decode (mB Lw_areAlike) 22 = .ok (.iconst 1, 1) := by decide +kernel
theorem dLw_areAlike_23 : decode (mB Lw_areAlike) 23 = .ok (.ireturn, 1) := by decide +kernel
theorem dLw_areAlike_24 : decode (mB Lw_areAlike) 24 = .ok (.iconst 0, 1) := by decide +kernel
theorem dLw_areAlike_25 : decode (mB Lw_areAlike) 25 = .ok (.ireturn, 1) := by decide +kernel
def w_Lw_areAlike_16 (R : Int32 → tpH → Prop) (t0 : Int64) (t1 : Int32) (t2 : Option Nat) (h : tpH) : Prop :=
  ∃ a1, t2 = some a1 ∧ hT h a1 = 17 ∧ (vp_in t1 (hL h a1) ∧ (∀ h5, h5 = sJ h a1 t1.toNatClampNeg t0 → (R (0 : Int32) h5)))
def w_Lw_areAlike (x0 : Option Nat) (x1 : Int32) (x2 : Int32) (x3 : Option Nat) (h : tpH) (R : Int32 → tpH → Prop) : Prop :=
  ∃ a1, x0 = some a1 ∧ hT h a1 = 13 ∧ (w_TP_areAlike a1 x1 x2 h (fun E h6 => (E = "java/lang/IndexOutOfBoundsException" ∧ (R (1 : Int32) h6))) (fun v5 h4 => (v5 = 0 → (w_Lw_areAlike_16 R (0 : Int64) (0 : Int32) x3 h4)) ∧ (¬ v5 = 0 → (w_Lw_areAlike_16 R (1 : Int64) (0 : Int32) x3 h4))))
theorem s_Lw_areAlike_16 {h0 : tpH} {av : List tpV} {R : Int32 → tpH → Prop} : ∀ (t0 : Int64) (t1 : Int32) (t2 : Option Nat) (h : tpH), w_Lw_areAlike_16 R t0 t1 t2 h → tpR Lw_areAlike 8 h0 av (tpOi R (fun _ _ => False)) 16 [none, none, none, none, none] [vJ t0, vI t1, vR t2] h := by
  intro t0 t1 t2 h hw
  unfold w_Lw_areAlike_16 at hw
  obtain ⟨a1, e2, f3, hw⟩ := hw
  obtain ⟨f4, hw⟩ := hw
  refine te_last dLw_areAlike_16 e2 f3 f4 (fun h5 e6 => ?_)
  have hw := hw h5 e6
  refine tq_goto (tgt := 24) dLw_areAlike_17 (by decide) ?_
  refine tq_iconst (v := (0 : Int32)) dLw_areAlike_24 tni_0 ?_
  exact tq_iret rfl rfl dLw_areAlike_25 hw
theorem s_Lw_areAlike {x0 : Option Nat} {x1 : Int32} {x2 : Int32} {x3 : Option Nat} {h : tpH} {R : Int32 → tpH → Prop} (hw : w_Lw_areAlike x0 x1 x2 x3 h R) : tpC Lw_areAlike 8 [vR x0, vI x1, vI x2, vR x3] h (tpOi R (fun _ _ => False)) := by
  refine tpC_ofH ms_Lw_areAlike.2.2.2 (by intro hz; cases hz) rfl (Nat.le_of_ble_eq_true rfl) ?_
  show tpR Lw_areAlike 8 h _ _ 0 [some (vR x0), some (vI x1), some (vI x2), some (vR x3), none] [] h
  unfold w_Lw_areAlike at hw
  refine tq_aload_n dLw_areAlike_0 rfl rfl ?_
  refine tq_iconst (v := (0 : Int32)) dLw_areAlike_1 tni_0 ?_
  refine tq_aload_n dLw_areAlike_2 rfl rfl ?_
  refine tq_iload_n dLw_areAlike_3 rfl rfl ?_
  refine tq_iload_n dLw_areAlike_4 rfl rfl ?_
  obtain ⟨a1, e2, f3, hw⟩ := hw
  refine te_callV mv_TP_areAlike (ci := 12) (dc := 7) (as := [vI x1, vI x2]) (rest := [vI (0 : Int32), vR x3]) kLw_77 rfl (Nat.le_of_ble_eq_true rfl) (Nat.le_of_ble_eq_true rfl) rfl rfl e2 f3 (Nat.le_of_ble_eq_true rfl) dLw_areAlike_5 (s_TP_areAlike hw) ?_ (tk_i fun v5 h4 hw => ?_)
  · intro E h6 hw
    obtain ⟨rfl, hw⟩ := hw
    refine tpXx.catch (ls' := [some (vR x0), some (vI x1), some (vI x2), some (vR x3), none]) [] ⟨0, 17, 20, 21⟩ [] rfl (fun _ hz => nomatch hz) (by decide) (by decide) cLw_21 (Or.inl ⟨dLw_areAlike_20, rfl⟩) (Nat.le_of_ble_eq_true rfl) rfl ?_
    refine tq_iconst (v := (1 : Int32)) dLw_areAlike_22 tni_1 ?_
    exact tq_iret rfl rfl dLw_areAlike_23 hw
  refine tq_ifeq (tgt := 15) dLw_areAlike_8 (by decide) (fun c7 => ?_) (fun c7 => ?_)
  · have hw := hw.1 c7
    refine tq_lconst (v := 0) dLw_areAlike_15 (by decide) ?_
    refine tpR.fo (ls' := [none, none, none, none, none]) ?_ (trivial)
    exact s_Lw_areAlike_16 _ _ _ _ hw
  · have hw := hw.2 c7
    refine tq_lconst (v := 1) dLw_areAlike_11 (by decide) ?_
    refine tq_goto (tgt := 16) dLw_areAlike_12 (by decide) ?_
    refine tpR.fo (ls' := [none, none, none, none, none]) ?_ (trivial)
    exact s_Lw_areAlike_16 _ _ _ _ hw
/-! TLaw.areSame -/
theorem dLw_areSame_0 : decode (mB Lw_areSame) 0 = .ok (.aload_n 3, 1) := by decide +kernel
theorem dLw_areSame_1 : decode (mB Lw_areSame) 1 = .ok (.iconst 0, 1) := by decide +kernel
theorem dLw_areSame_2 : decode (mB Lw_areSame) 2 = .ok (.aload_n 0, 1) := by decide +kernel
theorem dLw_areSame_3 : decode (mB Lw_areSame) 3 = .ok (.iload_n 1, 1) := by decide +kernel
theorem dLw_areSame_4 : decode (mB Lw_areSame) 4 = .ok (.iload_n 2, 1) := by decide +kernel
theorem dLw_areSame_5 : decode (mB Lw_areSame) 5 = .ok (.invokevirtual 81, 3) := by decide +kernel
theorem dLw_areSame_8 : decode (mB Lw_areSame) 8 = .ok (.ifCond .eq 7, 3) := by decide +kernel
theorem dLw_areSame_11 : decode (mB Lw_areSame) 11 = .ok (.lconst 1, 1) := by decide +kernel
theorem dLw_areSame_12 : decode (mB Lw_areSame) 12 = .ok (.goto 4, 3) := by decide +kernel
theorem dLw_areSame_15 : decode (mB Lw_areSame) 15 = .ok (.lconst 0, 1) := by decide +kernel
theorem dLw_areSame_16 : decode (mB Lw_areSame) 16 = .ok (.lastore, 1) := by decide +kernel
theorem dLw_areSame_17 : decode (mB Lw_areSame) 17 = .ok (.goto 7, 3) := by decide +kernel
theorem dLw_areSame_20 : decode (mB Lw_areSame) 20 = .ok (.astore 4, 2) := by decide +kernel
theorem dLw_areSame_22 : decode (mB Lw_areSame) 22 = .ok (.iconst 1, 1) := by decide +kernel
theorem dLw_areSame_23 : decode (mB Lw_areSame) 23 = .ok (.ireturn, 1) := by decide +kernel
theorem dLw_areSame_24 : decode (mB Lw_areSame) 24 = .ok (.iconst 0, 1) := by decide +kernel
theorem dLw_areSame_25 : decode (mB Lw_areSame) 25 = .ok (.ireturn, 1) := by decide +kernel
def w_Lw_areSame_16 (R : Int32 → tpH → Prop) (t0 : Int64) (t1 : Int32) (t2 : Option Nat) (h : tpH) : Prop :=
  ∃ a1, t2 = some a1 ∧ hT h a1 = 17 ∧ (vp_in t1 (hL h a1) ∧ (∀ h5, h5 = sJ h a1 t1.toNatClampNeg t0 → (R (0 : Int32) h5)))
def w_Lw_areSame (x0 : Option Nat) (x1 : Int32) (x2 : Int32) (x3 : Option Nat) (h : tpH) (R : Int32 → tpH → Prop) : Prop :=
  ∃ a1, x0 = some a1 ∧ hT h a1 = 13 ∧ (w_TP_areSame a1 x1 x2 h (fun E h6 => (E = "java/lang/IndexOutOfBoundsException" ∧ (R (1 : Int32) h6))) (fun v5 h4 => (v5 = 0 → (w_Lw_areSame_16 R (0 : Int64) (0 : Int32) x3 h4)) ∧ (¬ v5 = 0 → (w_Lw_areSame_16 R (1 : Int64) (0 : Int32) x3 h4))))
theorem s_Lw_areSame_16 {h0 : tpH} {av : List tpV} {R : Int32 → tpH → Prop} : ∀ (t0 : Int64) (t1 : Int32) (t2 : Option Nat) (h : tpH), w_Lw_areSame_16 R t0 t1 t2 h → tpR Lw_areSame 8 h0 av (tpOi R (fun _ _ => False)) 16 [none, none, none, none, none] [vJ t0, vI t1, vR t2] h := by
  intro t0 t1 t2 h hw
  unfold w_Lw_areSame_16 at hw
  obtain ⟨a1, e2, f3, hw⟩ := hw
  obtain ⟨f4, hw⟩ := hw
  refine te_last dLw_areSame_16 e2 f3 f4 (fun h5 e6 => ?_)
  have hw := hw h5 e6
  refine tq_goto (tgt := 24) dLw_areSame_17 (by decide) ?_
  refine tq_iconst (v := (0 : Int32)) dLw_areSame_24 tni_0 ?_
  exact tq_iret rfl rfl dLw_areSame_25 hw
theorem s_Lw_areSame {x0 : Option Nat} {x1 : Int32} {x2 : Int32} {x3 : Option Nat} {h : tpH} {R : Int32 → tpH → Prop} (hw : w_Lw_areSame x0 x1 x2 x3 h R) : tpC Lw_areSame 8 [vR x0, vI x1, vI x2, vR x3] h (tpOi R (fun _ _ => False)) := by
  refine tpC_ofH ms_Lw_areSame.2.2.2 (by intro hz; cases hz) rfl (Nat.le_of_ble_eq_true rfl) ?_
  show tpR Lw_areSame 8 h _ _ 0 [some (vR x0), some (vI x1), some (vI x2), some (vR x3), none] [] h
  unfold w_Lw_areSame at hw
  refine tq_aload_n dLw_areSame_0 rfl rfl ?_
  refine tq_iconst (v := (0 : Int32)) dLw_areSame_1 tni_0 ?_
  refine tq_aload_n dLw_areSame_2 rfl rfl ?_
  refine tq_iload_n dLw_areSame_3 rfl rfl ?_
  refine tq_iload_n dLw_areSame_4 rfl rfl ?_
  obtain ⟨a1, e2, f3, hw⟩ := hw
  refine te_callV mv_TP_areSame (ci := 12) (dc := 7) (as := [vI x1, vI x2]) (rest := [vI (0 : Int32), vR x3]) kLw_81 rfl (Nat.le_of_ble_eq_true rfl) (Nat.le_of_ble_eq_true rfl) rfl rfl e2 f3 (Nat.le_of_ble_eq_true rfl) dLw_areSame_5 (s_TP_areSame hw) ?_ (tk_i fun v5 h4 hw => ?_)
  · intro E h6 hw
    obtain ⟨rfl, hw⟩ := hw
    refine tpXx.catch (ls' := [some (vR x0), some (vI x1), some (vI x2), some (vR x3), none]) [] ⟨0, 17, 20, 21⟩ [] rfl (fun _ hz => nomatch hz) (by decide) (by decide) cLw_21 (Or.inl ⟨dLw_areSame_20, rfl⟩) (Nat.le_of_ble_eq_true rfl) rfl ?_
    refine tq_iconst (v := (1 : Int32)) dLw_areSame_22 tni_1 ?_
    exact tq_iret rfl rfl dLw_areSame_23 hw
  refine tq_ifeq (tgt := 15) dLw_areSame_8 (by decide) (fun c7 => ?_) (fun c7 => ?_)
  · have hw := hw.1 c7
    refine tq_lconst (v := 0) dLw_areSame_15 (by decide) ?_
    refine tpR.fo (ls' := [none, none, none, none, none]) ?_ (trivial)
    exact s_Lw_areSame_16 _ _ _ _ hw
  · have hw := hw.2 c7
    refine tq_lconst (v := 1) dLw_areSame_11 (by decide) ?_
    refine tq_goto (tgt := 16) dLw_areSame_12 (by decide) ?_
    refine tpR.fo (ls' := [none, none, none, none, none]) ?_ (trivial)
    exact s_Lw_areSame_16 _ _ _ _ hw
/-! TLaw.match -/
theorem dLw_match_0 : decode (mB Lw_match) 0 = .ok (.aload 4, 2) := by decide +kernel
theorem dLw_match_2 : decode (mB Lw_match) 2 = .ok (.iconst 0, 1) := by decide +kernel
theorem dLw_match_3 : decode (mB Lw_match) 3 = .ok (.aload_n 0, 1) := by decide +kernel
theorem dLw_match_4 : decode (mB Lw_match) 4 = .ok (.iload_n 1, 1) := by decide +kernel
theorem dLw_match_5 : decode (mB Lw_match) 5 = .ok (.iload_n 2, 1) := by decide +kernel
theorem dLw_match_6 : decode (mB Lw_match) 6 = .ok (.iload_n 3, 1) := by decide +kernel
theorem dLw_match_7 : decode (mB Lw_match) 7 = .ok (.invokevirtual 84, 3) := by decide +kernel
theorem dLw_match_10 : decode (mB Lw_match) 10 = .ok (.i2l, 1) := by decide +kernel
theorem dLw_match_11 : decode (mB Lw_match) 11 = .ok (.lastore, 1) := by decide +kernel
theorem dLw_match_12 : decode (mB Lw_match) 12 = .ok (.goto 11, 3) := by decide +kernel
theorem dLw_match_15 : decode (mB Lw_match) 15 = .ok (.astore 5, 2) := by decide +kernel
theorem dLw_match_17 : decode (mB Lw_match) 17 = .ok (.iconst 1, 1) := by decide +kernel
theorem dLw_match_18 : decode (mB Lw_match) 18 = .ok (.ireturn, 1) := by decide +kernel
theorem dLw_match_19 : decode (mB Lw_match) 19 = .ok (.astore 5, 2) := by decide +kernel
theorem dLw_match_21 : decode (mB Lw_match) 21 = .ok (.iconst 2, 1) := by decide +kernel
theorem dLw_match_22 : decode (mB Lw_match) 22 = .ok (.ireturn, 1) := by decide +kernel
theorem dLw_match_23 : decode (mB Lw_match) 23 = .ok (.iconst 0, 1) := by decide +kernel
theorem dLw_match_24 : decode (mB Lw_match) 24 = .ok (.ireturn, 1) := by decide +kernel
def w_Lw_match (x0 : Option Nat) (x1 : Int32) (x2 : Int32) (x3 : Int32) (x4 : Option Nat) (h : tpH) (R : Int32 → tpH → Prop) : Prop :=
  ∃ a1, x0 = some a1 ∧ hT h a1 = 13 ∧ (w_TP_match a1 x1 x2 x3 h (fun E h6 => (E = "java/lang/IndexOutOfBoundsException" ∧ (R (1 : Int32) h6)) ∨ (E = "java/lang/IllegalStateException" ∧ (R (2 : Int32) h6))) (fun v5 h4 => ∃ a7, x4 = some a7 ∧ hT h4 a7 = 17 ∧ (vp_in (0 : Int32) (hL h4 a7) ∧ (∀ h11, h11 = sJ h4 a7 (0 : Int32).toNatClampNeg (v5.toInt64) → (R (0 : Int32) h11)))))
theorem s_Lw_match {x0 : Option Nat} {x1 : Int32} {x2 : Int32} {x3 : Int32} {x4 : Option Nat} {h : tpH} {R : Int32 → tpH → Prop} (hw : w_Lw_match x0 x1 x2 x3 x4 h R) : tpC Lw_match 8 [vR x0, vI x1, vI x2, vI x3, vR x4] h (tpOi R (fun _ _ => False)) := by
  refine tpC_ofH ms_Lw_match.2.2.2 (by intro hz; cases hz) rfl (Nat.le_of_ble_eq_true rfl) ?_
  show tpR Lw_match 8 h _ _ 0 [some (vR x0), some (vI x1), some (vI x2), some (vI x3), some (vR x4), none] [] h
  unfold w_Lw_match at hw
  refine tq_aload dLw_match_0 rfl ?_
  refine tq_iconst (v := (0 : Int32)) dLw_match_2 tni_0 ?_
  refine tq_aload_n dLw_match_3 rfl rfl ?_
  refine tq_iload_n dLw_match_4 rfl rfl ?_
  refine tq_iload_n dLw_match_5 rfl rfl ?_
  refine tq_iload_n dLw_match_6 rfl rfl ?_
  obtain ⟨a1, e2, f3, hw⟩ := hw
  refine te_callV mv_TP_match (ci := 12) (dc := 7) (as := [vI x1, vI x2, vI x3]) (rest := [vI (0 : Int32), vR x4]) kLw_84 rfl (Nat.le_of_ble_eq_true rfl) (Nat.le_of_ble_eq_true rfl) rfl rfl e2 f3 (Nat.le_of_ble_eq_true rfl) dLw_match_7 (s_TP_match hw) ?_ (tk_i fun v5 h4 hw => ?_)
  · intro E h6 hw
    rcases hw with ⟨rfl, hw⟩ | ⟨rfl, hw⟩
    · refine tpXx.catch (ls' := [some (vR x0), some (vI x1), some (vI x2), some (vI x3), some (vR x4), none]) [] ⟨0, 12, 15, 21⟩ [⟨0, 12, 19, 15⟩] rfl (fun _ hz => nomatch hz) (by decide) (by decide) cLw_21 (Or.inl ⟨dLw_match_15, rfl⟩) (Nat.le_of_ble_eq_true rfl) rfl ?_
      refine tq_iconst (v := (1 : Int32)) dLw_match_17 tni_1 ?_
      exact tq_iret rfl rfl dLw_match_18 hw
    · refine tpXx.catch (ls' := [some (vR x0), some (vI x1), some (vI x2), some (vI x3), some (vR x4), none]) [⟨0, 12, 15, 21⟩] ⟨0, 12, 19, 15⟩ [] rfl (List.forall_mem_cons.mpr ⟨Or.inr ⟨by decide, _, cLw_21, by decide +kernel⟩, fun _ hz => nomatch hz⟩) (by decide) (by decide) cLw_15 (Or.inl ⟨dLw_match_19, rfl⟩) (Nat.le_of_ble_eq_true rfl) rfl ?_
      refine tq_iconst (v := (2 : Int32)) dLw_match_21 tni_2 ?_
      exact tq_iret rfl rfl dLw_match_22 hw
  refine tq_i2l dLw_match_10 ?_
  obtain ⟨a7, e8, f9, hw⟩ := hw
  obtain ⟨f10, hw⟩ := hw
  refine te_last dLw_match_11 e8 f9 f10 (fun h11 e12 => ?_)
  have hw := hw h11 e12
  refine tq_goto (tgt := 23) dLw_match_12 (by decide) ?_
  refine tq_iconst (v := (0 : Int32)) dLw_match_23 tni_0 ?_
  exact tq_iret rfl rfl dLw_match_24 hw
/-! TLaw.likeness -/
theorem dLw_likeness_0 : decode (mB Lw_likeness) 0 = .ok (.aload 5, 2) := by decide +kernel
theorem dLw_likeness_2 : decode (mB Lw_likeness) 2 = .ok (.iconst 0, 1) := by decide +kernel
theorem dLw_likeness_3 : decode (mB Lw_likeness) 3 = .ok (.aload_n 0, 1) := by decide +kernel
theorem dLw_likeness_4 : decode (mB Lw_likeness) 4 = .ok (.iload_n 1, 1) := by decide +kernel
theorem dLw_likeness_5 : decode (mB Lw_likeness) 5 = .ok (.iload_n 2, 1) := by decide +kernel
theorem dLw_likeness_6 : decode (mB Lw_likeness) 6 = .ok (.iload_n 3, 1) := by decide +kernel
theorem dLw_likeness_7 : decode (mB Lw_likeness) 7 = .ok (.iload 4, 2) := by decide +kernel
theorem dLw_likeness_9 : decode (mB Lw_likeness) 9 = .ok (.invokevirtual 87, 3) := by decide +kernel
theorem dLw_likeness_12 : decode (mB Lw_likeness) 12 = .ok (.f2d, 1) := by decide +kernel
theorem dLw_likeness_13 : decode (mB Lw_likeness) 13 = .ok (.dastore, 1) := by decide +kernel
theorem dLw_likeness_14 : decode (mB Lw_likeness) 14 = .ok (.goto 11, 3) := by decide +kernel
theorem dLw_likeness_17 : decode (mB Lw_likeness) 17 = .ok (.astore 6, 2) := by decide +kernel
theorem dLw_likeness_19 : decode (mB Lw_likeness) 19 = .ok (.iconst 1, 1) := by decide +kernel
theorem dLw_likeness_20 : decode (mB Lw_likeness) 20 = .ok (.ireturn, 1) := by decide +kernel
theorem dLw_likeness_21 : decode (mB Lw_likeness) 21 = .ok (.astore 6, 2) := by decide +kernel
theorem dLw_likeness_23 : decode (mB Lw_likeness) 23 = .ok (.iconst 2, 1) := by decide +kernel
theorem dLw_likeness_24 : decode (mB Lw_likeness) 24 = .ok (.ireturn, 1) := by decide +kernel
theorem dLw_likeness_25 : decode (mB Lw_likeness) 25 = .ok (.iconst 0, 1) := by decide +kernel
theorem dLw_likeness_26 : decode (mB Lw_likeness) 26 = .ok (.ireturn, 1) := by decide +kernel
def w_Lw_likeness (x0 : Option Nat) (x1 : Int32) (x2 : Int32) (x3 : Int32) (x4 : Int32) (x5 : Option Nat) (h : tpH) (R : Int32 → tpH → Prop) : Prop :=
  ∃ a1, x0 = some a1 ∧ hT h a1 = 13 ∧ (w_TP_likeness a1 x1 x2 x3 x4 h (fun E h6 => (E = "java/lang/IndexOutOfBoundsException" ∧ (R (1 : Int32) h6)) ∨ (E = "java/lang/IllegalStateException" ∧ (R (2 : Int32) h6))) (fun v5 h4 => vf_n64 (FP.f2d v5) ∧ (∃ a8, x5 = some a8 ∧ hT h4 a8 = 18 ∧ (vp_in (0 : Int32) (hL h4 a8) ∧ (∀ h12, h12 = sF h4 a8 (0 : Int32).toNatClampNeg (FP.f2d v5) → (R (0 : Int32) h12))))))
theorem s_Lw_likeness {x0 : Option Nat} {x1 : Int32} {x2 : Int32} {x3 : Int32} {x4 : Int32} {x5 : Option Nat} {h : tpH} {R : Int32 → tpH → Prop} (hw : w_Lw_likeness x0 x1 x2 x3 x4 x5 h R) : tpC Lw_likeness 8 [vR x0, vI x1, vI x2, vI x3, vI x4, vR x5] h (tpOi R (fun _ _ => False)) := by
  refine tpC_ofH ms_Lw_likeness.2.2.2 (by intro hz; cases hz) rfl (Nat.le_of_ble_eq_true rfl) ?_
  show tpR Lw_likeness 8 h _ _ 0 [some (vR x0), some (vI x1), some (vI x2), some (vI x3), some (vI x4), some (vR x5), none] [] h
  unfold w_Lw_likeness at hw
  refine tq_aload dLw_likeness_0 rfl ?_
  refine tq_iconst (v := (0 : Int32)) dLw_likeness_2 tni_0 ?_
  refine tq_aload_n dLw_likeness_3 rfl rfl ?_
  refine tq_iload_n dLw_likeness_4 rfl rfl ?_
  refine tq_iload_n dLw_likeness_5 rfl rfl ?_
  refine tq_iload_n dLw_likeness_6 rfl rfl ?_
  refine tq_iload dLw_likeness_7 rfl ?_
  obtain ⟨a1, e2, f3, hw⟩ := hw
  refine te_callV mv_TP_likeness (ci := 12) (dc := 7) (as := [vI x1, vI x2, vI x3, vI x4]) (rest := [vI (0 : Int32), vR x5]) kLw_87 rfl (Nat.le_of_ble_eq_true rfl) (Nat.le_of_ble_eq_true rfl) rfl rfl e2 f3 (Nat.le_of_ble_eq_true rfl) dLw_likeness_9 (s_TP_likeness hw) ?_ (tk_f fun v5 h4 hw => ?_)
  · intro E h6 hw
    rcases hw with ⟨rfl, hw⟩ | ⟨rfl, hw⟩
    · refine tpXx.catch (ls' := [some (vR x0), some (vI x1), some (vI x2), some (vI x3), some (vI x4), some (vR x5), none]) [] ⟨0, 14, 17, 21⟩ [⟨0, 14, 21, 15⟩] rfl (fun _ hz => nomatch hz) (by decide) (by decide) cLw_21 (Or.inl ⟨dLw_likeness_17, rfl⟩) (Nat.le_of_ble_eq_true rfl) rfl ?_
      refine tq_iconst (v := (1 : Int32)) dLw_likeness_19 tni_1 ?_
      exact tq_iret rfl rfl dLw_likeness_20 hw
    · refine tpXx.catch (ls' := [some (vR x0), some (vI x1), some (vI x2), some (vI x3), some (vI x4), some (vR x5), none]) [⟨0, 14, 17, 21⟩] ⟨0, 14, 21, 15⟩ [] rfl (List.forall_mem_cons.mpr ⟨Or.inr ⟨by decide, _, cLw_21, by decide +kernel⟩, fun _ hz => nomatch hz⟩) (by decide) (by decide) cLw_15 (Or.inl ⟨dLw_likeness_21, rfl⟩) (Nat.le_of_ble_eq_true rfl) rfl ?_
      refine tq_iconst (v := (2 : Int32)) dLw_likeness_23 tni_2 ?_
      exact tq_iret rfl rfl dLw_likeness_24 hw
  obtain ⟨f7, hw⟩ := hw
  refine tq_f2d dLw_likeness_12 f7 ?_
  obtain ⟨a8, e9, f10, hw⟩ := hw
  obtain ⟨f11, hw⟩ := hw
  refine te_dast dLw_likeness_13 e9 f10 f11 (fun h12 e13 => ?_)
  have hw := hw h12 e13
  refine tq_goto (tgt := 25) dLw_likeness_14 (by decide) ?_
  refine tq_iconst (v := (0 : Int32)) dLw_likeness_25 tni_0 ?_
  exact tq_iret rfl rfl dLw_likeness_26 hw
/-! TLaw.steps -/
theorem dLw_steps_0 : decode (mB Lw_steps) 0 = .ok (.aload_n 2, 1) := by decide +kernel
theorem dLw_steps_1 : decode (mB Lw_steps) 1 = .ok (.iconst 0, 1) := by decide +kernel
theorem dLw_steps_2 : decode (mB Lw_steps) 2 = .ok (.aload_n 0, 1) := by decide +kernel
theorem dLw_steps_3 : decode (mB Lw_steps) 3 = .ok (.iload_n 1, 1) := by decide +kernel
theorem dLw_steps_4 : decode (mB Lw_steps) 4 = .ok (.invokevirtual 91, 3) := by decide +kernel
theorem dLw_steps_7 : decode (mB Lw_steps) 7 = .ok (.i2l, 1) := by decide +kernel
theorem dLw_steps_8 : decode (mB Lw_steps) 8 = .ok (.lastore, 1) := by decide +kernel
theorem dLw_steps_9 : decode (mB Lw_steps) 9 = .ok (.goto 6, 3) := by decide +kernel
theorem dLw_steps_12 : decode (mB Lw_steps) 12 = .ok (.astore_n 3, 1) := by decide +kernel
theorem dLw_steps_13 : decode (mB Lw_steps) 13 = .ok (.iconst 1, 1) := by decide +kernel
theorem dLw_steps_14 : decode (mB Lw_steps) 14 = .ok (.ireturn, 1) := by decide +kernel
theorem dLw_steps_15 : decode (mB Lw_steps) 15 = .ok (.iconst 0, 1) := by decide +kernel
theorem dLw_steps_16 : decode (mB Lw_steps) 16 = .ok (.ireturn, 1) := by decide +kernel
def w_Lw_steps (x0 : Option Nat) (x1 : Int32) (x2 : Option Nat) (h : tpH) (R : Int32 → tpH → Prop) : Prop :=
  ∃ a1, x0 = some a1 ∧ hT h a1 = 13 ∧ (w_TP_steps a1 x1 h (fun E h6 => (E = "java/lang/IndexOutOfBoundsException" ∧ (R (1 : Int32) h6))) (fun v5 h4 => ∃ a7, x2 = some a7 ∧ hT h4 a7 = 17 ∧ (vp_in (0 : Int32) (hL h4 a7) ∧ (∀ h11, h11 = sJ h4 a7 (0 : Int32).toNatClampNeg (v5.toInt64) → (R (0 : Int32) h11)))))
theorem s_Lw_steps {x0 : Option Nat} {x1 : Int32} {x2 : Option Nat} {h : tpH} {R : Int32 → tpH → Prop} (hw : w_Lw_steps x0 x1 x2 h R) : tpC Lw_steps 8 [vR x0, vI x1, vR x2] h (tpOi R (fun _ _ => False)) := by
  refine tpC_ofH ms_Lw_steps.2.2.2 (by intro hz; cases hz) rfl (Nat.le_of_ble_eq_true rfl) ?_
  show tpR Lw_steps 8 h _ _ 0 [some (vR x0), some (vI x1), some (vR x2), none] [] h
  unfold w_Lw_steps at hw
  refine tq_aload_n dLw_steps_0 rfl rfl ?_
  refine tq_iconst (v := (0 : Int32)) dLw_steps_1 tni_0 ?_
  refine tq_aload_n dLw_steps_2 rfl rfl ?_
  refine tq_iload_n dLw_steps_3 rfl rfl ?_
  obtain ⟨a1, e2, f3, hw⟩ := hw
  refine te_callV mv_TP_steps (ci := 12) (dc := 7) (as := [vI x1]) (rest := [vI (0 : Int32), vR x2]) kLw_91 rfl (Nat.le_of_ble_eq_true rfl) (Nat.le_of_ble_eq_true rfl) rfl rfl e2 f3 (Nat.le_of_ble_eq_true rfl) dLw_steps_4 (s_TP_steps hw) ?_ (tk_i fun v5 h4 hw => ?_)
  · intro E h6 hw
    obtain ⟨rfl, hw⟩ := hw
    refine tpXx.catch (ls' := [some (vR x0), some (vI x1), some (vR x2), none]) [] ⟨0, 9, 12, 21⟩ [] rfl (fun _ hz => nomatch hz) (by decide) (by decide) cLw_21 (Or.inr ⟨3, rfl, dLw_steps_12, rfl⟩) (Nat.le_of_ble_eq_true rfl) rfl ?_
    refine tq_iconst (v := (1 : Int32)) dLw_steps_13 tni_1 ?_
    exact tq_iret rfl rfl dLw_steps_14 hw
  refine tq_i2l dLw_steps_7 ?_
  obtain ⟨a7, e8, f9, hw⟩ := hw
  obtain ⟨f10, hw⟩ := hw
  refine te_last dLw_steps_8 e8 f9 f10 (fun h11 e12 => ?_)
  have hw := hw h11 e12
  refine tq_goto (tgt := 15) dLw_steps_9 (by decide) ?_
  refine tq_iconst (v := (0 : Int32)) dLw_steps_15 tni_0 ?_
  exact tq_iret rfl rfl dLw_steps_16 hw
/-! TLaw.stepKind -/
theorem dLw_stepKind_0 : decode (mB Lw_stepKind) 0 = .ok (.aload_n 3, 1) := by decide +kernel
theorem dLw_stepKind_1 : decode (mB Lw_stepKind) 1 = .ok (.iconst 0, 1) := by decide +kernel
theorem dLw_stepKind_2 : decode (mB Lw_stepKind) 2 = .ok (.aload_n 0, 1) := by decide +kernel
theorem dLw_stepKind_3 : decode (mB Lw_stepKind) 3 = .ok (.iload_n 1, 1) := by decide +kernel
theorem dLw_stepKind_4 : decode (mB Lw_stepKind) 4 = .ok (.iload_n 2, 1) := by decide +kernel
theorem dLw_stepKind_5 : decode (mB Lw_stepKind) 5 = .ok (.invokevirtual 94, 3) := by decide +kernel
theorem dLw_stepKind_8 : decode (mB Lw_stepKind) 8 = .ok (.i2l, 1) := by decide +kernel
theorem dLw_stepKind_9 : decode (mB Lw_stepKind) 9 = .ok (.lastore, 1) := by decide +kernel
theorem dLw_stepKind_10 : decode (mB Lw_stepKind) 10 = .ok (.goto 7, 3) := by decide +kernel
theorem dLw_stepKind_13 : decode (mB Lw_stepKind) 13 = .ok (.astore 4, 2) := by decide +kernel
theorem dLw_stepKind_15 : decode (mB Lw_stepKind) 15 = .ok (.iconst 1, 1) := by decide +kernel
theorem dLw_stepKind_16 : decode (mB Lw_stepKind) 16 = .ok (.ireturn, 1) := by decide +kernel
theorem dLw_stepKind_17 : decode (mB Lw_stepKind) 17 = .ok (.iconst 0, 1) := by decide +kernel
theorem dLw_stepKind_18 : decode (mB Lw_stepKind) 18 = .ok (.ireturn, 1) := by decide +kernel
def w_Lw_stepKind (x0 : Option Nat) (x1 : Int32) (x2 : Int32) (x3 : Option Nat) (h : tpH) (R : Int32 → tpH → Prop) : Prop :=
  ∃ a1, x0 = some a1 ∧ hT h a1 = 13 ∧ (w_TP_stepKind a1 x1 x2 h (fun E h6 => (E = "java/lang/IndexOutOfBoundsException" ∧ (R (1 : Int32) h6))) (fun v5 h4 => ∃ a7, x3 = some a7 ∧ hT h4 a7 = 17 ∧ (vp_in (0 : Int32) (hL h4 a7) ∧ (∀ h11, h11 = sJ h4 a7 (0 : Int32).toNatClampNeg (v5.toInt64) → (R (0 : Int32) h11)))))
theorem s_Lw_stepKind {x0 : Option Nat} {x1 : Int32} {x2 : Int32} {x3 : Option Nat} {h : tpH} {R : Int32 → tpH → Prop} (hw : w_Lw_stepKind x0 x1 x2 x3 h R) : tpC Lw_stepKind 9 [vR x0, vI x1, vI x2, vR x3] h (tpOi R (fun _ _ => False)) := by
  refine tpC_ofH ms_Lw_stepKind.2.2.2 (by intro hz; cases hz) rfl (Nat.le_of_ble_eq_true rfl) ?_
  show tpR Lw_stepKind 9 h _ _ 0 [some (vR x0), some (vI x1), some (vI x2), some (vR x3), none] [] h
  unfold w_Lw_stepKind at hw
  refine tq_aload_n dLw_stepKind_0 rfl rfl ?_
  refine tq_iconst (v := (0 : Int32)) dLw_stepKind_1 tni_0 ?_
  refine tq_aload_n dLw_stepKind_2 rfl rfl ?_
  refine tq_iload_n dLw_stepKind_3 rfl rfl ?_
  refine tq_iload_n dLw_stepKind_4 rfl rfl ?_
  obtain ⟨a1, e2, f3, hw⟩ := hw
  refine te_callV mv_TP_stepKind (ci := 12) (dc := 8) (as := [vI x1, vI x2]) (rest := [vI (0 : Int32), vR x3]) kLw_94 rfl (Nat.le_of_ble_eq_true rfl) (Nat.le_of_ble_eq_true rfl) rfl rfl e2 f3 (Nat.le_of_ble_eq_true rfl) dLw_stepKind_5 (s_TP_stepKind hw) ?_ (tk_i fun v5 h4 hw => ?_)
  · intro E h6 hw
    obtain ⟨rfl, hw⟩ := hw
    refine tpXx.catch (ls' := [some (vR x0), some (vI x1), some (vI x2), some (vR x3), none]) [] ⟨0, 10, 13, 21⟩ [] rfl (fun _ hz => nomatch hz) (by decide) (by decide) cLw_21 (Or.inl ⟨dLw_stepKind_13, rfl⟩) (Nat.le_of_ble_eq_true rfl) rfl ?_
    refine tq_iconst (v := (1 : Int32)) dLw_stepKind_15 tni_1 ?_
    exact tq_iret rfl rfl dLw_stepKind_16 hw
  refine tq_i2l dLw_stepKind_8 ?_
  obtain ⟨a7, e8, f9, hw⟩ := hw
  obtain ⟨f10, hw⟩ := hw
  refine te_last dLw_stepKind_9 e8 f9 f10 (fun h11 e12 => ?_)
  have hw := hw h11 e12
  refine tq_goto (tgt := 17) dLw_stepKind_10 (by decide) ?_
  refine tq_iconst (v := (0 : Int32)) dLw_stepKind_17 tni_0 ?_
  exact tq_iret rfl rfl dLw_stepKind_18 hw
/-! TLaw.stepMark -/
theorem dLw_stepMark_0 : decode (mB Lw_stepMark) 0 = .ok (.aload_n 3, 1) := by decide +kernel
theorem dLw_stepMark_1 : decode (mB Lw_stepMark) 1 = .ok (.iconst 0, 1) := by decide +kernel
theorem dLw_stepMark_2 : decode (mB Lw_stepMark) 2 = .ok (.aload_n 0, 1) := by decide +kernel
theorem dLw_stepMark_3 : decode (mB Lw_stepMark) 3 = .ok (.iload_n 1, 1) := by decide +kernel
theorem dLw_stepMark_4 : decode (mB Lw_stepMark) 4 = .ok (.iload_n 2, 1) := by decide +kernel
theorem dLw_stepMark_5 : decode (mB Lw_stepMark) 5 = .ok (.invokevirtual 97, 3) := by decide +kernel
theorem dLw_stepMark_8 : decode (mB Lw_stepMark) 8 = .ok (.i2l, 1) := by decide +kernel
theorem dLw_stepMark_9 : decode (mB Lw_stepMark) 9 = .ok (.lastore, 1) := by decide +kernel
theorem dLw_stepMark_10 : decode (mB Lw_stepMark) 10 = .ok (.goto 7, 3) := by decide +kernel
theorem dLw_stepMark_13 : decode (mB Lw_stepMark) 13 = .ok (.astore 4, 2) := by decide +kernel
theorem dLw_stepMark_15 : decode (mB Lw_stepMark) 15 = .ok (.iconst 1, 1) := by decide +kernel
theorem dLw_stepMark_16 : decode (mB Lw_stepMark) 16 = .ok (.ireturn, 1) := by decide +kernel
theorem dLw_stepMark_17 : decode (mB Lw_stepMark) 17 = .ok (.iconst 0, 1) := by decide +kernel
theorem dLw_stepMark_18 : decode (mB Lw_stepMark) 18 = .ok (.ireturn, 1) := by decide +kernel
def w_Lw_stepMark (x0 : Option Nat) (x1 : Int32) (x2 : Int32) (x3 : Option Nat) (h : tpH) (R : Int32 → tpH → Prop) : Prop :=
  ∃ a1, x0 = some a1 ∧ hT h a1 = 13 ∧ (w_TP_stepMark a1 x1 x2 h (fun E h6 => (E = "java/lang/IndexOutOfBoundsException" ∧ (R (1 : Int32) h6))) (fun v5 h4 => ∃ a7, x3 = some a7 ∧ hT h4 a7 = 17 ∧ (vp_in (0 : Int32) (hL h4 a7) ∧ (∀ h11, h11 = sJ h4 a7 (0 : Int32).toNatClampNeg (v5.toInt64) → (R (0 : Int32) h11)))))
theorem s_Lw_stepMark {x0 : Option Nat} {x1 : Int32} {x2 : Int32} {x3 : Option Nat} {h : tpH} {R : Int32 → tpH → Prop} (hw : w_Lw_stepMark x0 x1 x2 x3 h R) : tpC Lw_stepMark 9 [vR x0, vI x1, vI x2, vR x3] h (tpOi R (fun _ _ => False)) := by
  refine tpC_ofH ms_Lw_stepMark.2.2.2 (by intro hz; cases hz) rfl (Nat.le_of_ble_eq_true rfl) ?_
  show tpR Lw_stepMark 9 h _ _ 0 [some (vR x0), some (vI x1), some (vI x2), some (vR x3), none] [] h
  unfold w_Lw_stepMark at hw
  refine tq_aload_n dLw_stepMark_0 rfl rfl ?_
  refine tq_iconst (v := (0 : Int32)) dLw_stepMark_1 tni_0 ?_
  refine tq_aload_n dLw_stepMark_2 rfl rfl ?_
  refine tq_iload_n dLw_stepMark_3 rfl rfl ?_
  refine tq_iload_n dLw_stepMark_4 rfl rfl ?_
  obtain ⟨a1, e2, f3, hw⟩ := hw
  refine te_callV mv_TP_stepMark (ci := 12) (dc := 8) (as := [vI x1, vI x2]) (rest := [vI (0 : Int32), vR x3]) kLw_97 rfl (Nat.le_of_ble_eq_true rfl) (Nat.le_of_ble_eq_true rfl) rfl rfl e2 f3 (Nat.le_of_ble_eq_true rfl) dLw_stepMark_5 (s_TP_stepMark hw) ?_ (tk_i fun v5 h4 hw => ?_)
  · intro E h6 hw
    obtain ⟨rfl, hw⟩ := hw
    refine tpXx.catch (ls' := [some (vR x0), some (vI x1), some (vI x2), some (vR x3), none]) [] ⟨0, 10, 13, 21⟩ [] rfl (fun _ hz => nomatch hz) (by decide) (by decide) cLw_21 (Or.inl ⟨dLw_stepMark_13, rfl⟩) (Nat.le_of_ble_eq_true rfl) rfl ?_
    refine tq_iconst (v := (1 : Int32)) dLw_stepMark_15 tni_1 ?_
    exact tq_iret rfl rfl dLw_stepMark_16 hw
  refine tq_i2l dLw_stepMark_8 ?_
  obtain ⟨a7, e8, f9, hw⟩ := hw
  obtain ⟨f10, hw⟩ := hw
  refine te_last dLw_stepMark_9 e8 f9 f10 (fun h11 e12 => ?_)
  have hw := hw h11 e12
  refine tq_goto (tgt := 17) dLw_stepMark_10 (by decide) ?_
  refine tq_iconst (v := (0 : Int32)) dLw_stepMark_17 tni_0 ?_
  exact tq_iret rfl rfl dLw_stepMark_18 hw
/-! TLaw.stepTo -/
theorem dLw_stepTo_0 : decode (mB Lw_stepTo) 0 = .ok (.aload 4, 2) := by decide +kernel
theorem dLw_stepTo_2 : decode (mB Lw_stepTo) 2 = .ok (.iconst 0, 1) := by decide +kernel
theorem dLw_stepTo_3 : decode (mB Lw_stepTo) 3 = .ok (.aload_n 0, 1) := by decide +kernel
theorem dLw_stepTo_4 : decode (mB Lw_stepTo) 4 = .ok (.iload_n 1, 1) := by decide +kernel
theorem dLw_stepTo_5 : decode (mB Lw_stepTo) 5 = .ok (.iload_n 2, 1) := by decide +kernel
theorem dLw_stepTo_6 : decode (mB Lw_stepTo) 6 = .ok (.iload_n 3, 1) := by decide +kernel
theorem dLw_stepTo_7 : decode (mB Lw_stepTo) 7 = .ok (.invokevirtual 100, 3) := by decide +kernel
theorem dLw_stepTo_10 : decode (mB Lw_stepTo) 10 = .ok (.i2l, 1) := by decide +kernel
theorem dLw_stepTo_11 : decode (mB Lw_stepTo) 11 = .ok (.lastore, 1) := by decide +kernel
theorem dLw_stepTo_12 : decode (mB Lw_stepTo) 12 = .ok (.goto 7, 3) := by decide +kernel
theorem dLw_stepTo_15 : decode (mB Lw_stepTo) 15 = .ok (.astore 5, 2) := by decide +kernel
theorem dLw_stepTo_17 : decode (mB Lw_stepTo) 17 = .ok (.iconst 1, 1) := by decide +kernel
theorem dLw_stepTo_18 : decode (mB Lw_stepTo) 18 = .ok (.ireturn, 1) := by decide +kernel
theorem dLw_stepTo_19 : decode (mB Lw_stepTo) 19 = .ok (.iconst 0, 1) := by decide +kernel
theorem dLw_stepTo_20 : decode (mB Lw_stepTo) 20 = .ok (.ireturn, 1) := by decide +kernel
def w_Lw_stepTo (x0 : Option Nat) (x1 : Int32) (x2 : Int32) (x3 : Int32) (x4 : Option Nat) (h : tpH) (R : Int32 → tpH → Prop) : Prop :=
  ∃ a1, x0 = some a1 ∧ hT h a1 = 13 ∧ (w_TP_stepTo a1 x1 x2 x3 h (fun E h6 => (E = "java/lang/IndexOutOfBoundsException" ∧ (R (1 : Int32) h6))) (fun v5 h4 => ∃ a7, x4 = some a7 ∧ hT h4 a7 = 17 ∧ (vp_in (0 : Int32) (hL h4 a7) ∧ (∀ h11, h11 = sJ h4 a7 (0 : Int32).toNatClampNeg (v5.toInt64) → (R (0 : Int32) h11)))))
theorem s_Lw_stepTo {x0 : Option Nat} {x1 : Int32} {x2 : Int32} {x3 : Int32} {x4 : Option Nat} {h : tpH} {R : Int32 → tpH → Prop} (hw : w_Lw_stepTo x0 x1 x2 x3 x4 h R) : tpC Lw_stepTo 9 [vR x0, vI x1, vI x2, vI x3, vR x4] h (tpOi R (fun _ _ => False)) := by
  refine tpC_ofH ms_Lw_stepTo.2.2.2 (by intro hz; cases hz) rfl (Nat.le_of_ble_eq_true rfl) ?_
  show tpR Lw_stepTo 9 h _ _ 0 [some (vR x0), some (vI x1), some (vI x2), some (vI x3), some (vR x4), none] [] h
  unfold w_Lw_stepTo at hw
  refine tq_aload dLw_stepTo_0 rfl ?_
  refine tq_iconst (v := (0 : Int32)) dLw_stepTo_2 tni_0 ?_
  refine tq_aload_n dLw_stepTo_3 rfl rfl ?_
  refine tq_iload_n dLw_stepTo_4 rfl rfl ?_
  refine tq_iload_n dLw_stepTo_5 rfl rfl ?_
  refine tq_iload_n dLw_stepTo_6 rfl rfl ?_
  obtain ⟨a1, e2, f3, hw⟩ := hw
  refine te_callV mv_TP_stepTo (ci := 12) (dc := 8) (as := [vI x1, vI x2, vI x3]) (rest := [vI (0 : Int32), vR x4]) kLw_100 rfl (Nat.le_of_ble_eq_true rfl) (Nat.le_of_ble_eq_true rfl) rfl rfl e2 f3 (Nat.le_of_ble_eq_true rfl) dLw_stepTo_7 (s_TP_stepTo hw) ?_ (tk_i fun v5 h4 hw => ?_)
  · intro E h6 hw
    obtain ⟨rfl, hw⟩ := hw
    refine tpXx.catch (ls' := [some (vR x0), some (vI x1), some (vI x2), some (vI x3), some (vR x4), none]) [] ⟨0, 12, 15, 21⟩ [] rfl (fun _ hz => nomatch hz) (by decide) (by decide) cLw_21 (Or.inl ⟨dLw_stepTo_15, rfl⟩) (Nat.le_of_ble_eq_true rfl) rfl ?_
    refine tq_iconst (v := (1 : Int32)) dLw_stepTo_17 tni_1 ?_
    exact tq_iret rfl rfl dLw_stepTo_18 hw
  refine tq_i2l dLw_stepTo_10 ?_
  obtain ⟨a7, e8, f9, hw⟩ := hw
  obtain ⟨f10, hw⟩ := hw
  refine te_last dLw_stepTo_11 e8 f9 f10 (fun h11 e12 => ?_)
  have hw := hw h11 e12
  refine tq_goto (tgt := 19) dLw_stepTo_12 (by decide) ?_
  refine tq_iconst (v := (0 : Int32)) dLw_stepTo_19 tni_0 ?_
  exact tq_iret rfl rfl dLw_stepTo_20 hw
/-! TLaw.conflictKind -/
theorem dLw_conflictKind_0 : decode (mB Lw_conflictKind) 0 = .ok (.aload_n 2, 1) := by decide +kernel
theorem dLw_conflictKind_1 : decode (mB Lw_conflictKind) 1 = .ok (.iconst 0, 1) := by decide +kernel
theorem dLw_conflictKind_2 : decode (mB Lw_conflictKind) 2 = .ok (.aload_n 0, 1) := by decide +kernel
theorem dLw_conflictKind_3 : decode (mB Lw_conflictKind) 3 = .ok (.iload_n 1, 1) := by decide +kernel
theorem dLw_conflictKind_4 : decode (mB Lw_conflictKind) 4 = .ok (.invokevirtual 104, 3) := by decide +kernel
theorem dLw_conflictKind_7 : decode (mB Lw_conflictKind) 7 = .ok (.i2l, 1) := by decide +kernel
theorem dLw_conflictKind_8 : decode (mB Lw_conflictKind) 8 = .ok (.lastore, 1) := by decide +kernel
theorem dLw_conflictKind_9 : decode (mB Lw_conflictKind) 9 = .ok (.goto 6, 3) := by decide +kernel
theorem dLw_conflictKind_12 : decode (mB Lw_conflictKind) 12 = .ok (.astore_n 3, 1) := by decide +kernel
theorem dLw_conflictKind_13 : decode (mB Lw_conflictKind) 13 = .ok (.iconst 1, 1) := by decide +kernel
theorem dLw_conflictKind_14 : decode (mB Lw_conflictKind) 14 = .ok (.ireturn, 1) := by decide +kernel
theorem dLw_conflictKind_15 : decode (mB Lw_conflictKind) 15 = .ok (.iconst 0, 1) := by decide +kernel
theorem dLw_conflictKind_16 : decode (mB Lw_conflictKind) 16 = .ok (.ireturn, 1) := by decide +kernel
def w_Lw_conflictKind (x0 : Option Nat) (x1 : Int32) (x2 : Option Nat) (h : tpH) (R : Int32 → tpH → Prop) : Prop :=
  ∃ a1, x0 = some a1 ∧ hT h a1 = 13 ∧ (w_TP_conflictKind a1 x1 h (fun E h6 => (E = "java/lang/IndexOutOfBoundsException" ∧ (R (1 : Int32) h6))) (fun v5 h4 => ∃ a7, x2 = some a7 ∧ hT h4 a7 = 17 ∧ (vp_in (0 : Int32) (hL h4 a7) ∧ (∀ h11, h11 = sJ h4 a7 (0 : Int32).toNatClampNeg (v5.toInt64) → (R (0 : Int32) h11)))))
theorem s_Lw_conflictKind {x0 : Option Nat} {x1 : Int32} {x2 : Option Nat} {h : tpH} {R : Int32 → tpH → Prop} (hw : w_Lw_conflictKind x0 x1 x2 h R) : tpC Lw_conflictKind 8 [vR x0, vI x1, vR x2] h (tpOi R (fun _ _ => False)) := by
  refine tpC_ofH ms_Lw_conflictKind.2.2.2 (by intro hz; cases hz) rfl (Nat.le_of_ble_eq_true rfl) ?_
  show tpR Lw_conflictKind 8 h _ _ 0 [some (vR x0), some (vI x1), some (vR x2), none] [] h
  unfold w_Lw_conflictKind at hw
  refine tq_aload_n dLw_conflictKind_0 rfl rfl ?_
  refine tq_iconst (v := (0 : Int32)) dLw_conflictKind_1 tni_0 ?_
  refine tq_aload_n dLw_conflictKind_2 rfl rfl ?_
  refine tq_iload_n dLw_conflictKind_3 rfl rfl ?_
  obtain ⟨a1, e2, f3, hw⟩ := hw
  refine te_callV mv_TP_conflictKind (ci := 12) (dc := 7) (as := [vI x1]) (rest := [vI (0 : Int32), vR x2]) kLw_104 rfl (Nat.le_of_ble_eq_true rfl) (Nat.le_of_ble_eq_true rfl) rfl rfl e2 f3 (Nat.le_of_ble_eq_true rfl) dLw_conflictKind_4 (s_TP_conflictKind hw) ?_ (tk_i fun v5 h4 hw => ?_)
  · intro E h6 hw
    obtain ⟨rfl, hw⟩ := hw
    refine tpXx.catch (ls' := [some (vR x0), some (vI x1), some (vR x2), none]) [] ⟨0, 9, 12, 21⟩ [] rfl (fun _ hz => nomatch hz) (by decide) (by decide) cLw_21 (Or.inr ⟨3, rfl, dLw_conflictKind_12, rfl⟩) (Nat.le_of_ble_eq_true rfl) rfl ?_
    refine tq_iconst (v := (1 : Int32)) dLw_conflictKind_13 tni_1 ?_
    exact tq_iret rfl rfl dLw_conflictKind_14 hw
  refine tq_i2l dLw_conflictKind_7 ?_
  obtain ⟨a7, e8, f9, hw⟩ := hw
  obtain ⟨f10, hw⟩ := hw
  refine te_last dLw_conflictKind_8 e8 f9 f10 (fun h11 e12 => ?_)
  have hw := hw h11 e12
  refine tq_goto (tgt := 15) dLw_conflictKind_9 (by decide) ?_
  refine tq_iconst (v := (0 : Int32)) dLw_conflictKind_15 tni_0 ?_
  exact tq_iret rfl rfl dLw_conflictKind_16 hw
/-! TLaw.conflictMark -/
theorem dLw_conflictMark_0 : decode (mB Lw_conflictMark) 0 = .ok (.aload_n 2, 1) := by decide +kernel
theorem dLw_conflictMark_1 : decode (mB Lw_conflictMark) 1 = .ok (.iconst 0, 1) := by decide +kernel
theorem dLw_conflictMark_2 : decode (mB Lw_conflictMark) 2 = .ok (.aload_n 0, 1) := by decide +kernel
theorem dLw_conflictMark_3 : decode (mB Lw_conflictMark) 3 = .ok (.iload_n 1, 1) := by decide +kernel
theorem dLw_conflictMark_4 : decode (mB Lw_conflictMark) 4 = .ok (.invokevirtual 107, 3) := by decide +kernel
theorem dLw_conflictMark_7 : decode (mB Lw_conflictMark) 7 = .ok (.i2l, 1) := by decide +kernel
theorem dLw_conflictMark_8 : decode (mB Lw_conflictMark) 8 = .ok (.lastore, 1) := by decide +kernel
theorem dLw_conflictMark_9 : decode (mB Lw_conflictMark) 9 = .ok (.goto 6, 3) := by decide +kernel
theorem dLw_conflictMark_12 : decode (mB Lw_conflictMark) 12 = .ok (.astore_n 3, 1) := by decide +kernel
theorem dLw_conflictMark_13 : decode (mB Lw_conflictMark) 13 = .ok (.iconst 1, 1) := by decide +kernel
theorem dLw_conflictMark_14 : decode (mB Lw_conflictMark) 14 = .ok (.ireturn, 1) := by decide +kernel
theorem dLw_conflictMark_15 : decode (mB Lw_conflictMark) 15 = .ok (.iconst 0, 1) := by decide +kernel
theorem dLw_conflictMark_16 : decode (mB Lw_conflictMark) 16 = .ok (.ireturn, 1) := by decide +kernel
def w_Lw_conflictMark (x0 : Option Nat) (x1 : Int32) (x2 : Option Nat) (h : tpH) (R : Int32 → tpH → Prop) : Prop :=
  ∃ a1, x0 = some a1 ∧ hT h a1 = 13 ∧ (w_TP_conflictMark a1 x1 h (fun E h6 => (E = "java/lang/IndexOutOfBoundsException" ∧ (R (1 : Int32) h6))) (fun v5 h4 => ∃ a7, x2 = some a7 ∧ hT h4 a7 = 17 ∧ (vp_in (0 : Int32) (hL h4 a7) ∧ (∀ h11, h11 = sJ h4 a7 (0 : Int32).toNatClampNeg (v5.toInt64) → (R (0 : Int32) h11)))))
theorem s_Lw_conflictMark {x0 : Option Nat} {x1 : Int32} {x2 : Option Nat} {h : tpH} {R : Int32 → tpH → Prop} (hw : w_Lw_conflictMark x0 x1 x2 h R) : tpC Lw_conflictMark 8 [vR x0, vI x1, vR x2] h (tpOi R (fun _ _ => False)) := by
  refine tpC_ofH ms_Lw_conflictMark.2.2.2 (by intro hz; cases hz) rfl (Nat.le_of_ble_eq_true rfl) ?_
  show tpR Lw_conflictMark 8 h _ _ 0 [some (vR x0), some (vI x1), some (vR x2), none] [] h
  unfold w_Lw_conflictMark at hw
  refine tq_aload_n dLw_conflictMark_0 rfl rfl ?_
  refine tq_iconst (v := (0 : Int32)) dLw_conflictMark_1 tni_0 ?_
  refine tq_aload_n dLw_conflictMark_2 rfl rfl ?_
  refine tq_iload_n dLw_conflictMark_3 rfl rfl ?_
  obtain ⟨a1, e2, f3, hw⟩ := hw
  refine te_callV mv_TP_conflictMark (ci := 12) (dc := 7) (as := [vI x1]) (rest := [vI (0 : Int32), vR x2]) kLw_107 rfl (Nat.le_of_ble_eq_true rfl) (Nat.le_of_ble_eq_true rfl) rfl rfl e2 f3 (Nat.le_of_ble_eq_true rfl) dLw_conflictMark_4 (s_TP_conflictMark hw) ?_ (tk_i fun v5 h4 hw => ?_)
  · intro E h6 hw
    obtain ⟨rfl, hw⟩ := hw
    refine tpXx.catch (ls' := [some (vR x0), some (vI x1), some (vR x2), none]) [] ⟨0, 9, 12, 21⟩ [] rfl (fun _ hz => nomatch hz) (by decide) (by decide) cLw_21 (Or.inr ⟨3, rfl, dLw_conflictMark_12, rfl⟩) (Nat.le_of_ble_eq_true rfl) rfl ?_
    refine tq_iconst (v := (1 : Int32)) dLw_conflictMark_13 tni_1 ?_
    exact tq_iret rfl rfl dLw_conflictMark_14 hw
  refine tq_i2l dLw_conflictMark_7 ?_
  obtain ⟨a7, e8, f9, hw⟩ := hw
  obtain ⟨f10, hw⟩ := hw
  refine te_last dLw_conflictMark_8 e8 f9 f10 (fun h11 e12 => ?_)
  have hw := hw h11 e12
  refine tq_goto (tgt := 15) dLw_conflictMark_9 (by decide) ?_
  refine tq_iconst (v := (0 : Int32)) dLw_conflictMark_15 tni_0 ?_
  exact tq_iret rfl rfl dLw_conflictMark_16 hw
/-! TLaw.treeOf -/
theorem dLw_treeOf_0 : decode (mB Lw_treeOf) 0 = .ok (.aload_n 2, 1) := by decide +kernel
theorem dLw_treeOf_1 : decode (mB Lw_treeOf) 1 = .ok (.iconst 0, 1) := by decide +kernel
theorem dLw_treeOf_2 : decode (mB Lw_treeOf) 2 = .ok (.aload_n 0, 1) := by decide +kernel
theorem dLw_treeOf_3 : decode (mB Lw_treeOf) 3 = .ok (.iload_n 1, 1) := by decide +kernel
theorem dLw_treeOf_4 : decode (mB Lw_treeOf) 4 = .ok (.invokevirtual 110, 3) := by decide +kernel
theorem dLw_treeOf_7 : decode (mB Lw_treeOf) 7 = .ok (.i2l, 1) := by decide +kernel
theorem dLw_treeOf_8 : decode (mB Lw_treeOf) 8 = .ok (.lastore, 1) := by decide +kernel
theorem dLw_treeOf_9 : decode (mB Lw_treeOf) 9 = .ok (.goto 6, 3) := by decide +kernel
theorem dLw_treeOf_12 : decode (mB Lw_treeOf) 12 = .ok (.astore_n 3, 1) := by decide +kernel
theorem dLw_treeOf_13 : decode (mB Lw_treeOf) 13 = .ok (.iconst 1, 1) := by decide +kernel
theorem dLw_treeOf_14 : decode (mB Lw_treeOf) 14 = .ok (.ireturn, 1) := by decide +kernel
theorem dLw_treeOf_15 : decode (mB Lw_treeOf) 15 = .ok (.iconst 0, 1) := by decide +kernel
theorem dLw_treeOf_16 : decode (mB Lw_treeOf) 16 = .ok (.ireturn, 1) := by decide +kernel
def w_Lw_treeOf (x0 : Option Nat) (x1 : Int32) (x2 : Option Nat) (h : tpH) (R : Int32 → tpH → Prop) : Prop :=
  ∃ a1, x0 = some a1 ∧ hT h a1 = 13 ∧ (w_TP_treeOf a1 x1 h (fun E h6 => (E = "java/lang/IndexOutOfBoundsException" ∧ (R (1 : Int32) h6))) (fun v5 h4 => ∃ a7, x2 = some a7 ∧ hT h4 a7 = 17 ∧ (vp_in (0 : Int32) (hL h4 a7) ∧ (∀ h11, h11 = sJ h4 a7 (0 : Int32).toNatClampNeg (v5.toInt64) → (R (0 : Int32) h11)))))
theorem s_Lw_treeOf {x0 : Option Nat} {x1 : Int32} {x2 : Option Nat} {h : tpH} {R : Int32 → tpH → Prop} (hw : w_Lw_treeOf x0 x1 x2 h R) : tpC Lw_treeOf 8 [vR x0, vI x1, vR x2] h (tpOi R (fun _ _ => False)) := by
  refine tpC_ofH ms_Lw_treeOf.2.2.2 (by intro hz; cases hz) rfl (Nat.le_of_ble_eq_true rfl) ?_
  show tpR Lw_treeOf 8 h _ _ 0 [some (vR x0), some (vI x1), some (vR x2), none] [] h
  unfold w_Lw_treeOf at hw
  refine tq_aload_n dLw_treeOf_0 rfl rfl ?_
  refine tq_iconst (v := (0 : Int32)) dLw_treeOf_1 tni_0 ?_
  refine tq_aload_n dLw_treeOf_2 rfl rfl ?_
  refine tq_iload_n dLw_treeOf_3 rfl rfl ?_
  obtain ⟨a1, e2, f3, hw⟩ := hw
  refine te_callV mv_TP_treeOf (ci := 12) (dc := 7) (as := [vI x1]) (rest := [vI (0 : Int32), vR x2]) kLw_110 rfl (Nat.le_of_ble_eq_true rfl) (Nat.le_of_ble_eq_true rfl) rfl rfl e2 f3 (Nat.le_of_ble_eq_true rfl) dLw_treeOf_4 (s_TP_treeOf hw) ?_ (tk_i fun v5 h4 hw => ?_)
  · intro E h6 hw
    obtain ⟨rfl, hw⟩ := hw
    refine tpXx.catch (ls' := [some (vR x0), some (vI x1), some (vR x2), none]) [] ⟨0, 9, 12, 21⟩ [] rfl (fun _ hz => nomatch hz) (by decide) (by decide) cLw_21 (Or.inr ⟨3, rfl, dLw_treeOf_12, rfl⟩) (Nat.le_of_ble_eq_true rfl) rfl ?_
    refine tq_iconst (v := (1 : Int32)) dLw_treeOf_13 tni_1 ?_
    exact tq_iret rfl rfl dLw_treeOf_14 hw
  refine tq_i2l dLw_treeOf_7 ?_
  obtain ⟨a7, e8, f9, hw⟩ := hw
  obtain ⟨f10, hw⟩ := hw
  refine te_last dLw_treeOf_8 e8 f9 f10 (fun h11 e12 => ?_)
  have hw := hw h11 e12
  refine tq_goto (tgt := 15) dLw_treeOf_9 (by decide) ?_
  refine tq_iconst (v := (0 : Int32)) dLw_treeOf_15 tni_0 ?_
  exact tq_iret rfl rfl dLw_treeOf_16 hw
/-! TLaw.touched -/
theorem dLw_touched_0 : decode (mB Lw_touched) 0 = .ok (.aload_n 3, 1) := by decide +kernel
theorem dLw_touched_1 : decode (mB Lw_touched) 1 = .ok (.iconst 0, 1) := by decide +kernel
theorem dLw_touched_2 : decode (mB Lw_touched) 2 = .ok (.aload_n 0, 1) := by decide +kernel
theorem dLw_touched_3 : decode (mB Lw_touched) 3 = .ok (.iload_n 1, 1) := by decide +kernel
theorem dLw_touched_4 : decode (mB Lw_touched) 4 = .ok (.iload_n 2, 1) := by decide +kernel
theorem dLw_touched_5 : decode (mB Lw_touched) 5 = .ok (.invokevirtual 113, 3) := by decide +kernel
theorem dLw_touched_8 : decode (mB Lw_touched) 8 = .ok (.i2l, 1) := by decide +kernel
theorem dLw_touched_9 : decode (mB Lw_touched) 9 = .ok (.lastore, 1) := by decide +kernel
theorem dLw_touched_10 : decode (mB Lw_touched) 10 = .ok (.goto 7, 3) := by decide +kernel
theorem dLw_touched_13 : decode (mB Lw_touched) 13 = .ok (.astore 4, 2) := by decide +kernel
theorem dLw_touched_15 : decode (mB Lw_touched) 15 = .ok (.iconst 1, 1) := by decide +kernel
theorem dLw_touched_16 : decode (mB Lw_touched) 16 = .ok (.ireturn, 1) := by decide +kernel
theorem dLw_touched_17 : decode (mB Lw_touched) 17 = .ok (.iconst 0, 1) := by decide +kernel
theorem dLw_touched_18 : decode (mB Lw_touched) 18 = .ok (.ireturn, 1) := by decide +kernel
def w_Lw_touched (x0 : Option Nat) (x1 : Int32) (x2 : Int32) (x3 : Option Nat) (h : tpH) (R : Int32 → tpH → Prop) : Prop :=
  ∃ a1, x0 = some a1 ∧ hT h a1 = 13 ∧ (w_TP_touched a1 x1 x2 h (fun E h6 => (E = "java/lang/IndexOutOfBoundsException" ∧ (R (1 : Int32) h6))) (fun v5 h4 => ∃ a7, x3 = some a7 ∧ hT h4 a7 = 17 ∧ (vp_in (0 : Int32) (hL h4 a7) ∧ (∀ h11, h11 = sJ h4 a7 (0 : Int32).toNatClampNeg (v5.toInt64) → (R (0 : Int32) h11)))))
theorem s_Lw_touched {x0 : Option Nat} {x1 : Int32} {x2 : Int32} {x3 : Option Nat} {h : tpH} {R : Int32 → tpH → Prop} (hw : w_Lw_touched x0 x1 x2 x3 h R) : tpC Lw_touched 10 [vR x0, vI x1, vI x2, vR x3] h (tpOi R (fun _ _ => False)) := by
  refine tpC_ofH ms_Lw_touched.2.2.2 (by intro hz; cases hz) rfl (Nat.le_of_ble_eq_true rfl) ?_
  show tpR Lw_touched 10 h _ _ 0 [some (vR x0), some (vI x1), some (vI x2), some (vR x3), none] [] h
  unfold w_Lw_touched at hw
  refine tq_aload_n dLw_touched_0 rfl rfl ?_
  refine tq_iconst (v := (0 : Int32)) dLw_touched_1 tni_0 ?_
  refine tq_aload_n dLw_touched_2 rfl rfl ?_
  refine tq_iload_n dLw_touched_3 rfl rfl ?_
  refine tq_iload_n dLw_touched_4 rfl rfl ?_
  obtain ⟨a1, e2, f3, hw⟩ := hw
  refine te_callV mv_TP_touched (ci := 12) (dc := 9) (as := [vI x1, vI x2]) (rest := [vI (0 : Int32), vR x3]) kLw_113 rfl (Nat.le_of_ble_eq_true rfl) (Nat.le_of_ble_eq_true rfl) rfl rfl e2 f3 (Nat.le_of_ble_eq_true rfl) dLw_touched_5 (s_TP_touched hw) ?_ (tk_i fun v5 h4 hw => ?_)
  · intro E h6 hw
    obtain ⟨rfl, hw⟩ := hw
    refine tpXx.catch (ls' := [some (vR x0), some (vI x1), some (vI x2), some (vR x3), none]) [] ⟨0, 10, 13, 21⟩ [] rfl (fun _ hz => nomatch hz) (by decide) (by decide) cLw_21 (Or.inl ⟨dLw_touched_13, rfl⟩) (Nat.le_of_ble_eq_true rfl) rfl ?_
    refine tq_iconst (v := (1 : Int32)) dLw_touched_15 tni_1 ?_
    exact tq_iret rfl rfl dLw_touched_16 hw
  refine tq_i2l dLw_touched_8 ?_
  obtain ⟨a7, e8, f9, hw⟩ := hw
  obtain ⟨f10, hw⟩ := hw
  refine te_last dLw_touched_9 e8 f9 f10 (fun h11 e12 => ?_)
  have hw := hw h11 e12
  refine tq_goto (tgt := 17) dLw_touched_10 (by decide) ?_
  refine tq_iconst (v := (0 : Int32)) dLw_touched_17 tni_0 ?_
  exact tq_iret rfl rfl dLw_touched_18 hw
/-! TLaw.look -/
theorem dLw_look_0 : decode (mB Lw_look) 0 = .ok (.aload 5, 2) := by decide +kernel
theorem dLw_look_2 : decode (mB Lw_look) 2 = .ok (.iconst 0, 1) := by decide +kernel
theorem dLw_look_3 : decode (mB Lw_look) 3 = .ok (.aload_n 0, 1) := by decide +kernel
theorem dLw_look_4 : decode (mB Lw_look) 4 = .ok (.iload_n 1, 1) := by decide +kernel
theorem dLw_look_5 : decode (mB Lw_look) 5 = .ok (.iload_n 2, 1) := by decide +kernel
theorem dLw_look_6 : decode (mB Lw_look) 6 = .ok (.iload_n 3, 1) := by decide +kernel
theorem dLw_look_7 : decode (mB Lw_look) 7 = .ok (.iload 4, 2) := by decide +kernel
theorem dLw_look_9 : decode (mB Lw_look) 9 = .ok (.invokevirtual 116, 3) := by decide +kernel
theorem dLw_look_12 : decode (mB Lw_look) 12 = .ok (.i2l, 1) := by decide +kernel
theorem dLw_look_13 : decode (mB Lw_look) 13 = .ok (.lastore, 1) := by decide +kernel
theorem dLw_look_14 : decode (mB Lw_look) 14 = .ok (.goto 15, 3) := by decide +kernel
theorem dLw_look_17 : decode (mB Lw_look) 17 = .ok (.astore 6, 2) := by decide +kernel
theorem dLw_look_19 : decode (mB Lw_look) 19 = .ok (.iconst 1, 1) := by decide +kernel
theorem dLw_look_20 : decode (mB Lw_look) 20 = .ok (.ireturn, 1) := by decide +kernel
theorem dLw_look_21 : decode (mB Lw_look) 21 = .ok (.astore 6, 2) := by decide +kernel
theorem dLw_look_23 : decode (mB Lw_look) 23 = .ok (.iconst 2, 1) := by decide +kernel
theorem dLw_look_24 : decode (mB Lw_look) 24 = .ok (.ireturn, 1) := by decide +kernel
theorem dLw_look_25 : decode (mB Lw_look) 25 = .ok (.astore 6, 2) := by decide +kernel
theorem dLw_look_27 : decode (mB Lw_look) 27 = .ok (.iconst 3, 1) := by decide +kernel
theorem dLw_look_28 : decode (mB Lw_look) 28 = .ok (.ireturn, 1) := by decide +kernel
theorem dLw_look_29 : decode (mB Lw_look) 29 = .ok (.iconst 0, 1) := by decide +kernel
theorem dLw_look_30 : decode (mB Lw_look) 30 = .ok (.ireturn, 1) := by decide +kernel
def w_Lw_look (x0 : Option Nat) (x1 : Int32) (x2 : Int32) (x3 : Int32) (x4 : Int32) (x5 : Option Nat) (h : tpH) (R : Int32 → tpH → Prop) : Prop :=
  ∃ a1, x0 = some a1 ∧ hT h a1 = 13 ∧ (w_TP_look a1 x1 x2 x3 x4 h (fun E h6 => (E = "java/lang/IndexOutOfBoundsException" ∧ (R (1 : Int32) h6)) ∨ (E = "java/lang/IllegalArgumentException" ∧ (R (2 : Int32) h6)) ∨ (E = "java/lang/IllegalStateException" ∧ (R (3 : Int32) h6))) (fun v5 h4 => ∃ a7, x5 = some a7 ∧ hT h4 a7 = 17 ∧ (vp_in (0 : Int32) (hL h4 a7) ∧ (∀ h11, h11 = sJ h4 a7 (0 : Int32).toNatClampNeg (v5.toInt64) → (R (0 : Int32) h11)))))
theorem s_Lw_look {x0 : Option Nat} {x1 : Int32} {x2 : Int32} {x3 : Int32} {x4 : Int32} {x5 : Option Nat} {h : tpH} {R : Int32 → tpH → Prop} (hw : w_Lw_look x0 x1 x2 x3 x4 x5 h R) : tpC Lw_look 9 [vR x0, vI x1, vI x2, vI x3, vI x4, vR x5] h (tpOi R (fun _ _ => False)) := by
  refine tpC_ofH ms_Lw_look.2.2.2 (by intro hz; cases hz) rfl (Nat.le_of_ble_eq_true rfl) ?_
  show tpR Lw_look 9 h _ _ 0 [some (vR x0), some (vI x1), some (vI x2), some (vI x3), some (vI x4), some (vR x5), none] [] h
  unfold w_Lw_look at hw
  refine tq_aload dLw_look_0 rfl ?_
  refine tq_iconst (v := (0 : Int32)) dLw_look_2 tni_0 ?_
  refine tq_aload_n dLw_look_3 rfl rfl ?_
  refine tq_iload_n dLw_look_4 rfl rfl ?_
  refine tq_iload_n dLw_look_5 rfl rfl ?_
  refine tq_iload_n dLw_look_6 rfl rfl ?_
  refine tq_iload dLw_look_7 rfl ?_
  obtain ⟨a1, e2, f3, hw⟩ := hw
  refine te_callV mv_TP_look (ci := 12) (dc := 8) (as := [vI x1, vI x2, vI x3, vI x4]) (rest := [vI (0 : Int32), vR x5]) kLw_116 rfl (Nat.le_of_ble_eq_true rfl) (Nat.le_of_ble_eq_true rfl) rfl rfl e2 f3 (Nat.le_of_ble_eq_true rfl) dLw_look_9 (s_TP_look hw) ?_ (tk_i fun v5 h4 hw => ?_)
  · intro E h6 hw
    rcases hw with ⟨rfl, hw⟩ | ⟨rfl, hw⟩ | ⟨rfl, hw⟩
    · refine tpXx.catch (ls' := [some (vR x0), some (vI x1), some (vI x2), some (vI x3), some (vI x4), some (vR x5), none]) [] ⟨0, 14, 17, 21⟩ [⟨0, 14, 21, 13⟩, ⟨0, 14, 25, 15⟩] rfl (fun _ hz => nomatch hz) (by decide) (by decide) cLw_21 (Or.inl ⟨dLw_look_17, rfl⟩) (Nat.le_of_ble_eq_true rfl) rfl ?_
      refine tq_iconst (v := (1 : Int32)) dLw_look_19 tni_1 ?_
      exact tq_iret rfl rfl dLw_look_20 hw
    · refine tpXx.catch (ls' := [some (vR x0), some (vI x1), some (vI x2), some (vI x3), some (vI x4), some (vR x5), none]) [⟨0, 14, 17, 21⟩] ⟨0, 14, 21, 13⟩ [⟨0, 14, 25, 15⟩] rfl (List.forall_mem_cons.mpr ⟨Or.inr ⟨by decide, _, cLw_21, by decide +kernel⟩, fun _ hz => nomatch hz⟩) (by decide) (by decide) cLw_13 (Or.inl ⟨dLw_look_21, rfl⟩) (Nat.le_of_ble_eq_true rfl) rfl ?_
      refine tq_iconst (v := (2 : Int32)) dLw_look_23 tni_2 ?_
      exact tq_iret rfl rfl dLw_look_24 hw
    · refine tpXx.catch (ls' := [some (vR x0), some (vI x1), some (vI x2), some (vI x3), some (vI x4), some (vR x5), none]) [⟨0, 14, 17, 21⟩, ⟨0, 14, 21, 13⟩] ⟨0, 14, 25, 15⟩ [] rfl (List.forall_mem_cons.mpr ⟨Or.inr ⟨by decide, _, cLw_21, by decide +kernel⟩, List.forall_mem_cons.mpr ⟨Or.inr ⟨by decide, _, cLw_13, by decide +kernel⟩, fun _ hz => nomatch hz⟩⟩) (by decide) (by decide) cLw_15 (Or.inl ⟨dLw_look_25, rfl⟩) (Nat.le_of_ble_eq_true rfl) rfl ?_
      refine tq_iconst (v := (3 : Int32)) dLw_look_27 tni_3 ?_
      exact tq_iret rfl rfl dLw_look_28 hw
  refine tq_i2l dLw_look_12 ?_
  obtain ⟨a7, e8, f9, hw⟩ := hw
  obtain ⟨f10, hw⟩ := hw
  refine te_last dLw_look_13 e8 f9 f10 (fun h11 e12 => ?_)
  have hw := hw h11 e12
  refine tq_goto (tgt := 29) dLw_look_14 (by decide) ?_
  refine tq_iconst (v := (0 : Int32)) dLw_look_29 tni_0 ?_
  exact tq_iret rfl rfl dLw_look_30 hw
