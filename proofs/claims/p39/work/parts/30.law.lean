/-! TLaw.mark -/
theorem dLw_mark_0 : decode (mB Lw_mark) 0 = .ok (.aload_n 0, 1) := by decide +kernel
theorem dLw_mark_1 : decode (mB Lw_mark) 1 = .ok (.iconst 1, 1) := by decide +kernel
theorem dLw_mark_2 : decode (mB Lw_mark) 2 = .ok (.iload_n 1, 1) := by decide +kernel
theorem dLw_mark_3 : decode (mB Lw_mark) 3 = .ok (.iadd, 1) := by decide +kernel
theorem dLw_mark_4 : decode (mB Lw_mark) 4 = .ok (.iaload, 1) := by decide +kernel
theorem dLw_mark_5 : decode (mB Lw_mark) 5 = .ok (.bipush 64, 2) := by decide +kernel
theorem dLw_mark_7 : decode (mB Lw_mark) 7 = .ok (.irem, 1) := by decide +kernel
theorem dLw_mark_8 : decode (mB Lw_mark) 8 = .ok (.ireturn, 1) := by decide +kernel
def w_Lw_mark (x0 : Option Nat) (x1 : Int32) (h : tpH) (R : Int32 → tpH → Prop) : Prop :=
  ∃ a1, x0 = some a1 ∧ hT h a1 = 15 ∧ (vp_in ((1 : Int32) + x1) (hL h a1) ∧ (R ((hI h a1 ((1 : Int32) + x1).toNatClampNeg) - (hI h a1 ((1 : Int32) + x1).toNatClampNeg) / (64 : Int32) * (64 : Int32)) h))
theorem s_Lw_mark {x0 : Option Nat} {x1 : Int32} {h : tpH} {R : Int32 → tpH → Prop} (hw : w_Lw_mark x0 x1 h R) : tpC Lw_mark 0 [vR x0, vI x1] h (tpOi R (fun _ _ => False)) := by
  refine tpC_of ms_Lw_mark.2.2.2.1 rfl rfl (Nat.le_of_ble_eq_true rfl) ?_
  show tpR Lw_mark 0 h _ _ 0 [some (vR x0), some (vI x1)] [] h
  unfold w_Lw_mark at hw
  refine tq_aload_n dLw_mark_0 rfl rfl ?_
  refine tq_iconst (v := (1 : Int32)) dLw_mark_1 tni_1 ?_
  refine tq_iload_n dLw_mark_2 rfl rfl ?_
  refine tq_iadd dLw_mark_3 ?_
  obtain ⟨a1, e2, f3, hw⟩ := hw
  obtain ⟨f4, hw⟩ := hw
  refine te_iald dLw_mark_4 e2 (Or.inl f3) f4 ?_
  refine tq_bipush (v := (64 : Int32)) dLw_mark_5 tnb_64 ?_
  refine tq_irem dLw_mark_7 (by decide) ?_
  exact tq_iret rfl rfl dLw_mark_8 hw
/-! TLaw.parent -/
theorem dLw_parent_0 : decode (mB Lw_parent) 0 = .ok (.aload_n 0, 1) := by decide +kernel
theorem dLw_parent_1 : decode (mB Lw_parent) 1 = .ok (.iconst 1, 1) := by decide +kernel
theorem dLw_parent_2 : decode (mB Lw_parent) 2 = .ok (.iload_n 1, 1) := by decide +kernel
theorem dLw_parent_3 : decode (mB Lw_parent) 3 = .ok (.iadd, 1) := by decide +kernel
theorem dLw_parent_4 : decode (mB Lw_parent) 4 = .ok (.iaload, 1) := by decide +kernel
theorem dLw_parent_5 : decode (mB Lw_parent) 5 = .ok (.sipush 8192, 3) := by decide +kernel
theorem dLw_parent_8 : decode (mB Lw_parent) 8 = .ok (.idiv, 1) := by decide +kernel
theorem dLw_parent_9 : decode (mB Lw_parent) 9 = .ok (.iconst 1, 1) := by decide +kernel
theorem dLw_parent_10 : decode (mB Lw_parent) 10 = .ok (.isub, 1) := by decide +kernel
theorem dLw_parent_11 : decode (mB Lw_parent) 11 = .ok (.ireturn, 1) := by decide +kernel
def w_Lw_parent (x0 : Option Nat) (x1 : Int32) (h : tpH) (R : Int32 → tpH → Prop) : Prop :=
  ∃ a1, x0 = some a1 ∧ hT h a1 = 15 ∧ (vp_in ((1 : Int32) + x1) (hL h a1) ∧ (R (((hI h a1 ((1 : Int32) + x1).toNatClampNeg) / (8192 : Int32)) - (1 : Int32)) h))
theorem s_Lw_parent {x0 : Option Nat} {x1 : Int32} {h : tpH} {R : Int32 → tpH → Prop} (hw : w_Lw_parent x0 x1 h R) : tpC Lw_parent 0 [vR x0, vI x1] h (tpOi R (fun _ _ => False)) := by
  refine tpC_of ms_Lw_parent.2.2.2.1 rfl rfl (Nat.le_of_ble_eq_true rfl) ?_
  show tpR Lw_parent 0 h _ _ 0 [some (vR x0), some (vI x1)] [] h
  unfold w_Lw_parent at hw
  refine tq_aload_n dLw_parent_0 rfl rfl ?_
  refine tq_iconst (v := (1 : Int32)) dLw_parent_1 tni_1 ?_
  refine tq_iload_n dLw_parent_2 rfl rfl ?_
  refine tq_iadd dLw_parent_3 ?_
  obtain ⟨a1, e2, f3, hw⟩ := hw
  obtain ⟨f4, hw⟩ := hw
  refine te_iald dLw_parent_4 e2 (Or.inl f3) f4 ?_
  refine tq_sipush (v := (8192 : Int32)) dLw_parent_5 tns_8192 ?_
  refine tq_idiv dLw_parent_8 (by decide) ?_
  refine tq_iconst (v := (1 : Int32)) dLw_parent_9 tni_1 ?_
  refine tq_isub dLw_parent_10 ?_
  exact tq_iret rfl rfl dLw_parent_11 hw
/-! TLaw.value -/
theorem dLw_value_0 : decode (mB Lw_value) 0 = .ok (.aload_n 0, 1) := by decide +kernel
theorem dLw_value_1 : decode (mB Lw_value) 1 = .ok (.iconst 1, 1) := by decide +kernel
theorem dLw_value_2 : decode (mB Lw_value) 2 = .ok (.iload_n 1, 1) := by decide +kernel
theorem dLw_value_3 : decode (mB Lw_value) 3 = .ok (.iadd, 1) := by decide +kernel
theorem dLw_value_4 : decode (mB Lw_value) 4 = .ok (.iaload, 1) := by decide +kernel
theorem dLw_value_5 : decode (mB Lw_value) 5 = .ok (.bipush 64, 2) := by decide +kernel
theorem dLw_value_7 : decode (mB Lw_value) 7 = .ok (.idiv, 1) := by decide +kernel
theorem dLw_value_8 : decode (mB Lw_value) 8 = .ok (.sipush 128, 3) := by decide +kernel
theorem dLw_value_11 : decode (mB Lw_value) 11 = .ok (.irem, 1) := by decide +kernel
theorem dLw_value_12 : decode (mB Lw_value) 12 = .ok (.ireturn, 1) := by decide +kernel
def w_Lw_value (x0 : Option Nat) (x1 : Int32) (h : tpH) (R : Int32 → tpH → Prop) : Prop :=
  ∃ a1, x0 = some a1 ∧ hT h a1 = 15 ∧ (vp_in ((1 : Int32) + x1) (hL h a1) ∧ (R (((hI h a1 ((1 : Int32) + x1).toNatClampNeg) / (64 : Int32)) - ((hI h a1 ((1 : Int32) + x1).toNatClampNeg) / (64 : Int32)) / (128 : Int32) * (128 : Int32)) h))
theorem s_Lw_value {x0 : Option Nat} {x1 : Int32} {h : tpH} {R : Int32 → tpH → Prop} (hw : w_Lw_value x0 x1 h R) : tpC Lw_value 0 [vR x0, vI x1] h (tpOi R (fun _ _ => False)) := by
  refine tpC_of ms_Lw_value.2.2.2.1 rfl rfl (Nat.le_of_ble_eq_true rfl) ?_
  show tpR Lw_value 0 h _ _ 0 [some (vR x0), some (vI x1)] [] h
  unfold w_Lw_value at hw
  refine tq_aload_n dLw_value_0 rfl rfl ?_
  refine tq_iconst (v := (1 : Int32)) dLw_value_1 tni_1 ?_
  refine tq_iload_n dLw_value_2 rfl rfl ?_
  refine tq_iadd dLw_value_3 ?_
  obtain ⟨a1, e2, f3, hw⟩ := hw
  obtain ⟨f4, hw⟩ := hw
  refine te_iald dLw_value_4 e2 (Or.inl f3) f4 ?_
  refine tq_bipush (v := (64 : Int32)) dLw_value_5 tnb_64 ?_
  refine tq_idiv dLw_value_7 (by decide) ?_
  refine tq_sipush (v := (128 : Int32)) dLw_value_8 tns_128 ?_
  refine tq_irem dLw_value_11 (by decide) ?_
  exact tq_iret rfl rfl dLw_value_12 hw
/-! TLaw.place -/
theorem dLw_place_0 : decode (mB Lw_place) 0 = .ok (.iconst (-1), 1) := by decide +kernel
theorem dLw_place_1 : decode (mB Lw_place) 1 = .ok (.istore_n 2, 1) := by decide +kernel
theorem dLw_place_2 : decode (mB Lw_place) 2 = .ok (.iconst 0, 1) := by decide +kernel
theorem dLw_place_3 : decode (mB Lw_place) 3 = .ok (.istore_n 3, 1) := by decide +kernel
theorem dLw_place_4 : decode (mB Lw_place) 4 = .ok (.iload_n 3, 1) := by decide +kernel
theorem dLw_place_5 : decode (mB Lw_place) 5 = .ok (.aload_n 0, 1) := by decide +kernel
theorem dLw_place_6 : decode (mB Lw_place) 6 = .ok (.iconst 0, 1) := by decide +kernel
theorem dLw_place_7 : decode (mB Lw_place) 7 = .ok (.iaload, 1) := by decide +kernel
theorem dLw_place_8 : decode (mB Lw_place) 8 = .ok (.if_icmp .ge 24, 3) := by decide +kernel
theorem dLw_place_11 : decode (mB Lw_place) 11 = .ok (.aload_n 0, 1) := by decide +kernel
theorem dLw_place_12 : decode (mB Lw_place) 12 = .ok (.iload_n 3, 1) := by decide +kernel
theorem dLw_place_13 : decode (mB Lw_place) 13 = .ok (.invokestatic 7, 3) := by decide +kernel
theorem dLw_place_16 : decode (mB Lw_place) 16 = .ok (.iload_n 1, 1) := by decide +kernel
theorem dLw_place_17 : decode (mB Lw_place) 17 = .ok (.if_icmp .ne 7, 3) := by decide +kernel
theorem dLw_place_20 : decode (mB Lw_place) 20 = .ok (.iload_n 3, 1) := by decide +kernel
theorem dLw_place_21 : decode (mB Lw_place) 21 = .ok (.goto 4, 3) := by decide +kernel
theorem dLw_place_24 : decode (mB Lw_place) 24 = .ok (.iload_n 2, 1) := by decide +kernel
theorem dLw_place_25 : decode (mB Lw_place) 25 = .ok (.istore_n 2, 1) := by decide +kernel
theorem dLw_place_26 : decode (mB Lw_place) 26 = .ok (.iinc 3 1, 3) := by decide +kernel
theorem dLw_place_29 : decode (mB Lw_place) 29 = .ok (.goto (-25), 3) := by decide +kernel
theorem dLw_place_32 : decode (mB Lw_place) 32 = .ok (.iload_n 2, 1) := by decide +kernel
theorem dLw_place_33 : decode (mB Lw_place) 33 = .ok (.ireturn, 1) := by decide +kernel
def b_Lw_place_4 (R : Int32 → tpH → Prop) (Y : (Option Nat) → Int32 → Int32 → Int32 → tpH → Prop) (x0 : Option Nat) (x1 : Int32) (x2 : Int32) (x3 : Int32) (h : tpH) : Prop :=
  ∃ a1, x0 = some a1 ∧ hT h a1 = 15 ∧ (vp_in (0 : Int32) (hL h a1) ∧ (((hI h a1 (0 : Int32).toNatClampNeg) ≤ x3 → (R x2 h)) ∧ (¬ (hI h a1 (0 : Int32).toNatClampNeg) ≤ x3 → (w_Lw_mark x0 x3 h (fun v7 h6 => (¬ v7 = x1 → (Y x0 x1 x2 (x3 + (1 : Int32)) h6)) ∧ (v7 = x1 → (Y x0 x1 x3 (x3 + (1 : Int32)) h6)))))))
def w_Lw_place_4 (R : Int32 → tpH → Prop) : Nat → (Option Nat) → Int32 → Int32 → Int32 → tpH → Prop
  | 0 => fun _ _ _ _ _ => False
  | n + 1 => b_Lw_place_4 R (w_Lw_place_4 R n)
def w_Lw_place (x0 : Option Nat) (x1 : Int32) (h : tpH) (R : Int32 → tpH → Prop) : Prop :=
  ∃ n, w_Lw_place_4 R n x0 x1 (-1 : Int32) (0 : Int32) h
theorem s_Lw_place_4 {h0 : tpH} {av : List tpV} {R : Int32 → tpH → Prop} : ∀ (n : Nat) (x0 : Option Nat) (x1 : Int32) (x2 : Int32) (x3 : Int32) (h : tpH), w_Lw_place_4 R n x0 x1 x2 x3 h → tpR Lw_place 1 h0 av (tpOi R (fun _ _ => False)) 4 [some (vR x0), some (vI x1), some (vI x2), some (vI x3)] [] h := by
  intro n
  induction n with
  | zero => intro x0 x1 x2 x3 h hw; exact False.elim hw
  | succ n ih =>
    intro x0 x1 x2 x3 h hw
    change b_Lw_place_4 R (w_Lw_place_4 R n) x0 x1 x2 x3 h at hw
    unfold b_Lw_place_4 at hw
    refine tq_iload_n dLw_place_4 rfl rfl ?_
    refine tq_aload_n dLw_place_5 rfl rfl ?_
    refine tq_iconst (v := (0 : Int32)) dLw_place_6 tni_0 ?_
    obtain ⟨a1, e2, f3, hw⟩ := hw
    obtain ⟨f4, hw⟩ := hw
    refine te_iald dLw_place_7 e2 (Or.inl f3) f4 ?_
    refine tq_icmpge (tgt := 32) dLw_place_8 (by decide) (fun c5 => ?_) (fun c5 => ?_)
    · have hw := hw.1 c5
      refine tq_iload_n dLw_place_32 rfl rfl ?_
      exact tq_iret rfl rfl dLw_place_33 hw
    · have hw := hw.2 c5
      refine tq_aload_n dLw_place_11 rfl rfl ?_
      refine tq_iload_n dLw_place_12 rfl rfl ?_
      refine tq_callS ms_Lw_mark (dc := 0) (as := [vR x0, vI x3]) (rest := []) kLw_7 (Nat.le_of_ble_eq_true rfl) (Nat.le_of_ble_eq_true rfl) rfl rfl (Nat.le_of_ble_eq_true rfl) dLw_place_13 (s_Lw_mark hw) (fun _ _ hx => False.elim hx) (tk_i fun v7 h6 hw => ?_)
      refine tq_iload_n dLw_place_16 rfl rfl ?_
      refine tq_icmpne (tgt := 24) dLw_place_17 (by decide) (fun c8 => ?_) (fun c8 => ?_)
      · have hw := hw.1 c8
        refine tq_iload_n dLw_place_24 rfl rfl ?_
        refine tq_istore_n (ls' := [some (vR x0), some (vI x1), some (vI x2), some (vI x3)]) dLw_place_25 rfl (Nat.le_of_ble_eq_true rfl) rfl ?_
        refine tq_inc (k := (1 : Int32)) (ls' := [some (vR x0), some (vI x1), some (vI x2), some (vI (x3 + (1 : Int32)))]) dLw_place_26 rfl tni_1 (Nat.le_of_ble_eq_true rfl) rfl ?_
        refine tq_goto (tgt := 4) dLw_place_29 (by decide) ?_
        refine tpR.fo (ls' := [some (vR x0), some (vI x1), some (vI x2), some (vI (x3 + (1 : Int32)))]) ?_ (And.intro rfl (And.intro rfl (And.intro rfl (And.intro rfl trivial))))
        exact ih _ _ _ _ _ hw
      · have hw := hw.2 c8
        refine tq_iload_n dLw_place_20 rfl rfl ?_
        refine tq_goto (tgt := 25) dLw_place_21 (by decide) ?_
        refine tq_istore_n (ls' := [some (vR x0), some (vI x1), some (vI x3), some (vI x3)]) dLw_place_25 rfl (Nat.le_of_ble_eq_true rfl) rfl ?_
        refine tq_inc (k := (1 : Int32)) (ls' := [some (vR x0), some (vI x1), some (vI x3), some (vI (x3 + (1 : Int32)))]) dLw_place_26 rfl tni_1 (Nat.le_of_ble_eq_true rfl) rfl ?_
        refine tq_goto (tgt := 4) dLw_place_29 (by decide) ?_
        refine tpR.fo (ls' := [some (vR x0), some (vI x1), some (vI x3), some (vI (x3 + (1 : Int32)))]) ?_ (And.intro rfl (And.intro rfl (And.intro rfl (And.intro rfl trivial))))
        exact ih _ _ _ _ _ hw
theorem s_Lw_place {x0 : Option Nat} {x1 : Int32} {h : tpH} {R : Int32 → tpH → Prop} (hw : w_Lw_place x0 x1 h R) : tpC Lw_place 1 [vR x0, vI x1] h (tpOi R (fun _ _ => False)) := by
  refine tpC_of ms_Lw_place.2.2.2.1 rfl rfl (Nat.le_of_ble_eq_true rfl) ?_
  show tpR Lw_place 1 h _ _ 0 [some (vR x0), some (vI x1), none, none] [] h
  unfold w_Lw_place at hw
  refine tq_iconst (v := (-1 : Int32)) dLw_place_0 tni_m1 ?_
  refine tq_istore_n (ls' := [some (vR x0), some (vI x1), some (vI (-1 : Int32)), none]) dLw_place_1 rfl (Nat.le_of_ble_eq_true rfl) rfl ?_
  refine tq_iconst (v := (0 : Int32)) dLw_place_2 tni_0 ?_
  refine tq_istore_n (ls' := [some (vR x0), some (vI x1), some (vI (-1 : Int32)), some (vI (0 : Int32))]) dLw_place_3 rfl (Nat.le_of_ble_eq_true rfl) rfl ?_
  refine tpR.fo (ls' := [some (vR x0), some (vI x1), some (vI (-1 : Int32)), some (vI (0 : Int32))]) ?_ (And.intro rfl (And.intro rfl (And.intro rfl (And.intro rfl trivial))))
  obtain ⟨n, hw⟩ := hw
  exact s_Lw_place_4 n _ _ _ _ _ hw
/-! TLaw.parentOf -/
theorem dLw_parentOf_0 : decode (mB Lw_parentOf) 0 = .ok (.aload_n 0, 1) := by decide +kernel
theorem dLw_parentOf_1 : decode (mB Lw_parentOf) 1 = .ok (.iload_n 1, 1) := by decide +kernel
theorem dLw_parentOf_2 : decode (mB Lw_parentOf) 2 = .ok (.invokestatic 13, 3) := by decide +kernel
theorem dLw_parentOf_5 : decode (mB Lw_parentOf) 5 = .ok (.istore_n 2, 1) := by decide +kernel
theorem dLw_parentOf_6 : decode (mB Lw_parentOf) 6 = .ok (.iload_n 2, 1) := by decide +kernel
theorem dLw_parentOf_7 : decode (mB Lw_parentOf) 7 = .ok (.ifCond .ge 8, 3) := by decide +kernel
theorem dLw_parentOf_10 : decode (mB Lw_parentOf) 10 = .ok (.bipush (-2), 2) := by decide +kernel
theorem dLw_parentOf_12 : decode (mB Lw_parentOf) 12 = .ok (.goto 8, 3) := by decide +kernel
theorem dLw_parentOf_15 : decode (mB Lw_parentOf) 15 = .ok (.aload_n 0, 1) := by decide +kernel
theorem dLw_parentOf_16 : decode (mB Lw_parentOf) 16 = .ok (.iload_n 2, 1) := by decide +kernel
theorem dLw_parentOf_17 : decode (mB Lw_parentOf) 17 = .ok (.invokestatic 16, 3) := by decide +kernel
theorem dLw_parentOf_20 : decode (mB Lw_parentOf) 20 = .ok (.ireturn, 1) := by decide +kernel
def w_Lw_parentOf (x0 : Option Nat) (x1 : Int32) (h : tpH) (R : Int32 → tpH → Prop) : Prop :=
  w_Lw_place x0 x1 h (fun v2 h1 => (0 ≤ v2 → (w_Lw_parent x0 v2 h1 (fun v5 h4 => R v5 h4))) ∧ (¬ 0 ≤ v2 → (R (-2 : Int32) h1)))
theorem s_Lw_parentOf {x0 : Option Nat} {x1 : Int32} {h : tpH} {R : Int32 → tpH → Prop} (hw : w_Lw_parentOf x0 x1 h R) : tpC Lw_parentOf 2 [vR x0, vI x1] h (tpOi R (fun _ _ => False)) := by
  refine tpC_of ms_Lw_parentOf.2.2.2.1 rfl rfl (Nat.le_of_ble_eq_true rfl) ?_
  show tpR Lw_parentOf 2 h _ _ 0 [some (vR x0), some (vI x1), none] [] h
  unfold w_Lw_parentOf at hw
  refine tq_aload_n dLw_parentOf_0 rfl rfl ?_
  refine tq_iload_n dLw_parentOf_1 rfl rfl ?_
  refine tq_callS ms_Lw_place (dc := 1) (as := [vR x0, vI x1]) (rest := []) kLw_13 (Nat.le_of_ble_eq_true rfl) (Nat.le_of_ble_eq_true rfl) rfl rfl (Nat.le_of_ble_eq_true rfl) dLw_parentOf_2 (s_Lw_place hw) (fun _ _ hx => False.elim hx) (tk_i fun v2 h1 hw => ?_)
  refine tq_istore_n (ls' := [some (vR x0), some (vI x1), some (vI v2)]) dLw_parentOf_5 rfl (Nat.le_of_ble_eq_true rfl) rfl ?_
  refine tq_iload_n dLw_parentOf_6 rfl rfl ?_
  refine tq_ifge (tgt := 15) dLw_parentOf_7 (by decide) (fun c3 => ?_) (fun c3 => ?_)
  · have hw := hw.1 c3
    refine tq_aload_n dLw_parentOf_15 rfl rfl ?_
    refine tq_iload_n dLw_parentOf_16 rfl rfl ?_
    refine tq_callS ms_Lw_parent (dc := 0) (as := [vR x0, vI v2]) (rest := []) kLw_16 (Nat.le_of_ble_eq_true rfl) (Nat.le_of_ble_eq_true rfl) rfl rfl (Nat.le_of_ble_eq_true rfl) dLw_parentOf_17 (s_Lw_parent hw) (fun _ _ hx => False.elim hx) (tk_i fun v5 h4 hw => ?_)
    exact tq_iret rfl rfl dLw_parentOf_20 hw
  · have hw := hw.2 c3
    refine tq_bipush (v := (-2 : Int32)) dLw_parentOf_10 tnb_m2 ?_
    refine tq_goto (tgt := 20) dLw_parentOf_12 (by decide) ?_
    exact tq_iret rfl rfl dLw_parentOf_20 hw
/-! TLaw.valueOf -/
theorem dLw_valueOf_0 : decode (mB Lw_valueOf) 0 = .ok (.aload_n 0, 1) := by decide +kernel
theorem dLw_valueOf_1 : decode (mB Lw_valueOf) 1 = .ok (.iload_n 1, 1) := by decide +kernel
theorem dLw_valueOf_2 : decode (mB Lw_valueOf) 2 = .ok (.invokestatic 13, 3) := by decide +kernel
theorem dLw_valueOf_5 : decode (mB Lw_valueOf) 5 = .ok (.istore_n 2, 1) := by decide +kernel
theorem dLw_valueOf_6 : decode (mB Lw_valueOf) 6 = .ok (.iload_n 2, 1) := by decide +kernel
theorem dLw_valueOf_7 : decode (mB Lw_valueOf) 7 = .ok (.ifCond .ge 7, 3) := by decide +kernel
theorem dLw_valueOf_10 : decode (mB Lw_valueOf) 10 = .ok (.iconst (-1), 1) := by decide +kernel
theorem dLw_valueOf_11 : decode (mB Lw_valueOf) 11 = .ok (.goto 8, 3) := by decide +kernel
theorem dLw_valueOf_14 : decode (mB Lw_valueOf) 14 = .ok (.aload_n 0, 1) := by decide +kernel
theorem dLw_valueOf_15 : decode (mB Lw_valueOf) 15 = .ok (.iload_n 2, 1) := by decide +kernel
theorem dLw_valueOf_16 : decode (mB Lw_valueOf) 16 = .ok (.invokestatic 19, 3) := by decide +kernel
theorem dLw_valueOf_19 : decode (mB Lw_valueOf) 19 = .ok (.ireturn, 1) := by decide +kernel
def w_Lw_valueOf (x0 : Option Nat) (x1 : Int32) (h : tpH) (R : Int32 → tpH → Prop) : Prop :=
  w_Lw_place x0 x1 h (fun v2 h1 => (0 ≤ v2 → (w_Lw_value x0 v2 h1 (fun v5 h4 => R v5 h4))) ∧ (¬ 0 ≤ v2 → (R (-1 : Int32) h1)))
theorem s_Lw_valueOf {x0 : Option Nat} {x1 : Int32} {h : tpH} {R : Int32 → tpH → Prop} (hw : w_Lw_valueOf x0 x1 h R) : tpC Lw_valueOf 2 [vR x0, vI x1] h (tpOi R (fun _ _ => False)) := by
  refine tpC_of ms_Lw_valueOf.2.2.2.1 rfl rfl (Nat.le_of_ble_eq_true rfl) ?_
  show tpR Lw_valueOf 2 h _ _ 0 [some (vR x0), some (vI x1), none] [] h
  unfold w_Lw_valueOf at hw
  refine tq_aload_n dLw_valueOf_0 rfl rfl ?_
  refine tq_iload_n dLw_valueOf_1 rfl rfl ?_
  refine tq_callS ms_Lw_place (dc := 1) (as := [vR x0, vI x1]) (rest := []) kLw_13 (Nat.le_of_ble_eq_true rfl) (Nat.le_of_ble_eq_true rfl) rfl rfl (Nat.le_of_ble_eq_true rfl) dLw_valueOf_2 (s_Lw_place hw) (fun _ _ hx => False.elim hx) (tk_i fun v2 h1 hw => ?_)
  refine tq_istore_n (ls' := [some (vR x0), some (vI x1), some (vI v2)]) dLw_valueOf_5 rfl (Nat.le_of_ble_eq_true rfl) rfl ?_
  refine tq_iload_n dLw_valueOf_6 rfl rfl ?_
  refine tq_ifge (tgt := 14) dLw_valueOf_7 (by decide) (fun c3 => ?_) (fun c3 => ?_)
  · have hw := hw.1 c3
    refine tq_aload_n dLw_valueOf_14 rfl rfl ?_
    refine tq_iload_n dLw_valueOf_15 rfl rfl ?_
    refine tq_callS ms_Lw_value (dc := 0) (as := [vR x0, vI v2]) (rest := []) kLw_19 (Nat.le_of_ble_eq_true rfl) (Nat.le_of_ble_eq_true rfl) rfl rfl (Nat.le_of_ble_eq_true rfl) dLw_valueOf_16 (s_Lw_value hw) (fun _ _ hx => False.elim hx) (tk_i fun v5 h4 hw => ?_)
    exact tq_iret rfl rfl dLw_valueOf_19 hw
  · have hw := hw.2 c3
    refine tq_iconst (v := (-1 : Int32)) dLw_valueOf_10 tni_m1 ?_
    refine tq_goto (tgt := 19) dLw_valueOf_11 (by decide) ?_
    exact tq_iret rfl rfl dLw_valueOf_19 hw
/-! TLaw.reads -/
theorem dLw_reads_0 : decode (mB Lw_reads) 0 = .ok (.aload_n 2, 1) := by decide +kernel
theorem dLw_reads_1 : decode (mB Lw_reads) 1 = .ok (.iconst 0, 1) := by decide +kernel
theorem dLw_reads_2 : decode (mB Lw_reads) 2 = .ok (.aload_n 0, 1) := by decide +kernel
theorem dLw_reads_3 : decode (mB Lw_reads) 3 = .ok (.iload_n 1, 1) := by decide +kernel
theorem dLw_reads_4 : decode (mB Lw_reads) 4 = .ok (.invokevirtual 22, 3) := by decide +kernel
theorem dLw_reads_7 : decode (mB Lw_reads) 7 = .ok (.iastore, 1) := by decide +kernel
theorem dLw_reads_8 : decode (mB Lw_reads) 8 = .ok (.iconst 0, 1) := by decide +kernel
theorem dLw_reads_9 : decode (mB Lw_reads) 9 = .ok (.istore_n 3, 1) := by decide +kernel
theorem dLw_reads_10 : decode (mB Lw_reads) 10 = .ok (.iload_n 3, 1) := by decide +kernel
theorem dLw_reads_11 : decode (mB Lw_reads) 11 = .ok (.aload_n 2, 1) := by decide +kernel
theorem dLw_reads_12 : decode (mB Lw_reads) 12 = .ok (.iconst 0, 1) := by decide +kernel
theorem dLw_reads_13 : decode (mB Lw_reads) 13 = .ok (.iaload, 1) := by decide +kernel
theorem dLw_reads_14 : decode (mB Lw_reads) 14 = .ok (.if_icmp .ge 55, 3) := by decide +kernel
theorem dLw_reads_17 : decode (mB Lw_reads) 17 = .ok (.iload_n 3, 1) := by decide +kernel
theorem dLw_reads_18 : decode (mB Lw_reads) 18 = .ok (.bipush 40, 2) := by decide +kernel
theorem dLw_reads_20 : decode (mB Lw_reads) 20 = .ok (.if_icmp .ge 49, 3) := by decide +kernel
theorem dLw_reads_23 : decode (mB Lw_reads) 23 = .ok (.aload_n 0, 1) := by decide +kernel
theorem dLw_reads_24 : decode (mB Lw_reads) 24 = .ok (.iload_n 1, 1) := by decide +kernel
theorem dLw_reads_25 : decode (mB Lw_reads) 25 = .ok (.iload_n 3, 1) := by decide +kernel
theorem dLw_reads_26 : decode (mB Lw_reads) 26 = .ok (.invokevirtual 28, 3) := by decide +kernel
theorem dLw_reads_29 : decode (mB Lw_reads) 29 = .ok (.istore 4, 2) := by decide +kernel
theorem dLw_reads_31 : decode (mB Lw_reads) 31 = .ok (.aload_n 2, 1) := by decide +kernel
theorem dLw_reads_32 : decode (mB Lw_reads) 32 = .ok (.iconst 1, 1) := by decide +kernel
theorem dLw_reads_33 : decode (mB Lw_reads) 33 = .ok (.iload_n 3, 1) := by decide +kernel
theorem dLw_reads_34 : decode (mB Lw_reads) 34 = .ok (.iadd, 1) := by decide +kernel
theorem dLw_reads_35 : decode (mB Lw_reads) 35 = .ok (.iload 4, 2) := by decide +kernel
theorem dLw_reads_37 : decode (mB Lw_reads) 37 = .ok (.bipush 64, 2) := by decide +kernel
theorem dLw_reads_39 : decode (mB Lw_reads) 39 = .ok (.aload_n 0, 1) := by decide +kernel
theorem dLw_reads_40 : decode (mB Lw_reads) 40 = .ok (.iload_n 1, 1) := by decide +kernel
theorem dLw_reads_41 : decode (mB Lw_reads) 41 = .ok (.iload 4, 2) := by decide +kernel
theorem dLw_reads_43 : decode (mB Lw_reads) 43 = .ok (.invokevirtual 32, 3) := by decide +kernel
theorem dLw_reads_46 : decode (mB Lw_reads) 46 = .ok (.imul, 1) := by decide +kernel
theorem dLw_reads_47 : decode (mB Lw_reads) 47 = .ok (.iadd, 1) := by decide +kernel
theorem dLw_reads_48 : decode (mB Lw_reads) 48 = .ok (.sipush 8192, 3) := by decide +kernel
theorem dLw_reads_51 : decode (mB Lw_reads) 51 = .ok (.aload_n 0, 1) := by decide +kernel
theorem dLw_reads_52 : decode (mB Lw_reads) 52 = .ok (.iload_n 1, 1) := by decide +kernel
theorem dLw_reads_53 : decode (mB Lw_reads) 53 = .ok (.iload 4, 2) := by decide +kernel
theorem dLw_reads_55 : decode (mB Lw_reads) 55 = .ok (.invokevirtual 34, 3) := by decide +kernel
theorem dLw_reads_58 : decode (mB Lw_reads) 58 = .ok (.iconst 1, 1) := by decide +kernel
theorem dLw_reads_59 : decode (mB Lw_reads) 59 = .ok (.iadd, 1) := by decide +kernel
theorem dLw_reads_60 : decode (mB Lw_reads) 60 = .ok (.imul, 1) := by decide +kernel
theorem dLw_reads_61 : decode (mB Lw_reads) 61 = .ok (.iadd, 1) := by decide +kernel
theorem dLw_reads_62 : decode (mB Lw_reads) 62 = .ok (.iastore, 1) := by decide +kernel
theorem dLw_reads_63 : decode (mB Lw_reads) 63 = .ok (.iinc 3 1, 3) := by decide +kernel
theorem dLw_reads_66 : decode (mB Lw_reads) 66 = .ok (.goto (-56), 3) := by decide +kernel
theorem dLw_reads_69 : decode (mB Lw_reads) 69 = .ok (.return_, 1) := by decide +kernel
def b_Lw_reads_10 (R : tpH → Prop) (X : String → tpH → Prop) (Y : (Option Nat) → Int32 → (Option Nat) → Int32 → tpH → Prop) (x0 : Option Nat) (x1 : Int32) (x2 : Option Nat) (x3 : Int32) (h : tpH) : Prop :=
  ∃ a1, x2 = some a1 ∧ hT h a1 = 15 ∧ (vp_in (0 : Int32) (hL h a1) ∧ (((hI h a1 (0 : Int32).toNatClampNeg) ≤ x3 → (R h)) ∧ (¬ (hI h a1 (0 : Int32).toNatClampNeg) ≤ x3 → (((40 : Int32) ≤ x3 → (R h)) ∧ (¬ (40 : Int32) ≤ x3 → (∃ a7, x0 = some a7 ∧ hT h a7 = 13 ∧ (w_TP_markAt a7 x1 x3 h X (fun v11 h10 => hT h10 a7 = 13 ∧ (w_TP_value a7 x1 v11 h10 X (fun v14 h13 => hT h13 a7 = 13 ∧ (w_TP_parent a7 x1 v11 h13 X (fun v17 h16 => hT h16 a1 = 15 ∧ (vp_in ((1 : Int32) + x3) (hL h16 a1) ∧ (∀ h20, h20 = sI h16 a1 ((1 : Int32) + x3).toNatClampNeg ((v11 + ((64 : Int32) * v14)) + ((8192 : Int32) * (v17 + (1 : Int32)))) → (Y x0 x1 x2 (x3 + (1 : Int32)) h20)))))))))))))))
def w_Lw_reads_10 (R : tpH → Prop) (X : String → tpH → Prop) : Nat → (Option Nat) → Int32 → (Option Nat) → Int32 → tpH → Prop
  | 0 => fun _ _ _ _ _ => False
  | n + 1 => b_Lw_reads_10 R X (w_Lw_reads_10 R X n)
def w_Lw_reads (x0 : Option Nat) (x1 : Int32) (x2 : Option Nat) (h : tpH) (X : String → tpH → Prop) (R : tpH → Prop) : Prop :=
  ∃ a1, x0 = some a1 ∧ hT h a1 = 13 ∧ (w_TP_size a1 x1 h X (fun v5 h4 => ∃ a6, x2 = some a6 ∧ hT h4 a6 = 15 ∧ (vp_in (0 : Int32) (hL h4 a6) ∧ (∀ h10, h10 = sI h4 a6 (0 : Int32).toNatClampNeg v5 → (∃ n, w_Lw_reads_10 R X n x0 x1 x2 (0 : Int32) h10)))))
theorem s_Lw_reads_10 {h0 : tpH} {av : List tpV} {R : tpH → Prop} {X : String → tpH → Prop} : ∀ (n : Nat) (x0 : Option Nat) (x1 : Int32) (x2 : Option Nat) (x3 : Int32) (h : tpH), w_Lw_reads_10 R X n x0 x1 x2 x3 h → tpR Lw_reads 8 h0 av (tpOv R X) 10 [some (vR x0), some (vI x1), some (vR x2), some (vI x3), none] [] h := by
  intro n
  induction n with
  | zero => intro x0 x1 x2 x3 h hw; exact False.elim hw
  | succ n ih =>
    intro x0 x1 x2 x3 h hw
    change b_Lw_reads_10 R X (w_Lw_reads_10 R X n) x0 x1 x2 x3 h at hw
    unfold b_Lw_reads_10 at hw
    refine tq_iload_n dLw_reads_10 rfl rfl ?_
    refine tq_aload_n dLw_reads_11 rfl rfl ?_
    refine tq_iconst (v := (0 : Int32)) dLw_reads_12 tni_0 ?_
    obtain ⟨a1, e2, f3, hw⟩ := hw
    obtain ⟨f4, hw⟩ := hw
    refine te_iald dLw_reads_13 e2 (Or.inl f3) f4 ?_
    refine tq_icmpge (tgt := 69) dLw_reads_14 (by decide) (fun c5 => ?_) (fun c5 => ?_)
    · have hw := hw.1 c5
      exact tq_vret rfl dLw_reads_69 hw
    · have hw := hw.2 c5
      refine tq_iload_n dLw_reads_17 rfl rfl ?_
      refine tq_bipush (v := (40 : Int32)) dLw_reads_18 tnb_40 ?_
      refine tq_icmpge (tgt := 69) dLw_reads_20 (by decide) (fun c6 => ?_) (fun c6 => ?_)
      · have hw := hw.1 c6
        exact tq_vret rfl dLw_reads_69 hw
      · have hw := hw.2 c6
        refine tq_aload_n dLw_reads_23 rfl rfl ?_
        refine tq_iload_n dLw_reads_24 rfl rfl ?_
        refine tq_iload_n dLw_reads_25 rfl rfl ?_
        obtain ⟨a7, e8, f9, hw⟩ := hw
        refine te_callV mv_TP_markAt (ci := 12) (dc := 7) (as := [vI x1, vI x3]) (rest := []) kLw_28 rfl (Nat.le_of_ble_eq_true rfl) (Nat.le_of_ble_eq_true rfl) rfl rfl e8 f9 (Nat.le_of_ble_eq_true rfl) dLw_reads_26 (s_TP_markAt hw) (fun _ _ hx => tpXx.out rfl hx) (tk_i fun v11 h10 hw => ?_)
        refine tq_istore (ls' := [some (vR x0), some (vI x1), some (vR x2), some (vI x3), some (vI v11)]) dLw_reads_29 (Nat.le_of_ble_eq_true rfl) rfl ?_
        refine tq_aload_n dLw_reads_31 rfl rfl ?_
        refine tq_iconst (v := (1 : Int32)) dLw_reads_32 tni_1 ?_
        refine tq_iload_n dLw_reads_33 rfl rfl ?_
        refine tq_iadd dLw_reads_34 ?_
        refine tq_iload dLw_reads_35 rfl ?_
        refine tq_bipush (v := (64 : Int32)) dLw_reads_37 tnb_64 ?_
        refine tq_aload_n dLw_reads_39 rfl rfl ?_
        refine tq_iload_n dLw_reads_40 rfl rfl ?_
        refine tq_iload dLw_reads_41 rfl ?_
        obtain ⟨f12, hw⟩ := hw
        refine te_callV mv_TP_value (ci := 12) (dc := 7) (as := [vI x1, vI v11]) (rest := [vI (64 : Int32), vI v11, vI ((1 : Int32) + x3), vR x2]) kLw_32 rfl (Nat.le_of_ble_eq_true rfl) (Nat.le_of_ble_eq_true rfl) rfl rfl e8 f12 (Nat.le_of_ble_eq_true rfl) dLw_reads_43 (s_TP_value hw) (fun _ _ hx => tpXx.out rfl hx) (tk_i fun v14 h13 hw => ?_)
        refine tq_imul dLw_reads_46 ?_
        refine tq_iadd dLw_reads_47 ?_
        refine tq_sipush (v := (8192 : Int32)) dLw_reads_48 tns_8192 ?_
        refine tq_aload_n dLw_reads_51 rfl rfl ?_
        refine tq_iload_n dLw_reads_52 rfl rfl ?_
        refine tq_iload dLw_reads_53 rfl ?_
        obtain ⟨f15, hw⟩ := hw
        refine te_callV mv_TP_parent (ci := 12) (dc := 7) (as := [vI x1, vI v11]) (rest := [vI (8192 : Int32), vI (v11 + ((64 : Int32) * v14)), vI ((1 : Int32) + x3), vR x2]) kLw_34 rfl (Nat.le_of_ble_eq_true rfl) (Nat.le_of_ble_eq_true rfl) rfl rfl e8 f15 (Nat.le_of_ble_eq_true rfl) dLw_reads_55 (s_TP_parent hw) (fun _ _ hx => tpXx.out rfl hx) (tk_i fun v17 h16 hw => ?_)
        refine tq_iconst (v := (1 : Int32)) dLw_reads_58 tni_1 ?_
        refine tq_iadd dLw_reads_59 ?_
        refine tq_imul dLw_reads_60 ?_
        refine tq_iadd dLw_reads_61 ?_
        obtain ⟨f18, hw⟩ := hw
        obtain ⟨f19, hw⟩ := hw
        refine te_iast dLw_reads_62 e2 f18 f19 (fun h20 e21 => ?_)
        have hw := hw h20 e21
        refine tq_inc (k := (1 : Int32)) (ls' := [some (vR x0), some (vI x1), some (vR x2), some (vI (x3 + (1 : Int32))), some (vI v11)]) dLw_reads_63 rfl tni_1 (Nat.le_of_ble_eq_true rfl) rfl ?_
        refine tq_goto (tgt := 10) dLw_reads_66 (by decide) ?_
        refine tpR.fo (ls' := [some (vR x0), some (vI x1), some (vR x2), some (vI (x3 + (1 : Int32))), none]) ?_ (And.intro rfl (And.intro rfl (And.intro rfl (And.intro rfl trivial))))
        exact ih _ _ _ _ _ hw
theorem s_Lw_reads {x0 : Option Nat} {x1 : Int32} {x2 : Option Nat} {h : tpH} {R : tpH → Prop} {X : String → tpH → Prop} (hw : w_Lw_reads x0 x1 x2 h X R) : tpC Lw_reads 8 [vR x0, vI x1, vR x2] h (tpOv R X) := by
  refine tpC_of ms_Lw_reads.2.2.2.1 rfl rfl (Nat.le_of_ble_eq_true rfl) ?_
  show tpR Lw_reads 8 h _ _ 0 [some (vR x0), some (vI x1), some (vR x2), none, none] [] h
  unfold w_Lw_reads at hw
  refine tq_aload_n dLw_reads_0 rfl rfl ?_
  refine tq_iconst (v := (0 : Int32)) dLw_reads_1 tni_0 ?_
  refine tq_aload_n dLw_reads_2 rfl rfl ?_
  refine tq_iload_n dLw_reads_3 rfl rfl ?_
  obtain ⟨a1, e2, f3, hw⟩ := hw
  refine te_callV mv_TP_size (ci := 12) (dc := 7) (as := [vI x1]) (rest := [vI (0 : Int32), vR x2]) kLw_22 rfl (Nat.le_of_ble_eq_true rfl) (Nat.le_of_ble_eq_true rfl) rfl rfl e2 f3 (Nat.le_of_ble_eq_true rfl) dLw_reads_4 (s_TP_size hw) (fun _ _ hx => tpXx.out rfl hx) (tk_i fun v5 h4 hw => ?_)
  obtain ⟨a6, e7, f8, hw⟩ := hw
  obtain ⟨f9, hw⟩ := hw
  refine te_iast dLw_reads_7 e7 f8 f9 (fun h10 e11 => ?_)
  have hw := hw h10 e11
  refine tq_iconst (v := (0 : Int32)) dLw_reads_8 tni_0 ?_
  refine tq_istore_n (ls' := [some (vR x0), some (vI x1), some (vR x2), some (vI (0 : Int32)), none]) dLw_reads_9 rfl (Nat.le_of_ble_eq_true rfl) rfl ?_
  refine tpR.fo (ls' := [some (vR x0), some (vI x1), some (vR x2), some (vI (0 : Int32)), none]) ?_ (And.intro rfl (And.intro rfl (And.intro rfl (And.intro rfl trivial))))
  obtain ⟨n, hw⟩ := hw
  exact s_Lw_reads_10 n _ _ _ _ _ hw
/-! TLaw.children -/
theorem dLw_children_0 : decode (mB Lw_children) 0 = .ok (.iconst 0, 1) := by decide +kernel
theorem dLw_children_1 : decode (mB Lw_children) 1 = .ok (.istore 4, 2) := by decide +kernel
theorem dLw_children_3 : decode (mB Lw_children) 3 = .ok (.iconst 0, 1) := by decide +kernel
theorem dLw_children_4 : decode (mB Lw_children) 4 = .ok (.istore 5, 2) := by decide +kernel
theorem dLw_children_6 : decode (mB Lw_children) 6 = .ok (.iload 5, 2) := by decide +kernel
theorem dLw_children_8 : decode (mB Lw_children) 8 = .ok (.aload_n 0, 1) := by decide +kernel
theorem dLw_children_9 : decode (mB Lw_children) 9 = .ok (.iconst 0, 1) := by decide +kernel
theorem dLw_children_10 : decode (mB Lw_children) 10 = .ok (.iaload, 1) := by decide +kernel
theorem dLw_children_11 : decode (mB Lw_children) 11 = .ok (.if_icmp .ge 89, 3) := by decide +kernel
theorem dLw_children_14 : decode (mB Lw_children) 14 = .ok (.aload_n 0, 1) := by decide +kernel
theorem dLw_children_15 : decode (mB Lw_children) 15 = .ok (.iload 5, 2) := by decide +kernel
theorem dLw_children_17 : decode (mB Lw_children) 17 = .ok (.invokestatic 16, 3) := by decide +kernel
theorem dLw_children_20 : decode (mB Lw_children) 20 = .ok (.iload_n 2, 1) := by decide +kernel
theorem dLw_children_21 : decode (mB Lw_children) 21 = .ok (.if_icmp .ne 73, 3) := by decide +kernel
theorem dLw_children_24 : decode (mB Lw_children) 24 = .ok (.aload_n 0, 1) := by decide +kernel
theorem dLw_children_25 : decode (mB Lw_children) 25 = .ok (.iload 5, 2) := by decide +kernel
theorem dLw_children_27 : decode (mB Lw_children) 27 = .ok (.invokestatic 7, 3) := by decide +kernel
theorem dLw_children_30 : decode (mB Lw_children) 30 = .ok (.iload_n 2, 1) := by decide +kernel
theorem dLw_children_31 : decode (mB Lw_children) 31 = .ok (.if_icmp .eq 63, 3) := by decide +kernel
theorem dLw_children_34 : decode (mB Lw_children) 34 = .ok (.iload 4, 2) := by decide +kernel
theorem dLw_children_36 : decode (mB Lw_children) 36 = .ok (.istore 6, 2) := by decide +kernel
theorem dLw_children_38 : decode (mB Lw_children) 38 = .ok (.iload 6, 2) := by decide +kernel
theorem dLw_children_40 : decode (mB Lw_children) 40 = .ok (.ifCond .le 41, 3) := by decide +kernel
theorem dLw_children_43 : decode (mB Lw_children) 43 = .ok (.aload_n 1, 1) := by decide +kernel
theorem dLw_children_44 : decode (mB Lw_children) 44 = .ok (.iload_n 2, 1) := by decide +kernel
theorem dLw_children_45 : decode (mB Lw_children) 45 = .ok (.iaload, 1) := by decide +kernel
theorem dLw_children_46 : decode (mB Lw_children) 46 = .ok (.iconst 3, 1) := by decide +kernel
theorem dLw_children_47 : decode (mB Lw_children) 47 = .ok (.if_icmp .le 34, 3) := by decide +kernel
theorem dLw_children_50 : decode (mB Lw_children) 50 = .ok (.aload_n 3, 1) := by decide +kernel
theorem dLw_children_51 : decode (mB Lw_children) 51 = .ok (.iload 6, 2) := by decide +kernel
theorem dLw_children_53 : decode (mB Lw_children) 53 = .ok (.iconst 1, 1) := by decide +kernel
theorem dLw_children_54 : decode (mB Lw_children) 54 = .ok (.isub, 1) := by decide +kernel
theorem dLw_children_55 : decode (mB Lw_children) 55 = .ok (.iaload, 1) := by decide +kernel
theorem dLw_children_56 : decode (mB Lw_children) 56 = .ok (.aload_n 0, 1) := by decide +kernel
theorem dLw_children_57 : decode (mB Lw_children) 57 = .ok (.iload 5, 2) := by decide +kernel
theorem dLw_children_59 : decode (mB Lw_children) 59 = .ok (.invokestatic 7, 3) := by decide +kernel
theorem dLw_children_62 : decode (mB Lw_children) 62 = .ok (.if_icmp .le 19, 3) := by decide +kernel
theorem dLw_children_65 : decode (mB Lw_children) 65 = .ok (.aload_n 3, 1) := by decide +kernel
theorem dLw_children_66 : decode (mB Lw_children) 66 = .ok (.iload 6, 2) := by decide +kernel
theorem dLw_children_68 : decode (mB Lw_children) 68 = .ok (.aload_n 3, 1) := by decide +kernel
theorem dLw_children_69 : decode (mB Lw_children) 69 = .ok (.iload 6, 2) := by decide +kernel
theorem dLw_children_71 : decode (mB Lw_children) 71 = .ok (.iconst 1, 1) := by decide +kernel
theorem dLw_children_72 : decode (mB Lw_children) 72 = .ok (.isub, 1) := by decide +kernel
theorem dLw_children_73 : decode (mB Lw_children) 73 = .ok (.iaload, 1) := by decide +kernel
theorem dLw_children_74 : decode (mB Lw_children) 74 = .ok (.iastore, 1) := by decide +kernel
theorem dLw_children_75 : decode (mB Lw_children) 75 = .ok (.iinc 6 (-1), 3) := by decide +kernel
theorem dLw_children_78 : decode (mB Lw_children) 78 = .ok (.goto (-40), 3) := by decide +kernel
theorem dLw_children_81 : decode (mB Lw_children) 81 = .ok (.aload_n 3, 1) := by decide +kernel
theorem dLw_children_82 : decode (mB Lw_children) 82 = .ok (.iload 6, 2) := by decide +kernel
theorem dLw_children_84 : decode (mB Lw_children) 84 = .ok (.aload_n 0, 1) := by decide +kernel
theorem dLw_children_85 : decode (mB Lw_children) 85 = .ok (.iload 5, 2) := by decide +kernel
theorem dLw_children_87 : decode (mB Lw_children) 87 = .ok (.invokestatic 7, 3) := by decide +kernel
theorem dLw_children_90 : decode (mB Lw_children) 90 = .ok (.iastore, 1) := by decide +kernel
theorem dLw_children_91 : decode (mB Lw_children) 91 = .ok (.iinc 4 1, 3) := by decide +kernel
theorem dLw_children_94 : decode (mB Lw_children) 94 = .ok (.iinc 5 1, 3) := by decide +kernel
theorem dLw_children_97 : decode (mB Lw_children) 97 = .ok (.goto (-91), 3) := by decide +kernel
theorem dLw_children_100 : decode (mB Lw_children) 100 = .ok (.iload 4, 2) := by decide +kernel
theorem dLw_children_102 : decode (mB Lw_children) 102 = .ok (.ireturn, 1) := by decide +kernel
def w_Lw_children_81 (R : Int32 → tpH → Prop) (K6 : (Option Nat) → (Option Nat) → Int32 → (Option Nat) → Int32 → Int32 → tpH → Prop) (x0 : Option Nat) (x1 : Option Nat) (x2 : Int32) (x3 : Option Nat) (x4 : Int32) (x5 : Int32) (x6 : Int32) (h : tpH) : Prop :=
  w_Lw_mark x0 x5 h (fun v2 h1 => ∃ a3, x3 = some a3 ∧ hT h1 a3 = 15 ∧ (vp_in x6 (hL h1 a3) ∧ (∀ h7, h7 = sI h1 a3 x6.toNatClampNeg v2 → (K6 x0 x1 x2 x3 (x4 + (1 : Int32)) (x5 + (1 : Int32)) h7))))
def b_Lw_children_38 (R : Int32 → tpH → Prop) (K6 : (Option Nat) → (Option Nat) → Int32 → (Option Nat) → Int32 → Int32 → tpH → Prop) (Y : (Option Nat) → (Option Nat) → Int32 → (Option Nat) → Int32 → Int32 → Int32 → tpH → Prop) (x0 : Option Nat) (x1 : Option Nat) (x2 : Int32) (x3 : Option Nat) (x4 : Int32) (x5 : Int32) (x6 : Int32) (h : tpH) : Prop :=
  (x6 ≤ 0 → (w_Lw_children_81 R K6 x0 x1 x2 x3 x4 x5 x6 h)) ∧ (¬ x6 ≤ 0 → (∃ a2, x1 = some a2 ∧ hT h a2 = 15 ∧ (vp_in x2 (hL h a2) ∧ (((hI h a2 x2.toNatClampNeg) ≤ (3 : Int32) → (w_Lw_children_81 R K6 x0 x1 x2 x3 x4 x5 x6 h)) ∧ (¬ (hI h a2 x2.toNatClampNeg) ≤ (3 : Int32) → (∃ a7, x3 = some a7 ∧ hT h a7 = 15 ∧ (vp_in (x6 - (1 : Int32)) (hL h a7) ∧ (w_Lw_mark x0 x5 h (fun v12 h11 => ((hI h a7 (x6 - (1 : Int32)).toNatClampNeg) ≤ v12 → (w_Lw_children_81 R K6 x0 x1 x2 x3 x4 x5 x6 h11)) ∧ (¬ (hI h a7 (x6 - (1 : Int32)).toNatClampNeg) ≤ v12 → (hT h11 a7 = 15 ∧ (vp_in (x6 - (1 : Int32)) (hL h11 a7) ∧ (vp_in x6 (hL h11 a7) ∧ (∀ h17, h17 = sI h11 a7 x6.toNatClampNeg (hI h11 a7 (x6 - (1 : Int32)).toNatClampNeg) → (Y x0 x1 x2 x3 x4 x5 (x6 + (-1 : Int32)) h17)))))))))))))))
def w_Lw_children_38 (R : Int32 → tpH → Prop) (K6 : (Option Nat) → (Option Nat) → Int32 → (Option Nat) → Int32 → Int32 → tpH → Prop) : Nat → (Option Nat) → (Option Nat) → Int32 → (Option Nat) → Int32 → Int32 → Int32 → tpH → Prop
  | 0 => fun _ _ _ _ _ _ _ _ => False
  | n + 1 => b_Lw_children_38 R K6 (w_Lw_children_38 R K6 n)
def b_Lw_children_6 (R : Int32 → tpH → Prop) (Y : (Option Nat) → (Option Nat) → Int32 → (Option Nat) → Int32 → Int32 → tpH → Prop) (x0 : Option Nat) (x1 : Option Nat) (x2 : Int32) (x3 : Option Nat) (x4 : Int32) (x5 : Int32) (h : tpH) : Prop :=
  ∃ a1, x0 = some a1 ∧ hT h a1 = 15 ∧ (vp_in (0 : Int32) (hL h a1) ∧ (((hI h a1 (0 : Int32).toNatClampNeg) ≤ x5 → (R x4 h)) ∧ (¬ (hI h a1 (0 : Int32).toNatClampNeg) ≤ x5 → (w_Lw_parent x0 x5 h (fun v7 h6 => (¬ v7 = x2 → (Y x0 x1 x2 x3 x4 (x5 + (1 : Int32)) h6)) ∧ (v7 = x2 → (w_Lw_mark x0 x5 h6 (fun v10 h9 => (v10 = x2 → (Y x0 x1 x2 x3 x4 (x5 + (1 : Int32)) h9)) ∧ (¬ v10 = x2 → (∃ n, w_Lw_children_38 R Y n x0 x1 x2 x3 x4 x5 x4 h9))))))))))
def w_Lw_children_6 (R : Int32 → tpH → Prop) : Nat → (Option Nat) → (Option Nat) → Int32 → (Option Nat) → Int32 → Int32 → tpH → Prop
  | 0 => fun _ _ _ _ _ _ _ => False
  | n + 1 => b_Lw_children_6 R (w_Lw_children_6 R n)
def w_Lw_children (x0 : Option Nat) (x1 : Option Nat) (x2 : Int32) (x3 : Option Nat) (h : tpH) (R : Int32 → tpH → Prop) : Prop :=
  ∃ n, w_Lw_children_6 R n x0 x1 x2 x3 (0 : Int32) (0 : Int32) h
theorem s_Lw_children_81 {h0 : tpH} {av : List tpV} {R : Int32 → tpH → Prop} {K6 : (Option Nat) → (Option Nat) → Int32 → (Option Nat) → Int32 → Int32 → tpH → Prop} (k6 : ∀ (x0 : Option Nat) (x1 : Option Nat) (x2 : Int32) (x3 : Option Nat) (x4 : Int32) (x5 : Int32) (h : tpH), K6 x0 x1 x2 x3 x4 x5 h → tpR Lw_children 1 h0 av (tpOi R (fun _ _ => False)) 6 [some (vR x0), some (vR x1), some (vI x2), some (vR x3), some (vI x4), some (vI x5), none] [] h) : ∀ (x0 : Option Nat) (x1 : Option Nat) (x2 : Int32) (x3 : Option Nat) (x4 : Int32) (x5 : Int32) (x6 : Int32) (h : tpH), w_Lw_children_81 R K6 x0 x1 x2 x3 x4 x5 x6 h → tpR Lw_children 1 h0 av (tpOi R (fun _ _ => False)) 81 [some (vR x0), some (vR x1), some (vI x2), some (vR x3), some (vI x4), some (vI x5), some (vI x6)] [] h := by
  intro x0 x1 x2 x3 x4 x5 x6 h hw
  unfold w_Lw_children_81 at hw
  refine tq_aload_n dLw_children_81 rfl rfl ?_
  refine tq_iload dLw_children_82 rfl ?_
  refine tq_aload_n dLw_children_84 rfl rfl ?_
  refine tq_iload dLw_children_85 rfl ?_
  refine tq_callS ms_Lw_mark (dc := 0) (as := [vR x0, vI x5]) (rest := [vI x6, vR x3]) kLw_7 (Nat.le_of_ble_eq_true rfl) (Nat.le_of_ble_eq_true rfl) rfl rfl (Nat.le_of_ble_eq_true rfl) dLw_children_87 (s_Lw_mark hw) (fun _ _ hx => False.elim hx) (tk_i fun v2 h1 hw => ?_)
  obtain ⟨a3, e4, f5, hw⟩ := hw
  obtain ⟨f6, hw⟩ := hw
  refine te_iast dLw_children_90 e4 f5 f6 (fun h7 e8 => ?_)
  have hw := hw h7 e8
  refine tq_inc (k := (1 : Int32)) (ls' := [some (vR x0), some (vR x1), some (vI x2), some (vR x3), some (vI (x4 + (1 : Int32))), some (vI x5), some (vI x6)]) dLw_children_91 rfl tni_1 (Nat.le_of_ble_eq_true rfl) rfl ?_
  refine tq_inc (k := (1 : Int32)) (ls' := [some (vR x0), some (vR x1), some (vI x2), some (vR x3), some (vI (x4 + (1 : Int32))), some (vI (x5 + (1 : Int32))), some (vI x6)]) dLw_children_94 rfl tni_1 (Nat.le_of_ble_eq_true rfl) rfl ?_
  refine tq_goto (tgt := 6) dLw_children_97 (by decide) ?_
  refine tpR.fo (ls' := [some (vR x0), some (vR x1), some (vI x2), some (vR x3), some (vI (x4 + (1 : Int32))), some (vI (x5 + (1 : Int32))), none]) ?_ (And.intro rfl (And.intro rfl (And.intro rfl (And.intro rfl (And.intro rfl (And.intro rfl trivial))))))
  exact k6 _ _ _ _ _ _ _ hw
theorem s_Lw_children_38 {h0 : tpH} {av : List tpV} {R : Int32 → tpH → Prop} {K6 : (Option Nat) → (Option Nat) → Int32 → (Option Nat) → Int32 → Int32 → tpH → Prop} (k6 : ∀ (x0 : Option Nat) (x1 : Option Nat) (x2 : Int32) (x3 : Option Nat) (x4 : Int32) (x5 : Int32) (h : tpH), K6 x0 x1 x2 x3 x4 x5 h → tpR Lw_children 1 h0 av (tpOi R (fun _ _ => False)) 6 [some (vR x0), some (vR x1), some (vI x2), some (vR x3), some (vI x4), some (vI x5), none] [] h) : ∀ (n : Nat) (x0 : Option Nat) (x1 : Option Nat) (x2 : Int32) (x3 : Option Nat) (x4 : Int32) (x5 : Int32) (x6 : Int32) (h : tpH), w_Lw_children_38 R K6 n x0 x1 x2 x3 x4 x5 x6 h → tpR Lw_children 1 h0 av (tpOi R (fun _ _ => False)) 38 [some (vR x0), some (vR x1), some (vI x2), some (vR x3), some (vI x4), some (vI x5), some (vI x6)] [] h := by
  intro n
  induction n with
  | zero => intro x0 x1 x2 x3 x4 x5 x6 h hw; exact False.elim hw
  | succ n ih =>
    intro x0 x1 x2 x3 x4 x5 x6 h hw
    change b_Lw_children_38 R K6 (w_Lw_children_38 R K6 n) x0 x1 x2 x3 x4 x5 x6 h at hw
    unfold b_Lw_children_38 at hw
    refine tq_iload dLw_children_38 rfl ?_
    refine tq_ifle (tgt := 81) dLw_children_40 (by decide) (fun c1 => ?_) (fun c1 => ?_)
    · have hw := hw.1 c1
      refine tpR.fo (ls' := [some (vR x0), some (vR x1), some (vI x2), some (vR x3), some (vI x4), some (vI x5), some (vI x6)]) ?_ (And.intro rfl (And.intro rfl (And.intro rfl (And.intro rfl (And.intro rfl (And.intro rfl (And.intro rfl trivial)))))))
      exact s_Lw_children_81 k6 _ _ _ _ _ _ _ _ hw
    · have hw := hw.2 c1
      refine tq_aload_n dLw_children_43 rfl rfl ?_
      refine tq_iload_n dLw_children_44 rfl rfl ?_
      obtain ⟨a2, e3, f4, hw⟩ := hw
      obtain ⟨f5, hw⟩ := hw
      refine te_iald dLw_children_45 e3 (Or.inl f4) f5 ?_
      refine tq_iconst (v := (3 : Int32)) dLw_children_46 tni_3 ?_
      refine tq_icmple (tgt := 81) dLw_children_47 (by decide) (fun c6 => ?_) (fun c6 => ?_)
      · have hw := hw.1 c6
        refine tpR.fo (ls' := [some (vR x0), some (vR x1), some (vI x2), some (vR x3), some (vI x4), some (vI x5), some (vI x6)]) ?_ (And.intro rfl (And.intro rfl (And.intro rfl (And.intro rfl (And.intro rfl (And.intro rfl (And.intro rfl trivial)))))))
        exact s_Lw_children_81 k6 _ _ _ _ _ _ _ _ hw
      · have hw := hw.2 c6
        refine tq_aload_n dLw_children_50 rfl rfl ?_
        refine tq_iload dLw_children_51 rfl ?_
        refine tq_iconst (v := (1 : Int32)) dLw_children_53 tni_1 ?_
        refine tq_isub dLw_children_54 ?_
        obtain ⟨a7, e8, f9, hw⟩ := hw
        obtain ⟨f10, hw⟩ := hw
        refine te_iald dLw_children_55 e8 (Or.inl f9) f10 ?_
        refine tq_aload_n dLw_children_56 rfl rfl ?_
        refine tq_iload dLw_children_57 rfl ?_
        refine tq_callS ms_Lw_mark (dc := 0) (as := [vR x0, vI x5]) (rest := [vI (hI h a7 (x6 - (1 : Int32)).toNatClampNeg)]) kLw_7 (Nat.le_of_ble_eq_true rfl) (Nat.le_of_ble_eq_true rfl) rfl rfl (Nat.le_of_ble_eq_true rfl) dLw_children_59 (s_Lw_mark hw) (fun _ _ hx => False.elim hx) (tk_i fun v12 h11 hw => ?_)
        refine tq_icmple (tgt := 81) dLw_children_62 (by decide) (fun c13 => ?_) (fun c13 => ?_)
        · have hw := hw.1 c13
          refine tpR.fo (ls' := [some (vR x0), some (vR x1), some (vI x2), some (vR x3), some (vI x4), some (vI x5), some (vI x6)]) ?_ (And.intro rfl (And.intro rfl (And.intro rfl (And.intro rfl (And.intro rfl (And.intro rfl (And.intro rfl trivial)))))))
          exact s_Lw_children_81 k6 _ _ _ _ _ _ _ _ hw
        · have hw := hw.2 c13
          refine tq_aload_n dLw_children_65 rfl rfl ?_
          refine tq_iload dLw_children_66 rfl ?_
          refine tq_aload_n dLw_children_68 rfl rfl ?_
          refine tq_iload dLw_children_69 rfl ?_
          refine tq_iconst (v := (1 : Int32)) dLw_children_71 tni_1 ?_
          refine tq_isub dLw_children_72 ?_
          obtain ⟨f14, hw⟩ := hw
          obtain ⟨f15, hw⟩ := hw
          refine te_iald dLw_children_73 e8 (Or.inl f14) f15 ?_
          obtain ⟨f16, hw⟩ := hw
          refine te_iast dLw_children_74 e8 f14 f16 (fun h17 e18 => ?_)
          have hw := hw h17 e18
          refine tq_inc (k := (-1 : Int32)) (ls' := [some (vR x0), some (vR x1), some (vI x2), some (vR x3), some (vI x4), some (vI x5), some (vI (x6 + (-1 : Int32)))]) dLw_children_75 rfl tni_m1 (Nat.le_of_ble_eq_true rfl) rfl ?_
          refine tq_goto (tgt := 38) dLw_children_78 (by decide) ?_
          refine tpR.fo (ls' := [some (vR x0), some (vR x1), some (vI x2), some (vR x3), some (vI x4), some (vI x5), some (vI (x6 + (-1 : Int32)))]) ?_ (And.intro rfl (And.intro rfl (And.intro rfl (And.intro rfl (And.intro rfl (And.intro rfl (And.intro rfl trivial)))))))
          exact ih _ _ _ _ _ _ _ _ hw
theorem s_Lw_children_6 {h0 : tpH} {av : List tpV} {R : Int32 → tpH → Prop} : ∀ (n : Nat) (x0 : Option Nat) (x1 : Option Nat) (x2 : Int32) (x3 : Option Nat) (x4 : Int32) (x5 : Int32) (h : tpH), w_Lw_children_6 R n x0 x1 x2 x3 x4 x5 h → tpR Lw_children 1 h0 av (tpOi R (fun _ _ => False)) 6 [some (vR x0), some (vR x1), some (vI x2), some (vR x3), some (vI x4), some (vI x5), none] [] h := by
  intro n
  induction n with
  | zero => intro x0 x1 x2 x3 x4 x5 h hw; exact False.elim hw
  | succ n ih =>
    intro x0 x1 x2 x3 x4 x5 h hw
    change b_Lw_children_6 R (w_Lw_children_6 R n) x0 x1 x2 x3 x4 x5 h at hw
    unfold b_Lw_children_6 at hw
    refine tq_iload dLw_children_6 rfl ?_
    refine tq_aload_n dLw_children_8 rfl rfl ?_
    refine tq_iconst (v := (0 : Int32)) dLw_children_9 tni_0 ?_
    obtain ⟨a1, e2, f3, hw⟩ := hw
    obtain ⟨f4, hw⟩ := hw
    refine te_iald dLw_children_10 e2 (Or.inl f3) f4 ?_
    refine tq_icmpge (tgt := 100) dLw_children_11 (by decide) (fun c5 => ?_) (fun c5 => ?_)
    · have hw := hw.1 c5
      refine tq_iload dLw_children_100 rfl ?_
      exact tq_iret rfl rfl dLw_children_102 hw
    · have hw := hw.2 c5
      refine tq_aload_n dLw_children_14 rfl rfl ?_
      refine tq_iload dLw_children_15 rfl ?_
      refine tq_callS ms_Lw_parent (dc := 0) (as := [vR x0, vI x5]) (rest := []) kLw_16 (Nat.le_of_ble_eq_true rfl) (Nat.le_of_ble_eq_true rfl) rfl rfl (Nat.le_of_ble_eq_true rfl) dLw_children_17 (s_Lw_parent hw) (fun _ _ hx => False.elim hx) (tk_i fun v7 h6 hw => ?_)
      refine tq_iload_n dLw_children_20 rfl rfl ?_
      refine tq_icmpne (tgt := 94) dLw_children_21 (by decide) (fun c8 => ?_) (fun c8 => ?_)
      · have hw := hw.1 c8
        refine tq_inc (k := (1 : Int32)) (ls' := [some (vR x0), some (vR x1), some (vI x2), some (vR x3), some (vI x4), some (vI (x5 + (1 : Int32))), none]) dLw_children_94 rfl tni_1 (Nat.le_of_ble_eq_true rfl) rfl ?_
        refine tq_goto (tgt := 6) dLw_children_97 (by decide) ?_
        refine tpR.fo (ls' := [some (vR x0), some (vR x1), some (vI x2), some (vR x3), some (vI x4), some (vI (x5 + (1 : Int32))), none]) ?_ (And.intro rfl (And.intro rfl (And.intro rfl (And.intro rfl (And.intro rfl (And.intro rfl trivial))))))
        exact ih _ _ _ _ _ _ _ hw
      · have hw := hw.2 c8
        refine tq_aload_n dLw_children_24 rfl rfl ?_
        refine tq_iload dLw_children_25 rfl ?_
        refine tq_callS ms_Lw_mark (dc := 0) (as := [vR x0, vI x5]) (rest := []) kLw_7 (Nat.le_of_ble_eq_true rfl) (Nat.le_of_ble_eq_true rfl) rfl rfl (Nat.le_of_ble_eq_true rfl) dLw_children_27 (s_Lw_mark hw) (fun _ _ hx => False.elim hx) (tk_i fun v10 h9 hw => ?_)
        refine tq_iload_n dLw_children_30 rfl rfl ?_
        refine tq_icmpeq (tgt := 94) dLw_children_31 (by decide) (fun c11 => ?_) (fun c11 => ?_)
        · have hw := hw.1 c11
          refine tq_inc (k := (1 : Int32)) (ls' := [some (vR x0), some (vR x1), some (vI x2), some (vR x3), some (vI x4), some (vI (x5 + (1 : Int32))), none]) dLw_children_94 rfl tni_1 (Nat.le_of_ble_eq_true rfl) rfl ?_
          refine tq_goto (tgt := 6) dLw_children_97 (by decide) ?_
          refine tpR.fo (ls' := [some (vR x0), some (vR x1), some (vI x2), some (vR x3), some (vI x4), some (vI (x5 + (1 : Int32))), none]) ?_ (And.intro rfl (And.intro rfl (And.intro rfl (And.intro rfl (And.intro rfl (And.intro rfl trivial))))))
          exact ih _ _ _ _ _ _ _ hw
        · have hw := hw.2 c11
          refine tq_iload dLw_children_34 rfl ?_
          refine tq_istore (ls' := [some (vR x0), some (vR x1), some (vI x2), some (vR x3), some (vI x4), some (vI x5), some (vI x4)]) dLw_children_36 (Nat.le_of_ble_eq_true rfl) rfl ?_
          refine tpR.fo (ls' := [some (vR x0), some (vR x1), some (vI x2), some (vR x3), some (vI x4), some (vI x5), some (vI x4)]) ?_ (And.intro rfl (And.intro rfl (And.intro rfl (And.intro rfl (And.intro rfl (And.intro rfl (And.intro rfl trivial)))))))
          obtain ⟨n, hw⟩ := hw
          exact s_Lw_children_38 ih n _ _ _ _ _ _ _ _ hw
theorem s_Lw_children {x0 : Option Nat} {x1 : Option Nat} {x2 : Int32} {x3 : Option Nat} {h : tpH} {R : Int32 → tpH → Prop} (hw : w_Lw_children x0 x1 x2 x3 h R) : tpC Lw_children 1 [vR x0, vR x1, vI x2, vR x3] h (tpOi R (fun _ _ => False)) := by
  refine tpC_of ms_Lw_children.2.2.2.1 rfl rfl (Nat.le_of_ble_eq_true rfl) ?_
  show tpR Lw_children 1 h _ _ 0 [some (vR x0), some (vR x1), some (vI x2), some (vR x3), none, none, none] [] h
  unfold w_Lw_children at hw
  refine tq_iconst (v := (0 : Int32)) dLw_children_0 tni_0 ?_
  refine tq_istore (ls' := [some (vR x0), some (vR x1), some (vI x2), some (vR x3), some (vI (0 : Int32)), none, none]) dLw_children_1 (Nat.le_of_ble_eq_true rfl) rfl ?_
  refine tq_iconst (v := (0 : Int32)) dLw_children_3 tni_0 ?_
  refine tq_istore (ls' := [some (vR x0), some (vR x1), some (vI x2), some (vR x3), some (vI (0 : Int32)), some (vI (0 : Int32)), none]) dLw_children_4 (Nat.le_of_ble_eq_true rfl) rfl ?_
  refine tpR.fo (ls' := [some (vR x0), some (vR x1), some (vI x2), some (vR x3), some (vI (0 : Int32)), some (vI (0 : Int32)), none]) ?_ (And.intro rfl (And.intro rfl (And.intro rfl (And.intro rfl (And.intro rfl (And.intro rfl trivial))))))
  obtain ⟨n, hw⟩ := hw
  exact s_Lw_children_6 n _ _ _ _ _ _ _ hw
/-! TLaw.puts -/
theorem dLw_puts_0 : decode (mB Lw_puts) 0 = .ok (.aload_n 0, 1) := by decide +kernel
theorem dLw_puts_1 : decode (mB Lw_puts) 1 = .ok (.iconst 0, 1) := by decide +kernel
theorem dLw_puts_2 : decode (mB Lw_puts) 2 = .ok (.iaload, 1) := by decide +kernel
theorem dLw_puts_3 : decode (mB Lw_puts) 3 = .ok (.istore_n 3, 1) := by decide +kernel
theorem dLw_puts_4 : decode (mB Lw_puts) 4 = .ok (.iload_n 3, 1) := by decide +kernel
theorem dLw_puts_5 : decode (mB Lw_puts) 5 = .ok (.iload_n 1, 1) := by decide +kernel
theorem dLw_puts_6 : decode (mB Lw_puts) 6 = .ok (.if_icmp .le 17, 3) := by decide +kernel
theorem dLw_puts_9 : decode (mB Lw_puts) 9 = .ok (.aload_n 0, 1) := by decide +kernel
theorem dLw_puts_10 : decode (mB Lw_puts) 10 = .ok (.iconst 1, 1) := by decide +kernel
theorem dLw_puts_11 : decode (mB Lw_puts) 11 = .ok (.iload_n 3, 1) := by decide +kernel
theorem dLw_puts_12 : decode (mB Lw_puts) 12 = .ok (.iadd, 1) := by decide +kernel
theorem dLw_puts_13 : decode (mB Lw_puts) 13 = .ok (.aload_n 0, 1) := by decide +kernel
theorem dLw_puts_14 : decode (mB Lw_puts) 14 = .ok (.iload_n 3, 1) := by decide +kernel
theorem dLw_puts_15 : decode (mB Lw_puts) 15 = .ok (.iaload, 1) := by decide +kernel
theorem dLw_puts_16 : decode (mB Lw_puts) 16 = .ok (.iastore, 1) := by decide +kernel
theorem dLw_puts_17 : decode (mB Lw_puts) 17 = .ok (.iinc 3 (-1), 3) := by decide +kernel
theorem dLw_puts_20 : decode (mB Lw_puts) 20 = .ok (.goto (-16), 3) := by decide +kernel
theorem dLw_puts_23 : decode (mB Lw_puts) 23 = .ok (.aload_n 0, 1) := by decide +kernel
theorem dLw_puts_24 : decode (mB Lw_puts) 24 = .ok (.iconst 1, 1) := by decide +kernel
theorem dLw_puts_25 : decode (mB Lw_puts) 25 = .ok (.iload_n 1, 1) := by decide +kernel
theorem dLw_puts_26 : decode (mB Lw_puts) 26 = .ok (.iadd, 1) := by decide +kernel
theorem dLw_puts_27 : decode (mB Lw_puts) 27 = .ok (.iload_n 2, 1) := by decide +kernel
theorem dLw_puts_28 : decode (mB Lw_puts) 28 = .ok (.iastore, 1) := by decide +kernel
theorem dLw_puts_29 : decode (mB Lw_puts) 29 = .ok (.aload_n 0, 1) := by decide +kernel
theorem dLw_puts_30 : decode (mB Lw_puts) 30 = .ok (.iconst 0, 1) := by decide +kernel
theorem dLw_puts_31 : decode (mB Lw_puts) 31 = .ok (.dup2, 1) := by decide +kernel
theorem dLw_puts_32 : decode (mB Lw_puts) 32 = .ok (.iaload, 1) := by decide +kernel
theorem dLw_puts_33 : decode (mB Lw_puts) 33 = .ok (.iconst 1, 1) := by decide +kernel
theorem dLw_puts_34 : decode (mB Lw_puts) 34 = .ok (.iadd, 1) := by decide +kernel
theorem dLw_puts_35 : decode (mB Lw_puts) 35 = .ok (.iastore, 1) := by decide +kernel
theorem dLw_puts_36 : decode (mB Lw_puts) 36 = .ok (.return_, 1) := by decide +kernel
def b_Lw_puts_4 (R : tpH → Prop) (Y : (Option Nat) → Int32 → Int32 → Int32 → tpH → Prop) (x0 : Option Nat) (x1 : Int32) (x2 : Int32) (x3 : Int32) (h : tpH) : Prop :=
  (x3 ≤ x1 → (∃ a2, x0 = some a2 ∧ hT h a2 = 15 ∧ (vp_in ((1 : Int32) + x1) (hL h a2) ∧ (∀ h6, h6 = sI h a2 ((1 : Int32) + x1).toNatClampNeg x2 → (vp_in (0 : Int32) (hL h6 a2) ∧ (vp_in (0 : Int32) (hL h6 a2) ∧ (∀ h10, h10 = sI h6 a2 (0 : Int32).toNatClampNeg ((hI h6 a2 (0 : Int32).toNatClampNeg) + (1 : Int32)) → (R h10)))))))) ∧ (¬ x3 ≤ x1 → (∃ a12, x0 = some a12 ∧ hT h a12 = 15 ∧ (vp_in x3 (hL h a12) ∧ (vp_in ((1 : Int32) + x3) (hL h a12) ∧ (∀ h17, h17 = sI h a12 ((1 : Int32) + x3).toNatClampNeg (hI h a12 x3.toNatClampNeg) → (Y x0 x1 x2 (x3 + (-1 : Int32)) h17))))))
def w_Lw_puts_4 (R : tpH → Prop) : Nat → (Option Nat) → Int32 → Int32 → Int32 → tpH → Prop
  | 0 => fun _ _ _ _ _ => False
  | n + 1 => b_Lw_puts_4 R (w_Lw_puts_4 R n)
def w_Lw_puts (x0 : Option Nat) (x1 : Int32) (x2 : Int32) (h : tpH) (R : tpH → Prop) : Prop :=
  ∃ a1, x0 = some a1 ∧ hT h a1 = 15 ∧ (vp_in (0 : Int32) (hL h a1) ∧ (∃ n, w_Lw_puts_4 R n x0 x1 x2 (hI h a1 (0 : Int32).toNatClampNeg) h))
theorem s_Lw_puts_4 {h0 : tpH} {av : List tpV} {R : tpH → Prop} : ∀ (n : Nat) (x0 : Option Nat) (x1 : Int32) (x2 : Int32) (x3 : Int32) (h : tpH), w_Lw_puts_4 R n x0 x1 x2 x3 h → tpR Lw_puts 0 h0 av (tpOv R (fun _ _ => False)) 4 [some (vR x0), some (vI x1), some (vI x2), some (vI x3)] [] h := by
  intro n
  induction n with
  | zero => intro x0 x1 x2 x3 h hw; exact False.elim hw
  | succ n ih =>
    intro x0 x1 x2 x3 h hw
    change b_Lw_puts_4 R (w_Lw_puts_4 R n) x0 x1 x2 x3 h at hw
    unfold b_Lw_puts_4 at hw
    refine tq_iload_n dLw_puts_4 rfl rfl ?_
    refine tq_iload_n dLw_puts_5 rfl rfl ?_
    refine tq_icmple (tgt := 23) dLw_puts_6 (by decide) (fun c1 => ?_) (fun c1 => ?_)
    · have hw := hw.1 c1
      refine tq_aload_n dLw_puts_23 rfl rfl ?_
      refine tq_iconst (v := (1 : Int32)) dLw_puts_24 tni_1 ?_
      refine tq_iload_n dLw_puts_25 rfl rfl ?_
      refine tq_iadd dLw_puts_26 ?_
      refine tq_iload_n dLw_puts_27 rfl rfl ?_
      obtain ⟨a2, e3, f4, hw⟩ := hw
      obtain ⟨f5, hw⟩ := hw
      refine te_iast dLw_puts_28 e3 f4 f5 (fun h6 e7 => ?_)
      have hw := hw h6 e7
      refine tq_aload_n dLw_puts_29 rfl rfl ?_
      refine tq_iconst (v := (0 : Int32)) dLw_puts_30 tni_0 ?_
      refine tq_dup2 dLw_puts_31 rfl rfl ?_
      obtain ⟨f8, hw⟩ := hw
      refine te_iald dLw_puts_32 e3 (Or.inl (by rw [e7]; exact f4)) f8 ?_
      refine tq_iconst (v := (1 : Int32)) dLw_puts_33 tni_1 ?_
      refine tq_iadd dLw_puts_34 ?_
      obtain ⟨f9, hw⟩ := hw
      refine te_iast dLw_puts_35 e3 (by rw [e7]; exact f4) f9 (fun h10 e11 => ?_)
      have hw := hw h10 e11
      exact tq_vret rfl dLw_puts_36 hw
    · have hw := hw.2 c1
      refine tq_aload_n dLw_puts_9 rfl rfl ?_
      refine tq_iconst (v := (1 : Int32)) dLw_puts_10 tni_1 ?_
      refine tq_iload_n dLw_puts_11 rfl rfl ?_
      refine tq_iadd dLw_puts_12 ?_
      refine tq_aload_n dLw_puts_13 rfl rfl ?_
      refine tq_iload_n dLw_puts_14 rfl rfl ?_
      obtain ⟨a12, e13, f14, hw⟩ := hw
      obtain ⟨f15, hw⟩ := hw
      refine te_iald dLw_puts_15 e13 (Or.inl f14) f15 ?_
      obtain ⟨f16, hw⟩ := hw
      refine te_iast dLw_puts_16 e13 f14 f16 (fun h17 e18 => ?_)
      have hw := hw h17 e18
      refine tq_inc (k := (-1 : Int32)) (ls' := [some (vR x0), some (vI x1), some (vI x2), some (vI (x3 + (-1 : Int32)))]) dLw_puts_17 rfl tni_m1 (Nat.le_of_ble_eq_true rfl) rfl ?_
      refine tq_goto (tgt := 4) dLw_puts_20 (by decide) ?_
      refine tpR.fo (ls' := [some (vR x0), some (vI x1), some (vI x2), some (vI (x3 + (-1 : Int32)))]) ?_ (And.intro rfl (And.intro rfl (And.intro rfl (And.intro rfl trivial))))
      exact ih _ _ _ _ _ hw
theorem s_Lw_puts {x0 : Option Nat} {x1 : Int32} {x2 : Int32} {h : tpH} {R : tpH → Prop} (hw : w_Lw_puts x0 x1 x2 h R) : tpC Lw_puts 0 [vR x0, vI x1, vI x2] h (tpOv R (fun _ _ => False)) := by
  refine tpC_of ms_Lw_puts.2.2.2.1 rfl rfl (Nat.le_of_ble_eq_true rfl) ?_
  show tpR Lw_puts 0 h _ _ 0 [some (vR x0), some (vI x1), some (vI x2), none] [] h
  unfold w_Lw_puts at hw
  refine tq_aload_n dLw_puts_0 rfl rfl ?_
  refine tq_iconst (v := (0 : Int32)) dLw_puts_1 tni_0 ?_
  obtain ⟨a1, e2, f3, hw⟩ := hw
  obtain ⟨f4, hw⟩ := hw
  refine te_iald dLw_puts_2 e2 (Or.inl f3) f4 ?_
  refine tq_istore_n (ls' := [some (vR x0), some (vI x1), some (vI x2), some (vI (hI h a1 (0 : Int32).toNatClampNeg))]) dLw_puts_3 rfl (Nat.le_of_ble_eq_true rfl) rfl ?_
  refine tpR.fo (ls' := [some (vR x0), some (vI x1), some (vI x2), some (vI (hI h a1 (0 : Int32).toNatClampNeg))]) ?_ (And.intro rfl (And.intro rfl (And.intro rfl (And.intro rfl trivial))))
  obtain ⟨n, hw⟩ := hw
  exact s_Lw_puts_4 n _ _ _ _ _ hw
/-! TLaw.takes -/
theorem dLw_takes_0 : decode (mB Lw_takes) 0 = .ok (.iload_n 1, 1) := by decide +kernel
theorem dLw_takes_1 : decode (mB Lw_takes) 1 = .ok (.istore_n 2, 1) := by decide +kernel
theorem dLw_takes_2 : decode (mB Lw_takes) 2 = .ok (.iload_n 2, 1) := by decide +kernel
theorem dLw_takes_3 : decode (mB Lw_takes) 3 = .ok (.aload_n 0, 1) := by decide +kernel
theorem dLw_takes_4 : decode (mB Lw_takes) 4 = .ok (.iconst 0, 1) := by decide +kernel
theorem dLw_takes_5 : decode (mB Lw_takes) 5 = .ok (.iaload, 1) := by decide +kernel
theorem dLw_takes_6 : decode (mB Lw_takes) 6 = .ok (.iconst 1, 1) := by decide +kernel
theorem dLw_takes_7 : decode (mB Lw_takes) 7 = .ok (.isub, 1) := by decide +kernel
theorem dLw_takes_8 : decode (mB Lw_takes) 8 = .ok (.if_icmp .ge 19, 3) := by decide +kernel
theorem dLw_takes_11 : decode (mB Lw_takes) 11 = .ok (.aload_n 0, 1) := by decide +kernel
theorem dLw_takes_12 : decode (mB Lw_takes) 12 = .ok (.iconst 1, 1) := by decide +kernel
theorem dLw_takes_13 : decode (mB Lw_takes) 13 = .ok (.iload_n 2, 1) := by decide +kernel
theorem dLw_takes_14 : decode (mB Lw_takes) 14 = .ok (.iadd, 1) := by decide +kernel
theorem dLw_takes_15 : decode (mB Lw_takes) 15 = .ok (.aload_n 0, 1) := by decide +kernel
theorem dLw_takes_16 : decode (mB Lw_takes) 16 = .ok (.iconst 2, 1) := by decide +kernel
theorem dLw_takes_17 : decode (mB Lw_takes) 17 = .ok (.iload_n 2, 1) := by decide +kernel
theorem dLw_takes_18 : decode (mB Lw_takes) 18 = .ok (.iadd, 1) := by decide +kernel
theorem dLw_takes_19 : decode (mB Lw_takes) 19 = .ok (.iaload, 1) := by decide +kernel
theorem dLw_takes_20 : decode (mB Lw_takes) 20 = .ok (.iastore, 1) := by decide +kernel
theorem dLw_takes_21 : decode (mB Lw_takes) 21 = .ok (.iinc 2 1, 3) := by decide +kernel
theorem dLw_takes_24 : decode (mB Lw_takes) 24 = .ok (.goto (-22), 3) := by decide +kernel
theorem dLw_takes_27 : decode (mB Lw_takes) 27 = .ok (.aload_n 0, 1) := by decide +kernel
theorem dLw_takes_28 : decode (mB Lw_takes) 28 = .ok (.iconst 0, 1) := by decide +kernel
theorem dLw_takes_29 : decode (mB Lw_takes) 29 = .ok (.dup2, 1) := by decide +kernel
theorem dLw_takes_30 : decode (mB Lw_takes) 30 = .ok (.iaload, 1) := by decide +kernel
theorem dLw_takes_31 : decode (mB Lw_takes) 31 = .ok (.iconst 1, 1) := by decide +kernel
theorem dLw_takes_32 : decode (mB Lw_takes) 32 = .ok (.isub, 1) := by decide +kernel
theorem dLw_takes_33 : decode (mB Lw_takes) 33 = .ok (.iastore, 1) := by decide +kernel
theorem dLw_takes_34 : decode (mB Lw_takes) 34 = .ok (.return_, 1) := by decide +kernel
def b_Lw_takes_2 (R : tpH → Prop) (Y : (Option Nat) → Int32 → tpH → Prop) (x0 : Option Nat) (x2 : Int32) (h : tpH) : Prop :=
  ∃ a1, x0 = some a1 ∧ hT h a1 = 15 ∧ (vp_in (0 : Int32) (hL h a1) ∧ ((((hI h a1 (0 : Int32).toNatClampNeg) - (1 : Int32)) ≤ x2 → (vp_in (0 : Int32) (hL h a1) ∧ (vp_in (0 : Int32) (hL h a1) ∧ (∀ h8, h8 = sI h a1 (0 : Int32).toNatClampNeg ((hI h a1 (0 : Int32).toNatClampNeg) - (1 : Int32)) → (R h8))))) ∧ (¬ ((hI h a1 (0 : Int32).toNatClampNeg) - (1 : Int32)) ≤ x2 → (vp_in ((2 : Int32) + x2) (hL h a1) ∧ (vp_in ((1 : Int32) + x2) (hL h a1) ∧ (∀ h12, h12 = sI h a1 ((1 : Int32) + x2).toNatClampNeg (hI h a1 ((2 : Int32) + x2).toNatClampNeg) → (Y x0 (x2 + (1 : Int32)) h12)))))))
def w_Lw_takes_2 (R : tpH → Prop) : Nat → (Option Nat) → Int32 → tpH → Prop
  | 0 => fun _ _ _ => False
  | n + 1 => b_Lw_takes_2 R (w_Lw_takes_2 R n)
def w_Lw_takes (x0 : Option Nat) (x1 : Int32) (h : tpH) (R : tpH → Prop) : Prop :=
  ∃ n, w_Lw_takes_2 R n x0 x1 h
theorem s_Lw_takes_2 {h0 : tpH} {av : List tpV} {R : tpH → Prop} : ∀ (n : Nat) (x0 : Option Nat) (x2 : Int32) (h : tpH), w_Lw_takes_2 R n x0 x2 h → tpR Lw_takes 0 h0 av (tpOv R (fun _ _ => False)) 2 [some (vR x0), none, some (vI x2)] [] h := by
  intro n
  induction n with
  | zero => intro x0 x2 h hw; exact False.elim hw
  | succ n ih =>
    intro x0 x2 h hw
    change b_Lw_takes_2 R (w_Lw_takes_2 R n) x0 x2 h at hw
    unfold b_Lw_takes_2 at hw
    refine tq_iload_n dLw_takes_2 rfl rfl ?_
    refine tq_aload_n dLw_takes_3 rfl rfl ?_
    refine tq_iconst (v := (0 : Int32)) dLw_takes_4 tni_0 ?_
    obtain ⟨a1, e2, f3, hw⟩ := hw
    obtain ⟨f4, hw⟩ := hw
    refine te_iald dLw_takes_5 e2 (Or.inl f3) f4 ?_
    refine tq_iconst (v := (1 : Int32)) dLw_takes_6 tni_1 ?_
    refine tq_isub dLw_takes_7 ?_
    refine tq_icmpge (tgt := 27) dLw_takes_8 (by decide) (fun c5 => ?_) (fun c5 => ?_)
    · have hw := hw.1 c5
      refine tq_aload_n dLw_takes_27 rfl rfl ?_
      refine tq_iconst (v := (0 : Int32)) dLw_takes_28 tni_0 ?_
      refine tq_dup2 dLw_takes_29 rfl rfl ?_
      obtain ⟨f6, hw⟩ := hw
      refine te_iald dLw_takes_30 e2 (Or.inl f3) f6 ?_
      refine tq_iconst (v := (1 : Int32)) dLw_takes_31 tni_1 ?_
      refine tq_isub dLw_takes_32 ?_
      obtain ⟨f7, hw⟩ := hw
      refine te_iast dLw_takes_33 e2 f3 f7 (fun h8 e9 => ?_)
      have hw := hw h8 e9
      exact tq_vret rfl dLw_takes_34 hw
    · have hw := hw.2 c5
      refine tq_aload_n dLw_takes_11 rfl rfl ?_
      refine tq_iconst (v := (1 : Int32)) dLw_takes_12 tni_1 ?_
      refine tq_iload_n dLw_takes_13 rfl rfl ?_
      refine tq_iadd dLw_takes_14 ?_
      refine tq_aload_n dLw_takes_15 rfl rfl ?_
      refine tq_iconst (v := (2 : Int32)) dLw_takes_16 tni_2 ?_
      refine tq_iload_n dLw_takes_17 rfl rfl ?_
      refine tq_iadd dLw_takes_18 ?_
      obtain ⟨f10, hw⟩ := hw
      refine te_iald dLw_takes_19 e2 (Or.inl f3) f10 ?_
      obtain ⟨f11, hw⟩ := hw
      refine te_iast dLw_takes_20 e2 f3 f11 (fun h12 e13 => ?_)
      have hw := hw h12 e13
      refine tq_inc (k := (1 : Int32)) (ls' := [some (vR x0), none, some (vI (x2 + (1 : Int32)))]) dLw_takes_21 rfl tni_1 (Nat.le_of_ble_eq_true rfl) rfl ?_
      refine tq_goto (tgt := 2) dLw_takes_24 (by decide) ?_
      refine tpR.fo (ls' := [some (vR x0), none, some (vI (x2 + (1 : Int32)))]) ?_ (And.intro rfl (And.intro rfl trivial))
      exact ih _ _ _ hw
theorem s_Lw_takes {x0 : Option Nat} {x1 : Int32} {h : tpH} {R : tpH → Prop} (hw : w_Lw_takes x0 x1 h R) : tpC Lw_takes 0 [vR x0, vI x1] h (tpOv R (fun _ _ => False)) := by
  refine tpC_of ms_Lw_takes.2.2.2.1 rfl rfl (Nat.le_of_ble_eq_true rfl) ?_
  show tpR Lw_takes 0 h _ _ 0 [some (vR x0), some (vI x1), none] [] h
  unfold w_Lw_takes at hw
  refine tq_iload_n dLw_takes_0 rfl rfl ?_
  refine tq_istore_n (ls' := [some (vR x0), some (vI x1), some (vI x1)]) dLw_takes_1 rfl (Nat.le_of_ble_eq_true rfl) rfl ?_
  refine tpR.fo (ls' := [some (vR x0), none, some (vI x1)]) ?_ (And.intro rfl (And.intro rfl trivial))
  obtain ⟨n, hw⟩ := hw
  exact s_Lw_takes_2 n _ _ _ hw
/-! TLaw.spot -/
theorem dLw_spot_0 : decode (mB Lw_spot) 0 = .ok (.bipush 40, 2) := by decide +kernel
theorem dLw_spot_2 : decode (mB Lw_spot) 2 = .ok (.newarray .int, 2) := by decide +kernel
theorem dLw_spot_4 : decode (mB Lw_spot) 4 = .ok (.astore 4, 2) := by decide +kernel
theorem dLw_spot_6 : decode (mB Lw_spot) 6 = .ok (.aload_n 0, 1) := by decide +kernel
theorem dLw_spot_7 : decode (mB Lw_spot) 7 = .ok (.aload_n 1, 1) := by decide +kernel
theorem dLw_spot_8 : decode (mB Lw_spot) 8 = .ok (.iload_n 2, 1) := by decide +kernel
theorem dLw_spot_9 : decode (mB Lw_spot) 9 = .ok (.aload 4, 2) := by decide +kernel
theorem dLw_spot_11 : decode (mB Lw_spot) 11 = .ok (.invokestatic 36, 3) := by decide +kernel
theorem dLw_spot_14 : decode (mB Lw_spot) 14 = .ok (.istore 5, 2) := by decide +kernel
theorem dLw_spot_16 : decode (mB Lw_spot) 16 = .ok (.iload_n 3, 1) := by decide +kernel
theorem dLw_spot_17 : decode (mB Lw_spot) 17 = .ok (.iload 5, 2) := by decide +kernel
theorem dLw_spot_19 : decode (mB Lw_spot) 19 = .ok (.if_icmp .ge 21, 3) := by decide +kernel
theorem dLw_spot_22 : decode (mB Lw_spot) 22 = .ok (.aload_n 1, 1) := by decide +kernel
theorem dLw_spot_23 : decode (mB Lw_spot) 23 = .ok (.iload_n 2, 1) := by decide +kernel
theorem dLw_spot_24 : decode (mB Lw_spot) 24 = .ok (.iaload, 1) := by decide +kernel
theorem dLw_spot_25 : decode (mB Lw_spot) 25 = .ok (.iconst 4, 1) := by decide +kernel
theorem dLw_spot_26 : decode (mB Lw_spot) 26 = .ok (.if_icmp .ge 14, 3) := by decide +kernel
theorem dLw_spot_29 : decode (mB Lw_spot) 29 = .ok (.aload_n 0, 1) := by decide +kernel
theorem dLw_spot_30 : decode (mB Lw_spot) 30 = .ok (.aload 4, 2) := by decide +kernel
theorem dLw_spot_32 : decode (mB Lw_spot) 32 = .ok (.iload_n 3, 1) := by decide +kernel
theorem dLw_spot_33 : decode (mB Lw_spot) 33 = .ok (.iaload, 1) := by decide +kernel
theorem dLw_spot_34 : decode (mB Lw_spot) 34 = .ok (.invokestatic 13, 3) := by decide +kernel
theorem dLw_spot_37 : decode (mB Lw_spot) 37 = .ok (.goto 6, 3) := by decide +kernel
theorem dLw_spot_40 : decode (mB Lw_spot) 40 = .ok (.aload_n 0, 1) := by decide +kernel
theorem dLw_spot_41 : decode (mB Lw_spot) 41 = .ok (.iconst 0, 1) := by decide +kernel
theorem dLw_spot_42 : decode (mB Lw_spot) 42 = .ok (.iaload, 1) := by decide +kernel
theorem dLw_spot_43 : decode (mB Lw_spot) 43 = .ok (.ireturn, 1) := by decide +kernel
def w_Lw_spot (x0 : Option Nat) (x1 : Option Nat) (x2 : Int32) (x3 : Int32) (h : tpH) (R : Int32 → tpH → Prop) : Prop :=
  ∀ a1 h2, a1 = hZ h → h2 = nC h 15 40 40 → (w_Lw_children x0 x1 x2 (some a1) h2 (fun v6 h5 => (v6 ≤ x3 → (∃ a8, x0 = some a8 ∧ hT h5 a8 = 15 ∧ (vp_in (0 : Int32) (hL h5 a8) ∧ (R (hI h5 a8 (0 : Int32).toNatClampNeg) h5)))) ∧ (¬ v6 ≤ x3 → (∃ a12, x1 = some a12 ∧ hT h5 a12 = 15 ∧ (vp_in x2 (hL h5 a12) ∧ (((4 : Int32) ≤ (hI h5 a12 x2.toNatClampNeg) → (∃ a17, x0 = some a17 ∧ hT h5 a17 = 15 ∧ (vp_in (0 : Int32) (hL h5 a17) ∧ (R (hI h5 a17 (0 : Int32).toNatClampNeg) h5)))) ∧ (¬ (4 : Int32) ≤ (hI h5 a12 x2.toNatClampNeg) → (hT h5 a1 = 15 ∧ (vp_in x3 (hL h5 a1) ∧ (w_Lw_place x0 (hI h5 a1 x3.toNatClampNeg) h5 (fun v24 h23 => R v24 h23)))))))))))
theorem s_Lw_spot {x0 : Option Nat} {x1 : Option Nat} {x2 : Int32} {x3 : Int32} {h : tpH} {R : Int32 → tpH → Prop} (hw : w_Lw_spot x0 x1 x2 x3 h R) : tpC Lw_spot 2 [vR x0, vR x1, vI x2, vI x3] h (tpOi R (fun _ _ => False)) := by
  refine tpC_of ms_Lw_spot.2.2.2.1 rfl rfl (Nat.le_of_ble_eq_true rfl) ?_
  show tpR Lw_spot 2 h _ _ 0 [some (vR x0), some (vR x1), some (vI x2), some (vI x3), none, none] [] h
  unfold w_Lw_spot at hw
  refine tq_bipush (v := (40 : Int32)) dLw_spot_0 tnb_40 ?_
  refine tq_newa tpN_int (N := 40) dLw_spot_2 (by decide) (by decide) (Nat.le_of_ble_eq_true rfl) (fun a1 h2 e3 e4 => ?_)
  have hw := hw a1 h2 e3 e4
  refine tq_astore (ls' := [some (vR x0), some (vR x1), some (vI x2), some (vI x3), some (vR (some a1)), none]) dLw_spot_4 (Nat.le_of_ble_eq_true rfl) rfl ?_
  refine tq_aload_n dLw_spot_6 rfl rfl ?_
  refine tq_aload_n dLw_spot_7 rfl rfl ?_
  refine tq_iload_n dLw_spot_8 rfl rfl ?_
  refine tq_aload dLw_spot_9 rfl ?_
  refine tq_callS ms_Lw_children (dc := 1) (as := [vR x0, vR x1, vI x2, vR (some a1)]) (rest := []) kLw_36 (Nat.le_of_ble_eq_true rfl) (Nat.le_of_ble_eq_true rfl) rfl rfl (Nat.le_of_ble_eq_true rfl) dLw_spot_11 (s_Lw_children hw) (fun _ _ hx => False.elim hx) (tk_i fun v6 h5 hw => ?_)
  refine tq_istore (ls' := [some (vR x0), some (vR x1), some (vI x2), some (vI x3), some (vR (some a1)), some (vI v6)]) dLw_spot_14 (Nat.le_of_ble_eq_true rfl) rfl ?_
  refine tq_iload_n dLw_spot_16 rfl rfl ?_
  refine tq_iload dLw_spot_17 rfl ?_
  refine tq_icmpge (tgt := 40) dLw_spot_19 (by decide) (fun c7 => ?_) (fun c7 => ?_)
  · have hw := hw.1 c7
    refine tq_aload_n dLw_spot_40 rfl rfl ?_
    refine tq_iconst (v := (0 : Int32)) dLw_spot_41 tni_0 ?_
    obtain ⟨a8, e9, f10, hw⟩ := hw
    obtain ⟨f11, hw⟩ := hw
    refine te_iald dLw_spot_42 e9 (Or.inl f10) f11 ?_
    exact tq_iret rfl rfl dLw_spot_43 hw
  · have hw := hw.2 c7
    refine tq_aload_n dLw_spot_22 rfl rfl ?_
    refine tq_iload_n dLw_spot_23 rfl rfl ?_
    obtain ⟨a12, e13, f14, hw⟩ := hw
    obtain ⟨f15, hw⟩ := hw
    refine te_iald dLw_spot_24 e13 (Or.inl f14) f15 ?_
    refine tq_iconst (v := (4 : Int32)) dLw_spot_25 tni_4 ?_
    refine tq_icmpge (tgt := 40) dLw_spot_26 (by decide) (fun c16 => ?_) (fun c16 => ?_)
    · have hw := hw.1 c16
      refine tq_aload_n dLw_spot_40 rfl rfl ?_
      refine tq_iconst (v := (0 : Int32)) dLw_spot_41 tni_0 ?_
      obtain ⟨a17, e18, f19, hw⟩ := hw
      obtain ⟨f20, hw⟩ := hw
      refine te_iald dLw_spot_42 e18 (Or.inl f19) f20 ?_
      exact tq_iret rfl rfl dLw_spot_43 hw
    · have hw := hw.2 c16
      refine tq_aload_n dLw_spot_29 rfl rfl ?_
      refine tq_aload dLw_spot_30 rfl ?_
      refine tq_iload_n dLw_spot_32 rfl rfl ?_
      obtain ⟨f21, hw⟩ := hw
      obtain ⟨f22, hw⟩ := hw
      refine te_iald dLw_spot_33 rfl (Or.inl f21) f22 ?_
      refine tq_callS ms_Lw_place (dc := 1) (as := [vR x0, vI (hI h5 a1 x3.toNatClampNeg)]) (rest := []) kLw_13 (Nat.le_of_ble_eq_true rfl) (Nat.le_of_ble_eq_true rfl) rfl rfl (Nat.le_of_ble_eq_true rfl) dLw_spot_34 (s_Lw_place hw) (fun _ _ hx => False.elim hx) (tk_i fun v24 h23 hw => ?_)
      refine tq_goto (tgt := 43) dLw_spot_37 (by decide) ?_
      exact tq_iret rfl rfl dLw_spot_43 hw
/-! TLaw.isBelow -/
theorem dLw_isBelow_0 : decode (mB Lw_isBelow) 0 = .ok (.iload_n 1, 1) := by decide +kernel
theorem dLw_isBelow_1 : decode (mB Lw_isBelow) 1 = .ok (.istore_n 3, 1) := by decide +kernel
theorem dLw_isBelow_2 : decode (mB Lw_isBelow) 2 = .ok (.iload_n 3, 1) := by decide +kernel
theorem dLw_isBelow_3 : decode (mB Lw_isBelow) 3 = .ok (.ifCond .lt 17, 3) := by decide +kernel
theorem dLw_isBelow_6 : decode (mB Lw_isBelow) 6 = .ok (.iload_n 3, 1) := by decide +kernel
theorem dLw_isBelow_7 : decode (mB Lw_isBelow) 7 = .ok (.iload_n 2, 1) := by decide +kernel
theorem dLw_isBelow_8 : decode (mB Lw_isBelow) 8 = .ok (.if_icmp .eq 12, 3) := by decide +kernel
theorem dLw_isBelow_11 : decode (mB Lw_isBelow) 11 = .ok (.aload_n 0, 1) := by decide +kernel
theorem dLw_isBelow_12 : decode (mB Lw_isBelow) 12 = .ok (.iload_n 3, 1) := by decide +kernel
theorem dLw_isBelow_13 : decode (mB Lw_isBelow) 13 = .ok (.invokestatic 40, 3) := by decide +kernel
theorem dLw_isBelow_16 : decode (mB Lw_isBelow) 16 = .ok (.istore_n 3, 1) := by decide +kernel
theorem dLw_isBelow_17 : decode (mB Lw_isBelow) 17 = .ok (.goto (-15), 3) := by decide +kernel
theorem dLw_isBelow_20 : decode (mB Lw_isBelow) 20 = .ok (.iload_n 3, 1) := by decide +kernel
theorem dLw_isBelow_21 : decode (mB Lw_isBelow) 21 = .ok (.iload_n 2, 1) := by decide +kernel
theorem dLw_isBelow_22 : decode (mB Lw_isBelow) 22 = .ok (.if_icmp .ne 7, 3) := by decide +kernel
theorem dLw_isBelow_25 : decode (mB Lw_isBelow) 25 = .ok (.iconst 1, 1) := by decide +kernel
theorem dLw_isBelow_26 : decode (mB Lw_isBelow) 26 = .ok (.goto 4, 3) := by decide +kernel
theorem dLw_isBelow_29 : decode (mB Lw_isBelow) 29 = .ok (.iconst 0, 1) := by decide +kernel
theorem dLw_isBelow_30 : decode (mB Lw_isBelow) 30 = .ok (.ireturn, 1) := by decide +kernel
def w_Lw_isBelow_20 (R : Int32 → tpH → Prop) (x2 : Int32) (x3 : Int32) (h : tpH) : Prop :=
  (¬ x3 = x2 → (R (0 : Int32) h)) ∧ (x3 = x2 → (R (1 : Int32) h))
def b_Lw_isBelow_2 (R : Int32 → tpH → Prop) (Y : (Option Nat) → Int32 → Int32 → tpH → Prop) (x0 : Option Nat) (x2 : Int32) (x3 : Int32) (h : tpH) : Prop :=
  (x3 < 0 → (w_Lw_isBelow_20 R x2 x3 h)) ∧ (¬ x3 < 0 → ((x3 = x2 → (w_Lw_isBelow_20 R x2 x3 h)) ∧ (¬ x3 = x2 → (w_Lw_parentOf x0 x3 h (fun v4 h3 => Y x0 x2 v4 h3)))))
def w_Lw_isBelow_2 (R : Int32 → tpH → Prop) : Nat → (Option Nat) → Int32 → Int32 → tpH → Prop
  | 0 => fun _ _ _ _ => False
  | n + 1 => b_Lw_isBelow_2 R (w_Lw_isBelow_2 R n)
def w_Lw_isBelow (x0 : Option Nat) (x1 : Int32) (x2 : Int32) (h : tpH) (R : Int32 → tpH → Prop) : Prop :=
  ∃ n, w_Lw_isBelow_2 R n x0 x2 x1 h
theorem s_Lw_isBelow_20 {h0 : tpH} {av : List tpV} {R : Int32 → tpH → Prop} : ∀ (x2 : Int32) (x3 : Int32) (h : tpH), w_Lw_isBelow_20 R x2 x3 h → tpR Lw_isBelow 3 h0 av (tpOi R (fun _ _ => False)) 20 [none, none, some (vI x2), some (vI x3)] [] h := by
  intro x2 x3 h hw
  unfold w_Lw_isBelow_20 at hw
  refine tq_iload_n dLw_isBelow_20 rfl rfl ?_
  refine tq_iload_n dLw_isBelow_21 rfl rfl ?_
  refine tq_icmpne (tgt := 29) dLw_isBelow_22 (by decide) (fun c1 => ?_) (fun c1 => ?_)
  · have hw := hw.1 c1
    refine tq_iconst (v := (0 : Int32)) dLw_isBelow_29 tni_0 ?_
    exact tq_iret rfl (by decide) dLw_isBelow_30 hw
  · have hw := hw.2 c1
    refine tq_iconst (v := (1 : Int32)) dLw_isBelow_25 tni_1 ?_
    refine tq_goto (tgt := 30) dLw_isBelow_26 (by decide) ?_
    exact tq_iret rfl (by decide) dLw_isBelow_30 hw
theorem s_Lw_isBelow_2 {h0 : tpH} {av : List tpV} {R : Int32 → tpH → Prop} : ∀ (n : Nat) (x0 : Option Nat) (x2 : Int32) (x3 : Int32) (h : tpH), w_Lw_isBelow_2 R n x0 x2 x3 h → tpR Lw_isBelow 3 h0 av (tpOi R (fun _ _ => False)) 2 [some (vR x0), none, some (vI x2), some (vI x3)] [] h := by
  intro n
  induction n with
  | zero => intro x0 x2 x3 h hw; exact False.elim hw
  | succ n ih =>
    intro x0 x2 x3 h hw
    change b_Lw_isBelow_2 R (w_Lw_isBelow_2 R n) x0 x2 x3 h at hw
    unfold b_Lw_isBelow_2 at hw
    refine tq_iload_n dLw_isBelow_2 rfl rfl ?_
    refine tq_iflt (tgt := 20) dLw_isBelow_3 (by decide) (fun c1 => ?_) (fun c1 => ?_)
    · have hw := hw.1 c1
      refine tpR.fo (ls' := [none, none, some (vI x2), some (vI x3)]) ?_ (And.intro rfl (And.intro rfl trivial))
      exact s_Lw_isBelow_20 _ _ _ hw
    · have hw := hw.2 c1
      refine tq_iload_n dLw_isBelow_6 rfl rfl ?_
      refine tq_iload_n dLw_isBelow_7 rfl rfl ?_
      refine tq_icmpeq (tgt := 20) dLw_isBelow_8 (by decide) (fun c2 => ?_) (fun c2 => ?_)
      · have hw := hw.1 c2
        refine tpR.fo (ls' := [none, none, some (vI x2), some (vI x3)]) ?_ (And.intro rfl (And.intro rfl trivial))
        exact s_Lw_isBelow_20 _ _ _ hw
      · have hw := hw.2 c2
        refine tq_aload_n dLw_isBelow_11 rfl rfl ?_
        refine tq_iload_n dLw_isBelow_12 rfl rfl ?_
        refine tq_callS ms_Lw_parentOf (dc := 2) (as := [vR x0, vI x3]) (rest := []) kLw_40 (Nat.le_of_ble_eq_true rfl) (Nat.le_of_ble_eq_true rfl) rfl rfl (Nat.le_of_ble_eq_true rfl) dLw_isBelow_13 (s_Lw_parentOf hw) (fun _ _ hx => False.elim hx) (tk_i fun v4 h3 hw => ?_)
        refine tq_istore_n (ls' := [some (vR x0), none, some (vI x2), some (vI v4)]) dLw_isBelow_16 rfl (Nat.le_of_ble_eq_true rfl) rfl ?_
        refine tq_goto (tgt := 2) dLw_isBelow_17 (by decide) ?_
        refine tpR.fo (ls' := [some (vR x0), none, some (vI x2), some (vI v4)]) ?_ (And.intro rfl (And.intro rfl (And.intro rfl trivial)))
        exact ih _ _ _ _ hw
theorem s_Lw_isBelow {x0 : Option Nat} {x1 : Int32} {x2 : Int32} {h : tpH} {R : Int32 → tpH → Prop} (hw : w_Lw_isBelow x0 x1 x2 h R) : tpC Lw_isBelow 3 [vR x0, vI x1, vI x2] h (tpOi R (fun _ _ => False)) := by
  refine tpC_of ms_Lw_isBelow.2.2.2.1 rfl rfl (Nat.le_of_ble_eq_true rfl) ?_
  show tpR Lw_isBelow 3 h _ _ 0 [some (vR x0), some (vI x1), some (vI x2), none] [] h
  unfold w_Lw_isBelow at hw
  refine tq_iload_n dLw_isBelow_0 rfl rfl ?_
  refine tq_istore_n (ls' := [some (vR x0), some (vI x1), some (vI x2), some (vI x1)]) dLw_isBelow_1 rfl (Nat.le_of_ble_eq_true rfl) rfl ?_
  refine tpR.fo (ls' := [some (vR x0), none, some (vI x2), some (vI x1)]) ?_ (And.intro rfl (And.intro rfl (And.intro rfl trivial)))
  obtain ⟨n, hw⟩ := hw
  exact s_Lw_isBelow_2 n _ _ _ _ hw
/-! TLaw.does -/
theorem dLw_does_0 : decode (mB Lw_does) 0 = .ok (.iload_n 1, 1) := by decide +kernel
theorem dLw_does_1 : decode (mB Lw_does) 1 = .ok (.ifCond .ne 14, 3) := by decide +kernel
theorem dLw_does_4 : decode (mB Lw_does) 4 = .ok (.aload_n 0, 1) := by decide +kernel
theorem dLw_does_5 : decode (mB Lw_does) 5 = .ok (.iload_n 2, 1) := by decide +kernel
theorem dLw_does_6 : decode (mB Lw_does) 6 = .ok (.iload_n 3, 1) := by decide +kernel
theorem dLw_does_7 : decode (mB Lw_does) 7 = .ok (.iload 4, 2) := by decide +kernel
theorem dLw_does_9 : decode (mB Lw_does) 9 = .ok (.invokevirtual 43, 3) := by decide +kernel
theorem dLw_does_12 : decode (mB Lw_does) 12 = .ok (.goto 143, 3) := by decide +kernel
theorem dLw_does_15 : decode (mB Lw_does) 15 = .ok (.iload_n 1, 1) := by decide +kernel
theorem dLw_does_16 : decode (mB Lw_does) 16 = .ok (.iconst 1, 1) := by decide +kernel
theorem dLw_does_17 : decode (mB Lw_does) 17 = .ok (.if_icmp .ne 11, 3) := by decide +kernel
theorem dLw_does_20 : decode (mB Lw_does) 20 = .ok (.aload_n 0, 1) := by decide +kernel
theorem dLw_does_21 : decode (mB Lw_does) 21 = .ok (.iload_n 2, 1) := by decide +kernel
theorem dLw_does_22 : decode (mB Lw_does) 22 = .ok (.invokevirtual 47, 3) := by decide +kernel
theorem dLw_does_25 : decode (mB Lw_does) 25 = .ok (.goto 130, 3) := by decide +kernel
theorem dLw_does_28 : decode (mB Lw_does) 28 = .ok (.iload_n 1, 1) := by decide +kernel
theorem dLw_does_29 : decode (mB Lw_does) 29 = .ok (.iconst 2, 1) := by decide +kernel
theorem dLw_does_30 : decode (mB Lw_does) 30 = .ok (.if_icmp .ne 33, 3) := by decide +kernel
theorem dLw_does_33 : decode (mB Lw_does) 33 = .ok (.aload_n 0, 1) := by decide +kernel
theorem dLw_does_34 : decode (mB Lw_does) 34 = .ok (.iload_n 2, 1) := by decide +kernel
theorem dLw_does_35 : decode (mB Lw_does) 35 = .ok (.iload_n 3, 1) := by decide +kernel
theorem dLw_does_36 : decode (mB Lw_does) 36 = .ok (.iload 4, 2) := by decide +kernel
theorem dLw_does_38 : decode (mB Lw_does) 38 = .ok (.bipush 10, 2) := by decide +kernel
theorem dLw_does_40 : decode (mB Lw_does) 40 = .ok (.irem, 1) := by decide +kernel
theorem dLw_does_41 : decode (mB Lw_does) 41 = .ok (.iload 4, 2) := by decide +kernel
theorem dLw_does_43 : decode (mB Lw_does) 43 = .ok (.bipush 10, 2) := by decide +kernel
theorem dLw_does_45 : decode (mB Lw_does) 45 = .ok (.idiv, 1) := by decide +kernel
theorem dLw_does_46 : decode (mB Lw_does) 46 = .ok (.bipush 100, 2) := by decide +kernel
theorem dLw_does_48 : decode (mB Lw_does) 48 = .ok (.irem, 1) := by decide +kernel
theorem dLw_does_49 : decode (mB Lw_does) 49 = .ok (.iload 4, 2) := by decide +kernel
theorem dLw_does_51 : decode (mB Lw_does) 51 = .ok (.sipush 1000, 3) := by decide +kernel
theorem dLw_does_54 : decode (mB Lw_does) 54 = .ok (.idiv, 1) := by decide +kernel
theorem dLw_does_55 : decode (mB Lw_does) 55 = .ok (.iconst 1, 1) := by decide +kernel
theorem dLw_does_56 : decode (mB Lw_does) 56 = .ok (.isub, 1) := by decide +kernel
theorem dLw_does_57 : decode (mB Lw_does) 57 = .ok (.invokevirtual 50, 3) := by decide +kernel
theorem dLw_does_60 : decode (mB Lw_does) 60 = .ok (.goto 95, 3) := by decide +kernel
theorem dLw_does_63 : decode (mB Lw_does) 63 = .ok (.iload_n 1, 1) := by decide +kernel
theorem dLw_does_64 : decode (mB Lw_does) 64 = .ok (.iconst 3, 1) := by decide +kernel
theorem dLw_does_65 : decode (mB Lw_does) 65 = .ok (.if_icmp .ne 12, 3) := by decide +kernel
theorem dLw_does_68 : decode (mB Lw_does) 68 = .ok (.aload_n 0, 1) := by decide +kernel
theorem dLw_does_69 : decode (mB Lw_does) 69 = .ok (.iload_n 2, 1) := by decide +kernel
theorem dLw_does_70 : decode (mB Lw_does) 70 = .ok (.iload_n 3, 1) := by decide +kernel
theorem dLw_does_71 : decode (mB Lw_does) 71 = .ok (.invokevirtual 54, 3) := by decide +kernel
theorem dLw_does_74 : decode (mB Lw_does) 74 = .ok (.goto 81, 3) := by decide +kernel
theorem dLw_does_77 : decode (mB Lw_does) 77 = .ok (.iload_n 1, 1) := by decide +kernel
theorem dLw_does_78 : decode (mB Lw_does) 78 = .ok (.iconst 4, 1) := by decide +kernel
theorem dLw_does_79 : decode (mB Lw_does) 79 = .ok (.if_icmp .ne 14, 3) := by decide +kernel
theorem dLw_does_82 : decode (mB Lw_does) 82 = .ok (.aload_n 0, 1) := by decide +kernel
theorem dLw_does_83 : decode (mB Lw_does) 83 = .ok (.iload_n 2, 1) := by decide +kernel
theorem dLw_does_84 : decode (mB Lw_does) 84 = .ok (.iload_n 3, 1) := by decide +kernel
theorem dLw_does_85 : decode (mB Lw_does) 85 = .ok (.iload 4, 2) := by decide +kernel
theorem dLw_does_87 : decode (mB Lw_does) 87 = .ok (.invokevirtual 57, 3) := by decide +kernel
theorem dLw_does_90 : decode (mB Lw_does) 90 = .ok (.goto 65, 3) := by decide +kernel
theorem dLw_does_93 : decode (mB Lw_does) 93 = .ok (.iload_n 1, 1) := by decide +kernel
theorem dLw_does_94 : decode (mB Lw_does) 94 = .ok (.iconst 5, 1) := by decide +kernel
theorem dLw_does_95 : decode (mB Lw_does) 95 = .ok (.if_icmp .ne 11, 3) := by decide +kernel
theorem dLw_does_98 : decode (mB Lw_does) 98 = .ok (.aload_n 0, 1) := by decide +kernel
theorem dLw_does_99 : decode (mB Lw_does) 99 = .ok (.iload_n 2, 1) := by decide +kernel
theorem dLw_does_100 : decode (mB Lw_does) 100 = .ok (.invokevirtual 60, 3) := by decide +kernel
theorem dLw_does_103 : decode (mB Lw_does) 103 = .ok (.goto 52, 3) := by decide +kernel
theorem dLw_does_106 : decode (mB Lw_does) 106 = .ok (.iload_n 1, 1) := by decide +kernel
theorem dLw_does_107 : decode (mB Lw_does) 107 = .ok (.bipush 6, 2) := by decide +kernel
theorem dLw_does_109 : decode (mB Lw_does) 109 = .ok (.if_icmp .ne 10, 3) := by decide +kernel
theorem dLw_does_112 : decode (mB Lw_does) 112 = .ok (.aload_n 0, 1) := by decide +kernel
theorem dLw_does_113 : decode (mB Lw_does) 113 = .ok (.invokevirtual 63, 3) := by decide +kernel
theorem dLw_does_116 : decode (mB Lw_does) 116 = .ok (.goto 39, 3) := by decide +kernel
theorem dLw_does_119 : decode (mB Lw_does) 119 = .ok (.iload_n 1, 1) := by decide +kernel
theorem dLw_does_120 : decode (mB Lw_does) 120 = .ok (.bipush 7, 2) := by decide +kernel
theorem dLw_does_122 : decode (mB Lw_does) 122 = .ok (.if_icmp .ne 14, 3) := by decide +kernel
theorem dLw_does_125 : decode (mB Lw_does) 125 = .ok (.aload_n 0, 1) := by decide +kernel
theorem dLw_does_126 : decode (mB Lw_does) 126 = .ok (.iload_n 2, 1) := by decide +kernel
theorem dLw_does_127 : decode (mB Lw_does) 127 = .ok (.iload_n 3, 1) := by decide +kernel
theorem dLw_does_128 : decode (mB Lw_does) 128 = .ok (.iload 4, 2) := by decide +kernel
theorem dLw_does_130 : decode (mB Lw_does) 130 = .ok (.invokevirtual 67, 3) := by decide +kernel
theorem dLw_does_133 : decode (mB Lw_does) 133 = .ok (.goto 22, 3) := by decide +kernel
theorem dLw_does_136 : decode (mB Lw_does) 136 = .ok (.iload_n 1, 1) := by decide +kernel
theorem dLw_does_137 : decode (mB Lw_does) 137 = .ok (.bipush 8, 2) := by decide +kernel
theorem dLw_does_139 : decode (mB Lw_does) 139 = .ok (.if_icmp .ne 11, 3) := by decide +kernel
theorem dLw_does_142 : decode (mB Lw_does) 142 = .ok (.aload_n 0, 1) := by decide +kernel
theorem dLw_does_143 : decode (mB Lw_does) 143 = .ok (.iload_n 2, 1) := by decide +kernel
theorem dLw_does_144 : decode (mB Lw_does) 144 = .ok (.invokevirtual 70, 3) := by decide +kernel
theorem dLw_does_147 : decode (mB Lw_does) 147 = .ok (.goto 8, 3) := by decide +kernel
theorem dLw_does_150 : decode (mB Lw_does) 150 = .ok (.aload_n 0, 1) := by decide +kernel
theorem dLw_does_151 : decode (mB Lw_does) 151 = .ok (.iload_n 2, 1) := by decide +kernel
theorem dLw_does_152 : decode (mB Lw_does) 152 = .ok (.invokevirtual 73, 3) := by decide +kernel
theorem dLw_does_155 : decode (mB Lw_does) 155 = .ok (.ireturn, 1) := by decide +kernel
theorem dLw_does_156 : decode (mB Lw_does) 156 = .ok (.astore 5, 2) := by decide +kernel
theorem dLw_does_158 : decode (mB Lw_does) 158 = .ok (.bipush (-11), 2) := by decide +kernel
theorem dLw_does_160 : decode (mB Lw_does) 160 = .ok (.ireturn, 1) := by decide +kernel
theorem dLw_does_161 : decode (mB Lw_does) 161 = .ok (.astore 5, 2) := by decide +kernel
theorem dLw_does_163 : decode (mB Lw_does) 163 = .ok (.bipush (-12), 2) := by decide +kernel
theorem dLw_does_165 : decode (mB Lw_does) 165 = .ok (.ireturn, 1) := by decide +kernel
theorem dLw_does_166 : decode (mB Lw_does) 166 = .ok (.astore 5, 2) := by decide +kernel
theorem dLw_does_168 : decode (mB Lw_does) 168 = .ok (.bipush (-13), 2) := by decide +kernel
theorem dLw_does_170 : decode (mB Lw_does) 170 = .ok (.ireturn, 1) := by decide +kernel
def w_Lw_does (x0 : Option Nat) (x1 : Int32) (x2 : Int32) (x3 : Int32) (x4 : Int32) (h : tpH) (R : Int32 → tpH → Prop) : Prop :=
  (¬ x1 = 0 → ((¬ x1 = (1 : Int32) → ((¬ x1 = (2 : Int32) → ((¬ x1 = (3 : Int32) → ((¬ x1 = (4 : Int32) → ((¬ x1 = (5 : Int32) → ((¬ x1 = (6 : Int32) → ((¬ x1 = (7 : Int32) → ((¬ x1 = (8 : Int32) → (∃ a10, x0 = some a10 ∧ hT h a10 = 13 ∧ (w_TP_conflictMark a10 x2 h (fun E h15 => (E = "java/lang/IndexOutOfBoundsException" ∧ (R (-11 : Int32) h15)) ∨ (E = "java/lang/IllegalArgumentException" ∧ (R (-12 : Int32) h15)) ∨ (E = "java/lang/IllegalStateException" ∧ (R (-13 : Int32) h15))) (fun v14 h13 => R v14 h13)))) ∧ (x1 = (8 : Int32) → (∃ a16, x0 = some a16 ∧ hT h a16 = 13 ∧ (w_TP_conflictKind a16 x2 h (fun E h21 => (E = "java/lang/IndexOutOfBoundsException" ∧ (R (-11 : Int32) h21)) ∨ (E = "java/lang/IllegalArgumentException" ∧ (R (-12 : Int32) h21)) ∨ (E = "java/lang/IllegalStateException" ∧ (R (-13 : Int32) h21))) (fun v20 h19 => R v20 h19)))))) ∧ (x1 = (7 : Int32) → (∃ a22, x0 = some a22 ∧ hT h a22 = 13 ∧ (w_TP_merge a22 x2 x3 x4 h (fun E h27 => (E = "java/lang/IndexOutOfBoundsException" ∧ (R (-11 : Int32) h27)) ∨ (E = "java/lang/IllegalArgumentException" ∧ (R (-12 : Int32) h27)) ∨ (E = "java/lang/IllegalStateException" ∧ (R (-13 : Int32) h27))) (fun v26 h25 => R v26 h25)))))) ∧ (x1 = (6 : Int32) → (∃ a28, x0 = some a28 ∧ hT h a28 = 13 ∧ (w_TP_seal a28 h (fun E h33 => (E = "java/lang/IndexOutOfBoundsException" ∧ (R (-11 : Int32) h33)) ∨ (E = "java/lang/IllegalArgumentException" ∧ (R (-12 : Int32) h33)) ∨ (E = "java/lang/IllegalStateException" ∧ (R (-13 : Int32) h33))) (fun v32 h31 => R v32 h31)))))) ∧ (x1 = (5 : Int32) → (∃ a34, x0 = some a34 ∧ hT h a34 = 13 ∧ (w_TP_drop a34 x2 h (fun E h39 => (E = "java/lang/IndexOutOfBoundsException" ∧ (R (-11 : Int32) h39)) ∨ (E = "java/lang/IllegalArgumentException" ∧ (R (-12 : Int32) h39)) ∨ (E = "java/lang/IllegalStateException" ∧ (R (-13 : Int32) h39))) (fun v38 h37 => R v38 h37)))))) ∧ (x1 = (4 : Int32) → (∃ a40, x0 = some a40 ∧ hT h a40 = 13 ∧ (w_TP_move a40 x2 x3 x4 h (fun E h45 => (E = "java/lang/IndexOutOfBoundsException" ∧ (R (-11 : Int32) h45)) ∨ (E = "java/lang/IllegalArgumentException" ∧ (R (-12 : Int32) h45)) ∨ (E = "java/lang/IllegalStateException" ∧ (R (-13 : Int32) h45))) (fun v44 h43 => R v44 h43)))))) ∧ (x1 = (3 : Int32) → (∃ a46, x0 = some a46 ∧ hT h a46 = 13 ∧ (w_TP_set a46 x2 x3 h (fun E h51 => (E = "java/lang/IndexOutOfBoundsException" ∧ (R (-11 : Int32) h51)) ∨ (E = "java/lang/IllegalArgumentException" ∧ (R (-12 : Int32) h51)) ∨ (E = "java/lang/IllegalStateException" ∧ (R (-13 : Int32) h51))) (fun v50 h49 => R v50 h49)))))) ∧ (x1 = (2 : Int32) → (∃ a52, x0 = some a52 ∧ hT h a52 = 13 ∧ (w_TP_node a52 x2 x3 (x4 - x4 / (10 : Int32) * (10 : Int32)) ((x4 / (10 : Int32)) - (x4 / (10 : Int32)) / (100 : Int32) * (100 : Int32)) ((x4 / (1000 : Int32)) - (1 : Int32)) h (fun E h57 => (E = "java/lang/IndexOutOfBoundsException" ∧ (R (-11 : Int32) h57)) ∨ (E = "java/lang/IllegalArgumentException" ∧ (R (-12 : Int32) h57)) ∨ (E = "java/lang/IllegalStateException" ∧ (R (-13 : Int32) h57))) (fun v56 h55 => R v56 h55)))))) ∧ (x1 = (1 : Int32) → (∃ a58, x0 = some a58 ∧ hT h a58 = 13 ∧ (w_TP_copy a58 x2 h (fun E h63 => (E = "java/lang/IndexOutOfBoundsException" ∧ (R (-11 : Int32) h63)) ∨ (E = "java/lang/IllegalArgumentException" ∧ (R (-12 : Int32) h63)) ∨ (E = "java/lang/IllegalStateException" ∧ (R (-13 : Int32) h63))) (fun v62 h61 => R v62 h61)))))) ∧ (x1 = 0 → (∃ a64, x0 = some a64 ∧ hT h a64 = 13 ∧ (w_TP_begin a64 x2 x3 x4 h (fun E h69 => (E = "java/lang/IndexOutOfBoundsException" ∧ (R (-11 : Int32) h69)) ∨ (E = "java/lang/IllegalArgumentException" ∧ (R (-12 : Int32) h69)) ∨ (E = "java/lang/IllegalStateException" ∧ (R (-13 : Int32) h69))) (fun v68 h67 => R v68 h67))))
theorem s_Lw_does {x0 : Option Nat} {x1 : Int32} {x2 : Int32} {x3 : Int32} {x4 : Int32} {h : tpH} {R : Int32 → tpH → Prop} (hw : w_Lw_does x0 x1 x2 x3 x4 h R) : tpC Lw_does 10 [vR x0, vI x1, vI x2, vI x3, vI x4] h (tpOi R (fun _ _ => False)) := by
  refine tpC_ofH ms_Lw_does.2.2.2 (by intro hz; cases hz) rfl (Nat.le_of_ble_eq_true rfl) ?_
  show tpR Lw_does 10 h _ _ 0 [some (vR x0), some (vI x1), some (vI x2), some (vI x3), some (vI x4), none] [] h
  unfold w_Lw_does at hw
  refine tq_iload_n dLw_does_0 rfl rfl ?_
  refine tq_ifne (tgt := 15) dLw_does_1 (by decide) (fun c1 => ?_) (fun c1 => ?_)
  · have hw := hw.1 c1
    refine tq_iload_n dLw_does_15 rfl rfl ?_
    refine tq_iconst (v := (1 : Int32)) dLw_does_16 tni_1 ?_
    refine tq_icmpne (tgt := 28) dLw_does_17 (by decide) (fun c2 => ?_) (fun c2 => ?_)
    · have hw := hw.1 c2
      refine tq_iload_n dLw_does_28 rfl rfl ?_
      refine tq_iconst (v := (2 : Int32)) dLw_does_29 tni_2 ?_
      refine tq_icmpne (tgt := 63) dLw_does_30 (by decide) (fun c3 => ?_) (fun c3 => ?_)
      · have hw := hw.1 c3
        refine tq_iload_n dLw_does_63 rfl rfl ?_
        refine tq_iconst (v := (3 : Int32)) dLw_does_64 tni_3 ?_
        refine tq_icmpne (tgt := 77) dLw_does_65 (by decide) (fun c4 => ?_) (fun c4 => ?_)
        · have hw := hw.1 c4
          refine tq_iload_n dLw_does_77 rfl rfl ?_
          refine tq_iconst (v := (4 : Int32)) dLw_does_78 tni_4 ?_
          refine tq_icmpne (tgt := 93) dLw_does_79 (by decide) (fun c5 => ?_) (fun c5 => ?_)
          · have hw := hw.1 c5
            refine tq_iload_n dLw_does_93 rfl rfl ?_
            refine tq_iconst (v := (5 : Int32)) dLw_does_94 tni_5 ?_
            refine tq_icmpne (tgt := 106) dLw_does_95 (by decide) (fun c6 => ?_) (fun c6 => ?_)
            · have hw := hw.1 c6
              refine tq_iload_n dLw_does_106 rfl rfl ?_
              refine tq_bipush (v := (6 : Int32)) dLw_does_107 tnb_6 ?_
              refine tq_icmpne (tgt := 119) dLw_does_109 (by decide) (fun c7 => ?_) (fun c7 => ?_)
              · have hw := hw.1 c7
                refine tq_iload_n dLw_does_119 rfl rfl ?_
                refine tq_bipush (v := (7 : Int32)) dLw_does_120 tnb_7 ?_
                refine tq_icmpne (tgt := 136) dLw_does_122 (by decide) (fun c8 => ?_) (fun c8 => ?_)
                · have hw := hw.1 c8
                  refine tq_iload_n dLw_does_136 rfl rfl ?_
                  refine tq_bipush (v := (8 : Int32)) dLw_does_137 tnb_8 ?_
                  refine tq_icmpne (tgt := 150) dLw_does_139 (by decide) (fun c9 => ?_) (fun c9 => ?_)
                  · have hw := hw.1 c9
                    refine tq_aload_n dLw_does_150 rfl rfl ?_
                    refine tq_iload_n dLw_does_151 rfl rfl ?_
                    obtain ⟨a10, e11, f12, hw⟩ := hw
                    refine te_callV mv_TP_conflictMark (ci := 12) (dc := 7) (as := [vI x2]) (rest := []) kLw_73 rfl (Nat.le_of_ble_eq_true rfl) (Nat.le_of_ble_eq_true rfl) rfl rfl e11 f12 (Nat.le_of_ble_eq_true rfl) dLw_does_152 (s_TP_conflictMark hw) ?_ (tk_i fun v14 h13 hw => ?_)
                    · intro E h15 hw
                      rcases hw with ⟨rfl, hw⟩ | ⟨rfl, hw⟩ | ⟨rfl, hw⟩
                      · refine tpXx.catch (ls' := [some (vR x0), some (vI x1), some (vI x2), some (vI x3), some (vI x4), none]) [] ⟨0, 155, 156, 76⟩ [⟨0, 155, 161, 78⟩, ⟨0, 155, 166, 80⟩] rfl (fun _ hz => nomatch hz) (by decide) (by decide) cLw_76 (Or.inl ⟨dLw_does_156, rfl⟩) (Nat.le_of_ble_eq_true rfl) rfl ?_
                        refine tq_bipush (v := (-11 : Int32)) dLw_does_158 tnb_m11 ?_
                        exact tq_iret rfl rfl dLw_does_160 hw
                      · refine tpXx.catch (ls' := [some (vR x0), some (vI x1), some (vI x2), some (vI x3), some (vI x4), none]) [⟨0, 155, 156, 76⟩] ⟨0, 155, 161, 78⟩ [⟨0, 155, 166, 80⟩] rfl (List.forall_mem_cons.mpr ⟨Or.inr ⟨by decide, _, cLw_76, by decide +kernel⟩, fun _ hz => nomatch hz⟩) (by decide) (by decide) cLw_78 (Or.inl ⟨dLw_does_161, rfl⟩) (Nat.le_of_ble_eq_true rfl) rfl ?_
                        refine tq_bipush (v := (-12 : Int32)) dLw_does_163 tnb_m12 ?_
                        exact tq_iret rfl rfl dLw_does_165 hw
                      · refine tpXx.catch (ls' := [some (vR x0), some (vI x1), some (vI x2), some (vI x3), some (vI x4), none]) [⟨0, 155, 156, 76⟩, ⟨0, 155, 161, 78⟩] ⟨0, 155, 166, 80⟩ [] rfl (List.forall_mem_cons.mpr ⟨Or.inr ⟨by decide, _, cLw_76, by decide +kernel⟩, List.forall_mem_cons.mpr ⟨Or.inr ⟨by decide, _, cLw_78, by decide +kernel⟩, fun _ hz => nomatch hz⟩⟩) (by decide) (by decide) cLw_80 (Or.inl ⟨dLw_does_166, rfl⟩) (Nat.le_of_ble_eq_true rfl) rfl ?_
                        refine tq_bipush (v := (-13 : Int32)) dLw_does_168 tnb_m13 ?_
                        exact tq_iret rfl rfl dLw_does_170 hw
                    exact tq_iret rfl rfl dLw_does_155 hw
                  · have hw := hw.2 c9
                    refine tq_aload_n dLw_does_142 rfl rfl ?_
                    refine tq_iload_n dLw_does_143 rfl rfl ?_
                    obtain ⟨a16, e17, f18, hw⟩ := hw
                    refine te_callV mv_TP_conflictKind (ci := 12) (dc := 7) (as := [vI x2]) (rest := []) kLw_70 rfl (Nat.le_of_ble_eq_true rfl) (Nat.le_of_ble_eq_true rfl) rfl rfl e17 f18 (Nat.le_of_ble_eq_true rfl) dLw_does_144 (s_TP_conflictKind hw) ?_ (tk_i fun v20 h19 hw => ?_)
                    · intro E h21 hw
                      rcases hw with ⟨rfl, hw⟩ | ⟨rfl, hw⟩ | ⟨rfl, hw⟩
                      · refine tpXx.catch (ls' := [some (vR x0), some (vI x1), some (vI x2), some (vI x3), some (vI x4), none]) [] ⟨0, 155, 156, 76⟩ [⟨0, 155, 161, 78⟩, ⟨0, 155, 166, 80⟩] rfl (fun _ hz => nomatch hz) (by decide) (by decide) cLw_76 (Or.inl ⟨dLw_does_156, rfl⟩) (Nat.le_of_ble_eq_true rfl) rfl ?_
                        refine tq_bipush (v := (-11 : Int32)) dLw_does_158 tnb_m11 ?_
                        exact tq_iret rfl rfl dLw_does_160 hw
                      · refine tpXx.catch (ls' := [some (vR x0), some (vI x1), some (vI x2), some (vI x3), some (vI x4), none]) [⟨0, 155, 156, 76⟩] ⟨0, 155, 161, 78⟩ [⟨0, 155, 166, 80⟩] rfl (List.forall_mem_cons.mpr ⟨Or.inr ⟨by decide, _, cLw_76, by decide +kernel⟩, fun _ hz => nomatch hz⟩) (by decide) (by decide) cLw_78 (Or.inl ⟨dLw_does_161, rfl⟩) (Nat.le_of_ble_eq_true rfl) rfl ?_
                        refine tq_bipush (v := (-12 : Int32)) dLw_does_163 tnb_m12 ?_
                        exact tq_iret rfl rfl dLw_does_165 hw
                      · refine tpXx.catch (ls' := [some (vR x0), some (vI x1), some (vI x2), some (vI x3), some (vI x4), none]) [⟨0, 155, 156, 76⟩, ⟨0, 155, 161, 78⟩] ⟨0, 155, 166, 80⟩ [] rfl (List.forall_mem_cons.mpr ⟨Or.inr ⟨by decide, _, cLw_76, by decide +kernel⟩, List.forall_mem_cons.mpr ⟨Or.inr ⟨by decide, _, cLw_78, by decide +kernel⟩, fun _ hz => nomatch hz⟩⟩) (by decide) (by decide) cLw_80 (Or.inl ⟨dLw_does_166, rfl⟩) (Nat.le_of_ble_eq_true rfl) rfl ?_
                        refine tq_bipush (v := (-13 : Int32)) dLw_does_168 tnb_m13 ?_
                        exact tq_iret rfl rfl dLw_does_170 hw
                    refine tq_goto (tgt := 155) dLw_does_147 (by decide) ?_
                    exact tq_iret rfl rfl dLw_does_155 hw
                · have hw := hw.2 c8
                  refine tq_aload_n dLw_does_125 rfl rfl ?_
                  refine tq_iload_n dLw_does_126 rfl rfl ?_
                  refine tq_iload_n dLw_does_127 rfl rfl ?_
                  refine tq_iload dLw_does_128 rfl ?_
                  obtain ⟨a22, e23, f24, hw⟩ := hw
                  refine te_callV mv_TP_merge (ci := 12) (dc := 9) (as := [vI x2, vI x3, vI x4]) (rest := []) kLw_67 rfl (Nat.le_of_ble_eq_true rfl) (Nat.le_of_ble_eq_true rfl) rfl rfl e23 f24 (Nat.le_of_ble_eq_true rfl) dLw_does_130 (s_TP_merge hw) ?_ (tk_i fun v26 h25 hw => ?_)
                  · intro E h27 hw
                    rcases hw with ⟨rfl, hw⟩ | ⟨rfl, hw⟩ | ⟨rfl, hw⟩
                    · refine tpXx.catch (ls' := [some (vR x0), some (vI x1), some (vI x2), some (vI x3), some (vI x4), none]) [] ⟨0, 155, 156, 76⟩ [⟨0, 155, 161, 78⟩, ⟨0, 155, 166, 80⟩] rfl (fun _ hz => nomatch hz) (by decide) (by decide) cLw_76 (Or.inl ⟨dLw_does_156, rfl⟩) (Nat.le_of_ble_eq_true rfl) rfl ?_
                      refine tq_bipush (v := (-11 : Int32)) dLw_does_158 tnb_m11 ?_
                      exact tq_iret rfl rfl dLw_does_160 hw
                    · refine tpXx.catch (ls' := [some (vR x0), some (vI x1), some (vI x2), some (vI x3), some (vI x4), none]) [⟨0, 155, 156, 76⟩] ⟨0, 155, 161, 78⟩ [⟨0, 155, 166, 80⟩] rfl (List.forall_mem_cons.mpr ⟨Or.inr ⟨by decide, _, cLw_76, by decide +kernel⟩, fun _ hz => nomatch hz⟩) (by decide) (by decide) cLw_78 (Or.inl ⟨dLw_does_161, rfl⟩) (Nat.le_of_ble_eq_true rfl) rfl ?_
                      refine tq_bipush (v := (-12 : Int32)) dLw_does_163 tnb_m12 ?_
                      exact tq_iret rfl rfl dLw_does_165 hw
                    · refine tpXx.catch (ls' := [some (vR x0), some (vI x1), some (vI x2), some (vI x3), some (vI x4), none]) [⟨0, 155, 156, 76⟩, ⟨0, 155, 161, 78⟩] ⟨0, 155, 166, 80⟩ [] rfl (List.forall_mem_cons.mpr ⟨Or.inr ⟨by decide, _, cLw_76, by decide +kernel⟩, List.forall_mem_cons.mpr ⟨Or.inr ⟨by decide, _, cLw_78, by decide +kernel⟩, fun _ hz => nomatch hz⟩⟩) (by decide) (by decide) cLw_80 (Or.inl ⟨dLw_does_166, rfl⟩) (Nat.le_of_ble_eq_true rfl) rfl ?_
                      refine tq_bipush (v := (-13 : Int32)) dLw_does_168 tnb_m13 ?_
                      exact tq_iret rfl rfl dLw_does_170 hw
                  refine tq_goto (tgt := 155) dLw_does_133 (by decide) ?_
                  exact tq_iret rfl rfl dLw_does_155 hw
              · have hw := hw.2 c7
                refine tq_aload_n dLw_does_112 rfl rfl ?_
                obtain ⟨a28, e29, f30, hw⟩ := hw
                refine te_callV mv_TP_seal (ci := 12) (dc := 7) (as := []) (rest := []) kLw_63 rfl (Nat.le_of_ble_eq_true rfl) (Nat.le_of_ble_eq_true rfl) rfl rfl e29 f30 (Nat.le_of_ble_eq_true rfl) dLw_does_113 (s_TP_seal hw) ?_ (tk_i fun v32 h31 hw => ?_)
                · intro E h33 hw
                  rcases hw with ⟨rfl, hw⟩ | ⟨rfl, hw⟩ | ⟨rfl, hw⟩
                  · refine tpXx.catch (ls' := [some (vR x0), some (vI x1), some (vI x2), some (vI x3), some (vI x4), none]) [] ⟨0, 155, 156, 76⟩ [⟨0, 155, 161, 78⟩, ⟨0, 155, 166, 80⟩] rfl (fun _ hz => nomatch hz) (by decide) (by decide) cLw_76 (Or.inl ⟨dLw_does_156, rfl⟩) (Nat.le_of_ble_eq_true rfl) rfl ?_
                    refine tq_bipush (v := (-11 : Int32)) dLw_does_158 tnb_m11 ?_
                    exact tq_iret rfl rfl dLw_does_160 hw
                  · refine tpXx.catch (ls' := [some (vR x0), some (vI x1), some (vI x2), some (vI x3), some (vI x4), none]) [⟨0, 155, 156, 76⟩] ⟨0, 155, 161, 78⟩ [⟨0, 155, 166, 80⟩] rfl (List.forall_mem_cons.mpr ⟨Or.inr ⟨by decide, _, cLw_76, by decide +kernel⟩, fun _ hz => nomatch hz⟩) (by decide) (by decide) cLw_78 (Or.inl ⟨dLw_does_161, rfl⟩) (Nat.le_of_ble_eq_true rfl) rfl ?_
                    refine tq_bipush (v := (-12 : Int32)) dLw_does_163 tnb_m12 ?_
                    exact tq_iret rfl rfl dLw_does_165 hw
                  · refine tpXx.catch (ls' := [some (vR x0), some (vI x1), some (vI x2), some (vI x3), some (vI x4), none]) [⟨0, 155, 156, 76⟩, ⟨0, 155, 161, 78⟩] ⟨0, 155, 166, 80⟩ [] rfl (List.forall_mem_cons.mpr ⟨Or.inr ⟨by decide, _, cLw_76, by decide +kernel⟩, List.forall_mem_cons.mpr ⟨Or.inr ⟨by decide, _, cLw_78, by decide +kernel⟩, fun _ hz => nomatch hz⟩⟩) (by decide) (by decide) cLw_80 (Or.inl ⟨dLw_does_166, rfl⟩) (Nat.le_of_ble_eq_true rfl) rfl ?_
                    refine tq_bipush (v := (-13 : Int32)) dLw_does_168 tnb_m13 ?_
                    exact tq_iret rfl rfl dLw_does_170 hw
                refine tq_goto (tgt := 155) dLw_does_116 (by decide) ?_
                exact tq_iret rfl rfl dLw_does_155 hw
            · have hw := hw.2 c6
              refine tq_aload_n dLw_does_98 rfl rfl ?_
              refine tq_iload_n dLw_does_99 rfl rfl ?_
              obtain ⟨a34, e35, f36, hw⟩ := hw
              refine te_callV mv_TP_drop (ci := 12) (dc := 7) (as := [vI x2]) (rest := []) kLw_60 rfl (Nat.le_of_ble_eq_true rfl) (Nat.le_of_ble_eq_true rfl) rfl rfl e35 f36 (Nat.le_of_ble_eq_true rfl) dLw_does_100 (s_TP_drop hw) ?_ (tk_i fun v38 h37 hw => ?_)
              · intro E h39 hw
                rcases hw with ⟨rfl, hw⟩ | ⟨rfl, hw⟩ | ⟨rfl, hw⟩
                · refine tpXx.catch (ls' := [some (vR x0), some (vI x1), some (vI x2), some (vI x3), some (vI x4), none]) [] ⟨0, 155, 156, 76⟩ [⟨0, 155, 161, 78⟩, ⟨0, 155, 166, 80⟩] rfl (fun _ hz => nomatch hz) (by decide) (by decide) cLw_76 (Or.inl ⟨dLw_does_156, rfl⟩) (Nat.le_of_ble_eq_true rfl) rfl ?_
                  refine tq_bipush (v := (-11 : Int32)) dLw_does_158 tnb_m11 ?_
                  exact tq_iret rfl rfl dLw_does_160 hw
                · refine tpXx.catch (ls' := [some (vR x0), some (vI x1), some (vI x2), some (vI x3), some (vI x4), none]) [⟨0, 155, 156, 76⟩] ⟨0, 155, 161, 78⟩ [⟨0, 155, 166, 80⟩] rfl (List.forall_mem_cons.mpr ⟨Or.inr ⟨by decide, _, cLw_76, by decide +kernel⟩, fun _ hz => nomatch hz⟩) (by decide) (by decide) cLw_78 (Or.inl ⟨dLw_does_161, rfl⟩) (Nat.le_of_ble_eq_true rfl) rfl ?_
                  refine tq_bipush (v := (-12 : Int32)) dLw_does_163 tnb_m12 ?_
                  exact tq_iret rfl rfl dLw_does_165 hw
                · refine tpXx.catch (ls' := [some (vR x0), some (vI x1), some (vI x2), some (vI x3), some (vI x4), none]) [⟨0, 155, 156, 76⟩, ⟨0, 155, 161, 78⟩] ⟨0, 155, 166, 80⟩ [] rfl (List.forall_mem_cons.mpr ⟨Or.inr ⟨by decide, _, cLw_76, by decide +kernel⟩, List.forall_mem_cons.mpr ⟨Or.inr ⟨by decide, _, cLw_78, by decide +kernel⟩, fun _ hz => nomatch hz⟩⟩) (by decide) (by decide) cLw_80 (Or.inl ⟨dLw_does_166, rfl⟩) (Nat.le_of_ble_eq_true rfl) rfl ?_
                  refine tq_bipush (v := (-13 : Int32)) dLw_does_168 tnb_m13 ?_
                  exact tq_iret rfl rfl dLw_does_170 hw
              refine tq_goto (tgt := 155) dLw_does_103 (by decide) ?_
              exact tq_iret rfl rfl dLw_does_155 hw
          · have hw := hw.2 c5
            refine tq_aload_n dLw_does_82 rfl rfl ?_
            refine tq_iload_n dLw_does_83 rfl rfl ?_
            refine tq_iload_n dLw_does_84 rfl rfl ?_
            refine tq_iload dLw_does_85 rfl ?_
            obtain ⟨a40, e41, f42, hw⟩ := hw
            refine te_callV mv_TP_move (ci := 12) (dc := 7) (as := [vI x2, vI x3, vI x4]) (rest := []) kLw_57 rfl (Nat.le_of_ble_eq_true rfl) (Nat.le_of_ble_eq_true rfl) rfl rfl e41 f42 (Nat.le_of_ble_eq_true rfl) dLw_does_87 (s_TP_move hw) ?_ (tk_i fun v44 h43 hw => ?_)
            · intro E h45 hw
              rcases hw with ⟨rfl, hw⟩ | ⟨rfl, hw⟩ | ⟨rfl, hw⟩
              · refine tpXx.catch (ls' := [some (vR x0), some (vI x1), some (vI x2), some (vI x3), some (vI x4), none]) [] ⟨0, 155, 156, 76⟩ [⟨0, 155, 161, 78⟩, ⟨0, 155, 166, 80⟩] rfl (fun _ hz => nomatch hz) (by decide) (by decide) cLw_76 (Or.inl ⟨dLw_does_156, rfl⟩) (Nat.le_of_ble_eq_true rfl) rfl ?_
                refine tq_bipush (v := (-11 : Int32)) dLw_does_158 tnb_m11 ?_
                exact tq_iret rfl rfl dLw_does_160 hw
              · refine tpXx.catch (ls' := [some (vR x0), some (vI x1), some (vI x2), some (vI x3), some (vI x4), none]) [⟨0, 155, 156, 76⟩] ⟨0, 155, 161, 78⟩ [⟨0, 155, 166, 80⟩] rfl (List.forall_mem_cons.mpr ⟨Or.inr ⟨by decide, _, cLw_76, by decide +kernel⟩, fun _ hz => nomatch hz⟩) (by decide) (by decide) cLw_78 (Or.inl ⟨dLw_does_161, rfl⟩) (Nat.le_of_ble_eq_true rfl) rfl ?_
                refine tq_bipush (v := (-12 : Int32)) dLw_does_163 tnb_m12 ?_
                exact tq_iret rfl rfl dLw_does_165 hw
              · refine tpXx.catch (ls' := [some (vR x0), some (vI x1), some (vI x2), some (vI x3), some (vI x4), none]) [⟨0, 155, 156, 76⟩, ⟨0, 155, 161, 78⟩] ⟨0, 155, 166, 80⟩ [] rfl (List.forall_mem_cons.mpr ⟨Or.inr ⟨by decide, _, cLw_76, by decide +kernel⟩, List.forall_mem_cons.mpr ⟨Or.inr ⟨by decide, _, cLw_78, by decide +kernel⟩, fun _ hz => nomatch hz⟩⟩) (by decide) (by decide) cLw_80 (Or.inl ⟨dLw_does_166, rfl⟩) (Nat.le_of_ble_eq_true rfl) rfl ?_
                refine tq_bipush (v := (-13 : Int32)) dLw_does_168 tnb_m13 ?_
                exact tq_iret rfl rfl dLw_does_170 hw
            refine tq_goto (tgt := 155) dLw_does_90 (by decide) ?_
            exact tq_iret rfl rfl dLw_does_155 hw
        · have hw := hw.2 c4
          refine tq_aload_n dLw_does_68 rfl rfl ?_
          refine tq_iload_n dLw_does_69 rfl rfl ?_
          refine tq_iload_n dLw_does_70 rfl rfl ?_
          obtain ⟨a46, e47, f48, hw⟩ := hw
          refine te_callV mv_TP_set (ci := 12) (dc := 7) (as := [vI x2, vI x3]) (rest := []) kLw_54 rfl (Nat.le_of_ble_eq_true rfl) (Nat.le_of_ble_eq_true rfl) rfl rfl e47 f48 (Nat.le_of_ble_eq_true rfl) dLw_does_71 (s_TP_set hw) ?_ (tk_i fun v50 h49 hw => ?_)
          · intro E h51 hw
            rcases hw with ⟨rfl, hw⟩ | ⟨rfl, hw⟩ | ⟨rfl, hw⟩
            · refine tpXx.catch (ls' := [some (vR x0), some (vI x1), some (vI x2), some (vI x3), some (vI x4), none]) [] ⟨0, 155, 156, 76⟩ [⟨0, 155, 161, 78⟩, ⟨0, 155, 166, 80⟩] rfl (fun _ hz => nomatch hz) (by decide) (by decide) cLw_76 (Or.inl ⟨dLw_does_156, rfl⟩) (Nat.le_of_ble_eq_true rfl) rfl ?_
              refine tq_bipush (v := (-11 : Int32)) dLw_does_158 tnb_m11 ?_
              exact tq_iret rfl rfl dLw_does_160 hw
            · refine tpXx.catch (ls' := [some (vR x0), some (vI x1), some (vI x2), some (vI x3), some (vI x4), none]) [⟨0, 155, 156, 76⟩] ⟨0, 155, 161, 78⟩ [⟨0, 155, 166, 80⟩] rfl (List.forall_mem_cons.mpr ⟨Or.inr ⟨by decide, _, cLw_76, by decide +kernel⟩, fun _ hz => nomatch hz⟩) (by decide) (by decide) cLw_78 (Or.inl ⟨dLw_does_161, rfl⟩) (Nat.le_of_ble_eq_true rfl) rfl ?_
              refine tq_bipush (v := (-12 : Int32)) dLw_does_163 tnb_m12 ?_
              exact tq_iret rfl rfl dLw_does_165 hw
            · refine tpXx.catch (ls' := [some (vR x0), some (vI x1), some (vI x2), some (vI x3), some (vI x4), none]) [⟨0, 155, 156, 76⟩, ⟨0, 155, 161, 78⟩] ⟨0, 155, 166, 80⟩ [] rfl (List.forall_mem_cons.mpr ⟨Or.inr ⟨by decide, _, cLw_76, by decide +kernel⟩, List.forall_mem_cons.mpr ⟨Or.inr ⟨by decide, _, cLw_78, by decide +kernel⟩, fun _ hz => nomatch hz⟩⟩) (by decide) (by decide) cLw_80 (Or.inl ⟨dLw_does_166, rfl⟩) (Nat.le_of_ble_eq_true rfl) rfl ?_
              refine tq_bipush (v := (-13 : Int32)) dLw_does_168 tnb_m13 ?_
              exact tq_iret rfl rfl dLw_does_170 hw
          refine tq_goto (tgt := 155) dLw_does_74 (by decide) ?_
          exact tq_iret rfl rfl dLw_does_155 hw
      · have hw := hw.2 c3
        refine tq_aload_n dLw_does_33 rfl rfl ?_
        refine tq_iload_n dLw_does_34 rfl rfl ?_
        refine tq_iload_n dLw_does_35 rfl rfl ?_
        refine tq_iload dLw_does_36 rfl ?_
        refine tq_bipush (v := (10 : Int32)) dLw_does_38 tnb_10 ?_
        refine tq_irem dLw_does_40 (by decide) ?_
        refine tq_iload dLw_does_41 rfl ?_
        refine tq_bipush (v := (10 : Int32)) dLw_does_43 tnb_10 ?_
        refine tq_idiv dLw_does_45 (by decide) ?_
        refine tq_bipush (v := (100 : Int32)) dLw_does_46 tnb_100 ?_
        refine tq_irem dLw_does_48 (by decide) ?_
        refine tq_iload dLw_does_49 rfl ?_
        refine tq_sipush (v := (1000 : Int32)) dLw_does_51 tns_1000 ?_
        refine tq_idiv dLw_does_54 (by decide) ?_
        refine tq_iconst (v := (1 : Int32)) dLw_does_55 tni_1 ?_
        refine tq_isub dLw_does_56 ?_
        obtain ⟨a52, e53, f54, hw⟩ := hw
        refine te_callV mv_TP_node (ci := 12) (dc := 8) (as := [vI x2, vI x3, vI (x4 - x4 / (10 : Int32) * (10 : Int32)), vI ((x4 / (10 : Int32)) - (x4 / (10 : Int32)) / (100 : Int32) * (100 : Int32)), vI ((x4 / (1000 : Int32)) - (1 : Int32))]) (rest := []) kLw_50 rfl (Nat.le_of_ble_eq_true rfl) (Nat.le_of_ble_eq_true rfl) rfl rfl e53 f54 (Nat.le_of_ble_eq_true rfl) dLw_does_57 (s_TP_node hw) ?_ (tk_i fun v56 h55 hw => ?_)
        · intro E h57 hw
          rcases hw with ⟨rfl, hw⟩ | ⟨rfl, hw⟩ | ⟨rfl, hw⟩
          · refine tpXx.catch (ls' := [some (vR x0), some (vI x1), some (vI x2), some (vI x3), some (vI x4), none]) [] ⟨0, 155, 156, 76⟩ [⟨0, 155, 161, 78⟩, ⟨0, 155, 166, 80⟩] rfl (fun _ hz => nomatch hz) (by decide) (by decide) cLw_76 (Or.inl ⟨dLw_does_156, rfl⟩) (Nat.le_of_ble_eq_true rfl) rfl ?_
            refine tq_bipush (v := (-11 : Int32)) dLw_does_158 tnb_m11 ?_
            exact tq_iret rfl rfl dLw_does_160 hw
          · refine tpXx.catch (ls' := [some (vR x0), some (vI x1), some (vI x2), some (vI x3), some (vI x4), none]) [⟨0, 155, 156, 76⟩] ⟨0, 155, 161, 78⟩ [⟨0, 155, 166, 80⟩] rfl (List.forall_mem_cons.mpr ⟨Or.inr ⟨by decide, _, cLw_76, by decide +kernel⟩, fun _ hz => nomatch hz⟩) (by decide) (by decide) cLw_78 (Or.inl ⟨dLw_does_161, rfl⟩) (Nat.le_of_ble_eq_true rfl) rfl ?_
            refine tq_bipush (v := (-12 : Int32)) dLw_does_163 tnb_m12 ?_
            exact tq_iret rfl rfl dLw_does_165 hw
          · refine tpXx.catch (ls' := [some (vR x0), some (vI x1), some (vI x2), some (vI x3), some (vI x4), none]) [⟨0, 155, 156, 76⟩, ⟨0, 155, 161, 78⟩] ⟨0, 155, 166, 80⟩ [] rfl (List.forall_mem_cons.mpr ⟨Or.inr ⟨by decide, _, cLw_76, by decide +kernel⟩, List.forall_mem_cons.mpr ⟨Or.inr ⟨by decide, _, cLw_78, by decide +kernel⟩, fun _ hz => nomatch hz⟩⟩) (by decide) (by decide) cLw_80 (Or.inl ⟨dLw_does_166, rfl⟩) (Nat.le_of_ble_eq_true rfl) rfl ?_
            refine tq_bipush (v := (-13 : Int32)) dLw_does_168 tnb_m13 ?_
            exact tq_iret rfl rfl dLw_does_170 hw
        refine tq_goto (tgt := 155) dLw_does_60 (by decide) ?_
        exact tq_iret rfl rfl dLw_does_155 hw
    · have hw := hw.2 c2
      refine tq_aload_n dLw_does_20 rfl rfl ?_
      refine tq_iload_n dLw_does_21 rfl rfl ?_
      obtain ⟨a58, e59, f60, hw⟩ := hw
      refine te_callV mv_TP_copy (ci := 12) (dc := 7) (as := [vI x2]) (rest := []) kLw_47 rfl (Nat.le_of_ble_eq_true rfl) (Nat.le_of_ble_eq_true rfl) rfl rfl e59 f60 (Nat.le_of_ble_eq_true rfl) dLw_does_22 (s_TP_copy hw) ?_ (tk_i fun v62 h61 hw => ?_)
      · intro E h63 hw
        rcases hw with ⟨rfl, hw⟩ | ⟨rfl, hw⟩ | ⟨rfl, hw⟩
        · refine tpXx.catch (ls' := [some (vR x0), some (vI x1), some (vI x2), some (vI x3), some (vI x4), none]) [] ⟨0, 155, 156, 76⟩ [⟨0, 155, 161, 78⟩, ⟨0, 155, 166, 80⟩] rfl (fun _ hz => nomatch hz) (by decide) (by decide) cLw_76 (Or.inl ⟨dLw_does_156, rfl⟩) (Nat.le_of_ble_eq_true rfl) rfl ?_
          refine tq_bipush (v := (-11 : Int32)) dLw_does_158 tnb_m11 ?_
          exact tq_iret rfl rfl dLw_does_160 hw
        · refine tpXx.catch (ls' := [some (vR x0), some (vI x1), some (vI x2), some (vI x3), some (vI x4), none]) [⟨0, 155, 156, 76⟩] ⟨0, 155, 161, 78⟩ [⟨0, 155, 166, 80⟩] rfl (List.forall_mem_cons.mpr ⟨Or.inr ⟨by decide, _, cLw_76, by decide +kernel⟩, fun _ hz => nomatch hz⟩) (by decide) (by decide) cLw_78 (Or.inl ⟨dLw_does_161, rfl⟩) (Nat.le_of_ble_eq_true rfl) rfl ?_
          refine tq_bipush (v := (-12 : Int32)) dLw_does_163 tnb_m12 ?_
          exact tq_iret rfl rfl dLw_does_165 hw
        · refine tpXx.catch (ls' := [some (vR x0), some (vI x1), some (vI x2), some (vI x3), some (vI x4), none]) [⟨0, 155, 156, 76⟩, ⟨0, 155, 161, 78⟩] ⟨0, 155, 166, 80⟩ [] rfl (List.forall_mem_cons.mpr ⟨Or.inr ⟨by decide, _, cLw_76, by decide +kernel⟩, List.forall_mem_cons.mpr ⟨Or.inr ⟨by decide, _, cLw_78, by decide +kernel⟩, fun _ hz => nomatch hz⟩⟩) (by decide) (by decide) cLw_80 (Or.inl ⟨dLw_does_166, rfl⟩) (Nat.le_of_ble_eq_true rfl) rfl ?_
          refine tq_bipush (v := (-13 : Int32)) dLw_does_168 tnb_m13 ?_
          exact tq_iret rfl rfl dLw_does_170 hw
      refine tq_goto (tgt := 155) dLw_does_25 (by decide) ?_
      exact tq_iret rfl rfl dLw_does_155 hw
  · have hw := hw.2 c1
    refine tq_aload_n dLw_does_4 rfl rfl ?_
    refine tq_iload_n dLw_does_5 rfl rfl ?_
    refine tq_iload_n dLw_does_6 rfl rfl ?_
    refine tq_iload dLw_does_7 rfl ?_
    obtain ⟨a64, e65, f66, hw⟩ := hw
    refine te_callV mv_TP_begin (ci := 12) (dc := 8) (as := [vI x2, vI x3, vI x4]) (rest := []) kLw_43 rfl (Nat.le_of_ble_eq_true rfl) (Nat.le_of_ble_eq_true rfl) rfl rfl e65 f66 (Nat.le_of_ble_eq_true rfl) dLw_does_9 (s_TP_begin hw) ?_ (tk_i fun v68 h67 hw => ?_)
    · intro E h69 hw
      rcases hw with ⟨rfl, hw⟩ | ⟨rfl, hw⟩ | ⟨rfl, hw⟩
      · refine tpXx.catch (ls' := [some (vR x0), some (vI x1), some (vI x2), some (vI x3), some (vI x4), none]) [] ⟨0, 155, 156, 76⟩ [⟨0, 155, 161, 78⟩, ⟨0, 155, 166, 80⟩] rfl (fun _ hz => nomatch hz) (by decide) (by decide) cLw_76 (Or.inl ⟨dLw_does_156, rfl⟩) (Nat.le_of_ble_eq_true rfl) rfl ?_
        refine tq_bipush (v := (-11 : Int32)) dLw_does_158 tnb_m11 ?_
        exact tq_iret rfl rfl dLw_does_160 hw
      · refine tpXx.catch (ls' := [some (vR x0), some (vI x1), some (vI x2), some (vI x3), some (vI x4), none]) [⟨0, 155, 156, 76⟩] ⟨0, 155, 161, 78⟩ [⟨0, 155, 166, 80⟩] rfl (List.forall_mem_cons.mpr ⟨Or.inr ⟨by decide, _, cLw_76, by decide +kernel⟩, fun _ hz => nomatch hz⟩) (by decide) (by decide) cLw_78 (Or.inl ⟨dLw_does_161, rfl⟩) (Nat.le_of_ble_eq_true rfl) rfl ?_
        refine tq_bipush (v := (-12 : Int32)) dLw_does_163 tnb_m12 ?_
        exact tq_iret rfl rfl dLw_does_165 hw
      · refine tpXx.catch (ls' := [some (vR x0), some (vI x1), some (vI x2), some (vI x3), some (vI x4), none]) [⟨0, 155, 156, 76⟩, ⟨0, 155, 161, 78⟩] ⟨0, 155, 166, 80⟩ [] rfl (List.forall_mem_cons.mpr ⟨Or.inr ⟨by decide, _, cLw_76, by decide +kernel⟩, List.forall_mem_cons.mpr ⟨Or.inr ⟨by decide, _, cLw_78, by decide +kernel⟩, fun _ hz => nomatch hz⟩⟩) (by decide) (by decide) cLw_80 (Or.inl ⟨dLw_does_166, rfl⟩) (Nat.le_of_ble_eq_true rfl) rfl ?_
        refine tq_bipush (v := (-13 : Int32)) dLw_does_168 tnb_m13 ?_
        exact tq_iret rfl rfl dLw_does_170 hw
    refine tq_goto (tgt := 155) dLw_does_12 (by decide) ?_
    exact tq_iret rfl rfl dLw_does_155 hw
/-! TLaw.isTree -/
theorem dLw_isTree_0 : decode (mB Lw_isTree) 0 = .ok (.bipush 40, 2) := by decide +kernel
theorem dLw_isTree_2 : decode (mB Lw_isTree) 2 = .ok (.newarray .int, 2) := by decide +kernel
theorem dLw_isTree_4 : decode (mB Lw_isTree) 4 = .ok (.astore 4, 2) := by decide +kernel
theorem dLw_isTree_6 : decode (mB Lw_isTree) 6 = .ok (.bipush 40, 2) := by decide +kernel
theorem dLw_isTree_8 : decode (mB Lw_isTree) 8 = .ok (.newarray .int, 2) := by decide +kernel
theorem dLw_isTree_10 : decode (mB Lw_isTree) 10 = .ok (.astore 5, 2) := by decide +kernel
theorem dLw_isTree_12 : decode (mB Lw_isTree) 12 = .ok (.bipush 41, 2) := by decide +kernel
theorem dLw_isTree_14 : decode (mB Lw_isTree) 14 = .ok (.newarray .int, 2) := by decide +kernel
theorem dLw_isTree_16 : decode (mB Lw_isTree) 16 = .ok (.astore 6, 2) := by decide +kernel
theorem dLw_isTree_18 : decode (mB Lw_isTree) 18 = .ok (.aload_n 0, 1) := by decide +kernel
theorem dLw_isTree_19 : decode (mB Lw_isTree) 19 = .ok (.iload_n 1, 1) := by decide +kernel
theorem dLw_isTree_20 : decode (mB Lw_isTree) 20 = .ok (.invokevirtual 22, 3) := by decide +kernel
theorem dLw_isTree_23 : decode (mB Lw_isTree) 23 = .ok (.aload_n 2, 1) := by decide +kernel
theorem dLw_isTree_24 : decode (mB Lw_isTree) 24 = .ok (.iconst 0, 1) := by decide +kernel
theorem dLw_isTree_25 : decode (mB Lw_isTree) 25 = .ok (.iaload, 1) := by decide +kernel
theorem dLw_isTree_26 : decode (mB Lw_isTree) 26 = .ok (.if_icmp .ne 7, 3) := by decide +kernel
theorem dLw_isTree_29 : decode (mB Lw_isTree) 29 = .ok (.iconst 1, 1) := by decide +kernel
theorem dLw_isTree_30 : decode (mB Lw_isTree) 30 = .ok (.goto 4, 3) := by decide +kernel
theorem dLw_isTree_33 : decode (mB Lw_isTree) 33 = .ok (.iconst 0, 1) := by decide +kernel
theorem dLw_isTree_34 : decode (mB Lw_isTree) 34 = .ok (.istore 7, 2) := by decide +kernel
theorem dLw_isTree_36 : decode (mB Lw_isTree) 36 = .ok (.iload 7, 2) := by decide +kernel
theorem dLw_isTree_38 : decode (mB Lw_isTree) 38 = .ok (.ifCond .eq 10, 3) := by decide +kernel
theorem dLw_isTree_41 : decode (mB Lw_isTree) 41 = .ok (.aload_n 0, 1) := by decide +kernel
theorem dLw_isTree_42 : decode (mB Lw_isTree) 42 = .ok (.iload_n 1, 1) := by decide +kernel
theorem dLw_isTree_43 : decode (mB Lw_isTree) 43 = .ok (.aload 6, 2) := by decide +kernel
theorem dLw_isTree_45 : decode (mB Lw_isTree) 45 = .ok (.invokestatic 82, 3) := by decide +kernel
theorem dLw_isTree_48 : decode (mB Lw_isTree) 48 = .ok (.iconst 0, 1) := by decide +kernel
theorem dLw_isTree_49 : decode (mB Lw_isTree) 49 = .ok (.istore 8, 2) := by decide +kernel
theorem dLw_isTree_51 : decode (mB Lw_isTree) 51 = .ok (.iload 8, 2) := by decide +kernel
theorem dLw_isTree_53 : decode (mB Lw_isTree) 53 = .ok (.aload_n 2, 1) := by decide +kernel
theorem dLw_isTree_54 : decode (mB Lw_isTree) 54 = .ok (.iconst 0, 1) := by decide +kernel
theorem dLw_isTree_55 : decode (mB Lw_isTree) 55 = .ok (.iaload, 1) := by decide +kernel
theorem dLw_isTree_56 : decode (mB Lw_isTree) 56 = .ok (.if_icmp .ge 144, 3) := by decide +kernel
theorem dLw_isTree_59 : decode (mB Lw_isTree) 59 = .ok (.iload 7, 2) := by decide +kernel
theorem dLw_isTree_61 : decode (mB Lw_isTree) 61 = .ok (.ifCond .eq 139, 3) := by decide +kernel
theorem dLw_isTree_64 : decode (mB Lw_isTree) 64 = .ok (.aload_n 2, 1) := by decide +kernel
theorem dLw_isTree_65 : decode (mB Lw_isTree) 65 = .ok (.iload 8, 2) := by decide +kernel
theorem dLw_isTree_67 : decode (mB Lw_isTree) 67 = .ok (.invokestatic 7, 3) := by decide +kernel
theorem dLw_isTree_70 : decode (mB Lw_isTree) 70 = .ok (.istore 9, 2) := by decide +kernel
theorem dLw_isTree_72 : decode (mB Lw_isTree) 72 = .ok (.aload 6, 2) := by decide +kernel
theorem dLw_isTree_74 : decode (mB Lw_isTree) 74 = .ok (.iload 9, 2) := by decide +kernel
theorem dLw_isTree_76 : decode (mB Lw_isTree) 76 = .ok (.invokestatic 40, 3) := by decide +kernel
theorem dLw_isTree_79 : decode (mB Lw_isTree) 79 = .ok (.aload_n 2, 1) := by decide +kernel
theorem dLw_isTree_80 : decode (mB Lw_isTree) 80 = .ok (.iload 8, 2) := by decide +kernel
theorem dLw_isTree_82 : decode (mB Lw_isTree) 82 = .ok (.invokestatic 16, 3) := by decide +kernel
theorem dLw_isTree_85 : decode (mB Lw_isTree) 85 = .ok (.if_icmp .ne 23, 3) := by decide +kernel
theorem dLw_isTree_88 : decode (mB Lw_isTree) 88 = .ok (.aload 6, 2) := by decide +kernel
theorem dLw_isTree_90 : decode (mB Lw_isTree) 90 = .ok (.iload 9, 2) := by decide +kernel
theorem dLw_isTree_92 : decode (mB Lw_isTree) 92 = .ok (.invokestatic 86, 3) := by decide +kernel
theorem dLw_isTree_95 : decode (mB Lw_isTree) 95 = .ok (.aload_n 2, 1) := by decide +kernel
theorem dLw_isTree_96 : decode (mB Lw_isTree) 96 = .ok (.iload 8, 2) := by decide +kernel
theorem dLw_isTree_98 : decode (mB Lw_isTree) 98 = .ok (.invokestatic 19, 3) := by decide +kernel
theorem dLw_isTree_101 : decode (mB Lw_isTree) 101 = .ok (.if_icmp .ne 7, 3) := by decide +kernel
theorem dLw_isTree_104 : decode (mB Lw_isTree) 104 = .ok (.iconst 1, 1) := by decide +kernel
theorem dLw_isTree_105 : decode (mB Lw_isTree) 105 = .ok (.goto 4, 3) := by decide +kernel
theorem dLw_isTree_108 : decode (mB Lw_isTree) 108 = .ok (.iconst 0, 1) := by decide +kernel
theorem dLw_isTree_109 : decode (mB Lw_isTree) 109 = .ok (.istore 7, 2) := by decide +kernel
theorem dLw_isTree_111 : decode (mB Lw_isTree) 111 = .ok (.aload_n 2, 1) := by decide +kernel
theorem dLw_isTree_112 : decode (mB Lw_isTree) 112 = .ok (.aload_n 3, 1) := by decide +kernel
theorem dLw_isTree_113 : decode (mB Lw_isTree) 113 = .ok (.iload 9, 2) := by decide +kernel
theorem dLw_isTree_115 : decode (mB Lw_isTree) 115 = .ok (.aload 4, 2) := by decide +kernel
theorem dLw_isTree_117 : decode (mB Lw_isTree) 117 = .ok (.invokestatic 36, 3) := by decide +kernel
theorem dLw_isTree_120 : decode (mB Lw_isTree) 120 = .ok (.istore 10, 2) := by decide +kernel
theorem dLw_isTree_122 : decode (mB Lw_isTree) 122 = .ok (.aload 6, 2) := by decide +kernel
theorem dLw_isTree_124 : decode (mB Lw_isTree) 124 = .ok (.aload_n 3, 1) := by decide +kernel
theorem dLw_isTree_125 : decode (mB Lw_isTree) 125 = .ok (.iload 9, 2) := by decide +kernel
theorem dLw_isTree_127 : decode (mB Lw_isTree) 127 = .ok (.aload 5, 2) := by decide +kernel
theorem dLw_isTree_129 : decode (mB Lw_isTree) 129 = .ok (.invokestatic 36, 3) := by decide +kernel
theorem dLw_isTree_132 : decode (mB Lw_isTree) 132 = .ok (.istore 11, 2) := by decide +kernel
theorem dLw_isTree_134 : decode (mB Lw_isTree) 134 = .ok (.iload 7, 2) := by decide +kernel
theorem dLw_isTree_136 : decode (mB Lw_isTree) 136 = .ok (.ifCond .eq 14, 3) := by decide +kernel
theorem dLw_isTree_139 : decode (mB Lw_isTree) 139 = .ok (.iload 10, 2) := by decide +kernel
theorem dLw_isTree_141 : decode (mB Lw_isTree) 141 = .ok (.iload 11, 2) := by decide +kernel
theorem dLw_isTree_143 : decode (mB Lw_isTree) 143 = .ok (.if_icmp .ne 7, 3) := by decide +kernel
theorem dLw_isTree_146 : decode (mB Lw_isTree) 146 = .ok (.iconst 1, 1) := by decide +kernel
theorem dLw_isTree_147 : decode (mB Lw_isTree) 147 = .ok (.goto 4, 3) := by decide +kernel
theorem dLw_isTree_150 : decode (mB Lw_isTree) 150 = .ok (.iconst 0, 1) := by decide +kernel
theorem dLw_isTree_151 : decode (mB Lw_isTree) 151 = .ok (.istore 7, 2) := by decide +kernel
theorem dLw_isTree_153 : decode (mB Lw_isTree) 153 = .ok (.iconst 0, 1) := by decide +kernel
theorem dLw_isTree_154 : decode (mB Lw_isTree) 154 = .ok (.istore 12, 2) := by decide +kernel
theorem dLw_isTree_156 : decode (mB Lw_isTree) 156 = .ok (.iload 12, 2) := by decide +kernel
theorem dLw_isTree_158 : decode (mB Lw_isTree) 158 = .ok (.iload 10, 2) := by decide +kernel
theorem dLw_isTree_160 : decode (mB Lw_isTree) 160 = .ok (.if_icmp .ge 34, 3) := by decide +kernel
theorem dLw_isTree_163 : decode (mB Lw_isTree) 163 = .ok (.iload 7, 2) := by decide +kernel
theorem dLw_isTree_165 : decode (mB Lw_isTree) 165 = .ok (.ifCond .eq 29, 3) := by decide +kernel
theorem dLw_isTree_168 : decode (mB Lw_isTree) 168 = .ok (.aload 4, 2) := by decide +kernel
theorem dLw_isTree_170 : decode (mB Lw_isTree) 170 = .ok (.iload 12, 2) := by decide +kernel
theorem dLw_isTree_172 : decode (mB Lw_isTree) 172 = .ok (.iaload, 1) := by decide +kernel
theorem dLw_isTree_173 : decode (mB Lw_isTree) 173 = .ok (.aload 5, 2) := by decide +kernel
theorem dLw_isTree_175 : decode (mB Lw_isTree) 175 = .ok (.iload 12, 2) := by decide +kernel
theorem dLw_isTree_177 : decode (mB Lw_isTree) 177 = .ok (.iaload, 1) := by decide +kernel
theorem dLw_isTree_178 : decode (mB Lw_isTree) 178 = .ok (.if_icmp .ne 7, 3) := by decide +kernel
theorem dLw_isTree_181 : decode (mB Lw_isTree) 181 = .ok (.iconst 1, 1) := by decide +kernel
theorem dLw_isTree_182 : decode (mB Lw_isTree) 182 = .ok (.goto 4, 3) := by decide +kernel
theorem dLw_isTree_185 : decode (mB Lw_isTree) 185 = .ok (.iconst 0, 1) := by decide +kernel
theorem dLw_isTree_186 : decode (mB Lw_isTree) 186 = .ok (.istore 7, 2) := by decide +kernel
theorem dLw_isTree_188 : decode (mB Lw_isTree) 188 = .ok (.iinc 12 1, 3) := by decide +kernel
theorem dLw_isTree_191 : decode (mB Lw_isTree) 191 = .ok (.goto (-35), 3) := by decide +kernel
theorem dLw_isTree_194 : decode (mB Lw_isTree) 194 = .ok (.iinc 8 1, 3) := by decide +kernel
theorem dLw_isTree_197 : decode (mB Lw_isTree) 197 = .ok (.goto (-146), 3) := by decide +kernel
theorem dLw_isTree_200 : decode (mB Lw_isTree) 200 = .ok (.iconst 1, 1) := by decide +kernel
theorem dLw_isTree_201 : decode (mB Lw_isTree) 201 = .ok (.istore 8, 2) := by decide +kernel
theorem dLw_isTree_203 : decode (mB Lw_isTree) 203 = .ok (.iload 8, 2) := by decide +kernel
theorem dLw_isTree_205 : decode (mB Lw_isTree) 205 = .ok (.aload_n 2, 1) := by decide +kernel
theorem dLw_isTree_206 : decode (mB Lw_isTree) 206 = .ok (.iconst 0, 1) := by decide +kernel
theorem dLw_isTree_207 : decode (mB Lw_isTree) 207 = .ok (.iaload, 1) := by decide +kernel
theorem dLw_isTree_208 : decode (mB Lw_isTree) 208 = .ok (.if_icmp .ge 38, 3) := by decide +kernel
theorem dLw_isTree_211 : decode (mB Lw_isTree) 211 = .ok (.iload 7, 2) := by decide +kernel
theorem dLw_isTree_213 : decode (mB Lw_isTree) 213 = .ok (.ifCond .eq 33, 3) := by decide +kernel
theorem dLw_isTree_216 : decode (mB Lw_isTree) 216 = .ok (.aload 6, 2) := by decide +kernel
theorem dLw_isTree_218 : decode (mB Lw_isTree) 218 = .ok (.aload 6, 2) := by decide +kernel
theorem dLw_isTree_220 : decode (mB Lw_isTree) 220 = .ok (.iload 8, 2) := by decide +kernel
theorem dLw_isTree_222 : decode (mB Lw_isTree) 222 = .ok (.invokestatic 16, 3) := by decide +kernel
theorem dLw_isTree_225 : decode (mB Lw_isTree) 225 = .ok (.invokestatic 13, 3) := by decide +kernel
theorem dLw_isTree_228 : decode (mB Lw_isTree) 228 = .ok (.iload 8, 2) := by decide +kernel
theorem dLw_isTree_230 : decode (mB Lw_isTree) 230 = .ok (.if_icmp .ge 7, 3) := by decide +kernel
theorem dLw_isTree_233 : decode (mB Lw_isTree) 233 = .ok (.iconst 1, 1) := by decide +kernel
theorem dLw_isTree_234 : decode (mB Lw_isTree) 234 = .ok (.goto 4, 3) := by decide +kernel
theorem dLw_isTree_237 : decode (mB Lw_isTree) 237 = .ok (.iconst 0, 1) := by decide +kernel
theorem dLw_isTree_238 : decode (mB Lw_isTree) 238 = .ok (.istore 7, 2) := by decide +kernel
theorem dLw_isTree_240 : decode (mB Lw_isTree) 240 = .ok (.iinc 8 1, 3) := by decide +kernel
theorem dLw_isTree_243 : decode (mB Lw_isTree) 243 = .ok (.goto (-40), 3) := by decide +kernel
theorem dLw_isTree_246 : decode (mB Lw_isTree) 246 = .ok (.iload 7, 2) := by decide +kernel
theorem dLw_isTree_248 : decode (mB Lw_isTree) 248 = .ok (.ireturn, 1) := by decide +kernel
def b_Lw_isTree_156 (R : Int32 → tpH → Prop) (X : String → tpH → Prop) (K51 : (Option Nat) → (Option Nat) → (Option Nat) → (Option Nat) → (Option Nat) → Int32 → Int32 → tpH → Prop) (Y : (Option Nat) → (Option Nat) → (Option Nat) → (Option Nat) → (Option Nat) → Int32 → Int32 → Int32 → Int32 → tpH → Prop) (x2 : Option Nat) (x3 : Option Nat) (x4 : Option Nat) (x5 : Option Nat) (x6 : Option Nat) (x7 : Int32) (x8 : Int32) (x10 : Int32) (x12 : Int32) (h : tpH) : Prop :=
  (x10 ≤ x12 → (K51 x2 x3 x4 x5 x6 x7 (x8 + (1 : Int32)) h)) ∧ (¬ x10 ≤ x12 → ((x7 = 0 → (K51 x2 x3 x4 x5 x6 x7 (x8 + (1 : Int32)) h)) ∧ (¬ x7 = 0 → (∃ a3, x4 = some a3 ∧ hT h a3 = 15 ∧ (vp_in x12 (hL h a3) ∧ (∃ a7, x5 = some a7 ∧ hT h a7 = 15 ∧ (vp_in x12 (hL h a7) ∧ ((¬ (hI h a3 x12.toNatClampNeg) = (hI h a7 x12.toNatClampNeg) → (Y x2 x3 x4 x5 x6 (0 : Int32) x8 x10 (x12 + (1 : Int32)) h)) ∧ ((hI h a3 x12.toNatClampNeg) = (hI h a7 x12.toNatClampNeg) → (Y x2 x3 x4 x5 x6 (1 : Int32) x8 x10 (x12 + (1 : Int32)) h))))))))))
def w_Lw_isTree_156 (R : Int32 → tpH → Prop) (X : String → tpH → Prop) (K51 : (Option Nat) → (Option Nat) → (Option Nat) → (Option Nat) → (Option Nat) → Int32 → Int32 → tpH → Prop) : Nat → (Option Nat) → (Option Nat) → (Option Nat) → (Option Nat) → (Option Nat) → Int32 → Int32 → Int32 → Int32 → tpH → Prop
  | 0 => fun _ _ _ _ _ _ _ _ _ _ => False
  | n + 1 => b_Lw_isTree_156 R X K51 (w_Lw_isTree_156 R X K51 n)
def w_Lw_isTree_109 (R : Int32 → tpH → Prop) (X : String → tpH → Prop) (K51 : (Option Nat) → (Option Nat) → (Option Nat) → (Option Nat) → (Option Nat) → Int32 → Int32 → tpH → Prop) (x2 : Option Nat) (x3 : Option Nat) (x4 : Option Nat) (x5 : Option Nat) (x6 : Option Nat) (x8 : Int32) (x9 : Int32) (t0 : Int32) (h : tpH) : Prop :=
  w_Lw_children x2 x3 x9 x4 h (fun v2 h1 => w_Lw_children x6 x3 x9 x5 h1 (fun v4 h3 => (t0 = 0 → (∃ n, w_Lw_isTree_156 R X K51 n x2 x3 x4 x5 x6 (0 : Int32) x8 v2 (0 : Int32) h3)) ∧ (¬ t0 = 0 → ((¬ v2 = v4 → (∃ n, w_Lw_isTree_156 R X K51 n x2 x3 x4 x5 x6 (0 : Int32) x8 v2 (0 : Int32) h3)) ∧ (v2 = v4 → (∃ n, w_Lw_isTree_156 R X K51 n x2 x3 x4 x5 x6 (1 : Int32) x8 v2 (0 : Int32) h3))))))
def b_Lw_isTree_203 (R : Int32 → tpH → Prop) (X : String → tpH → Prop) (Y : (Option Nat) → (Option Nat) → Int32 → Int32 → tpH → Prop) (x2 : Option Nat) (x6 : Option Nat) (x7 : Int32) (x8 : Int32) (h : tpH) : Prop :=
  ∃ a1, x2 = some a1 ∧ hT h a1 = 15 ∧ (vp_in (0 : Int32) (hL h a1) ∧ (((hI h a1 (0 : Int32).toNatClampNeg) ≤ x8 → (tpB x7 ∧ (R x7 h))) ∧ (¬ (hI h a1 (0 : Int32).toNatClampNeg) ≤ x8 → ((x7 = 0 → (tpB x7 ∧ (R x7 h))) ∧ (¬ x7 = 0 → (w_Lw_parent x6 x8 h (fun v10 h9 => w_Lw_place x6 v10 h9 (fun v12 h11 => (x8 ≤ v12 → (Y x2 x6 (0 : Int32) (x8 + (1 : Int32)) h11)) ∧ (¬ x8 ≤ v12 → (Y x2 x6 (1 : Int32) (x8 + (1 : Int32)) h11))))))))))
def w_Lw_isTree_203 (R : Int32 → tpH → Prop) (X : String → tpH → Prop) : Nat → (Option Nat) → (Option Nat) → Int32 → Int32 → tpH → Prop
  | 0 => fun _ _ _ _ _ => False
  | n + 1 => b_Lw_isTree_203 R X (w_Lw_isTree_203 R X n)
def b_Lw_isTree_51 (R : Int32 → tpH → Prop) (X : String → tpH → Prop) (Y : (Option Nat) → (Option Nat) → (Option Nat) → (Option Nat) → (Option Nat) → Int32 → Int32 → tpH → Prop) (x2 : Option Nat) (x3 : Option Nat) (x4 : Option Nat) (x5 : Option Nat) (x6 : Option Nat) (x7 : Int32) (x8 : Int32) (h : tpH) : Prop :=
  ∃ a1, x2 = some a1 ∧ hT h a1 = 15 ∧ (vp_in (0 : Int32) (hL h a1) ∧ (((hI h a1 (0 : Int32).toNatClampNeg) ≤ x8 → (∃ n, w_Lw_isTree_203 R X n x2 x6 x7 (1 : Int32) h)) ∧ (¬ (hI h a1 (0 : Int32).toNatClampNeg) ≤ x8 → ((x7 = 0 → (∃ n, w_Lw_isTree_203 R X n x2 x6 x7 (1 : Int32) h)) ∧ (¬ x7 = 0 → (w_Lw_mark x2 x8 h (fun v8 h7 => w_Lw_parentOf x6 v8 h7 (fun v10 h9 => w_Lw_parent x2 x8 h9 (fun v12 h11 => (¬ v10 = v12 → (w_Lw_isTree_109 R X Y x2 x3 x4 x5 x6 x8 v8 (0 : Int32) h11)) ∧ (v10 = v12 → (w_Lw_valueOf x6 v8 h11 (fun v15 h14 => w_Lw_value x2 x8 h14 (fun v17 h16 => (¬ v15 = v17 → (w_Lw_isTree_109 R X Y x2 x3 x4 x5 x6 x8 v8 (0 : Int32) h16)) ∧ (v15 = v17 → (w_Lw_isTree_109 R X Y x2 x3 x4 x5 x6 x8 v8 (1 : Int32) h16)))))))))))))))
def w_Lw_isTree_51 (R : Int32 → tpH → Prop) (X : String → tpH → Prop) : Nat → (Option Nat) → (Option Nat) → (Option Nat) → (Option Nat) → (Option Nat) → Int32 → Int32 → tpH → Prop
  | 0 => fun _ _ _ _ _ _ _ _ => False
  | n + 1 => b_Lw_isTree_51 R X (w_Lw_isTree_51 R X n)
def w_Lw_isTree_34 (R : Int32 → tpH → Prop) (X : String → tpH → Prop) (x0 : Option Nat) (x1 : Int32) (x2 : Option Nat) (x3 : Option Nat) (x4 : Option Nat) (x5 : Option Nat) (x6 : Option Nat) (t0 : Int32) (h : tpH) : Prop :=
  (t0 = 0 → (∃ n, w_Lw_isTree_51 R X n x2 x3 x4 x5 x6 t0 (0 : Int32) h)) ∧ (¬ t0 = 0 → (w_Lw_reads x0 x1 x6 h X (fun h2 => ∃ n, w_Lw_isTree_51 R X n x2 x3 x4 x5 x6 t0 (0 : Int32) h2)))
def w_Lw_isTree (x0 : Option Nat) (x1 : Int32) (x2 : Option Nat) (x3 : Option Nat) (h : tpH) (X : String → tpH → Prop) (R : Int32 → tpH → Prop) : Prop :=
  ∀ a1 h2, a1 = hZ h → h2 = nC h 15 40 40 → (∀ a5 h6, a5 = hZ h2 → h6 = nC h2 15 40 40 → (∀ a9 h10, a9 = hZ h6 → h10 = nC h6 15 41 41 → (∃ a13, x0 = some a13 ∧ hT h10 a13 = 13 ∧ (w_TP_size a13 x1 h10 X (fun v17 h16 => ∃ a18, x2 = some a18 ∧ hT h16 a18 = 15 ∧ (vp_in (0 : Int32) (hL h16 a18) ∧ ((¬ v17 = (hI h16 a18 (0 : Int32).toNatClampNeg) → (w_Lw_isTree_34 R X x0 x1 x2 x3 (some a1) (some a5) (some a9) (0 : Int32) h16)) ∧ (v17 = (hI h16 a18 (0 : Int32).toNatClampNeg) → (w_Lw_isTree_34 R X x0 x1 x2 x3 (some a1) (some a5) (some a9) (1 : Int32) h16)))))))))
theorem s_Lw_isTree_156 {h0 : tpH} {av : List tpV} {R : Int32 → tpH → Prop} {X : String → tpH → Prop} {K51 : (Option Nat) → (Option Nat) → (Option Nat) → (Option Nat) → (Option Nat) → Int32 → Int32 → tpH → Prop} (k51 : ∀ (x2 : Option Nat) (x3 : Option Nat) (x4 : Option Nat) (x5 : Option Nat) (x6 : Option Nat) (x7 : Int32) (x8 : Int32) (h : tpH), K51 x2 x3 x4 x5 x6 x7 x8 h → tpR Lw_isTree 9 h0 av (tpOi R X) 51 [none, none, some (vR x2), some (vR x3), some (vR x4), some (vR x5), some (vR x6), some (vI x7), some (vI x8), none, none, none, none] [] h) : ∀ (n : Nat) (x2 : Option Nat) (x3 : Option Nat) (x4 : Option Nat) (x5 : Option Nat) (x6 : Option Nat) (x7 : Int32) (x8 : Int32) (x10 : Int32) (x12 : Int32) (h : tpH), w_Lw_isTree_156 R X K51 n x2 x3 x4 x5 x6 x7 x8 x10 x12 h → tpR Lw_isTree 9 h0 av (tpOi R X) 156 [none, none, some (vR x2), some (vR x3), some (vR x4), some (vR x5), some (vR x6), some (vI x7), some (vI x8), none, some (vI x10), none, some (vI x12)] [] h := by
  intro n
  induction n with
  | zero => intro x2 x3 x4 x5 x6 x7 x8 x10 x12 h hw; exact False.elim hw
  | succ n ih =>
    intro x2 x3 x4 x5 x6 x7 x8 x10 x12 h hw
    change b_Lw_isTree_156 R X K51 (w_Lw_isTree_156 R X K51 n) x2 x3 x4 x5 x6 x7 x8 x10 x12 h at hw
    unfold b_Lw_isTree_156 at hw
    refine tq_iload dLw_isTree_156 rfl ?_
    refine tq_iload dLw_isTree_158 rfl ?_
    refine tq_icmpge (tgt := 194) dLw_isTree_160 (by decide) (fun c1 => ?_) (fun c1 => ?_)
    · have hw := hw.1 c1
      refine tq_inc (k := (1 : Int32)) (ls' := [none, none, some (vR x2), some (vR x3), some (vR x4), some (vR x5), some (vR x6), some (vI x7), some (vI (x8 + (1 : Int32))), none, some (vI x10), none, some (vI x12)]) dLw_isTree_194 rfl tni_1 (Nat.le_of_ble_eq_true rfl) rfl ?_
      refine tq_goto (tgt := 51) dLw_isTree_197 (by decide) ?_
      refine tpR.fo (ls' := [none, none, some (vR x2), some (vR x3), some (vR x4), some (vR x5), some (vR x6), some (vI x7), some (vI (x8 + (1 : Int32))), none, none, none, none]) ?_ (And.intro rfl (And.intro rfl (And.intro rfl (And.intro rfl (And.intro rfl (And.intro rfl (And.intro rfl trivial)))))))
      exact k51 _ _ _ _ _ _ _ _ hw
    · have hw := hw.2 c1
      refine tq_iload dLw_isTree_163 rfl ?_
      refine tq_ifeq (tgt := 194) dLw_isTree_165 (by decide) (fun c2 => ?_) (fun c2 => ?_)
      · have hw := hw.1 c2
        refine tq_inc (k := (1 : Int32)) (ls' := [none, none, some (vR x2), some (vR x3), some (vR x4), some (vR x5), some (vR x6), some (vI x7), some (vI (x8 + (1 : Int32))), none, some (vI x10), none, some (vI x12)]) dLw_isTree_194 rfl tni_1 (Nat.le_of_ble_eq_true rfl) rfl ?_
        refine tq_goto (tgt := 51) dLw_isTree_197 (by decide) ?_
        refine tpR.fo (ls' := [none, none, some (vR x2), some (vR x3), some (vR x4), some (vR x5), some (vR x6), some (vI x7), some (vI (x8 + (1 : Int32))), none, none, none, none]) ?_ (And.intro rfl (And.intro rfl (And.intro rfl (And.intro rfl (And.intro rfl (And.intro rfl (And.intro rfl trivial)))))))
        exact k51 _ _ _ _ _ _ _ _ hw
      · have hw := hw.2 c2
        refine tq_aload dLw_isTree_168 rfl ?_
        refine tq_iload dLw_isTree_170 rfl ?_
        obtain ⟨a3, e4, f5, hw⟩ := hw
        obtain ⟨f6, hw⟩ := hw
        refine te_iald dLw_isTree_172 e4 (Or.inl f5) f6 ?_
        refine tq_aload dLw_isTree_173 rfl ?_
        refine tq_iload dLw_isTree_175 rfl ?_
        obtain ⟨a7, e8, f9, hw⟩ := hw
        obtain ⟨f10, hw⟩ := hw
        refine te_iald dLw_isTree_177 e8 (Or.inl f9) f10 ?_
        refine tq_icmpne (tgt := 185) dLw_isTree_178 (by decide) (fun c11 => ?_) (fun c11 => ?_)
        · have hw := hw.1 c11
          refine tq_iconst (v := (0 : Int32)) dLw_isTree_185 tni_0 ?_
          refine tq_istore (ls' := [none, none, some (vR x2), some (vR x3), some (vR x4), some (vR x5), some (vR x6), some (vI (0 : Int32)), some (vI x8), none, some (vI x10), none, some (vI x12)]) dLw_isTree_186 (Nat.le_of_ble_eq_true rfl) rfl ?_
          refine tq_inc (k := (1 : Int32)) (ls' := [none, none, some (vR x2), some (vR x3), some (vR x4), some (vR x5), some (vR x6), some (vI (0 : Int32)), some (vI x8), none, some (vI x10), none, some (vI (x12 + (1 : Int32)))]) dLw_isTree_188 rfl tni_1 (Nat.le_of_ble_eq_true rfl) rfl ?_
          refine tq_goto (tgt := 156) dLw_isTree_191 (by decide) ?_
          refine tpR.fo (ls' := [none, none, some (vR x2), some (vR x3), some (vR x4), some (vR x5), some (vR x6), some (vI (0 : Int32)), some (vI x8), none, some (vI x10), none, some (vI (x12 + (1 : Int32)))]) ?_ (And.intro rfl (And.intro rfl (And.intro rfl (And.intro rfl (And.intro rfl (And.intro rfl (And.intro rfl (And.intro rfl (And.intro rfl trivial)))))))))
          exact ih _ _ _ _ _ _ _ _ _ _ hw
        · have hw := hw.2 c11
          refine tq_iconst (v := (1 : Int32)) dLw_isTree_181 tni_1 ?_
          refine tq_goto (tgt := 186) dLw_isTree_182 (by decide) ?_
          refine tq_istore (ls' := [none, none, some (vR x2), some (vR x3), some (vR x4), some (vR x5), some (vR x6), some (vI (1 : Int32)), some (vI x8), none, some (vI x10), none, some (vI x12)]) dLw_isTree_186 (Nat.le_of_ble_eq_true rfl) rfl ?_
          refine tq_inc (k := (1 : Int32)) (ls' := [none, none, some (vR x2), some (vR x3), some (vR x4), some (vR x5), some (vR x6), some (vI (1 : Int32)), some (vI x8), none, some (vI x10), none, some (vI (x12 + (1 : Int32)))]) dLw_isTree_188 rfl tni_1 (Nat.le_of_ble_eq_true rfl) rfl ?_
          refine tq_goto (tgt := 156) dLw_isTree_191 (by decide) ?_
          refine tpR.fo (ls' := [none, none, some (vR x2), some (vR x3), some (vR x4), some (vR x5), some (vR x6), some (vI (1 : Int32)), some (vI x8), none, some (vI x10), none, some (vI (x12 + (1 : Int32)))]) ?_ (And.intro rfl (And.intro rfl (And.intro rfl (And.intro rfl (And.intro rfl (And.intro rfl (And.intro rfl (And.intro rfl (And.intro rfl trivial)))))))))
          exact ih _ _ _ _ _ _ _ _ _ _ hw
theorem s_Lw_isTree_109 {h0 : tpH} {av : List tpV} {R : Int32 → tpH → Prop} {X : String → tpH → Prop} {K51 : (Option Nat) → (Option Nat) → (Option Nat) → (Option Nat) → (Option Nat) → Int32 → Int32 → tpH → Prop} (k51 : ∀ (x2 : Option Nat) (x3 : Option Nat) (x4 : Option Nat) (x5 : Option Nat) (x6 : Option Nat) (x7 : Int32) (x8 : Int32) (h : tpH), K51 x2 x3 x4 x5 x6 x7 x8 h → tpR Lw_isTree 9 h0 av (tpOi R X) 51 [none, none, some (vR x2), some (vR x3), some (vR x4), some (vR x5), some (vR x6), some (vI x7), some (vI x8), none, none, none, none] [] h) : ∀ (x2 : Option Nat) (x3 : Option Nat) (x4 : Option Nat) (x5 : Option Nat) (x6 : Option Nat) (x8 : Int32) (x9 : Int32) (t0 : Int32) (h : tpH), w_Lw_isTree_109 R X K51 x2 x3 x4 x5 x6 x8 x9 t0 h → tpR Lw_isTree 9 h0 av (tpOi R X) 109 [none, none, some (vR x2), some (vR x3), some (vR x4), some (vR x5), some (vR x6), none, some (vI x8), some (vI x9), none, none, none] [vI t0] h := by
  intro x2 x3 x4 x5 x6 x8 x9 t0 h hw
  unfold w_Lw_isTree_109 at hw
  refine tq_istore (ls' := [none, none, some (vR x2), some (vR x3), some (vR x4), some (vR x5), some (vR x6), some (vI t0), some (vI x8), some (vI x9), none, none, none]) dLw_isTree_109 (Nat.le_of_ble_eq_true rfl) rfl ?_
  refine tq_aload_n dLw_isTree_111 rfl rfl ?_
  refine tq_aload_n dLw_isTree_112 rfl rfl ?_
  refine tq_iload dLw_isTree_113 rfl ?_
  refine tq_aload dLw_isTree_115 rfl ?_
  refine tq_callS ms_Lw_children (dc := 1) (as := [vR x2, vR x3, vI x9, vR x4]) (rest := []) kLw_36 (Nat.le_of_ble_eq_true rfl) (Nat.le_of_ble_eq_true rfl) rfl rfl (Nat.le_of_ble_eq_true rfl) dLw_isTree_117 (s_Lw_children hw) (fun _ _ hx => False.elim hx) (tk_i fun v2 h1 hw => ?_)
  refine tq_istore (ls' := [none, none, some (vR x2), some (vR x3), some (vR x4), some (vR x5), some (vR x6), some (vI t0), some (vI x8), some (vI x9), some (vI v2), none, none]) dLw_isTree_120 (Nat.le_of_ble_eq_true rfl) rfl ?_
  refine tq_aload dLw_isTree_122 rfl ?_
  refine tq_aload_n dLw_isTree_124 rfl rfl ?_
  refine tq_iload dLw_isTree_125 rfl ?_
  refine tq_aload dLw_isTree_127 rfl ?_
  refine tq_callS ms_Lw_children (dc := 1) (as := [vR x6, vR x3, vI x9, vR x5]) (rest := []) kLw_36 (Nat.le_of_ble_eq_true rfl) (Nat.le_of_ble_eq_true rfl) rfl rfl (Nat.le_of_ble_eq_true rfl) dLw_isTree_129 (s_Lw_children hw) (fun _ _ hx => False.elim hx) (tk_i fun v4 h3 hw => ?_)
  refine tq_istore (ls' := [none, none, some (vR x2), some (vR x3), some (vR x4), some (vR x5), some (vR x6), some (vI t0), some (vI x8), some (vI x9), some (vI v2), some (vI v4), none]) dLw_isTree_132 (Nat.le_of_ble_eq_true rfl) rfl ?_
  refine tq_iload dLw_isTree_134 rfl ?_
  refine tq_ifeq (tgt := 150) dLw_isTree_136 (by decide) (fun c5 => ?_) (fun c5 => ?_)
  · have hw := hw.1 c5
    refine tq_iconst (v := (0 : Int32)) dLw_isTree_150 tni_0 ?_
    refine tq_istore (ls' := [none, none, some (vR x2), some (vR x3), some (vR x4), some (vR x5), some (vR x6), some (vI (0 : Int32)), some (vI x8), some (vI x9), some (vI v2), some (vI v4), none]) dLw_isTree_151 (Nat.le_of_ble_eq_true rfl) rfl ?_
    refine tq_iconst (v := (0 : Int32)) dLw_isTree_153 tni_0 ?_
    refine tq_istore (ls' := [none, none, some (vR x2), some (vR x3), some (vR x4), some (vR x5), some (vR x6), some (vI (0 : Int32)), some (vI x8), some (vI x9), some (vI v2), some (vI v4), some (vI (0 : Int32))]) dLw_isTree_154 (Nat.le_of_ble_eq_true rfl) rfl ?_
    refine tpR.fo (ls' := [none, none, some (vR x2), some (vR x3), some (vR x4), some (vR x5), some (vR x6), some (vI (0 : Int32)), some (vI x8), none, some (vI v2), none, some (vI (0 : Int32))]) ?_ (And.intro rfl (And.intro rfl (And.intro rfl (And.intro rfl (And.intro rfl (And.intro rfl (And.intro rfl (And.intro rfl (And.intro rfl trivial)))))))))
    obtain ⟨n, hw⟩ := hw
    exact s_Lw_isTree_156 k51 n _ _ _ _ _ _ _ _ _ _ hw
  · have hw := hw.2 c5
    refine tq_iload dLw_isTree_139 rfl ?_
    refine tq_iload dLw_isTree_141 rfl ?_
    refine tq_icmpne (tgt := 150) dLw_isTree_143 (by decide) (fun c6 => ?_) (fun c6 => ?_)
    · have hw := hw.1 c6
      refine tq_iconst (v := (0 : Int32)) dLw_isTree_150 tni_0 ?_
      refine tq_istore (ls' := [none, none, some (vR x2), some (vR x3), some (vR x4), some (vR x5), some (vR x6), some (vI (0 : Int32)), some (vI x8), some (vI x9), some (vI v2), some (vI v4), none]) dLw_isTree_151 (Nat.le_of_ble_eq_true rfl) rfl ?_
      refine tq_iconst (v := (0 : Int32)) dLw_isTree_153 tni_0 ?_
      refine tq_istore (ls' := [none, none, some (vR x2), some (vR x3), some (vR x4), some (vR x5), some (vR x6), some (vI (0 : Int32)), some (vI x8), some (vI x9), some (vI v2), some (vI v4), some (vI (0 : Int32))]) dLw_isTree_154 (Nat.le_of_ble_eq_true rfl) rfl ?_
      refine tpR.fo (ls' := [none, none, some (vR x2), some (vR x3), some (vR x4), some (vR x5), some (vR x6), some (vI (0 : Int32)), some (vI x8), none, some (vI v2), none, some (vI (0 : Int32))]) ?_ (And.intro rfl (And.intro rfl (And.intro rfl (And.intro rfl (And.intro rfl (And.intro rfl (And.intro rfl (And.intro rfl (And.intro rfl trivial)))))))))
      obtain ⟨n, hw⟩ := hw
      exact s_Lw_isTree_156 k51 n _ _ _ _ _ _ _ _ _ _ hw
    · have hw := hw.2 c6
      refine tq_iconst (v := (1 : Int32)) dLw_isTree_146 tni_1 ?_
      refine tq_goto (tgt := 151) dLw_isTree_147 (by decide) ?_
      refine tq_istore (ls' := [none, none, some (vR x2), some (vR x3), some (vR x4), some (vR x5), some (vR x6), some (vI (1 : Int32)), some (vI x8), some (vI x9), some (vI v2), some (vI v4), none]) dLw_isTree_151 (Nat.le_of_ble_eq_true rfl) rfl ?_
      refine tq_iconst (v := (0 : Int32)) dLw_isTree_153 tni_0 ?_
      refine tq_istore (ls' := [none, none, some (vR x2), some (vR x3), some (vR x4), some (vR x5), some (vR x6), some (vI (1 : Int32)), some (vI x8), some (vI x9), some (vI v2), some (vI v4), some (vI (0 : Int32))]) dLw_isTree_154 (Nat.le_of_ble_eq_true rfl) rfl ?_
      refine tpR.fo (ls' := [none, none, some (vR x2), some (vR x3), some (vR x4), some (vR x5), some (vR x6), some (vI (1 : Int32)), some (vI x8), none, some (vI v2), none, some (vI (0 : Int32))]) ?_ (And.intro rfl (And.intro rfl (And.intro rfl (And.intro rfl (And.intro rfl (And.intro rfl (And.intro rfl (And.intro rfl (And.intro rfl trivial)))))))))
      obtain ⟨n, hw⟩ := hw
      exact s_Lw_isTree_156 k51 n _ _ _ _ _ _ _ _ _ _ hw
theorem s_Lw_isTree_203 {h0 : tpH} {av : List tpV} {R : Int32 → tpH → Prop} {X : String → tpH → Prop} : ∀ (n : Nat) (x2 : Option Nat) (x6 : Option Nat) (x7 : Int32) (x8 : Int32) (h : tpH), w_Lw_isTree_203 R X n x2 x6 x7 x8 h → tpR Lw_isTree 9 h0 av (tpOi R X) 203 [none, none, some (vR x2), none, none, none, some (vR x6), some (vI x7), some (vI x8), none, none, none, none] [] h := by
  intro n
  induction n with
  | zero => intro x2 x6 x7 x8 h hw; exact False.elim hw
  | succ n ih =>
    intro x2 x6 x7 x8 h hw
    change b_Lw_isTree_203 R X (w_Lw_isTree_203 R X n) x2 x6 x7 x8 h at hw
    unfold b_Lw_isTree_203 at hw
    refine tq_iload dLw_isTree_203 rfl ?_
    refine tq_aload_n dLw_isTree_205 rfl rfl ?_
    refine tq_iconst (v := (0 : Int32)) dLw_isTree_206 tni_0 ?_
    obtain ⟨a1, e2, f3, hw⟩ := hw
    obtain ⟨f4, hw⟩ := hw
    refine te_iald dLw_isTree_207 e2 (Or.inl f3) f4 ?_
    refine tq_icmpge (tgt := 246) dLw_isTree_208 (by decide) (fun c5 => ?_) (fun c5 => ?_)
    · have hw := hw.1 c5
      refine tq_iload dLw_isTree_246 rfl ?_
      obtain ⟨f6, hw⟩ := hw
      exact tq_iret rfl (tpB_n f6) dLw_isTree_248 hw
    · have hw := hw.2 c5
      refine tq_iload dLw_isTree_211 rfl ?_
      refine tq_ifeq (tgt := 246) dLw_isTree_213 (by decide) (fun c7 => ?_) (fun c7 => ?_)
      · have hw := hw.1 c7
        refine tq_iload dLw_isTree_246 rfl ?_
        obtain ⟨f8, hw⟩ := hw
        exact tq_iret rfl (tpB_n f8) dLw_isTree_248 hw
      · have hw := hw.2 c7
        refine tq_aload dLw_isTree_216 rfl ?_
        refine tq_aload dLw_isTree_218 rfl ?_
        refine tq_iload dLw_isTree_220 rfl ?_
        refine tq_callS ms_Lw_parent (dc := 0) (as := [vR x6, vI x8]) (rest := [vR x6]) kLw_16 (Nat.le_of_ble_eq_true rfl) (Nat.le_of_ble_eq_true rfl) rfl rfl (Nat.le_of_ble_eq_true rfl) dLw_isTree_222 (s_Lw_parent hw) (fun _ _ hx => False.elim hx) (tk_i fun v10 h9 hw => ?_)
        refine tq_callS ms_Lw_place (dc := 1) (as := [vR x6, vI v10]) (rest := []) kLw_13 (Nat.le_of_ble_eq_true rfl) (Nat.le_of_ble_eq_true rfl) rfl rfl (Nat.le_of_ble_eq_true rfl) dLw_isTree_225 (s_Lw_place hw) (fun _ _ hx => False.elim hx) (tk_i fun v12 h11 hw => ?_)
        refine tq_iload dLw_isTree_228 rfl ?_
        refine tq_icmpge (tgt := 237) dLw_isTree_230 (by decide) (fun c13 => ?_) (fun c13 => ?_)
        · have hw := hw.1 c13
          refine tq_iconst (v := (0 : Int32)) dLw_isTree_237 tni_0 ?_
          refine tq_istore (ls' := [none, none, some (vR x2), none, none, none, some (vR x6), some (vI (0 : Int32)), some (vI x8), none, none, none, none]) dLw_isTree_238 (Nat.le_of_ble_eq_true rfl) rfl ?_
          refine tq_inc (k := (1 : Int32)) (ls' := [none, none, some (vR x2), none, none, none, some (vR x6), some (vI (0 : Int32)), some (vI (x8 + (1 : Int32))), none, none, none, none]) dLw_isTree_240 rfl tni_1 (Nat.le_of_ble_eq_true rfl) rfl ?_
          refine tq_goto (tgt := 203) dLw_isTree_243 (by decide) ?_
          refine tpR.fo (ls' := [none, none, some (vR x2), none, none, none, some (vR x6), some (vI (0 : Int32)), some (vI (x8 + (1 : Int32))), none, none, none, none]) ?_ (And.intro rfl (And.intro rfl (And.intro rfl (And.intro rfl trivial))))
          exact ih _ _ _ _ _ hw
        · have hw := hw.2 c13
          refine tq_iconst (v := (1 : Int32)) dLw_isTree_233 tni_1 ?_
          refine tq_goto (tgt := 238) dLw_isTree_234 (by decide) ?_
          refine tq_istore (ls' := [none, none, some (vR x2), none, none, none, some (vR x6), some (vI (1 : Int32)), some (vI x8), none, none, none, none]) dLw_isTree_238 (Nat.le_of_ble_eq_true rfl) rfl ?_
          refine tq_inc (k := (1 : Int32)) (ls' := [none, none, some (vR x2), none, none, none, some (vR x6), some (vI (1 : Int32)), some (vI (x8 + (1 : Int32))), none, none, none, none]) dLw_isTree_240 rfl tni_1 (Nat.le_of_ble_eq_true rfl) rfl ?_
          refine tq_goto (tgt := 203) dLw_isTree_243 (by decide) ?_
          refine tpR.fo (ls' := [none, none, some (vR x2), none, none, none, some (vR x6), some (vI (1 : Int32)), some (vI (x8 + (1 : Int32))), none, none, none, none]) ?_ (And.intro rfl (And.intro rfl (And.intro rfl (And.intro rfl trivial))))
          exact ih _ _ _ _ _ hw
theorem s_Lw_isTree_51 {h0 : tpH} {av : List tpV} {R : Int32 → tpH → Prop} {X : String → tpH → Prop} : ∀ (n : Nat) (x2 : Option Nat) (x3 : Option Nat) (x4 : Option Nat) (x5 : Option Nat) (x6 : Option Nat) (x7 : Int32) (x8 : Int32) (h : tpH), w_Lw_isTree_51 R X n x2 x3 x4 x5 x6 x7 x8 h → tpR Lw_isTree 9 h0 av (tpOi R X) 51 [none, none, some (vR x2), some (vR x3), some (vR x4), some (vR x5), some (vR x6), some (vI x7), some (vI x8), none, none, none, none] [] h := by
  intro n
  induction n with
  | zero => intro x2 x3 x4 x5 x6 x7 x8 h hw; exact False.elim hw
  | succ n ih =>
    intro x2 x3 x4 x5 x6 x7 x8 h hw
    change b_Lw_isTree_51 R X (w_Lw_isTree_51 R X n) x2 x3 x4 x5 x6 x7 x8 h at hw
    unfold b_Lw_isTree_51 at hw
    refine tq_iload dLw_isTree_51 rfl ?_
    refine tq_aload_n dLw_isTree_53 rfl rfl ?_
    refine tq_iconst (v := (0 : Int32)) dLw_isTree_54 tni_0 ?_
    obtain ⟨a1, e2, f3, hw⟩ := hw
    obtain ⟨f4, hw⟩ := hw
    refine te_iald dLw_isTree_55 e2 (Or.inl f3) f4 ?_
    refine tq_icmpge (tgt := 200) dLw_isTree_56 (by decide) (fun c5 => ?_) (fun c5 => ?_)
    · have hw := hw.1 c5
      refine tq_iconst (v := (1 : Int32)) dLw_isTree_200 tni_1 ?_
      refine tq_istore (ls' := [none, none, some (vR x2), some (vR x3), some (vR x4), some (vR x5), some (vR x6), some (vI x7), some (vI (1 : Int32)), none, none, none, none]) dLw_isTree_201 (Nat.le_of_ble_eq_true rfl) rfl ?_
      refine tpR.fo (ls' := [none, none, some (vR x2), none, none, none, some (vR x6), some (vI x7), some (vI (1 : Int32)), none, none, none, none]) ?_ (And.intro rfl (And.intro rfl (And.intro rfl (And.intro rfl trivial))))
      obtain ⟨n, hw⟩ := hw
      exact s_Lw_isTree_203 n _ _ _ _ _ hw
    · have hw := hw.2 c5
      refine tq_iload dLw_isTree_59 rfl ?_
      refine tq_ifeq (tgt := 200) dLw_isTree_61 (by decide) (fun c6 => ?_) (fun c6 => ?_)
      · have hw := hw.1 c6
        refine tq_iconst (v := (1 : Int32)) dLw_isTree_200 tni_1 ?_
        refine tq_istore (ls' := [none, none, some (vR x2), some (vR x3), some (vR x4), some (vR x5), some (vR x6), some (vI x7), some (vI (1 : Int32)), none, none, none, none]) dLw_isTree_201 (Nat.le_of_ble_eq_true rfl) rfl ?_
        refine tpR.fo (ls' := [none, none, some (vR x2), none, none, none, some (vR x6), some (vI x7), some (vI (1 : Int32)), none, none, none, none]) ?_ (And.intro rfl (And.intro rfl (And.intro rfl (And.intro rfl trivial))))
        obtain ⟨n, hw⟩ := hw
        exact s_Lw_isTree_203 n _ _ _ _ _ hw
      · have hw := hw.2 c6
        refine tq_aload_n dLw_isTree_64 rfl rfl ?_
        refine tq_iload dLw_isTree_65 rfl ?_
        refine tq_callS ms_Lw_mark (dc := 0) (as := [vR x2, vI x8]) (rest := []) kLw_7 (Nat.le_of_ble_eq_true rfl) (Nat.le_of_ble_eq_true rfl) rfl rfl (Nat.le_of_ble_eq_true rfl) dLw_isTree_67 (s_Lw_mark hw) (fun _ _ hx => False.elim hx) (tk_i fun v8 h7 hw => ?_)
        refine tq_istore (ls' := [none, none, some (vR x2), some (vR x3), some (vR x4), some (vR x5), some (vR x6), some (vI x7), some (vI x8), some (vI v8), none, none, none]) dLw_isTree_70 (Nat.le_of_ble_eq_true rfl) rfl ?_
        refine tq_aload dLw_isTree_72 rfl ?_
        refine tq_iload dLw_isTree_74 rfl ?_
        refine tq_callS ms_Lw_parentOf (dc := 2) (as := [vR x6, vI v8]) (rest := []) kLw_40 (Nat.le_of_ble_eq_true rfl) (Nat.le_of_ble_eq_true rfl) rfl rfl (Nat.le_of_ble_eq_true rfl) dLw_isTree_76 (s_Lw_parentOf hw) (fun _ _ hx => False.elim hx) (tk_i fun v10 h9 hw => ?_)
        refine tq_aload_n dLw_isTree_79 rfl rfl ?_
        refine tq_iload dLw_isTree_80 rfl ?_
        refine tq_callS ms_Lw_parent (dc := 0) (as := [vR x2, vI x8]) (rest := [vI v10]) kLw_16 (Nat.le_of_ble_eq_true rfl) (Nat.le_of_ble_eq_true rfl) rfl rfl (Nat.le_of_ble_eq_true rfl) dLw_isTree_82 (s_Lw_parent hw) (fun _ _ hx => False.elim hx) (tk_i fun v12 h11 hw => ?_)
        refine tq_icmpne (tgt := 108) dLw_isTree_85 (by decide) (fun c13 => ?_) (fun c13 => ?_)
        · have hw := hw.1 c13
          refine tq_iconst (v := (0 : Int32)) dLw_isTree_108 tni_0 ?_
          refine tpR.fo (ls' := [none, none, some (vR x2), some (vR x3), some (vR x4), some (vR x5), some (vR x6), none, some (vI x8), some (vI v8), none, none, none]) ?_ (And.intro rfl (And.intro rfl (And.intro rfl (And.intro rfl (And.intro rfl (And.intro rfl (And.intro rfl trivial)))))))
          exact s_Lw_isTree_109 ih _ _ _ _ _ _ _ _ _ hw
        · have hw := hw.2 c13
          refine tq_aload dLw_isTree_88 rfl ?_
          refine tq_iload dLw_isTree_90 rfl ?_
          refine tq_callS ms_Lw_valueOf (dc := 2) (as := [vR x6, vI v8]) (rest := []) kLw_86 (Nat.le_of_ble_eq_true rfl) (Nat.le_of_ble_eq_true rfl) rfl rfl (Nat.le_of_ble_eq_true rfl) dLw_isTree_92 (s_Lw_valueOf hw) (fun _ _ hx => False.elim hx) (tk_i fun v15 h14 hw => ?_)
          refine tq_aload_n dLw_isTree_95 rfl rfl ?_
          refine tq_iload dLw_isTree_96 rfl ?_
          refine tq_callS ms_Lw_value (dc := 0) (as := [vR x2, vI x8]) (rest := [vI v15]) kLw_19 (Nat.le_of_ble_eq_true rfl) (Nat.le_of_ble_eq_true rfl) rfl rfl (Nat.le_of_ble_eq_true rfl) dLw_isTree_98 (s_Lw_value hw) (fun _ _ hx => False.elim hx) (tk_i fun v17 h16 hw => ?_)
          refine tq_icmpne (tgt := 108) dLw_isTree_101 (by decide) (fun c18 => ?_) (fun c18 => ?_)
          · have hw := hw.1 c18
            refine tq_iconst (v := (0 : Int32)) dLw_isTree_108 tni_0 ?_
            refine tpR.fo (ls' := [none, none, some (vR x2), some (vR x3), some (vR x4), some (vR x5), some (vR x6), none, some (vI x8), some (vI v8), none, none, none]) ?_ (And.intro rfl (And.intro rfl (And.intro rfl (And.intro rfl (And.intro rfl (And.intro rfl (And.intro rfl trivial)))))))
            exact s_Lw_isTree_109 ih _ _ _ _ _ _ _ _ _ hw
          · have hw := hw.2 c18
            refine tq_iconst (v := (1 : Int32)) dLw_isTree_104 tni_1 ?_
            refine tq_goto (tgt := 109) dLw_isTree_105 (by decide) ?_
            refine tpR.fo (ls' := [none, none, some (vR x2), some (vR x3), some (vR x4), some (vR x5), some (vR x6), none, some (vI x8), some (vI v8), none, none, none]) ?_ (And.intro rfl (And.intro rfl (And.intro rfl (And.intro rfl (And.intro rfl (And.intro rfl (And.intro rfl trivial)))))))
            exact s_Lw_isTree_109 ih _ _ _ _ _ _ _ _ _ hw
theorem s_Lw_isTree_34 {h0 : tpH} {av : List tpV} {R : Int32 → tpH → Prop} {X : String → tpH → Prop} : ∀ (x0 : Option Nat) (x1 : Int32) (x2 : Option Nat) (x3 : Option Nat) (x4 : Option Nat) (x5 : Option Nat) (x6 : Option Nat) (t0 : Int32) (h : tpH), w_Lw_isTree_34 R X x0 x1 x2 x3 x4 x5 x6 t0 h → tpR Lw_isTree 9 h0 av (tpOi R X) 34 [some (vR x0), some (vI x1), some (vR x2), some (vR x3), some (vR x4), some (vR x5), some (vR x6), none, none, none, none, none, none] [vI t0] h := by
  intro x0 x1 x2 x3 x4 x5 x6 t0 h hw
  unfold w_Lw_isTree_34 at hw
  refine tq_istore (ls' := [some (vR x0), some (vI x1), some (vR x2), some (vR x3), some (vR x4), some (vR x5), some (vR x6), some (vI t0), none, none, none, none, none]) dLw_isTree_34 (Nat.le_of_ble_eq_true rfl) rfl ?_
  refine tq_iload dLw_isTree_36 rfl ?_
  refine tq_ifeq (tgt := 48) dLw_isTree_38 (by decide) (fun c1 => ?_) (fun c1 => ?_)
  · have hw := hw.1 c1
    refine tq_iconst (v := (0 : Int32)) dLw_isTree_48 tni_0 ?_
    refine tq_istore (ls' := [some (vR x0), some (vI x1), some (vR x2), some (vR x3), some (vR x4), some (vR x5), some (vR x6), some (vI t0), some (vI (0 : Int32)), none, none, none, none]) dLw_isTree_49 (Nat.le_of_ble_eq_true rfl) rfl ?_
    refine tpR.fo (ls' := [none, none, some (vR x2), some (vR x3), some (vR x4), some (vR x5), some (vR x6), some (vI t0), some (vI (0 : Int32)), none, none, none, none]) ?_ (And.intro rfl (And.intro rfl (And.intro rfl (And.intro rfl (And.intro rfl (And.intro rfl (And.intro rfl trivial)))))))
    obtain ⟨n, hw⟩ := hw
    exact s_Lw_isTree_51 n _ _ _ _ _ _ _ _ hw
  · have hw := hw.2 c1
    refine tq_aload_n dLw_isTree_41 rfl rfl ?_
    refine tq_iload_n dLw_isTree_42 rfl rfl ?_
    refine tq_aload dLw_isTree_43 rfl ?_
    refine tq_callS ms_Lw_reads (dc := 8) (as := [vR x0, vI x1, vR x6]) (rest := []) kLw_82 (Nat.le_of_ble_eq_true rfl) (Nat.le_of_ble_eq_true rfl) rfl rfl (Nat.le_of_ble_eq_true rfl) dLw_isTree_45 (s_Lw_reads hw) (fun _ _ hx => tpXx.out rfl hx) (tk_v fun h2 hw => ?_)
    refine tq_iconst (v := (0 : Int32)) dLw_isTree_48 tni_0 ?_
    refine tq_istore (ls' := [some (vR x0), some (vI x1), some (vR x2), some (vR x3), some (vR x4), some (vR x5), some (vR x6), some (vI t0), some (vI (0 : Int32)), none, none, none, none]) dLw_isTree_49 (Nat.le_of_ble_eq_true rfl) rfl ?_
    refine tpR.fo (ls' := [none, none, some (vR x2), some (vR x3), some (vR x4), some (vR x5), some (vR x6), some (vI t0), some (vI (0 : Int32)), none, none, none, none]) ?_ (And.intro rfl (And.intro rfl (And.intro rfl (And.intro rfl (And.intro rfl (And.intro rfl (And.intro rfl trivial)))))))
    obtain ⟨n, hw⟩ := hw
    exact s_Lw_isTree_51 n _ _ _ _ _ _ _ _ hw
theorem s_Lw_isTree {x0 : Option Nat} {x1 : Int32} {x2 : Option Nat} {x3 : Option Nat} {h : tpH} {R : Int32 → tpH → Prop} {X : String → tpH → Prop} (hw : w_Lw_isTree x0 x1 x2 x3 h X R) : tpC Lw_isTree 9 [vR x0, vI x1, vR x2, vR x3] h (tpOi R X) := by
  refine tpC_of ms_Lw_isTree.2.2.2.1 rfl rfl (Nat.le_of_ble_eq_true rfl) ?_
  show tpR Lw_isTree 9 h _ _ 0 [some (vR x0), some (vI x1), some (vR x2), some (vR x3), none, none, none, none, none, none, none, none, none] [] h
  unfold w_Lw_isTree at hw
  refine tq_bipush (v := (40 : Int32)) dLw_isTree_0 tnb_40 ?_
  refine tq_newa tpN_int (N := 40) dLw_isTree_2 (by decide) (by decide) (Nat.le_of_ble_eq_true rfl) (fun a1 h2 e3 e4 => ?_)
  have hw := hw a1 h2 e3 e4
  refine tq_astore (ls' := [some (vR x0), some (vI x1), some (vR x2), some (vR x3), some (vR (some a1)), none, none, none, none, none, none, none, none]) dLw_isTree_4 (Nat.le_of_ble_eq_true rfl) rfl ?_
  refine tq_bipush (v := (40 : Int32)) dLw_isTree_6 tnb_40 ?_
  refine tq_newa tpN_int (N := 40) dLw_isTree_8 (by decide) (by decide) (Nat.le_of_ble_eq_true rfl) (fun a5 h6 e7 e8 => ?_)
  have hw := hw a5 h6 e7 e8
  refine tq_astore (ls' := [some (vR x0), some (vI x1), some (vR x2), some (vR x3), some (vR (some a1)), some (vR (some a5)), none, none, none, none, none, none, none]) dLw_isTree_10 (Nat.le_of_ble_eq_true rfl) rfl ?_
  refine tq_bipush (v := (41 : Int32)) dLw_isTree_12 tnb_41 ?_
  refine tq_newa tpN_int (N := 41) dLw_isTree_14 (by decide) (by decide) (Nat.le_of_ble_eq_true rfl) (fun a9 h10 e11 e12 => ?_)
  have hw := hw a9 h10 e11 e12
  refine tq_astore (ls' := [some (vR x0), some (vI x1), some (vR x2), some (vR x3), some (vR (some a1)), some (vR (some a5)), some (vR (some a9)), none, none, none, none, none, none]) dLw_isTree_16 (Nat.le_of_ble_eq_true rfl) rfl ?_
  refine tq_aload_n dLw_isTree_18 rfl rfl ?_
  refine tq_iload_n dLw_isTree_19 rfl rfl ?_
  obtain ⟨a13, e14, f15, hw⟩ := hw
  refine te_callV mv_TP_size (ci := 12) (dc := 7) (as := [vI x1]) (rest := []) kLw_22 rfl (Nat.le_of_ble_eq_true rfl) (Nat.le_of_ble_eq_true rfl) rfl rfl e14 f15 (Nat.le_of_ble_eq_true rfl) dLw_isTree_20 (s_TP_size hw) (fun _ _ hx => tpXx.out rfl hx) (tk_i fun v17 h16 hw => ?_)
  refine tq_aload_n dLw_isTree_23 rfl rfl ?_
  refine tq_iconst (v := (0 : Int32)) dLw_isTree_24 tni_0 ?_
  obtain ⟨a18, e19, f20, hw⟩ := hw
  obtain ⟨f21, hw⟩ := hw
  refine te_iald dLw_isTree_25 e19 (Or.inl f20) f21 ?_
  refine tq_icmpne (tgt := 33) dLw_isTree_26 (by decide) (fun c22 => ?_) (fun c22 => ?_)
  · have hw := hw.1 c22
    refine tq_iconst (v := (0 : Int32)) dLw_isTree_33 tni_0 ?_
    refine tpR.fo (ls' := [some (vR x0), some (vI x1), some (vR x2), some (vR x3), some (vR (some a1)), some (vR (some a5)), some (vR (some a9)), none, none, none, none, none, none]) ?_ (And.intro rfl (And.intro rfl (And.intro rfl (And.intro rfl (And.intro rfl (And.intro rfl (And.intro rfl trivial)))))))
    exact s_Lw_isTree_34 _ _ _ _ _ _ _ _ _ hw
  · have hw := hw.2 c22
    refine tq_iconst (v := (1 : Int32)) dLw_isTree_29 tni_1 ?_
    refine tq_goto (tgt := 34) dLw_isTree_30 (by decide) ?_
    refine tpR.fo (ls' := [some (vR x0), some (vI x1), some (vR x2), some (vR x3), some (vR (some a1)), some (vR (some a5)), some (vR (some a9)), none, none, none, none, none, none]) ?_ (And.intro rfl (And.intro rfl (And.intro rfl (And.intro rfl (And.intro rfl (And.intro rfl (And.intro rfl trivial)))))))
    exact s_Lw_isTree_34 _ _ _ _ _ _ _ _ _ hw
/-! TLaw.adds -/
theorem dLw_adds_0 : decode (mB Lw_adds) 0 = .ok (.aload_n 0, 1) := by decide +kernel
theorem dLw_adds_1 : decode (mB Lw_adds) 1 = .ok (.iconst 0, 1) := by decide +kernel
theorem dLw_adds_2 : decode (mB Lw_adds) 2 = .ok (.dup2, 1) := by decide +kernel
theorem dLw_adds_3 : decode (mB Lw_adds) 3 = .ok (.iaload, 1) := by decide +kernel
theorem dLw_adds_4 : decode (mB Lw_adds) 4 = .ok (.iconst 1, 1) := by decide +kernel
theorem dLw_adds_5 : decode (mB Lw_adds) 5 = .ok (.iadd, 1) := by decide +kernel
theorem dLw_adds_6 : decode (mB Lw_adds) 6 = .ok (.iastore, 1) := by decide +kernel
theorem dLw_adds_7 : decode (mB Lw_adds) 7 = .ok (.aload_n 0, 1) := by decide +kernel
theorem dLw_adds_8 : decode (mB Lw_adds) 8 = .ok (.iconst 0, 1) := by decide +kernel
theorem dLw_adds_9 : decode (mB Lw_adds) 9 = .ok (.iaload, 1) := by decide +kernel
theorem dLw_adds_10 : decode (mB Lw_adds) 10 = .ok (.bipush 64, 2) := by decide +kernel
theorem dLw_adds_12 : decode (mB Lw_adds) 12 = .ok (.if_icmp .ge 9, 3) := by decide +kernel
theorem dLw_adds_15 : decode (mB Lw_adds) 15 = .ok (.aload_n 0, 1) := by decide +kernel
theorem dLw_adds_16 : decode (mB Lw_adds) 16 = .ok (.aload_n 0, 1) := by decide +kernel
theorem dLw_adds_17 : decode (mB Lw_adds) 17 = .ok (.iconst 0, 1) := by decide +kernel
theorem dLw_adds_18 : decode (mB Lw_adds) 18 = .ok (.iaload, 1) := by decide +kernel
theorem dLw_adds_19 : decode (mB Lw_adds) 19 = .ok (.iload_n 1, 1) := by decide +kernel
theorem dLw_adds_20 : decode (mB Lw_adds) 20 = .ok (.iastore, 1) := by decide +kernel
theorem dLw_adds_21 : decode (mB Lw_adds) 21 = .ok (.return_, 1) := by decide +kernel
def w_Lw_adds (x0 : Option Nat) (x1 : Int32) (h : tpH) (R : tpH → Prop) : Prop :=
  ∃ a1, x0 = some a1 ∧ hT h a1 = 15 ∧ (vp_in (0 : Int32) (hL h a1) ∧ (vp_in (0 : Int32) (hL h a1) ∧ (∀ h6, h6 = sI h a1 (0 : Int32).toNatClampNeg ((hI h a1 (0 : Int32).toNatClampNeg) + (1 : Int32)) → (vp_in (0 : Int32) (hL h6 a1) ∧ (((64 : Int32) ≤ (hI h6 a1 (0 : Int32).toNatClampNeg) → (R h6)) ∧ (¬ (64 : Int32) ≤ (hI h6 a1 (0 : Int32).toNatClampNeg) → (vp_in (0 : Int32) (hL h6 a1) ∧ (vp_in (hI h6 a1 (0 : Int32).toNatClampNeg) (hL h6 a1) ∧ (∀ h12, h12 = sI h6 a1 (hI h6 a1 (0 : Int32).toNatClampNeg).toNatClampNeg x1 → (R h12))))))))))
theorem s_Lw_adds {x0 : Option Nat} {x1 : Int32} {h : tpH} {R : tpH → Prop} (hw : w_Lw_adds x0 x1 h R) : tpC Lw_adds 0 [vR x0, vI x1] h (tpOv R (fun _ _ => False)) := by
  refine tpC_of ms_Lw_adds.2.2.2.1 rfl rfl (Nat.le_of_ble_eq_true rfl) ?_
  show tpR Lw_adds 0 h _ _ 0 [some (vR x0), some (vI x1)] [] h
  unfold w_Lw_adds at hw
  refine tq_aload_n dLw_adds_0 rfl rfl ?_
  refine tq_iconst (v := (0 : Int32)) dLw_adds_1 tni_0 ?_
  refine tq_dup2 dLw_adds_2 rfl rfl ?_
  obtain ⟨a1, e2, f3, hw⟩ := hw
  obtain ⟨f4, hw⟩ := hw
  refine te_iald dLw_adds_3 e2 (Or.inl f3) f4 ?_
  refine tq_iconst (v := (1 : Int32)) dLw_adds_4 tni_1 ?_
  refine tq_iadd dLw_adds_5 ?_
  obtain ⟨f5, hw⟩ := hw
  refine te_iast dLw_adds_6 e2 f3 f5 (fun h6 e7 => ?_)
  have hw := hw h6 e7
  refine tq_aload_n dLw_adds_7 rfl rfl ?_
  refine tq_iconst (v := (0 : Int32)) dLw_adds_8 tni_0 ?_
  obtain ⟨f8, hw⟩ := hw
  refine te_iald dLw_adds_9 e2 (Or.inl (by rw [e7]; exact f3)) f8 ?_
  refine tq_bipush (v := (64 : Int32)) dLw_adds_10 tnb_64 ?_
  refine tq_icmpge (tgt := 21) dLw_adds_12 (by decide) (fun c9 => ?_) (fun c9 => ?_)
  · have hw := hw.1 c9
    exact tq_vret rfl dLw_adds_21 hw
  · have hw := hw.2 c9
    refine tq_aload_n dLw_adds_15 rfl rfl ?_
    refine tq_aload_n dLw_adds_16 rfl rfl ?_
    refine tq_iconst (v := (0 : Int32)) dLw_adds_17 tni_0 ?_
    obtain ⟨f10, hw⟩ := hw
    refine te_iald dLw_adds_18 e2 (Or.inl (by rw [e7]; exact f3)) f10 ?_
    refine tq_iload_n dLw_adds_19 rfl rfl ?_
    obtain ⟨f11, hw⟩ := hw
    refine te_iast dLw_adds_20 e2 (by rw [e7]; exact f3) f11 (fun h12 e13 => ?_)
    have hw := hw h12 e13
    exact tq_vret rfl dLw_adds_21 hw
/-! TLaw.decided -/
theorem dLw_decided_0 : decode (mB Lw_decided) 0 = .ok (.iload 5, 2) := by decide +kernel
theorem dLw_decided_2 : decode (mB Lw_decided) 2 = .ok (.iload 6, 2) := by decide +kernel
theorem dLw_decided_4 : decode (mB Lw_decided) 4 = .ok (.if_icmp .eq 17, 3) := by decide +kernel
theorem dLw_decided_7 : decode (mB Lw_decided) 7 = .ok (.iload 4, 2) := by decide +kernel
theorem dLw_decided_9 : decode (mB Lw_decided) 9 = .ok (.iload 7, 2) := by decide +kernel
theorem dLw_decided_11 : decode (mB Lw_decided) 11 = .ok (.if_icmp .eq 13, 3) := by decide +kernel
theorem dLw_decided_14 : decode (mB Lw_decided) 14 = .ok (.iload 6, 2) := by decide +kernel
theorem dLw_decided_16 : decode (mB Lw_decided) 16 = .ok (.iload 4, 2) := by decide +kernel
theorem dLw_decided_18 : decode (mB Lw_decided) 18 = .ok (.if_icmp .ne 6, 3) := by decide +kernel
theorem dLw_decided_21 : decode (mB Lw_decided) 21 = .ok (.iload 5, 2) := by decide +kernel
theorem dLw_decided_23 : decode (mB Lw_decided) 23 = .ok (.ireturn, 1) := by decide +kernel
theorem dLw_decided_24 : decode (mB Lw_decided) 24 = .ok (.iload 4, 2) := by decide +kernel
theorem dLw_decided_26 : decode (mB Lw_decided) 26 = .ok (.iload 7, 2) := by decide +kernel
theorem dLw_decided_28 : decode (mB Lw_decided) 28 = .ok (.if_icmp .eq 13, 3) := by decide +kernel
theorem dLw_decided_31 : decode (mB Lw_decided) 31 = .ok (.iload 5, 2) := by decide +kernel
theorem dLw_decided_33 : decode (mB Lw_decided) 33 = .ok (.iload 4, 2) := by decide +kernel
theorem dLw_decided_35 : decode (mB Lw_decided) 35 = .ok (.if_icmp .ne 6, 3) := by decide +kernel
theorem dLw_decided_38 : decode (mB Lw_decided) 38 = .ok (.iload 6, 2) := by decide +kernel
theorem dLw_decided_40 : decode (mB Lw_decided) 40 = .ok (.ireturn, 1) := by decide +kernel
theorem dLw_decided_41 : decode (mB Lw_decided) 41 = .ok (.aload_n 0, 1) := by decide +kernel
theorem dLw_decided_42 : decode (mB Lw_decided) 42 = .ok (.bipush 8, 2) := by decide +kernel
theorem dLw_decided_44 : decode (mB Lw_decided) 44 = .ok (.iload_n 3, 1) := by decide +kernel
theorem dLw_decided_45 : decode (mB Lw_decided) 45 = .ok (.imul, 1) := by decide +kernel
theorem dLw_decided_46 : decode (mB Lw_decided) 46 = .ok (.iload_n 2, 1) := by decide +kernel
theorem dLw_decided_47 : decode (mB Lw_decided) 47 = .ok (.iadd, 1) := by decide +kernel
theorem dLw_decided_48 : decode (mB Lw_decided) 48 = .ok (.invokestatic 89, 3) := by decide +kernel
theorem dLw_decided_51 : decode (mB Lw_decided) 51 = .ok (.aload_n 1, 1) := by decide +kernel
theorem dLw_decided_52 : decode (mB Lw_decided) 52 = .ok (.iload_n 2, 1) := by decide +kernel
theorem dLw_decided_53 : decode (mB Lw_decided) 53 = .ok (.iaload, 1) := by decide +kernel
theorem dLw_decided_54 : decode (mB Lw_decided) 54 = .ok (.iconst 2, 1) := by decide +kernel
theorem dLw_decided_55 : decode (mB Lw_decided) 55 = .ok (.if_icmp .ne 8, 3) := by decide +kernel
theorem dLw_decided_58 : decode (mB Lw_decided) 58 = .ok (.iload 6, 2) := by decide +kernel
theorem dLw_decided_60 : decode (mB Lw_decided) 60 = .ok (.goto 24, 3) := by decide +kernel
theorem dLw_decided_63 : decode (mB Lw_decided) 63 = .ok (.aload_n 1, 1) := by decide +kernel
theorem dLw_decided_64 : decode (mB Lw_decided) 64 = .ok (.iload_n 2, 1) := by decide +kernel
theorem dLw_decided_65 : decode (mB Lw_decided) 65 = .ok (.iaload, 1) := by decide +kernel
theorem dLw_decided_66 : decode (mB Lw_decided) 66 = .ok (.iconst 1, 1) := by decide +kernel
theorem dLw_decided_67 : decode (mB Lw_decided) 67 = .ok (.if_icmp .eq 10, 3) := by decide +kernel
theorem dLw_decided_70 : decode (mB Lw_decided) 70 = .ok (.iload 4, 2) := by decide +kernel
theorem dLw_decided_72 : decode (mB Lw_decided) 72 = .ok (.iload 7, 2) := by decide +kernel
theorem dLw_decided_74 : decode (mB Lw_decided) 74 = .ok (.if_icmp .ne 8, 3) := by decide +kernel
theorem dLw_decided_77 : decode (mB Lw_decided) 77 = .ok (.iload 5, 2) := by decide +kernel
theorem dLw_decided_79 : decode (mB Lw_decided) 79 = .ok (.goto 5, 3) := by decide +kernel
theorem dLw_decided_82 : decode (mB Lw_decided) 82 = .ok (.iload 4, 2) := by decide +kernel
theorem dLw_decided_84 : decode (mB Lw_decided) 84 = .ok (.ireturn, 1) := by decide +kernel
def w_Lw_decided_41 (R : Int32 → tpH → Prop) (x0 : Option Nat) (x1 : Option Nat) (x2 : Int32) (x3 : Int32) (x4 : Int32) (x5 : Int32) (x6 : Int32) (x7 : Int32) (h : tpH) : Prop :=
  w_Lw_adds x0 (((8 : Int32) * x3) + x2) h (fun h1 => ∃ a2, x1 = some a2 ∧ hT h1 a2 = 15 ∧ (vp_in x2 (hL h1 a2) ∧ ((¬ (hI h1 a2 x2.toNatClampNeg) = (2 : Int32) → (vp_in x2 (hL h1 a2) ∧ (((hI h1 a2 x2.toNatClampNeg) = (1 : Int32) → (R x5 h1)) ∧ (¬ (hI h1 a2 x2.toNatClampNeg) = (1 : Int32) → ((¬ x4 = x7 → (R x4 h1)) ∧ (x4 = x7 → (R x5 h1))))))) ∧ ((hI h1 a2 x2.toNatClampNeg) = (2 : Int32) → (R x6 h1)))))
def w_Lw_decided_24 (R : Int32 → tpH → Prop) (x0 : Option Nat) (x1 : Option Nat) (x2 : Int32) (x3 : Int32) (x4 : Int32) (x5 : Int32) (x6 : Int32) (x7 : Int32) (h : tpH) : Prop :=
  (x4 = x7 → (w_Lw_decided_41 R x0 x1 x2 x3 x4 x5 x6 x7 h)) ∧ (¬ x4 = x7 → ((¬ x5 = x4 → (w_Lw_decided_41 R x0 x1 x2 x3 x4 x5 x6 x7 h)) ∧ (x5 = x4 → (R x6 h))))
def w_Lw_decided (x0 : Option Nat) (x1 : Option Nat) (x2 : Int32) (x3 : Int32) (x4 : Int32) (x5 : Int32) (x6 : Int32) (x7 : Int32) (h : tpH) (R : Int32 → tpH → Prop) : Prop :=
  (x5 = x6 → (R x5 h)) ∧ (¬ x5 = x6 → ((x4 = x7 → (w_Lw_decided_24 R x0 x1 x2 x3 x4 x5 x6 x7 h)) ∧ (¬ x4 = x7 → ((¬ x6 = x4 → (w_Lw_decided_24 R x0 x1 x2 x3 x4 x5 x6 x7 h)) ∧ (x6 = x4 → (R x5 h))))))
theorem s_Lw_decided_41 {h0 : tpH} {av : List tpV} {R : Int32 → tpH → Prop} : ∀ (x0 : Option Nat) (x1 : Option Nat) (x2 : Int32) (x3 : Int32) (x4 : Int32) (x5 : Int32) (x6 : Int32) (x7 : Int32) (h : tpH), w_Lw_decided_41 R x0 x1 x2 x3 x4 x5 x6 x7 h → tpR Lw_decided 1 h0 av (tpOi R (fun _ _ => False)) 41 [some (vR x0), some (vR x1), some (vI x2), some (vI x3), some (vI x4), some (vI x5), some (vI x6), some (vI x7)] [] h := by
  intro x0 x1 x2 x3 x4 x5 x6 x7 h hw
  unfold w_Lw_decided_41 at hw
  refine tq_aload_n dLw_decided_41 rfl rfl ?_
  refine tq_bipush (v := (8 : Int32)) dLw_decided_42 tnb_8 ?_
  refine tq_iload_n dLw_decided_44 rfl rfl ?_
  refine tq_imul dLw_decided_45 ?_
  refine tq_iload_n dLw_decided_46 rfl rfl ?_
  refine tq_iadd dLw_decided_47 ?_
  refine tq_callS ms_Lw_adds (dc := 0) (as := [vR x0, vI (((8 : Int32) * x3) + x2)]) (rest := []) kLw_89 (Nat.le_of_ble_eq_true rfl) (Nat.le_of_ble_eq_true rfl) rfl rfl (Nat.le_of_ble_eq_true rfl) dLw_decided_48 (s_Lw_adds hw) (fun _ _ hx => False.elim hx) (tk_v fun h1 hw => ?_)
  refine tq_aload_n dLw_decided_51 rfl rfl ?_
  refine tq_iload_n dLw_decided_52 rfl rfl ?_
  obtain ⟨a2, e3, f4, hw⟩ := hw
  obtain ⟨f5, hw⟩ := hw
  refine te_iald dLw_decided_53 e3 (Or.inl f4) f5 ?_
  refine tq_iconst (v := (2 : Int32)) dLw_decided_54 tni_2 ?_
  refine tq_icmpne (tgt := 63) dLw_decided_55 (by decide) (fun c6 => ?_) (fun c6 => ?_)
  · have hw := hw.1 c6
    refine tq_aload_n dLw_decided_63 rfl rfl ?_
    refine tq_iload_n dLw_decided_64 rfl rfl ?_
    obtain ⟨f7, hw⟩ := hw
    refine te_iald dLw_decided_65 e3 (Or.inl f4) f7 ?_
    refine tq_iconst (v := (1 : Int32)) dLw_decided_66 tni_1 ?_
    refine tq_icmpeq (tgt := 77) dLw_decided_67 (by decide) (fun c8 => ?_) (fun c8 => ?_)
    · have hw := hw.1 c8
      refine tq_iload dLw_decided_77 rfl ?_
      refine tq_goto (tgt := 84) dLw_decided_79 (by decide) ?_
      exact tq_iret rfl rfl dLw_decided_84 hw
    · have hw := hw.2 c8
      refine tq_iload dLw_decided_70 rfl ?_
      refine tq_iload dLw_decided_72 rfl ?_
      refine tq_icmpne (tgt := 82) dLw_decided_74 (by decide) (fun c9 => ?_) (fun c9 => ?_)
      · have hw := hw.1 c9
        refine tq_iload dLw_decided_82 rfl ?_
        exact tq_iret rfl rfl dLw_decided_84 hw
      · have hw := hw.2 c9
        refine tq_iload dLw_decided_77 rfl ?_
        refine tq_goto (tgt := 84) dLw_decided_79 (by decide) ?_
        exact tq_iret rfl rfl dLw_decided_84 hw
  · have hw := hw.2 c6
    refine tq_iload dLw_decided_58 rfl ?_
    refine tq_goto (tgt := 84) dLw_decided_60 (by decide) ?_
    exact tq_iret rfl rfl dLw_decided_84 hw
theorem s_Lw_decided_24 {h0 : tpH} {av : List tpV} {R : Int32 → tpH → Prop} : ∀ (x0 : Option Nat) (x1 : Option Nat) (x2 : Int32) (x3 : Int32) (x4 : Int32) (x5 : Int32) (x6 : Int32) (x7 : Int32) (h : tpH), w_Lw_decided_24 R x0 x1 x2 x3 x4 x5 x6 x7 h → tpR Lw_decided 1 h0 av (tpOi R (fun _ _ => False)) 24 [some (vR x0), some (vR x1), some (vI x2), some (vI x3), some (vI x4), some (vI x5), some (vI x6), some (vI x7)] [] h := by
  intro x0 x1 x2 x3 x4 x5 x6 x7 h hw
  unfold w_Lw_decided_24 at hw
  refine tq_iload dLw_decided_24 rfl ?_
  refine tq_iload dLw_decided_26 rfl ?_
  refine tq_icmpeq (tgt := 41) dLw_decided_28 (by decide) (fun c1 => ?_) (fun c1 => ?_)
  · have hw := hw.1 c1
    refine tpR.fo (ls' := [some (vR x0), some (vR x1), some (vI x2), some (vI x3), some (vI x4), some (vI x5), some (vI x6), some (vI x7)]) ?_ (And.intro rfl (And.intro rfl (And.intro rfl (And.intro rfl (And.intro rfl (And.intro rfl (And.intro rfl (And.intro rfl trivial))))))))
    exact s_Lw_decided_41 _ _ _ _ _ _ _ _ _ hw
  · have hw := hw.2 c1
    refine tq_iload dLw_decided_31 rfl ?_
    refine tq_iload dLw_decided_33 rfl ?_
    refine tq_icmpne (tgt := 41) dLw_decided_35 (by decide) (fun c2 => ?_) (fun c2 => ?_)
    · have hw := hw.1 c2
      refine tpR.fo (ls' := [some (vR x0), some (vR x1), some (vI x2), some (vI x3), some (vI x4), some (vI x5), some (vI x6), some (vI x7)]) ?_ (And.intro rfl (And.intro rfl (And.intro rfl (And.intro rfl (And.intro rfl (And.intro rfl (And.intro rfl (And.intro rfl trivial))))))))
      exact s_Lw_decided_41 _ _ _ _ _ _ _ _ _ hw
    · have hw := hw.2 c2
      refine tq_iload dLw_decided_38 rfl ?_
      exact tq_iret rfl rfl dLw_decided_40 hw
theorem s_Lw_decided {x0 : Option Nat} {x1 : Option Nat} {x2 : Int32} {x3 : Int32} {x4 : Int32} {x5 : Int32} {x6 : Int32} {x7 : Int32} {h : tpH} {R : Int32 → tpH → Prop} (hw : w_Lw_decided x0 x1 x2 x3 x4 x5 x6 x7 h R) : tpC Lw_decided 1 [vR x0, vR x1, vI x2, vI x3, vI x4, vI x5, vI x6, vI x7] h (tpOi R (fun _ _ => False)) := by
  refine tpC_of ms_Lw_decided.2.2.2.1 rfl rfl (Nat.le_of_ble_eq_true rfl) ?_
  show tpR Lw_decided 1 h _ _ 0 [some (vR x0), some (vR x1), some (vI x2), some (vI x3), some (vI x4), some (vI x5), some (vI x6), some (vI x7)] [] h
  unfold w_Lw_decided at hw
  refine tq_iload dLw_decided_0 rfl ?_
  refine tq_iload dLw_decided_2 rfl ?_
  refine tq_icmpeq (tgt := 21) dLw_decided_4 (by decide) (fun c1 => ?_) (fun c1 => ?_)
  · have hw := hw.1 c1
    refine tq_iload dLw_decided_21 rfl ?_
    exact tq_iret rfl rfl dLw_decided_23 hw
  · have hw := hw.2 c1
    refine tq_iload dLw_decided_7 rfl ?_
    refine tq_iload dLw_decided_9 rfl ?_
    refine tq_icmpeq (tgt := 24) dLw_decided_11 (by decide) (fun c2 => ?_) (fun c2 => ?_)
    · have hw := hw.1 c2
      refine tpR.fo (ls' := [some (vR x0), some (vR x1), some (vI x2), some (vI x3), some (vI x4), some (vI x5), some (vI x6), some (vI x7)]) ?_ (And.intro rfl (And.intro rfl (And.intro rfl (And.intro rfl (And.intro rfl (And.intro rfl (And.intro rfl (And.intro rfl trivial))))))))
      exact s_Lw_decided_24 _ _ _ _ _ _ _ _ _ hw
    · have hw := hw.2 c2
      refine tq_iload dLw_decided_14 rfl ?_
      refine tq_iload dLw_decided_16 rfl ?_
      refine tq_icmpne (tgt := 24) dLw_decided_18 (by decide) (fun c3 => ?_) (fun c3 => ?_)
      · have hw := hw.1 c3
        refine tpR.fo (ls' := [some (vR x0), some (vR x1), some (vI x2), some (vI x3), some (vI x4), some (vI x5), some (vI x6), some (vI x7)]) ?_ (And.intro rfl (And.intro rfl (And.intro rfl (And.intro rfl (And.intro rfl (And.intro rfl (And.intro rfl (And.intro rfl trivial))))))))
        exact s_Lw_decided_24 _ _ _ _ _ _ _ _ _ hw
      · have hw := hw.2 c3
        refine tq_iload dLw_decided_21 rfl ?_
        exact tq_iret rfl rfl dLw_decided_23 hw
/-! TLaw.isTouched -/
theorem dLw_isTouched_0 : decode (mB Lw_isTouched) 0 = .ok (.aload_n 0, 1) := by decide +kernel
theorem dLw_isTouched_1 : decode (mB Lw_isTouched) 1 = .ok (.iload_n 2, 1) := by decide +kernel
theorem dLw_isTouched_2 : decode (mB Lw_isTouched) 2 = .ok (.invokestatic 86, 3) := by decide +kernel
theorem dLw_isTouched_5 : decode (mB Lw_isTouched) 5 = .ok (.aload_n 1, 1) := by decide +kernel
theorem dLw_isTouched_6 : decode (mB Lw_isTouched) 6 = .ok (.iload_n 2, 1) := by decide +kernel
theorem dLw_isTouched_7 : decode (mB Lw_isTouched) 7 = .ok (.invokestatic 86, 3) := by decide +kernel
theorem dLw_isTouched_10 : decode (mB Lw_isTouched) 10 = .ok (.if_icmp .ne 16, 3) := by decide +kernel
theorem dLw_isTouched_13 : decode (mB Lw_isTouched) 13 = .ok (.aload_n 0, 1) := by decide +kernel
theorem dLw_isTouched_14 : decode (mB Lw_isTouched) 14 = .ok (.iload_n 2, 1) := by decide +kernel
theorem dLw_isTouched_15 : decode (mB Lw_isTouched) 15 = .ok (.invokestatic 40, 3) := by decide +kernel
theorem dLw_isTouched_18 : decode (mB Lw_isTouched) 18 = .ok (.aload_n 1, 1) := by decide +kernel
theorem dLw_isTouched_19 : decode (mB Lw_isTouched) 19 = .ok (.iload_n 2, 1) := by decide +kernel
theorem dLw_isTouched_20 : decode (mB Lw_isTouched) 20 = .ok (.invokestatic 40, 3) := by decide +kernel
theorem dLw_isTouched_23 : decode (mB Lw_isTouched) 23 = .ok (.if_icmp .eq 7, 3) := by decide +kernel
theorem dLw_isTouched_26 : decode (mB Lw_isTouched) 26 = .ok (.iconst 1, 1) := by decide +kernel
theorem dLw_isTouched_27 : decode (mB Lw_isTouched) 27 = .ok (.goto 4, 3) := by decide +kernel
theorem dLw_isTouched_30 : decode (mB Lw_isTouched) 30 = .ok (.iconst 0, 1) := by decide +kernel
theorem dLw_isTouched_31 : decode (mB Lw_isTouched) 31 = .ok (.istore_n 3, 1) := by decide +kernel
theorem dLw_isTouched_32 : decode (mB Lw_isTouched) 32 = .ok (.iconst 0, 1) := by decide +kernel
theorem dLw_isTouched_33 : decode (mB Lw_isTouched) 33 = .ok (.istore 4, 2) := by decide +kernel
theorem dLw_isTouched_35 : decode (mB Lw_isTouched) 35 = .ok (.iload 4, 2) := by decide +kernel
theorem dLw_isTouched_37 : decode (mB Lw_isTouched) 37 = .ok (.aload_n 1, 1) := by decide +kernel
theorem dLw_isTouched_38 : decode (mB Lw_isTouched) 38 = .ok (.iconst 0, 1) := by decide +kernel
theorem dLw_isTouched_39 : decode (mB Lw_isTouched) 39 = .ok (.iaload, 1) := by decide +kernel
theorem dLw_isTouched_40 : decode (mB Lw_isTouched) 40 = .ok (.if_icmp .ge 43, 3) := by decide +kernel
theorem dLw_isTouched_43 : decode (mB Lw_isTouched) 43 = .ok (.iload_n 3, 1) := by decide +kernel
theorem dLw_isTouched_44 : decode (mB Lw_isTouched) 44 = .ok (.ifCond .ne 27, 3) := by decide +kernel
theorem dLw_isTouched_47 : decode (mB Lw_isTouched) 47 = .ok (.aload_n 1, 1) := by decide +kernel
theorem dLw_isTouched_48 : decode (mB Lw_isTouched) 48 = .ok (.iload 4, 2) := by decide +kernel
theorem dLw_isTouched_50 : decode (mB Lw_isTouched) 50 = .ok (.invokestatic 16, 3) := by decide +kernel
theorem dLw_isTouched_53 : decode (mB Lw_isTouched) 53 = .ok (.iload_n 2, 1) := by decide +kernel
theorem dLw_isTouched_54 : decode (mB Lw_isTouched) 54 = .ok (.if_icmp .ne 21, 3) := by decide +kernel
theorem dLw_isTouched_57 : decode (mB Lw_isTouched) 57 = .ok (.aload_n 0, 1) := by decide +kernel
theorem dLw_isTouched_58 : decode (mB Lw_isTouched) 58 = .ok (.aload_n 1, 1) := by decide +kernel
theorem dLw_isTouched_59 : decode (mB Lw_isTouched) 59 = .ok (.iload 4, 2) := by decide +kernel
theorem dLw_isTouched_61 : decode (mB Lw_isTouched) 61 = .ok (.invokestatic 7, 3) := by decide +kernel
theorem dLw_isTouched_64 : decode (mB Lw_isTouched) 64 = .ok (.invokestatic 40, 3) := by decide +kernel
theorem dLw_isTouched_67 : decode (mB Lw_isTouched) 67 = .ok (.iload_n 2, 1) := by decide +kernel
theorem dLw_isTouched_68 : decode (mB Lw_isTouched) 68 = .ok (.if_icmp .eq 7, 3) := by decide +kernel
theorem dLw_isTouched_71 : decode (mB Lw_isTouched) 71 = .ok (.iconst 1, 1) := by decide +kernel
theorem dLw_isTouched_72 : decode (mB Lw_isTouched) 72 = .ok (.goto 4, 3) := by decide +kernel
theorem dLw_isTouched_75 : decode (mB Lw_isTouched) 75 = .ok (.iconst 0, 1) := by decide +kernel
theorem dLw_isTouched_76 : decode (mB Lw_isTouched) 76 = .ok (.istore_n 3, 1) := by decide +kernel
theorem dLw_isTouched_77 : decode (mB Lw_isTouched) 77 = .ok (.iinc 4 1, 3) := by decide +kernel
theorem dLw_isTouched_80 : decode (mB Lw_isTouched) 80 = .ok (.goto (-45), 3) := by decide +kernel
theorem dLw_isTouched_83 : decode (mB Lw_isTouched) 83 = .ok (.iload_n 3, 1) := by decide +kernel
theorem dLw_isTouched_84 : decode (mB Lw_isTouched) 84 = .ok (.ireturn, 1) := by decide +kernel
def b_Lw_isTouched_35 (R : Int32 → tpH → Prop) (Y : (Option Nat) → (Option Nat) → Int32 → Int32 → Int32 → tpH → Prop) (x0 : Option Nat) (x1 : Option Nat) (x2 : Int32) (x3 : Int32) (x4 : Int32) (h : tpH) : Prop :=
  ∃ a1, x1 = some a1 ∧ hT h a1 = 15 ∧ (vp_in (0 : Int32) (hL h a1) ∧ (((hI h a1 (0 : Int32).toNatClampNeg) ≤ x4 → (tpB x3 ∧ (R x3 h))) ∧ (¬ (hI h a1 (0 : Int32).toNatClampNeg) ≤ x4 → ((¬ x3 = 0 → (Y x0 x1 x2 (1 : Int32) (x4 + (1 : Int32)) h)) ∧ (x3 = 0 → (w_Lw_parent x1 x4 h (fun v9 h8 => (¬ v9 = x2 → (Y x0 x1 x2 (0 : Int32) (x4 + (1 : Int32)) h8)) ∧ (v9 = x2 → (w_Lw_mark x1 x4 h8 (fun v12 h11 => w_Lw_parentOf x0 v12 h11 (fun v14 h13 => (v14 = x2 → (Y x0 x1 x2 (0 : Int32) (x4 + (1 : Int32)) h13)) ∧ (¬ v14 = x2 → (Y x0 x1 x2 (1 : Int32) (x4 + (1 : Int32)) h13)))))))))))))
def w_Lw_isTouched_35 (R : Int32 → tpH → Prop) : Nat → (Option Nat) → (Option Nat) → Int32 → Int32 → Int32 → tpH → Prop
  | 0 => fun _ _ _ _ _ _ => False
  | n + 1 => b_Lw_isTouched_35 R (w_Lw_isTouched_35 R n)
def w_Lw_isTouched (x0 : Option Nat) (x1 : Option Nat) (x2 : Int32) (h : tpH) (R : Int32 → tpH → Prop) : Prop :=
  w_Lw_valueOf x0 x2 h (fun v2 h1 => w_Lw_valueOf x1 x2 h1 (fun v4 h3 => (¬ v2 = v4 → (∃ n, w_Lw_isTouched_35 R n x0 x1 x2 (1 : Int32) (0 : Int32) h3)) ∧ (v2 = v4 → (w_Lw_parentOf x0 x2 h3 (fun v7 h6 => w_Lw_parentOf x1 x2 h6 (fun v9 h8 => (v7 = v9 → (∃ n, w_Lw_isTouched_35 R n x0 x1 x2 (0 : Int32) (0 : Int32) h8)) ∧ (¬ v7 = v9 → (∃ n, w_Lw_isTouched_35 R n x0 x1 x2 (1 : Int32) (0 : Int32) h8))))))))
theorem s_Lw_isTouched_35 {h0 : tpH} {av : List tpV} {R : Int32 → tpH → Prop} : ∀ (n : Nat) (x0 : Option Nat) (x1 : Option Nat) (x2 : Int32) (x3 : Int32) (x4 : Int32) (h : tpH), w_Lw_isTouched_35 R n x0 x1 x2 x3 x4 h → tpR Lw_isTouched 3 h0 av (tpOi R (fun _ _ => False)) 35 [some (vR x0), some (vR x1), some (vI x2), some (vI x3), some (vI x4)] [] h := by
  intro n
  induction n with
  | zero => intro x0 x1 x2 x3 x4 h hw; exact False.elim hw
  | succ n ih =>
    intro x0 x1 x2 x3 x4 h hw
    change b_Lw_isTouched_35 R (w_Lw_isTouched_35 R n) x0 x1 x2 x3 x4 h at hw
    unfold b_Lw_isTouched_35 at hw
    refine tq_iload dLw_isTouched_35 rfl ?_
    refine tq_aload_n dLw_isTouched_37 rfl rfl ?_
    refine tq_iconst (v := (0 : Int32)) dLw_isTouched_38 tni_0 ?_
    obtain ⟨a1, e2, f3, hw⟩ := hw
    obtain ⟨f4, hw⟩ := hw
    refine te_iald dLw_isTouched_39 e2 (Or.inl f3) f4 ?_
    refine tq_icmpge (tgt := 83) dLw_isTouched_40 (by decide) (fun c5 => ?_) (fun c5 => ?_)
    · have hw := hw.1 c5
      refine tq_iload_n dLw_isTouched_83 rfl rfl ?_
      obtain ⟨f6, hw⟩ := hw
      exact tq_iret rfl (tpB_n f6) dLw_isTouched_84 hw
    · have hw := hw.2 c5
      refine tq_iload_n dLw_isTouched_43 rfl rfl ?_
      refine tq_ifne (tgt := 71) dLw_isTouched_44 (by decide) (fun c7 => ?_) (fun c7 => ?_)
      · have hw := hw.1 c7
        refine tq_iconst (v := (1 : Int32)) dLw_isTouched_71 tni_1 ?_
        refine tq_goto (tgt := 76) dLw_isTouched_72 (by decide) ?_
        refine tq_istore_n (ls' := [some (vR x0), some (vR x1), some (vI x2), some (vI (1 : Int32)), some (vI x4)]) dLw_isTouched_76 rfl (Nat.le_of_ble_eq_true rfl) rfl ?_
        refine tq_inc (k := (1 : Int32)) (ls' := [some (vR x0), some (vR x1), some (vI x2), some (vI (1 : Int32)), some (vI (x4 + (1 : Int32)))]) dLw_isTouched_77 rfl tni_1 (Nat.le_of_ble_eq_true rfl) rfl ?_
        refine tq_goto (tgt := 35) dLw_isTouched_80 (by decide) ?_
        refine tpR.fo (ls' := [some (vR x0), some (vR x1), some (vI x2), some (vI (1 : Int32)), some (vI (x4 + (1 : Int32)))]) ?_ (And.intro rfl (And.intro rfl (And.intro rfl (And.intro rfl (And.intro rfl trivial)))))
        exact ih _ _ _ _ _ _ hw
      · have hw := hw.2 c7
        refine tq_aload_n dLw_isTouched_47 rfl rfl ?_
        refine tq_iload dLw_isTouched_48 rfl ?_
        refine tq_callS ms_Lw_parent (dc := 0) (as := [vR x1, vI x4]) (rest := []) kLw_16 (Nat.le_of_ble_eq_true rfl) (Nat.le_of_ble_eq_true rfl) rfl rfl (Nat.le_of_ble_eq_true rfl) dLw_isTouched_50 (s_Lw_parent hw) (fun _ _ hx => False.elim hx) (tk_i fun v9 h8 hw => ?_)
        refine tq_iload_n dLw_isTouched_53 rfl rfl ?_
        refine tq_icmpne (tgt := 75) dLw_isTouched_54 (by decide) (fun c10 => ?_) (fun c10 => ?_)
        · have hw := hw.1 c10
          refine tq_iconst (v := (0 : Int32)) dLw_isTouched_75 tni_0 ?_
          refine tq_istore_n (ls' := [some (vR x0), some (vR x1), some (vI x2), some (vI (0 : Int32)), some (vI x4)]) dLw_isTouched_76 rfl (Nat.le_of_ble_eq_true rfl) rfl ?_
          refine tq_inc (k := (1 : Int32)) (ls' := [some (vR x0), some (vR x1), some (vI x2), some (vI (0 : Int32)), some (vI (x4 + (1 : Int32)))]) dLw_isTouched_77 rfl tni_1 (Nat.le_of_ble_eq_true rfl) rfl ?_
          refine tq_goto (tgt := 35) dLw_isTouched_80 (by decide) ?_
          refine tpR.fo (ls' := [some (vR x0), some (vR x1), some (vI x2), some (vI (0 : Int32)), some (vI (x4 + (1 : Int32)))]) ?_ (And.intro rfl (And.intro rfl (And.intro rfl (And.intro rfl (And.intro rfl trivial)))))
          exact ih _ _ _ _ _ _ hw
        · have hw := hw.2 c10
          refine tq_aload_n dLw_isTouched_57 rfl rfl ?_
          refine tq_aload_n dLw_isTouched_58 rfl rfl ?_
          refine tq_iload dLw_isTouched_59 rfl ?_
          refine tq_callS ms_Lw_mark (dc := 0) (as := [vR x1, vI x4]) (rest := [vR x0]) kLw_7 (Nat.le_of_ble_eq_true rfl) (Nat.le_of_ble_eq_true rfl) rfl rfl (Nat.le_of_ble_eq_true rfl) dLw_isTouched_61 (s_Lw_mark hw) (fun _ _ hx => False.elim hx) (tk_i fun v12 h11 hw => ?_)
          refine tq_callS ms_Lw_parentOf (dc := 2) (as := [vR x0, vI v12]) (rest := []) kLw_40 (Nat.le_of_ble_eq_true rfl) (Nat.le_of_ble_eq_true rfl) rfl rfl (Nat.le_of_ble_eq_true rfl) dLw_isTouched_64 (s_Lw_parentOf hw) (fun _ _ hx => False.elim hx) (tk_i fun v14 h13 hw => ?_)
          refine tq_iload_n dLw_isTouched_67 rfl rfl ?_
          refine tq_icmpeq (tgt := 75) dLw_isTouched_68 (by decide) (fun c15 => ?_) (fun c15 => ?_)
          · have hw := hw.1 c15
            refine tq_iconst (v := (0 : Int32)) dLw_isTouched_75 tni_0 ?_
            refine tq_istore_n (ls' := [some (vR x0), some (vR x1), some (vI x2), some (vI (0 : Int32)), some (vI x4)]) dLw_isTouched_76 rfl (Nat.le_of_ble_eq_true rfl) rfl ?_
            refine tq_inc (k := (1 : Int32)) (ls' := [some (vR x0), some (vR x1), some (vI x2), some (vI (0 : Int32)), some (vI (x4 + (1 : Int32)))]) dLw_isTouched_77 rfl tni_1 (Nat.le_of_ble_eq_true rfl) rfl ?_
            refine tq_goto (tgt := 35) dLw_isTouched_80 (by decide) ?_
            refine tpR.fo (ls' := [some (vR x0), some (vR x1), some (vI x2), some (vI (0 : Int32)), some (vI (x4 + (1 : Int32)))]) ?_ (And.intro rfl (And.intro rfl (And.intro rfl (And.intro rfl (And.intro rfl trivial)))))
            exact ih _ _ _ _ _ _ hw
          · have hw := hw.2 c15
            refine tq_iconst (v := (1 : Int32)) dLw_isTouched_71 tni_1 ?_
            refine tq_goto (tgt := 76) dLw_isTouched_72 (by decide) ?_
            refine tq_istore_n (ls' := [some (vR x0), some (vR x1), some (vI x2), some (vI (1 : Int32)), some (vI x4)]) dLw_isTouched_76 rfl (Nat.le_of_ble_eq_true rfl) rfl ?_
            refine tq_inc (k := (1 : Int32)) (ls' := [some (vR x0), some (vR x1), some (vI x2), some (vI (1 : Int32)), some (vI (x4 + (1 : Int32)))]) dLw_isTouched_77 rfl tni_1 (Nat.le_of_ble_eq_true rfl) rfl ?_
            refine tq_goto (tgt := 35) dLw_isTouched_80 (by decide) ?_
            refine tpR.fo (ls' := [some (vR x0), some (vR x1), some (vI x2), some (vI (1 : Int32)), some (vI (x4 + (1 : Int32)))]) ?_ (And.intro rfl (And.intro rfl (And.intro rfl (And.intro rfl (And.intro rfl trivial)))))
            exact ih _ _ _ _ _ _ hw
theorem s_Lw_isTouched {x0 : Option Nat} {x1 : Option Nat} {x2 : Int32} {h : tpH} {R : Int32 → tpH → Prop} (hw : w_Lw_isTouched x0 x1 x2 h R) : tpC Lw_isTouched 3 [vR x0, vR x1, vI x2] h (tpOi R (fun _ _ => False)) := by
  refine tpC_of ms_Lw_isTouched.2.2.2.1 rfl rfl (Nat.le_of_ble_eq_true rfl) ?_
  show tpR Lw_isTouched 3 h _ _ 0 [some (vR x0), some (vR x1), some (vI x2), none, none] [] h
  unfold w_Lw_isTouched at hw
  refine tq_aload_n dLw_isTouched_0 rfl rfl ?_
  refine tq_iload_n dLw_isTouched_1 rfl rfl ?_
  refine tq_callS ms_Lw_valueOf (dc := 2) (as := [vR x0, vI x2]) (rest := []) kLw_86 (Nat.le_of_ble_eq_true rfl) (Nat.le_of_ble_eq_true rfl) rfl rfl (Nat.le_of_ble_eq_true rfl) dLw_isTouched_2 (s_Lw_valueOf hw) (fun _ _ hx => False.elim hx) (tk_i fun v2 h1 hw => ?_)
  refine tq_aload_n dLw_isTouched_5 rfl rfl ?_
  refine tq_iload_n dLw_isTouched_6 rfl rfl ?_
  refine tq_callS ms_Lw_valueOf (dc := 2) (as := [vR x1, vI x2]) (rest := [vI v2]) kLw_86 (Nat.le_of_ble_eq_true rfl) (Nat.le_of_ble_eq_true rfl) rfl rfl (Nat.le_of_ble_eq_true rfl) dLw_isTouched_7 (s_Lw_valueOf hw) (fun _ _ hx => False.elim hx) (tk_i fun v4 h3 hw => ?_)
  refine tq_icmpne (tgt := 26) dLw_isTouched_10 (by decide) (fun c5 => ?_) (fun c5 => ?_)
  · have hw := hw.1 c5
    refine tq_iconst (v := (1 : Int32)) dLw_isTouched_26 tni_1 ?_
    refine tq_goto (tgt := 31) dLw_isTouched_27 (by decide) ?_
    refine tq_istore_n (ls' := [some (vR x0), some (vR x1), some (vI x2), some (vI (1 : Int32)), none]) dLw_isTouched_31 rfl (Nat.le_of_ble_eq_true rfl) rfl ?_
    refine tq_iconst (v := (0 : Int32)) dLw_isTouched_32 tni_0 ?_
    refine tq_istore (ls' := [some (vR x0), some (vR x1), some (vI x2), some (vI (1 : Int32)), some (vI (0 : Int32))]) dLw_isTouched_33 (Nat.le_of_ble_eq_true rfl) rfl ?_
    refine tpR.fo (ls' := [some (vR x0), some (vR x1), some (vI x2), some (vI (1 : Int32)), some (vI (0 : Int32))]) ?_ (And.intro rfl (And.intro rfl (And.intro rfl (And.intro rfl (And.intro rfl trivial)))))
    obtain ⟨n, hw⟩ := hw
    exact s_Lw_isTouched_35 n _ _ _ _ _ _ hw
  · have hw := hw.2 c5
    refine tq_aload_n dLw_isTouched_13 rfl rfl ?_
    refine tq_iload_n dLw_isTouched_14 rfl rfl ?_
    refine tq_callS ms_Lw_parentOf (dc := 2) (as := [vR x0, vI x2]) (rest := []) kLw_40 (Nat.le_of_ble_eq_true rfl) (Nat.le_of_ble_eq_true rfl) rfl rfl (Nat.le_of_ble_eq_true rfl) dLw_isTouched_15 (s_Lw_parentOf hw) (fun _ _ hx => False.elim hx) (tk_i fun v7 h6 hw => ?_)
    refine tq_aload_n dLw_isTouched_18 rfl rfl ?_
    refine tq_iload_n dLw_isTouched_19 rfl rfl ?_
    refine tq_callS ms_Lw_parentOf (dc := 2) (as := [vR x1, vI x2]) (rest := [vI v7]) kLw_40 (Nat.le_of_ble_eq_true rfl) (Nat.le_of_ble_eq_true rfl) rfl rfl (Nat.le_of_ble_eq_true rfl) dLw_isTouched_20 (s_Lw_parentOf hw) (fun _ _ hx => False.elim hx) (tk_i fun v9 h8 hw => ?_)
    refine tq_icmpeq (tgt := 30) dLw_isTouched_23 (by decide) (fun c10 => ?_) (fun c10 => ?_)
    · have hw := hw.1 c10
      refine tq_iconst (v := (0 : Int32)) dLw_isTouched_30 tni_0 ?_
      refine tq_istore_n (ls' := [some (vR x0), some (vR x1), some (vI x2), some (vI (0 : Int32)), none]) dLw_isTouched_31 rfl (Nat.le_of_ble_eq_true rfl) rfl ?_
      refine tq_iconst (v := (0 : Int32)) dLw_isTouched_32 tni_0 ?_
      refine tq_istore (ls' := [some (vR x0), some (vR x1), some (vI x2), some (vI (0 : Int32)), some (vI (0 : Int32))]) dLw_isTouched_33 (Nat.le_of_ble_eq_true rfl) rfl ?_
      refine tpR.fo (ls' := [some (vR x0), some (vR x1), some (vI x2), some (vI (0 : Int32)), some (vI (0 : Int32))]) ?_ (And.intro rfl (And.intro rfl (And.intro rfl (And.intro rfl (And.intro rfl trivial)))))
      obtain ⟨n, hw⟩ := hw
      exact s_Lw_isTouched_35 n _ _ _ _ _ _ hw
    · have hw := hw.2 c10
      refine tq_iconst (v := (1 : Int32)) dLw_isTouched_26 tni_1 ?_
      refine tq_goto (tgt := 31) dLw_isTouched_27 (by decide) ?_
      refine tq_istore_n (ls' := [some (vR x0), some (vR x1), some (vI x2), some (vI (1 : Int32)), none]) dLw_isTouched_31 rfl (Nat.le_of_ble_eq_true rfl) rfl ?_
      refine tq_iconst (v := (0 : Int32)) dLw_isTouched_32 tni_0 ?_
      refine tq_istore (ls' := [some (vR x0), some (vR x1), some (vI x2), some (vI (1 : Int32)), some (vI (0 : Int32))]) dLw_isTouched_33 (Nat.le_of_ble_eq_true rfl) rfl ?_
      refine tpR.fo (ls' := [some (vR x0), some (vR x1), some (vI x2), some (vI (1 : Int32)), some (vI (0 : Int32))]) ?_ (And.intro rfl (And.intro rfl (And.intro rfl (And.intro rfl (And.intro rfl trivial)))))
      obtain ⟨n, hw⟩ := hw
      exact s_Lw_isTouched_35 n _ _ _ _ _ _ hw
/-! TLaw.comes -/
theorem dLw_comes_0 : decode (mB Lw_comes) 0 = .ok (.aload_n 0, 1) := by decide +kernel
theorem dLw_comes_1 : decode (mB Lw_comes) 1 = .ok (.iload 5, 2) := by decide +kernel
theorem dLw_comes_3 : decode (mB Lw_comes) 3 = .ok (.invokestatic 13, 3) := by decide +kernel
theorem dLw_comes_6 : decode (mB Lw_comes) 6 = .ok (.ifCond .lt 7, 3) := by decide +kernel
theorem dLw_comes_9 : decode (mB Lw_comes) 9 = .ok (.iconst 1, 1) := by decide +kernel
theorem dLw_comes_10 : decode (mB Lw_comes) 10 = .ok (.goto 4, 3) := by decide +kernel
theorem dLw_comes_13 : decode (mB Lw_comes) 13 = .ok (.iconst 0, 1) := by decide +kernel
theorem dLw_comes_14 : decode (mB Lw_comes) 14 = .ok (.istore 6, 2) := by decide +kernel
theorem dLw_comes_16 : decode (mB Lw_comes) 16 = .ok (.aload_n 1, 1) := by decide +kernel
theorem dLw_comes_17 : decode (mB Lw_comes) 17 = .ok (.iload 5, 2) := by decide +kernel
theorem dLw_comes_19 : decode (mB Lw_comes) 19 = .ok (.invokestatic 13, 3) := by decide +kernel
theorem dLw_comes_22 : decode (mB Lw_comes) 22 = .ok (.ifCond .lt 7, 3) := by decide +kernel
theorem dLw_comes_25 : decode (mB Lw_comes) 25 = .ok (.iconst 1, 1) := by decide +kernel
theorem dLw_comes_26 : decode (mB Lw_comes) 26 = .ok (.goto 4, 3) := by decide +kernel
theorem dLw_comes_29 : decode (mB Lw_comes) 29 = .ok (.iconst 0, 1) := by decide +kernel
theorem dLw_comes_30 : decode (mB Lw_comes) 30 = .ok (.istore 7, 2) := by decide +kernel
theorem dLw_comes_32 : decode (mB Lw_comes) 32 = .ok (.aload_n 2, 1) := by decide +kernel
theorem dLw_comes_33 : decode (mB Lw_comes) 33 = .ok (.iload 5, 2) := by decide +kernel
theorem dLw_comes_35 : decode (mB Lw_comes) 35 = .ok (.invokestatic 13, 3) := by decide +kernel
theorem dLw_comes_38 : decode (mB Lw_comes) 38 = .ok (.ifCond .lt 7, 3) := by decide +kernel
theorem dLw_comes_41 : decode (mB Lw_comes) 41 = .ok (.iconst 1, 1) := by decide +kernel
theorem dLw_comes_42 : decode (mB Lw_comes) 42 = .ok (.goto 4, 3) := by decide +kernel
theorem dLw_comes_45 : decode (mB Lw_comes) 45 = .ok (.iconst 0, 1) := by decide +kernel
theorem dLw_comes_46 : decode (mB Lw_comes) 46 = .ok (.istore 8, 2) := by decide +kernel
theorem dLw_comes_48 : decode (mB Lw_comes) 48 = .ok (.iload 7, 2) := by decide +kernel
theorem dLw_comes_50 : decode (mB Lw_comes) 50 = .ok (.ifCond .ne 10, 3) := by decide +kernel
theorem dLw_comes_53 : decode (mB Lw_comes) 53 = .ok (.iload 8, 2) := by decide +kernel
theorem dLw_comes_55 : decode (mB Lw_comes) 55 = .ok (.ifCond .ne 5, 3) := by decide +kernel
theorem dLw_comes_58 : decode (mB Lw_comes) 58 = .ok (.iconst (-1), 1) := by decide +kernel
theorem dLw_comes_59 : decode (mB Lw_comes) 59 = .ok (.ireturn, 1) := by decide +kernel
theorem dLw_comes_60 : decode (mB Lw_comes) 60 = .ok (.iload 7, 2) := by decide +kernel
theorem dLw_comes_62 : decode (mB Lw_comes) 62 = .ok (.ifCond .eq 87, 3) := by decide +kernel
theorem dLw_comes_65 : decode (mB Lw_comes) 65 = .ok (.iload 8, 2) := by decide +kernel
theorem dLw_comes_67 : decode (mB Lw_comes) 67 = .ok (.ifCond .eq 82, 3) := by decide +kernel
theorem dLw_comes_70 : decode (mB Lw_comes) 70 = .ok (.aload_n 3, 1) := by decide +kernel
theorem dLw_comes_71 : decode (mB Lw_comes) 71 = .ok (.aload 4, 2) := by decide +kernel
theorem dLw_comes_73 : decode (mB Lw_comes) 73 = .ok (.iconst 1, 1) := by decide +kernel
theorem dLw_comes_74 : decode (mB Lw_comes) 74 = .ok (.iload 5, 2) := by decide +kernel
theorem dLw_comes_76 : decode (mB Lw_comes) 76 = .ok (.aload_n 0, 1) := by decide +kernel
theorem dLw_comes_77 : decode (mB Lw_comes) 77 = .ok (.iload 5, 2) := by decide +kernel
theorem dLw_comes_79 : decode (mB Lw_comes) 79 = .ok (.invokestatic 86, 3) := by decide +kernel
theorem dLw_comes_82 : decode (mB Lw_comes) 82 = .ok (.aload_n 1, 1) := by decide +kernel
theorem dLw_comes_83 : decode (mB Lw_comes) 83 = .ok (.iload 5, 2) := by decide +kernel
theorem dLw_comes_85 : decode (mB Lw_comes) 85 = .ok (.invokestatic 86, 3) := by decide +kernel
theorem dLw_comes_88 : decode (mB Lw_comes) 88 = .ok (.aload_n 2, 1) := by decide +kernel
theorem dLw_comes_89 : decode (mB Lw_comes) 89 = .ok (.iload 5, 2) := by decide +kernel
theorem dLw_comes_91 : decode (mB Lw_comes) 91 = .ok (.invokestatic 86, 3) := by decide +kernel
theorem dLw_comes_94 : decode (mB Lw_comes) 94 = .ok (.iconst (-1), 1) := by decide +kernel
theorem dLw_comes_95 : decode (mB Lw_comes) 95 = .ok (.invokestatic 93, 3) := by decide +kernel
theorem dLw_comes_98 : decode (mB Lw_comes) 98 = .ok (.istore 9, 2) := by decide +kernel
theorem dLw_comes_100 : decode (mB Lw_comes) 100 = .ok (.aload_n 3, 1) := by decide +kernel
theorem dLw_comes_101 : decode (mB Lw_comes) 101 = .ok (.aload 4, 2) := by decide +kernel
theorem dLw_comes_103 : decode (mB Lw_comes) 103 = .ok (.iconst 2, 1) := by decide +kernel
theorem dLw_comes_104 : decode (mB Lw_comes) 104 = .ok (.iload 5, 2) := by decide +kernel
theorem dLw_comes_106 : decode (mB Lw_comes) 106 = .ok (.aload_n 0, 1) := by decide +kernel
theorem dLw_comes_107 : decode (mB Lw_comes) 107 = .ok (.iload 5, 2) := by decide +kernel
theorem dLw_comes_109 : decode (mB Lw_comes) 109 = .ok (.invokestatic 40, 3) := by decide +kernel
theorem dLw_comes_112 : decode (mB Lw_comes) 112 = .ok (.aload_n 1, 1) := by decide +kernel
theorem dLw_comes_113 : decode (mB Lw_comes) 113 = .ok (.iload 5, 2) := by decide +kernel
theorem dLw_comes_115 : decode (mB Lw_comes) 115 = .ok (.invokestatic 40, 3) := by decide +kernel
theorem dLw_comes_118 : decode (mB Lw_comes) 118 = .ok (.aload_n 2, 1) := by decide +kernel
theorem dLw_comes_119 : decode (mB Lw_comes) 119 = .ok (.iload 5, 2) := by decide +kernel
theorem dLw_comes_121 : decode (mB Lw_comes) 121 = .ok (.invokestatic 40, 3) := by decide +kernel
theorem dLw_comes_124 : decode (mB Lw_comes) 124 = .ok (.bipush (-2), 2) := by decide +kernel
theorem dLw_comes_126 : decode (mB Lw_comes) 126 = .ok (.invokestatic 93, 3) := by decide +kernel
theorem dLw_comes_129 : decode (mB Lw_comes) 129 = .ok (.istore 10, 2) := by decide +kernel
theorem dLw_comes_131 : decode (mB Lw_comes) 131 = .ok (.iload 5, 2) := by decide +kernel
theorem dLw_comes_133 : decode (mB Lw_comes) 133 = .ok (.bipush 64, 2) := by decide +kernel
theorem dLw_comes_135 : decode (mB Lw_comes) 135 = .ok (.iload 9, 2) := by decide +kernel
theorem dLw_comes_137 : decode (mB Lw_comes) 137 = .ok (.imul, 1) := by decide +kernel
theorem dLw_comes_138 : decode (mB Lw_comes) 138 = .ok (.iadd, 1) := by decide +kernel
theorem dLw_comes_139 : decode (mB Lw_comes) 139 = .ok (.sipush 8192, 3) := by decide +kernel
theorem dLw_comes_142 : decode (mB Lw_comes) 142 = .ok (.iload 10, 2) := by decide +kernel
theorem dLw_comes_144 : decode (mB Lw_comes) 144 = .ok (.iconst 1, 1) := by decide +kernel
theorem dLw_comes_145 : decode (mB Lw_comes) 145 = .ok (.iadd, 1) := by decide +kernel
theorem dLw_comes_146 : decode (mB Lw_comes) 146 = .ok (.imul, 1) := by decide +kernel
theorem dLw_comes_147 : decode (mB Lw_comes) 147 = .ok (.iadd, 1) := by decide +kernel
theorem dLw_comes_148 : decode (mB Lw_comes) 148 = .ok (.ireturn, 1) := by decide +kernel
theorem dLw_comes_149 : decode (mB Lw_comes) 149 = .ok (.iload 6, 2) := by decide +kernel
theorem dLw_comes_151 : decode (mB Lw_comes) 151 = .ok (.ifCond .eq 60, 3) := by decide +kernel
theorem dLw_comes_154 : decode (mB Lw_comes) 154 = .ok (.aload_n 0, 1) := by decide +kernel
theorem dLw_comes_155 : decode (mB Lw_comes) 155 = .ok (.iload 7, 2) := by decide +kernel
theorem dLw_comes_157 : decode (mB Lw_comes) 157 = .ok (.ifCond .eq 7, 3) := by decide +kernel
theorem dLw_comes_160 : decode (mB Lw_comes) 160 = .ok (.aload_n 1, 1) := by decide +kernel
theorem dLw_comes_161 : decode (mB Lw_comes) 161 = .ok (.goto 4, 3) := by decide +kernel
theorem dLw_comes_164 : decode (mB Lw_comes) 164 = .ok (.aload_n 2, 1) := by decide +kernel
theorem dLw_comes_165 : decode (mB Lw_comes) 165 = .ok (.iload 5, 2) := by decide +kernel
theorem dLw_comes_167 : decode (mB Lw_comes) 167 = .ok (.invokestatic 97, 3) := by decide +kernel
theorem dLw_comes_170 : decode (mB Lw_comes) 170 = .ok (.ifCond .ne 5, 3) := by decide +kernel
theorem dLw_comes_173 : decode (mB Lw_comes) 173 = .ok (.iconst (-1), 1) := by decide +kernel
theorem dLw_comes_174 : decode (mB Lw_comes) 174 = .ok (.ireturn, 1) := by decide +kernel
theorem dLw_comes_175 : decode (mB Lw_comes) 175 = .ok (.aload_n 3, 1) := by decide +kernel
theorem dLw_comes_176 : decode (mB Lw_comes) 176 = .ok (.bipush 8, 2) := by decide +kernel
theorem dLw_comes_178 : decode (mB Lw_comes) 178 = .ok (.iload 5, 2) := by decide +kernel
theorem dLw_comes_180 : decode (mB Lw_comes) 180 = .ok (.imul, 1) := by decide +kernel
theorem dLw_comes_181 : decode (mB Lw_comes) 181 = .ok (.invokestatic 89, 3) := by decide +kernel
theorem dLw_comes_184 : decode (mB Lw_comes) 184 = .ok (.aload 4, 2) := by decide +kernel
theorem dLw_comes_186 : decode (mB Lw_comes) 186 = .ok (.iconst 0, 1) := by decide +kernel
theorem dLw_comes_187 : decode (mB Lw_comes) 187 = .ok (.iaload, 1) := by decide +kernel
theorem dLw_comes_188 : decode (mB Lw_comes) 188 = .ok (.ifCond .eq 23, 3) := by decide +kernel
theorem dLw_comes_191 : decode (mB Lw_comes) 191 = .ok (.aload 4, 2) := by decide +kernel
theorem dLw_comes_193 : decode (mB Lw_comes) 193 = .ok (.iconst 0, 1) := by decide +kernel
theorem dLw_comes_194 : decode (mB Lw_comes) 194 = .ok (.iaload, 1) := by decide +kernel
theorem dLw_comes_195 : decode (mB Lw_comes) 195 = .ok (.iconst 1, 1) := by decide +kernel
theorem dLw_comes_196 : decode (mB Lw_comes) 196 = .ok (.if_icmp .ne 7, 3) := by decide +kernel
theorem dLw_comes_199 : decode (mB Lw_comes) 199 = .ok (.iconst 1, 1) := by decide +kernel
theorem dLw_comes_200 : decode (mB Lw_comes) 200 = .ok (.goto 4, 3) := by decide +kernel
theorem dLw_comes_203 : decode (mB Lw_comes) 203 = .ok (.iconst 0, 1) := by decide +kernel
theorem dLw_comes_204 : decode (mB Lw_comes) 204 = .ok (.iload 7, 2) := by decide +kernel
theorem dLw_comes_206 : decode (mB Lw_comes) 206 = .ok (.if_icmp .eq 5, 3) := by decide +kernel
theorem dLw_comes_209 : decode (mB Lw_comes) 209 = .ok (.iconst (-1), 1) := by decide +kernel
theorem dLw_comes_210 : decode (mB Lw_comes) 210 = .ok (.ireturn, 1) := by decide +kernel
theorem dLw_comes_211 : decode (mB Lw_comes) 211 = .ok (.iload 5, 2) := by decide +kernel
theorem dLw_comes_213 : decode (mB Lw_comes) 213 = .ok (.bipush 64, 2) := by decide +kernel
theorem dLw_comes_215 : decode (mB Lw_comes) 215 = .ok (.iload 7, 2) := by decide +kernel
theorem dLw_comes_217 : decode (mB Lw_comes) 217 = .ok (.ifCond .eq 7, 3) := by decide +kernel
theorem dLw_comes_220 : decode (mB Lw_comes) 220 = .ok (.aload_n 1, 1) := by decide +kernel
theorem dLw_comes_221 : decode (mB Lw_comes) 221 = .ok (.goto 4, 3) := by decide +kernel
theorem dLw_comes_224 : decode (mB Lw_comes) 224 = .ok (.aload_n 2, 1) := by decide +kernel
theorem dLw_comes_225 : decode (mB Lw_comes) 225 = .ok (.iload 5, 2) := by decide +kernel
theorem dLw_comes_227 : decode (mB Lw_comes) 227 = .ok (.invokestatic 86, 3) := by decide +kernel
theorem dLw_comes_230 : decode (mB Lw_comes) 230 = .ok (.imul, 1) := by decide +kernel
theorem dLw_comes_231 : decode (mB Lw_comes) 231 = .ok (.iadd, 1) := by decide +kernel
theorem dLw_comes_232 : decode (mB Lw_comes) 232 = .ok (.sipush 8192, 3) := by decide +kernel
theorem dLw_comes_235 : decode (mB Lw_comes) 235 = .ok (.iload 7, 2) := by decide +kernel
theorem dLw_comes_237 : decode (mB Lw_comes) 237 = .ok (.ifCond .eq 7, 3) := by decide +kernel
theorem dLw_comes_240 : decode (mB Lw_comes) 240 = .ok (.aload_n 1, 1) := by decide +kernel
theorem dLw_comes_241 : decode (mB Lw_comes) 241 = .ok (.goto 4, 3) := by decide +kernel
theorem dLw_comes_244 : decode (mB Lw_comes) 244 = .ok (.aload_n 2, 1) := by decide +kernel
theorem dLw_comes_245 : decode (mB Lw_comes) 245 = .ok (.iload 5, 2) := by decide +kernel
theorem dLw_comes_247 : decode (mB Lw_comes) 247 = .ok (.invokestatic 40, 3) := by decide +kernel
theorem dLw_comes_250 : decode (mB Lw_comes) 250 = .ok (.iconst 1, 1) := by decide +kernel
theorem dLw_comes_251 : decode (mB Lw_comes) 251 = .ok (.iadd, 1) := by decide +kernel
theorem dLw_comes_252 : decode (mB Lw_comes) 252 = .ok (.imul, 1) := by decide +kernel
theorem dLw_comes_253 : decode (mB Lw_comes) 253 = .ok (.iadd, 1) := by decide +kernel
theorem dLw_comes_254 : decode (mB Lw_comes) 254 = .ok (.ireturn, 1) := by decide +kernel
def w_Lw_comes_204 (R : Int32 → tpH → Prop) (K211 : (Option Nat) → (Option Nat) → Int32 → Int32 → tpH → Prop) (x1 : Option Nat) (x2 : Option Nat) (x5 : Int32) (x7 : Int32) (t0 : Int32) (h : tpH) : Prop :=
  (t0 = x7 → (K211 x1 x2 x5 x7 h)) ∧ (¬ t0 = x7 → (R (-1 : Int32) h))
def w_Lw_comes_165 (R : Int32 → tpH → Prop) (K211 : (Option Nat) → (Option Nat) → Int32 → Int32 → tpH → Prop) (x1 : Option Nat) (x2 : Option Nat) (x3 : Option Nat) (x4 : Option Nat) (x5 : Int32) (x7 : Int32) (t0 : Option Nat) (t1 : Option Nat) (h : tpH) : Prop :=
  w_Lw_isTouched t1 t0 x5 h (fun v2 h1 => (¬ v2 = 0 → (w_Lw_adds x3 ((8 : Int32) * x5) h1 (fun h4 => ∃ a5, x4 = some a5 ∧ hT h4 a5 = 15 ∧ (vp_in (0 : Int32) (hL h4 a5) ∧ (((hI h4 a5 (0 : Int32).toNatClampNeg) = 0 → (K211 x1 x2 x5 x7 h4)) ∧ (¬ (hI h4 a5 (0 : Int32).toNatClampNeg) = 0 → (vp_in (0 : Int32) (hL h4 a5) ∧ ((¬ (hI h4 a5 (0 : Int32).toNatClampNeg) = (1 : Int32) → (w_Lw_comes_204 R K211 x1 x2 x5 x7 (0 : Int32) h4)) ∧ ((hI h4 a5 (0 : Int32).toNatClampNeg) = (1 : Int32) → (w_Lw_comes_204 R K211 x1 x2 x5 x7 (1 : Int32) h4)))))))))) ∧ (v2 = 0 → (R (-1 : Int32) h1)))
def w_Lw_comes_245 (R : Int32 → tpH → Prop) (x5 : Int32) (t0 : Option Nat) (t1 : Int32) (t2 : Int32) (h : tpH) : Prop :=
  w_Lw_parentOf t0 x5 h (fun v2 h1 => R (t2 + (t1 * (v2 + (1 : Int32)))) h1)
def w_Lw_comes_225 (R : Int32 → tpH → Prop) (x1 : Option Nat) (x2 : Option Nat) (x5 : Int32) (x7 : Int32) (t0 : Option Nat) (t1 : Int32) (t2 : Int32) (h : tpH) : Prop :=
  w_Lw_valueOf t0 x5 h (fun v2 h1 => (x7 = 0 → (w_Lw_comes_245 R x5 x2 (8192 : Int32) (t2 + (t1 * v2)) h1)) ∧ (¬ x7 = 0 → (w_Lw_comes_245 R x5 x1 (8192 : Int32) (t2 + (t1 * v2)) h1)))
def w_Lw_comes_211 (R : Int32 → tpH → Prop) (x1 : Option Nat) (x2 : Option Nat) (x5 : Int32) (x7 : Int32) (h : tpH) : Prop :=
  (x7 = 0 → (w_Lw_comes_225 R x1 x2 x5 x7 x2 (64 : Int32) x5 h)) ∧ (¬ x7 = 0 → (w_Lw_comes_225 R x1 x2 x5 x7 x1 (64 : Int32) x5 h))
def w_Lw_comes_149 (R : Int32 → tpH → Prop) (x0 : Option Nat) (x1 : Option Nat) (x2 : Option Nat) (x3 : Option Nat) (x4 : Option Nat) (x5 : Int32) (x6 : Int32) (x7 : Int32) (h : tpH) : Prop :=
  (x6 = 0 → (w_Lw_comes_211 R x1 x2 x5 x7 h)) ∧ (¬ x6 = 0 → ((x7 = 0 → (w_Lw_comes_165 R (w_Lw_comes_211 R) x1 x2 x3 x4 x5 x7 x2 x0 h)) ∧ (¬ x7 = 0 → (w_Lw_comes_165 R (w_Lw_comes_211 R) x1 x2 x3 x4 x5 x7 x1 x0 h))))
def w_Lw_comes_60 (R : Int32 → tpH → Prop) (x0 : Option Nat) (x1 : Option Nat) (x2 : Option Nat) (x3 : Option Nat) (x4 : Option Nat) (x5 : Int32) (x6 : Int32) (x7 : Int32) (x8 : Int32) (h : tpH) : Prop :=
  (x7 = 0 → (w_Lw_comes_149 R x0 x1 x2 x3 x4 x5 x6 x7 h)) ∧ (¬ x7 = 0 → ((x8 = 0 → (w_Lw_comes_149 R x0 x1 x2 x3 x4 x5 x6 x7 h)) ∧ (¬ x8 = 0 → (w_Lw_valueOf x0 x5 h (fun v4 h3 => w_Lw_valueOf x1 x5 h3 (fun v6 h5 => w_Lw_valueOf x2 x5 h5 (fun v8 h7 => w_Lw_decided x3 x4 (1 : Int32) x5 v4 v6 v8 (-1 : Int32) h7 (fun v10 h9 => w_Lw_parentOf x0 x5 h9 (fun v12 h11 => w_Lw_parentOf x1 x5 h11 (fun v14 h13 => w_Lw_parentOf x2 x5 h13 (fun v16 h15 => w_Lw_decided x3 x4 (2 : Int32) x5 v12 v14 v16 (-2 : Int32) h15 (fun v18 h17 => R ((x5 + ((64 : Int32) * v10)) + ((8192 : Int32) * (v18 + (1 : Int32)))) h17))))))))))))
def w_Lw_comes_46 (R : Int32 → tpH → Prop) (x0 : Option Nat) (x1 : Option Nat) (x2 : Option Nat) (x3 : Option Nat) (x4 : Option Nat) (x5 : Int32) (x6 : Int32) (x7 : Int32) (t0 : Int32) (h : tpH) : Prop :=
  (¬ x7 = 0 → (w_Lw_comes_60 R x0 x1 x2 x3 x4 x5 x6 x7 t0 h)) ∧ (x7 = 0 → ((¬ t0 = 0 → (w_Lw_comes_60 R x0 x1 x2 x3 x4 x5 x6 x7 t0 h)) ∧ (t0 = 0 → (R (-1 : Int32) h))))
def w_Lw_comes_30 (R : Int32 → tpH → Prop) (x0 : Option Nat) (x1 : Option Nat) (x2 : Option Nat) (x3 : Option Nat) (x4 : Option Nat) (x5 : Int32) (x6 : Int32) (t0 : Int32) (h : tpH) : Prop :=
  w_Lw_place x2 x5 h (fun v2 h1 => (v2 < 0 → (w_Lw_comes_46 R x0 x1 x2 x3 x4 x5 x6 t0 (0 : Int32) h1)) ∧ (¬ v2 < 0 → (w_Lw_comes_46 R x0 x1 x2 x3 x4 x5 x6 t0 (1 : Int32) h1)))
def w_Lw_comes_14 (R : Int32 → tpH → Prop) (x0 : Option Nat) (x1 : Option Nat) (x2 : Option Nat) (x3 : Option Nat) (x4 : Option Nat) (x5 : Int32) (t0 : Int32) (h : tpH) : Prop :=
  w_Lw_place x1 x5 h (fun v2 h1 => (v2 < 0 → (w_Lw_comes_30 R x0 x1 x2 x3 x4 x5 t0 (0 : Int32) h1)) ∧ (¬ v2 < 0 → (w_Lw_comes_30 R x0 x1 x2 x3 x4 x5 t0 (1 : Int32) h1)))
def w_Lw_comes (x0 : Option Nat) (x1 : Option Nat) (x2 : Option Nat) (x3 : Option Nat) (x4 : Option Nat) (x5 : Int32) (h : tpH) (R : Int32 → tpH → Prop) : Prop :=
  w_Lw_place x0 x5 h (fun v2 h1 => (v2 < 0 → (w_Lw_comes_14 R x0 x1 x2 x3 x4 x5 (0 : Int32) h1)) ∧ (¬ v2 < 0 → (w_Lw_comes_14 R x0 x1 x2 x3 x4 x5 (1 : Int32) h1)))
theorem s_Lw_comes_204 {h0 : tpH} {av : List tpV} {R : Int32 → tpH → Prop} {K211 : (Option Nat) → (Option Nat) → Int32 → Int32 → tpH → Prop} (k211 : ∀ (x1 : Option Nat) (x2 : Option Nat) (x5 : Int32) (x7 : Int32) (h : tpH), K211 x1 x2 x5 x7 h → tpR Lw_comes 4 h0 av (tpOi R (fun _ _ => False)) 211 [none, some (vR x1), some (vR x2), none, none, some (vI x5), none, some (vI x7), none, none, none] [] h) : ∀ (x1 : Option Nat) (x2 : Option Nat) (x5 : Int32) (x7 : Int32) (t0 : Int32) (h : tpH), w_Lw_comes_204 R K211 x1 x2 x5 x7 t0 h → tpR Lw_comes 4 h0 av (tpOi R (fun _ _ => False)) 204 [none, some (vR x1), some (vR x2), none, none, some (vI x5), none, some (vI x7), none, none, none] [vI t0] h := by
  intro x1 x2 x5 x7 t0 h hw
  unfold w_Lw_comes_204 at hw
  refine tq_iload dLw_comes_204 rfl ?_
  refine tq_icmpeq (tgt := 211) dLw_comes_206 (by decide) (fun c1 => ?_) (fun c1 => ?_)
  · have hw := hw.1 c1
    refine tpR.fo (ls' := [none, some (vR x1), some (vR x2), none, none, some (vI x5), none, some (vI x7), none, none, none]) ?_ (And.intro rfl (And.intro rfl (And.intro rfl (And.intro rfl trivial))))
    exact k211 _ _ _ _ _ hw
  · have hw := hw.2 c1
    refine tq_iconst (v := (-1 : Int32)) dLw_comes_209 tni_m1 ?_
    exact tq_iret rfl rfl dLw_comes_210 hw
theorem s_Lw_comes_165 {h0 : tpH} {av : List tpV} {R : Int32 → tpH → Prop} {K211 : (Option Nat) → (Option Nat) → Int32 → Int32 → tpH → Prop} (k211 : ∀ (x1 : Option Nat) (x2 : Option Nat) (x5 : Int32) (x7 : Int32) (h : tpH), K211 x1 x2 x5 x7 h → tpR Lw_comes 4 h0 av (tpOi R (fun _ _ => False)) 211 [none, some (vR x1), some (vR x2), none, none, some (vI x5), none, some (vI x7), none, none, none] [] h) : ∀ (x1 : Option Nat) (x2 : Option Nat) (x3 : Option Nat) (x4 : Option Nat) (x5 : Int32) (x7 : Int32) (t0 : Option Nat) (t1 : Option Nat) (h : tpH), w_Lw_comes_165 R K211 x1 x2 x3 x4 x5 x7 t0 t1 h → tpR Lw_comes 4 h0 av (tpOi R (fun _ _ => False)) 165 [none, some (vR x1), some (vR x2), some (vR x3), some (vR x4), some (vI x5), none, some (vI x7), none, none, none] [vR t0, vR t1] h := by
  intro x1 x2 x3 x4 x5 x7 t0 t1 h hw
  unfold w_Lw_comes_165 at hw
  refine tq_iload dLw_comes_165 rfl ?_
  refine tq_callS ms_Lw_isTouched (dc := 3) (as := [vR t1, vR t0, vI x5]) (rest := []) kLw_97 (Nat.le_of_ble_eq_true rfl) (Nat.le_of_ble_eq_true rfl) rfl rfl (Nat.le_of_ble_eq_true rfl) dLw_comes_167 (s_Lw_isTouched hw) (fun _ _ hx => False.elim hx) (tk_i fun v2 h1 hw => ?_)
  refine tq_ifne (tgt := 175) dLw_comes_170 (by decide) (fun c3 => ?_) (fun c3 => ?_)
  · have hw := hw.1 c3
    refine tq_aload_n dLw_comes_175 rfl rfl ?_
    refine tq_bipush (v := (8 : Int32)) dLw_comes_176 tnb_8 ?_
    refine tq_iload dLw_comes_178 rfl ?_
    refine tq_imul dLw_comes_180 ?_
    refine tq_callS ms_Lw_adds (dc := 0) (as := [vR x3, vI ((8 : Int32) * x5)]) (rest := []) kLw_89 (Nat.le_of_ble_eq_true rfl) (Nat.le_of_ble_eq_true rfl) rfl rfl (Nat.le_of_ble_eq_true rfl) dLw_comes_181 (s_Lw_adds hw) (fun _ _ hx => False.elim hx) (tk_v fun h4 hw => ?_)
    refine tq_aload dLw_comes_184 rfl ?_
    refine tq_iconst (v := (0 : Int32)) dLw_comes_186 tni_0 ?_
    obtain ⟨a5, e6, f7, hw⟩ := hw
    obtain ⟨f8, hw⟩ := hw
    refine te_iald dLw_comes_187 e6 (Or.inl f7) f8 ?_
    refine tq_ifeq (tgt := 211) dLw_comes_188 (by decide) (fun c9 => ?_) (fun c9 => ?_)
    · have hw := hw.1 c9
      refine tpR.fo (ls' := [none, some (vR x1), some (vR x2), none, none, some (vI x5), none, some (vI x7), none, none, none]) ?_ (And.intro rfl (And.intro rfl (And.intro rfl (And.intro rfl trivial))))
      exact k211 _ _ _ _ _ hw
    · have hw := hw.2 c9
      refine tq_aload dLw_comes_191 rfl ?_
      refine tq_iconst (v := (0 : Int32)) dLw_comes_193 tni_0 ?_
      obtain ⟨f10, hw⟩ := hw
      refine te_iald dLw_comes_194 e6 (Or.inl f7) f10 ?_
      refine tq_iconst (v := (1 : Int32)) dLw_comes_195 tni_1 ?_
      refine tq_icmpne (tgt := 203) dLw_comes_196 (by decide) (fun c11 => ?_) (fun c11 => ?_)
      · have hw := hw.1 c11
        refine tq_iconst (v := (0 : Int32)) dLw_comes_203 tni_0 ?_
        refine tpR.fo (ls' := [none, some (vR x1), some (vR x2), none, none, some (vI x5), none, some (vI x7), none, none, none]) ?_ (And.intro rfl (And.intro rfl (And.intro rfl (And.intro rfl trivial))))
        exact s_Lw_comes_204 k211 _ _ _ _ _ _ hw
      · have hw := hw.2 c11
        refine tq_iconst (v := (1 : Int32)) dLw_comes_199 tni_1 ?_
        refine tq_goto (tgt := 204) dLw_comes_200 (by decide) ?_
        refine tpR.fo (ls' := [none, some (vR x1), some (vR x2), none, none, some (vI x5), none, some (vI x7), none, none, none]) ?_ (And.intro rfl (And.intro rfl (And.intro rfl (And.intro rfl trivial))))
        exact s_Lw_comes_204 k211 _ _ _ _ _ _ hw
  · have hw := hw.2 c3
    refine tq_iconst (v := (-1 : Int32)) dLw_comes_173 tni_m1 ?_
    exact tq_iret rfl rfl dLw_comes_174 hw
theorem s_Lw_comes_245 {h0 : tpH} {av : List tpV} {R : Int32 → tpH → Prop} : ∀ (x5 : Int32) (t0 : Option Nat) (t1 : Int32) (t2 : Int32) (h : tpH), w_Lw_comes_245 R x5 t0 t1 t2 h → tpR Lw_comes 4 h0 av (tpOi R (fun _ _ => False)) 245 [none, none, none, none, none, some (vI x5), none, none, none, none, none] [vR t0, vI t1, vI t2] h := by
  intro x5 t0 t1 t2 h hw
  unfold w_Lw_comes_245 at hw
  refine tq_iload dLw_comes_245 rfl ?_
  refine tq_callS ms_Lw_parentOf (dc := 2) (as := [vR t0, vI x5]) (rest := [vI t1, vI t2]) kLw_40 (Nat.le_of_ble_eq_true rfl) (Nat.le_of_ble_eq_true rfl) rfl rfl (Nat.le_of_ble_eq_true rfl) dLw_comes_247 (s_Lw_parentOf hw) (fun _ _ hx => False.elim hx) (tk_i fun v2 h1 hw => ?_)
  refine tq_iconst (v := (1 : Int32)) dLw_comes_250 tni_1 ?_
  refine tq_iadd dLw_comes_251 ?_
  refine tq_imul dLw_comes_252 ?_
  refine tq_iadd dLw_comes_253 ?_
  exact tq_iret rfl rfl dLw_comes_254 hw
theorem s_Lw_comes_225 {h0 : tpH} {av : List tpV} {R : Int32 → tpH → Prop} : ∀ (x1 : Option Nat) (x2 : Option Nat) (x5 : Int32) (x7 : Int32) (t0 : Option Nat) (t1 : Int32) (t2 : Int32) (h : tpH), w_Lw_comes_225 R x1 x2 x5 x7 t0 t1 t2 h → tpR Lw_comes 4 h0 av (tpOi R (fun _ _ => False)) 225 [none, some (vR x1), some (vR x2), none, none, some (vI x5), none, some (vI x7), none, none, none] [vR t0, vI t1, vI t2] h := by
  intro x1 x2 x5 x7 t0 t1 t2 h hw
  unfold w_Lw_comes_225 at hw
  refine tq_iload dLw_comes_225 rfl ?_
  refine tq_callS ms_Lw_valueOf (dc := 2) (as := [vR t0, vI x5]) (rest := [vI t1, vI t2]) kLw_86 (Nat.le_of_ble_eq_true rfl) (Nat.le_of_ble_eq_true rfl) rfl rfl (Nat.le_of_ble_eq_true rfl) dLw_comes_227 (s_Lw_valueOf hw) (fun _ _ hx => False.elim hx) (tk_i fun v2 h1 hw => ?_)
  refine tq_imul dLw_comes_230 ?_
  refine tq_iadd dLw_comes_231 ?_
  refine tq_sipush (v := (8192 : Int32)) dLw_comes_232 tns_8192 ?_
  refine tq_iload dLw_comes_235 rfl ?_
  refine tq_ifeq (tgt := 244) dLw_comes_237 (by decide) (fun c3 => ?_) (fun c3 => ?_)
  · have hw := hw.1 c3
    refine tq_aload_n dLw_comes_244 rfl rfl ?_
    refine tpR.fo (ls' := [none, none, none, none, none, some (vI x5), none, none, none, none, none]) ?_ (And.intro rfl trivial)
    exact s_Lw_comes_245 _ _ _ _ _ hw
  · have hw := hw.2 c3
    refine tq_aload_n dLw_comes_240 rfl rfl ?_
    refine tq_goto (tgt := 245) dLw_comes_241 (by decide) ?_
    refine tpR.fo (ls' := [none, none, none, none, none, some (vI x5), none, none, none, none, none]) ?_ (And.intro rfl trivial)
    exact s_Lw_comes_245 _ _ _ _ _ hw
theorem s_Lw_comes_211 {h0 : tpH} {av : List tpV} {R : Int32 → tpH → Prop} : ∀ (x1 : Option Nat) (x2 : Option Nat) (x5 : Int32) (x7 : Int32) (h : tpH), w_Lw_comes_211 R x1 x2 x5 x7 h → tpR Lw_comes 4 h0 av (tpOi R (fun _ _ => False)) 211 [none, some (vR x1), some (vR x2), none, none, some (vI x5), none, some (vI x7), none, none, none] [] h := by
  intro x1 x2 x5 x7 h hw
  unfold w_Lw_comes_211 at hw
  refine tq_iload dLw_comes_211 rfl ?_
  refine tq_bipush (v := (64 : Int32)) dLw_comes_213 tnb_64 ?_
  refine tq_iload dLw_comes_215 rfl ?_
  refine tq_ifeq (tgt := 224) dLw_comes_217 (by decide) (fun c1 => ?_) (fun c1 => ?_)
  · have hw := hw.1 c1
    refine tq_aload_n dLw_comes_224 rfl rfl ?_
    refine tpR.fo (ls' := [none, some (vR x1), some (vR x2), none, none, some (vI x5), none, some (vI x7), none, none, none]) ?_ (And.intro rfl (And.intro rfl (And.intro rfl (And.intro rfl trivial))))
    exact s_Lw_comes_225 _ _ _ _ _ _ _ _ hw
  · have hw := hw.2 c1
    refine tq_aload_n dLw_comes_220 rfl rfl ?_
    refine tq_goto (tgt := 225) dLw_comes_221 (by decide) ?_
    refine tpR.fo (ls' := [none, some (vR x1), some (vR x2), none, none, some (vI x5), none, some (vI x7), none, none, none]) ?_ (And.intro rfl (And.intro rfl (And.intro rfl (And.intro rfl trivial))))
    exact s_Lw_comes_225 _ _ _ _ _ _ _ _ hw
theorem s_Lw_comes_149 {h0 : tpH} {av : List tpV} {R : Int32 → tpH → Prop} : ∀ (x0 : Option Nat) (x1 : Option Nat) (x2 : Option Nat) (x3 : Option Nat) (x4 : Option Nat) (x5 : Int32) (x6 : Int32) (x7 : Int32) (h : tpH), w_Lw_comes_149 R x0 x1 x2 x3 x4 x5 x6 x7 h → tpR Lw_comes 4 h0 av (tpOi R (fun _ _ => False)) 149 [some (vR x0), some (vR x1), some (vR x2), some (vR x3), some (vR x4), some (vI x5), some (vI x6), some (vI x7), none, none, none] [] h := by
  intro x0 x1 x2 x3 x4 x5 x6 x7 h hw
  unfold w_Lw_comes_149 at hw
  refine tq_iload dLw_comes_149 rfl ?_
  refine tq_ifeq (tgt := 211) dLw_comes_151 (by decide) (fun c1 => ?_) (fun c1 => ?_)
  · have hw := hw.1 c1
    refine tpR.fo (ls' := [none, some (vR x1), some (vR x2), none, none, some (vI x5), none, some (vI x7), none, none, none]) ?_ (And.intro rfl (And.intro rfl (And.intro rfl (And.intro rfl trivial))))
    exact s_Lw_comes_211 _ _ _ _ _ hw
  · have hw := hw.2 c1
    refine tq_aload_n dLw_comes_154 rfl rfl ?_
    refine tq_iload dLw_comes_155 rfl ?_
    refine tq_ifeq (tgt := 164) dLw_comes_157 (by decide) (fun c2 => ?_) (fun c2 => ?_)
    · have hw := hw.1 c2
      refine tq_aload_n dLw_comes_164 rfl rfl ?_
      refine tpR.fo (ls' := [none, some (vR x1), some (vR x2), some (vR x3), some (vR x4), some (vI x5), none, some (vI x7), none, none, none]) ?_ (And.intro rfl (And.intro rfl (And.intro rfl (And.intro rfl (And.intro rfl (And.intro rfl trivial))))))
      exact s_Lw_comes_165 (s_Lw_comes_211) _ _ _ _ _ _ _ _ _ hw
    · have hw := hw.2 c2
      refine tq_aload_n dLw_comes_160 rfl rfl ?_
      refine tq_goto (tgt := 165) dLw_comes_161 (by decide) ?_
      refine tpR.fo (ls' := [none, some (vR x1), some (vR x2), some (vR x3), some (vR x4), some (vI x5), none, some (vI x7), none, none, none]) ?_ (And.intro rfl (And.intro rfl (And.intro rfl (And.intro rfl (And.intro rfl (And.intro rfl trivial))))))
      exact s_Lw_comes_165 (s_Lw_comes_211) _ _ _ _ _ _ _ _ _ hw
theorem s_Lw_comes_60 {h0 : tpH} {av : List tpV} {R : Int32 → tpH → Prop} : ∀ (x0 : Option Nat) (x1 : Option Nat) (x2 : Option Nat) (x3 : Option Nat) (x4 : Option Nat) (x5 : Int32) (x6 : Int32) (x7 : Int32) (x8 : Int32) (h : tpH), w_Lw_comes_60 R x0 x1 x2 x3 x4 x5 x6 x7 x8 h → tpR Lw_comes 4 h0 av (tpOi R (fun _ _ => False)) 60 [some (vR x0), some (vR x1), some (vR x2), some (vR x3), some (vR x4), some (vI x5), some (vI x6), some (vI x7), some (vI x8), none, none] [] h := by
  intro x0 x1 x2 x3 x4 x5 x6 x7 x8 h hw
  unfold w_Lw_comes_60 at hw
  refine tq_iload dLw_comes_60 rfl ?_
  refine tq_ifeq (tgt := 149) dLw_comes_62 (by decide) (fun c1 => ?_) (fun c1 => ?_)
  · have hw := hw.1 c1
    refine tpR.fo (ls' := [some (vR x0), some (vR x1), some (vR x2), some (vR x3), some (vR x4), some (vI x5), some (vI x6), some (vI x7), none, none, none]) ?_ (And.intro rfl (And.intro rfl (And.intro rfl (And.intro rfl (And.intro rfl (And.intro rfl (And.intro rfl (And.intro rfl trivial))))))))
    exact s_Lw_comes_149 _ _ _ _ _ _ _ _ _ hw
  · have hw := hw.2 c1
    refine tq_iload dLw_comes_65 rfl ?_
    refine tq_ifeq (tgt := 149) dLw_comes_67 (by decide) (fun c2 => ?_) (fun c2 => ?_)
    · have hw := hw.1 c2
      refine tpR.fo (ls' := [some (vR x0), some (vR x1), some (vR x2), some (vR x3), some (vR x4), some (vI x5), some (vI x6), some (vI x7), none, none, none]) ?_ (And.intro rfl (And.intro rfl (And.intro rfl (And.intro rfl (And.intro rfl (And.intro rfl (And.intro rfl (And.intro rfl trivial))))))))
      exact s_Lw_comes_149 _ _ _ _ _ _ _ _ _ hw
    · have hw := hw.2 c2
      refine tq_aload_n dLw_comes_70 rfl rfl ?_
      refine tq_aload dLw_comes_71 rfl ?_
      refine tq_iconst (v := (1 : Int32)) dLw_comes_73 tni_1 ?_
      refine tq_iload dLw_comes_74 rfl ?_
      refine tq_aload_n dLw_comes_76 rfl rfl ?_
      refine tq_iload dLw_comes_77 rfl ?_
      refine tq_callS ms_Lw_valueOf (dc := 2) (as := [vR x0, vI x5]) (rest := [vI x5, vI (1 : Int32), vR x4, vR x3]) kLw_86 (Nat.le_of_ble_eq_true rfl) (Nat.le_of_ble_eq_true rfl) rfl rfl (Nat.le_of_ble_eq_true rfl) dLw_comes_79 (s_Lw_valueOf hw) (fun _ _ hx => False.elim hx) (tk_i fun v4 h3 hw => ?_)
      refine tq_aload_n dLw_comes_82 rfl rfl ?_
      refine tq_iload dLw_comes_83 rfl ?_
      refine tq_callS ms_Lw_valueOf (dc := 2) (as := [vR x1, vI x5]) (rest := [vI v4, vI x5, vI (1 : Int32), vR x4, vR x3]) kLw_86 (Nat.le_of_ble_eq_true rfl) (Nat.le_of_ble_eq_true rfl) rfl rfl (Nat.le_of_ble_eq_true rfl) dLw_comes_85 (s_Lw_valueOf hw) (fun _ _ hx => False.elim hx) (tk_i fun v6 h5 hw => ?_)
      refine tq_aload_n dLw_comes_88 rfl rfl ?_
      refine tq_iload dLw_comes_89 rfl ?_
      refine tq_callS ms_Lw_valueOf (dc := 2) (as := [vR x2, vI x5]) (rest := [vI v6, vI v4, vI x5, vI (1 : Int32), vR x4, vR x3]) kLw_86 (Nat.le_of_ble_eq_true rfl) (Nat.le_of_ble_eq_true rfl) rfl rfl (Nat.le_of_ble_eq_true rfl) dLw_comes_91 (s_Lw_valueOf hw) (fun _ _ hx => False.elim hx) (tk_i fun v8 h7 hw => ?_)
      refine tq_iconst (v := (-1 : Int32)) dLw_comes_94 tni_m1 ?_
      refine tq_callS ms_Lw_decided (dc := 1) (as := [vR x3, vR x4, vI (1 : Int32), vI x5, vI v4, vI v6, vI v8, vI (-1 : Int32)]) (rest := []) kLw_93 (Nat.le_of_ble_eq_true rfl) (Nat.le_of_ble_eq_true rfl) rfl rfl (Nat.le_of_ble_eq_true rfl) dLw_comes_95 (s_Lw_decided hw) (fun _ _ hx => False.elim hx) (tk_i fun v10 h9 hw => ?_)
      refine tq_istore (ls' := [some (vR x0), some (vR x1), some (vR x2), some (vR x3), some (vR x4), some (vI x5), some (vI x6), some (vI x7), some (vI x8), some (vI v10), none]) dLw_comes_98 (Nat.le_of_ble_eq_true rfl) rfl ?_
      refine tq_aload_n dLw_comes_100 rfl rfl ?_
      refine tq_aload dLw_comes_101 rfl ?_
      refine tq_iconst (v := (2 : Int32)) dLw_comes_103 tni_2 ?_
      refine tq_iload dLw_comes_104 rfl ?_
      refine tq_aload_n dLw_comes_106 rfl rfl ?_
      refine tq_iload dLw_comes_107 rfl ?_
      refine tq_callS ms_Lw_parentOf (dc := 2) (as := [vR x0, vI x5]) (rest := [vI x5, vI (2 : Int32), vR x4, vR x3]) kLw_40 (Nat.le_of_ble_eq_true rfl) (Nat.le_of_ble_eq_true rfl) rfl rfl (Nat.le_of_ble_eq_true rfl) dLw_comes_109 (s_Lw_parentOf hw) (fun _ _ hx => False.elim hx) (tk_i fun v12 h11 hw => ?_)
      refine tq_aload_n dLw_comes_112 rfl rfl ?_
      refine tq_iload dLw_comes_113 rfl ?_
      refine tq_callS ms_Lw_parentOf (dc := 2) (as := [vR x1, vI x5]) (rest := [vI v12, vI x5, vI (2 : Int32), vR x4, vR x3]) kLw_40 (Nat.le_of_ble_eq_true rfl) (Nat.le_of_ble_eq_true rfl) rfl rfl (Nat.le_of_ble_eq_true rfl) dLw_comes_115 (s_Lw_parentOf hw) (fun _ _ hx => False.elim hx) (tk_i fun v14 h13 hw => ?_)
      refine tq_aload_n dLw_comes_118 rfl rfl ?_
      refine tq_iload dLw_comes_119 rfl ?_
      refine tq_callS ms_Lw_parentOf (dc := 2) (as := [vR x2, vI x5]) (rest := [vI v14, vI v12, vI x5, vI (2 : Int32), vR x4, vR x3]) kLw_40 (Nat.le_of_ble_eq_true rfl) (Nat.le_of_ble_eq_true rfl) rfl rfl (Nat.le_of_ble_eq_true rfl) dLw_comes_121 (s_Lw_parentOf hw) (fun _ _ hx => False.elim hx) (tk_i fun v16 h15 hw => ?_)
      refine tq_bipush (v := (-2 : Int32)) dLw_comes_124 tnb_m2 ?_
      refine tq_callS ms_Lw_decided (dc := 1) (as := [vR x3, vR x4, vI (2 : Int32), vI x5, vI v12, vI v14, vI v16, vI (-2 : Int32)]) (rest := []) kLw_93 (Nat.le_of_ble_eq_true rfl) (Nat.le_of_ble_eq_true rfl) rfl rfl (Nat.le_of_ble_eq_true rfl) dLw_comes_126 (s_Lw_decided hw) (fun _ _ hx => False.elim hx) (tk_i fun v18 h17 hw => ?_)
      refine tq_istore (ls' := [some (vR x0), some (vR x1), some (vR x2), some (vR x3), some (vR x4), some (vI x5), some (vI x6), some (vI x7), some (vI x8), some (vI v10), some (vI v18)]) dLw_comes_129 (Nat.le_of_ble_eq_true rfl) rfl ?_
      refine tq_iload dLw_comes_131 rfl ?_
      refine tq_bipush (v := (64 : Int32)) dLw_comes_133 tnb_64 ?_
      refine tq_iload dLw_comes_135 rfl ?_
      refine tq_imul dLw_comes_137 ?_
      refine tq_iadd dLw_comes_138 ?_
      refine tq_sipush (v := (8192 : Int32)) dLw_comes_139 tns_8192 ?_
      refine tq_iload dLw_comes_142 rfl ?_
      refine tq_iconst (v := (1 : Int32)) dLw_comes_144 tni_1 ?_
      refine tq_iadd dLw_comes_145 ?_
      refine tq_imul dLw_comes_146 ?_
      refine tq_iadd dLw_comes_147 ?_
      exact tq_iret rfl rfl dLw_comes_148 hw
theorem s_Lw_comes_46 {h0 : tpH} {av : List tpV} {R : Int32 → tpH → Prop} : ∀ (x0 : Option Nat) (x1 : Option Nat) (x2 : Option Nat) (x3 : Option Nat) (x4 : Option Nat) (x5 : Int32) (x6 : Int32) (x7 : Int32) (t0 : Int32) (h : tpH), w_Lw_comes_46 R x0 x1 x2 x3 x4 x5 x6 x7 t0 h → tpR Lw_comes 4 h0 av (tpOi R (fun _ _ => False)) 46 [some (vR x0), some (vR x1), some (vR x2), some (vR x3), some (vR x4), some (vI x5), some (vI x6), some (vI x7), none, none, none] [vI t0] h := by
  intro x0 x1 x2 x3 x4 x5 x6 x7 t0 h hw
  unfold w_Lw_comes_46 at hw
  refine tq_istore (ls' := [some (vR x0), some (vR x1), some (vR x2), some (vR x3), some (vR x4), some (vI x5), some (vI x6), some (vI x7), some (vI t0), none, none]) dLw_comes_46 (Nat.le_of_ble_eq_true rfl) rfl ?_
  refine tq_iload dLw_comes_48 rfl ?_
  refine tq_ifne (tgt := 60) dLw_comes_50 (by decide) (fun c1 => ?_) (fun c1 => ?_)
  · have hw := hw.1 c1
    refine tpR.fo (ls' := [some (vR x0), some (vR x1), some (vR x2), some (vR x3), some (vR x4), some (vI x5), some (vI x6), some (vI x7), some (vI t0), none, none]) ?_ (And.intro rfl (And.intro rfl (And.intro rfl (And.intro rfl (And.intro rfl (And.intro rfl (And.intro rfl (And.intro rfl (And.intro rfl trivial)))))))))
    exact s_Lw_comes_60 _ _ _ _ _ _ _ _ _ _ hw
  · have hw := hw.2 c1
    refine tq_iload dLw_comes_53 rfl ?_
    refine tq_ifne (tgt := 60) dLw_comes_55 (by decide) (fun c2 => ?_) (fun c2 => ?_)
    · have hw := hw.1 c2
      refine tpR.fo (ls' := [some (vR x0), some (vR x1), some (vR x2), some (vR x3), some (vR x4), some (vI x5), some (vI x6), some (vI x7), some (vI t0), none, none]) ?_ (And.intro rfl (And.intro rfl (And.intro rfl (And.intro rfl (And.intro rfl (And.intro rfl (And.intro rfl (And.intro rfl (And.intro rfl trivial)))))))))
      exact s_Lw_comes_60 _ _ _ _ _ _ _ _ _ _ hw
    · have hw := hw.2 c2
      refine tq_iconst (v := (-1 : Int32)) dLw_comes_58 tni_m1 ?_
      exact tq_iret rfl rfl dLw_comes_59 hw
theorem s_Lw_comes_30 {h0 : tpH} {av : List tpV} {R : Int32 → tpH → Prop} : ∀ (x0 : Option Nat) (x1 : Option Nat) (x2 : Option Nat) (x3 : Option Nat) (x4 : Option Nat) (x5 : Int32) (x6 : Int32) (t0 : Int32) (h : tpH), w_Lw_comes_30 R x0 x1 x2 x3 x4 x5 x6 t0 h → tpR Lw_comes 4 h0 av (tpOi R (fun _ _ => False)) 30 [some (vR x0), some (vR x1), some (vR x2), some (vR x3), some (vR x4), some (vI x5), some (vI x6), none, none, none, none] [vI t0] h := by
  intro x0 x1 x2 x3 x4 x5 x6 t0 h hw
  unfold w_Lw_comes_30 at hw
  refine tq_istore (ls' := [some (vR x0), some (vR x1), some (vR x2), some (vR x3), some (vR x4), some (vI x5), some (vI x6), some (vI t0), none, none, none]) dLw_comes_30 (Nat.le_of_ble_eq_true rfl) rfl ?_
  refine tq_aload_n dLw_comes_32 rfl rfl ?_
  refine tq_iload dLw_comes_33 rfl ?_
  refine tq_callS ms_Lw_place (dc := 1) (as := [vR x2, vI x5]) (rest := []) kLw_13 (Nat.le_of_ble_eq_true rfl) (Nat.le_of_ble_eq_true rfl) rfl rfl (Nat.le_of_ble_eq_true rfl) dLw_comes_35 (s_Lw_place hw) (fun _ _ hx => False.elim hx) (tk_i fun v2 h1 hw => ?_)
  refine tq_iflt (tgt := 45) dLw_comes_38 (by decide) (fun c3 => ?_) (fun c3 => ?_)
  · have hw := hw.1 c3
    refine tq_iconst (v := (0 : Int32)) dLw_comes_45 tni_0 ?_
    refine tpR.fo (ls' := [some (vR x0), some (vR x1), some (vR x2), some (vR x3), some (vR x4), some (vI x5), some (vI x6), some (vI t0), none, none, none]) ?_ (And.intro rfl (And.intro rfl (And.intro rfl (And.intro rfl (And.intro rfl (And.intro rfl (And.intro rfl (And.intro rfl trivial))))))))
    exact s_Lw_comes_46 _ _ _ _ _ _ _ _ _ _ hw
  · have hw := hw.2 c3
    refine tq_iconst (v := (1 : Int32)) dLw_comes_41 tni_1 ?_
    refine tq_goto (tgt := 46) dLw_comes_42 (by decide) ?_
    refine tpR.fo (ls' := [some (vR x0), some (vR x1), some (vR x2), some (vR x3), some (vR x4), some (vI x5), some (vI x6), some (vI t0), none, none, none]) ?_ (And.intro rfl (And.intro rfl (And.intro rfl (And.intro rfl (And.intro rfl (And.intro rfl (And.intro rfl (And.intro rfl trivial))))))))
    exact s_Lw_comes_46 _ _ _ _ _ _ _ _ _ _ hw
theorem s_Lw_comes_14 {h0 : tpH} {av : List tpV} {R : Int32 → tpH → Prop} : ∀ (x0 : Option Nat) (x1 : Option Nat) (x2 : Option Nat) (x3 : Option Nat) (x4 : Option Nat) (x5 : Int32) (t0 : Int32) (h : tpH), w_Lw_comes_14 R x0 x1 x2 x3 x4 x5 t0 h → tpR Lw_comes 4 h0 av (tpOi R (fun _ _ => False)) 14 [some (vR x0), some (vR x1), some (vR x2), some (vR x3), some (vR x4), some (vI x5), none, none, none, none, none] [vI t0] h := by
  intro x0 x1 x2 x3 x4 x5 t0 h hw
  unfold w_Lw_comes_14 at hw
  refine tq_istore (ls' := [some (vR x0), some (vR x1), some (vR x2), some (vR x3), some (vR x4), some (vI x5), some (vI t0), none, none, none, none]) dLw_comes_14 (Nat.le_of_ble_eq_true rfl) rfl ?_
  refine tq_aload_n dLw_comes_16 rfl rfl ?_
  refine tq_iload dLw_comes_17 rfl ?_
  refine tq_callS ms_Lw_place (dc := 1) (as := [vR x1, vI x5]) (rest := []) kLw_13 (Nat.le_of_ble_eq_true rfl) (Nat.le_of_ble_eq_true rfl) rfl rfl (Nat.le_of_ble_eq_true rfl) dLw_comes_19 (s_Lw_place hw) (fun _ _ hx => False.elim hx) (tk_i fun v2 h1 hw => ?_)
  refine tq_iflt (tgt := 29) dLw_comes_22 (by decide) (fun c3 => ?_) (fun c3 => ?_)
  · have hw := hw.1 c3
    refine tq_iconst (v := (0 : Int32)) dLw_comes_29 tni_0 ?_
    refine tpR.fo (ls' := [some (vR x0), some (vR x1), some (vR x2), some (vR x3), some (vR x4), some (vI x5), some (vI t0), none, none, none, none]) ?_ (And.intro rfl (And.intro rfl (And.intro rfl (And.intro rfl (And.intro rfl (And.intro rfl (And.intro rfl trivial)))))))
    exact s_Lw_comes_30 _ _ _ _ _ _ _ _ _ hw
  · have hw := hw.2 c3
    refine tq_iconst (v := (1 : Int32)) dLw_comes_25 tni_1 ?_
    refine tq_goto (tgt := 30) dLw_comes_26 (by decide) ?_
    refine tpR.fo (ls' := [some (vR x0), some (vR x1), some (vR x2), some (vR x3), some (vR x4), some (vI x5), some (vI t0), none, none, none, none]) ?_ (And.intro rfl (And.intro rfl (And.intro rfl (And.intro rfl (And.intro rfl (And.intro rfl (And.intro rfl trivial)))))))
    exact s_Lw_comes_30 _ _ _ _ _ _ _ _ _ hw
theorem s_Lw_comes {x0 : Option Nat} {x1 : Option Nat} {x2 : Option Nat} {x3 : Option Nat} {x4 : Option Nat} {x5 : Int32} {h : tpH} {R : Int32 → tpH → Prop} (hw : w_Lw_comes x0 x1 x2 x3 x4 x5 h R) : tpC Lw_comes 4 [vR x0, vR x1, vR x2, vR x3, vR x4, vI x5] h (tpOi R (fun _ _ => False)) := by
  refine tpC_of ms_Lw_comes.2.2.2.1 rfl rfl (Nat.le_of_ble_eq_true rfl) ?_
  show tpR Lw_comes 4 h _ _ 0 [some (vR x0), some (vR x1), some (vR x2), some (vR x3), some (vR x4), some (vI x5), none, none, none, none, none] [] h
  unfold w_Lw_comes at hw
  refine tq_aload_n dLw_comes_0 rfl rfl ?_
  refine tq_iload dLw_comes_1 rfl ?_
  refine tq_callS ms_Lw_place (dc := 1) (as := [vR x0, vI x5]) (rest := []) kLw_13 (Nat.le_of_ble_eq_true rfl) (Nat.le_of_ble_eq_true rfl) rfl rfl (Nat.le_of_ble_eq_true rfl) dLw_comes_3 (s_Lw_place hw) (fun _ _ hx => False.elim hx) (tk_i fun v2 h1 hw => ?_)
  refine tq_iflt (tgt := 13) dLw_comes_6 (by decide) (fun c3 => ?_) (fun c3 => ?_)
  · have hw := hw.1 c3
    refine tq_iconst (v := (0 : Int32)) dLw_comes_13 tni_0 ?_
    refine tpR.fo (ls' := [some (vR x0), some (vR x1), some (vR x2), some (vR x3), some (vR x4), some (vI x5), none, none, none, none, none]) ?_ (And.intro rfl (And.intro rfl (And.intro rfl (And.intro rfl (And.intro rfl (And.intro rfl trivial))))))
    exact s_Lw_comes_14 _ _ _ _ _ _ _ _ hw
  · have hw := hw.2 c3
    refine tq_iconst (v := (1 : Int32)) dLw_comes_9 tni_1 ?_
    refine tq_goto (tgt := 14) dLw_comes_10 (by decide) ?_
    refine tpR.fo (ls' := [some (vR x0), some (vR x1), some (vR x2), some (vR x3), some (vR x4), some (vI x5), none, none, none, none, none]) ?_ (And.intro rfl (And.intro rfl (And.intro rfl (And.intro rfl (And.intro rfl (And.intro rfl trivial))))))
    exact s_Lw_comes_14 _ _ _ _ _ _ _ _ hw
/-! TLaw.mends -/
theorem dLw_mends_0 : decode (mB Lw_mends) 0 = .ok (.iconst 1, 1) := by decide +kernel
theorem dLw_mends_1 : decode (mB Lw_mends) 1 = .ok (.istore_n 3, 1) := by decide +kernel
theorem dLw_mends_2 : decode (mB Lw_mends) 2 = .ok (.iload_n 3, 1) := by decide +kernel
theorem dLw_mends_3 : decode (mB Lw_mends) 3 = .ok (.ifCond .eq 314, 3) := by decide +kernel
theorem dLw_mends_6 : decode (mB Lw_mends) 6 = .ok (.iconst (-1), 1) := by decide +kernel
theorem dLw_mends_7 : decode (mB Lw_mends) 7 = .ok (.istore 4, 2) := by decide +kernel
theorem dLw_mends_9 : decode (mB Lw_mends) 9 = .ok (.iconst (-1), 1) := by decide +kernel
theorem dLw_mends_10 : decode (mB Lw_mends) 10 = .ok (.istore 5, 2) := by decide +kernel
theorem dLw_mends_12 : decode (mB Lw_mends) 12 = .ok (.bipush 39, 2) := by decide +kernel
theorem dLw_mends_14 : decode (mB Lw_mends) 14 = .ok (.istore 6, 2) := by decide +kernel
theorem dLw_mends_16 : decode (mB Lw_mends) 16 = .ok (.iload 6, 2) := by decide +kernel
theorem dLw_mends_18 : decode (mB Lw_mends) 18 = .ok (.ifCond .lt 101, 3) := by decide +kernel
theorem dLw_mends_21 : decode (mB Lw_mends) 21 = .ok (.aload_n 1, 1) := by decide +kernel
theorem dLw_mends_22 : decode (mB Lw_mends) 22 = .ok (.iload 6, 2) := by decide +kernel
theorem dLw_mends_24 : decode (mB Lw_mends) 24 = .ok (.invokestatic 40, 3) := by decide +kernel
theorem dLw_mends_27 : decode (mB Lw_mends) 27 = .ok (.istore 7, 2) := by decide +kernel
theorem dLw_mends_29 : decode (mB Lw_mends) 29 = .ok (.iload 7, 2) := by decide +kernel
theorem dLw_mends_31 : decode (mB Lw_mends) 31 = .ok (.ifCond .lt 17, 3) := by decide +kernel
theorem dLw_mends_34 : decode (mB Lw_mends) 34 = .ok (.aload_n 1, 1) := by decide +kernel
theorem dLw_mends_35 : decode (mB Lw_mends) 35 = .ok (.iload 7, 2) := by decide +kernel
theorem dLw_mends_37 : decode (mB Lw_mends) 37 = .ok (.invokestatic 13, 3) := by decide +kernel
theorem dLw_mends_40 : decode (mB Lw_mends) 40 = .ok (.ifCond .ge 8, 3) := by decide +kernel
theorem dLw_mends_43 : decode (mB Lw_mends) 43 = .ok (.iload 6, 2) := by decide +kernel
theorem dLw_mends_45 : decode (mB Lw_mends) 45 = .ok (.goto 5, 3) := by decide +kernel
theorem dLw_mends_48 : decode (mB Lw_mends) 48 = .ok (.iload 4, 2) := by decide +kernel
theorem dLw_mends_50 : decode (mB Lw_mends) 50 = .ok (.istore 4, 2) := by decide +kernel
theorem dLw_mends_52 : decode (mB Lw_mends) 52 = .ok (.iload 7, 2) := by decide +kernel
theorem dLw_mends_54 : decode (mB Lw_mends) 54 = .ok (.istore 8, 2) := by decide +kernel
theorem dLw_mends_56 : decode (mB Lw_mends) 56 = .ok (.iconst 0, 1) := by decide +kernel
theorem dLw_mends_57 : decode (mB Lw_mends) 57 = .ok (.istore 9, 2) := by decide +kernel
theorem dLw_mends_59 : decode (mB Lw_mends) 59 = .ok (.iload 9, 2) := by decide +kernel
theorem dLw_mends_61 : decode (mB Lw_mends) 61 = .ok (.bipush 40, 2) := by decide +kernel
theorem dLw_mends_63 : decode (mB Lw_mends) 63 = .ok (.if_icmp .ge 29, 3) := by decide +kernel
theorem dLw_mends_66 : decode (mB Lw_mends) 66 = .ok (.iload 8, 2) := by decide +kernel
theorem dLw_mends_68 : decode (mB Lw_mends) 68 = .ok (.ifCond .lt 24, 3) := by decide +kernel
theorem dLw_mends_71 : decode (mB Lw_mends) 71 = .ok (.iload 8, 2) := by decide +kernel
theorem dLw_mends_73 : decode (mB Lw_mends) 73 = .ok (.iload 6, 2) := by decide +kernel
theorem dLw_mends_75 : decode (mB Lw_mends) 75 = .ok (.if_icmp .eq 17, 3) := by decide +kernel
theorem dLw_mends_78 : decode (mB Lw_mends) 78 = .ok (.aload_n 1, 1) := by decide +kernel
theorem dLw_mends_79 : decode (mB Lw_mends) 79 = .ok (.iload 8, 2) := by decide +kernel
theorem dLw_mends_81 : decode (mB Lw_mends) 81 = .ok (.invokestatic 40, 3) := by decide +kernel
theorem dLw_mends_84 : decode (mB Lw_mends) 84 = .ok (.istore 8, 2) := by decide +kernel
theorem dLw_mends_86 : decode (mB Lw_mends) 86 = .ok (.iinc 9 1, 3) := by decide +kernel
theorem dLw_mends_89 : decode (mB Lw_mends) 89 = .ok (.goto (-30), 3) := by decide +kernel
theorem dLw_mends_92 : decode (mB Lw_mends) 92 = .ok (.iload 7, 2) := by decide +kernel
theorem dLw_mends_94 : decode (mB Lw_mends) 94 = .ok (.ifCond .lt 15, 3) := by decide +kernel
theorem dLw_mends_97 : decode (mB Lw_mends) 97 = .ok (.iload 8, 2) := by decide +kernel
theorem dLw_mends_99 : decode (mB Lw_mends) 99 = .ok (.iload 6, 2) := by decide +kernel
theorem dLw_mends_101 : decode (mB Lw_mends) 101 = .ok (.if_icmp .ne 8, 3) := by decide +kernel
theorem dLw_mends_104 : decode (mB Lw_mends) 104 = .ok (.iload 6, 2) := by decide +kernel
theorem dLw_mends_106 : decode (mB Lw_mends) 106 = .ok (.goto 5, 3) := by decide +kernel
theorem dLw_mends_109 : decode (mB Lw_mends) 109 = .ok (.iload 5, 2) := by decide +kernel
theorem dLw_mends_111 : decode (mB Lw_mends) 111 = .ok (.istore 5, 2) := by decide +kernel
theorem dLw_mends_113 : decode (mB Lw_mends) 113 = .ok (.iinc 6 (-1), 3) := by decide +kernel
theorem dLw_mends_116 : decode (mB Lw_mends) 116 = .ok (.goto (-100), 3) := by decide +kernel
theorem dLw_mends_119 : decode (mB Lw_mends) 119 = .ok (.iload 4, 2) := by decide +kernel
theorem dLw_mends_121 : decode (mB Lw_mends) 121 = .ok (.ifCond .ge 8, 3) := by decide +kernel
theorem dLw_mends_124 : decode (mB Lw_mends) 124 = .ok (.iload 5, 2) := by decide +kernel
theorem dLw_mends_126 : decode (mB Lw_mends) 126 = .ok (.ifCond .lt 7, 3) := by decide +kernel
theorem dLw_mends_129 : decode (mB Lw_mends) 129 = .ok (.iconst 1, 1) := by decide +kernel
theorem dLw_mends_130 : decode (mB Lw_mends) 130 = .ok (.goto 4, 3) := by decide +kernel
theorem dLw_mends_133 : decode (mB Lw_mends) 133 = .ok (.iconst 0, 1) := by decide +kernel
theorem dLw_mends_134 : decode (mB Lw_mends) 134 = .ok (.istore_n 3, 1) := by decide +kernel
theorem dLw_mends_135 : decode (mB Lw_mends) 135 = .ok (.iload 4, 2) := by decide +kernel
theorem dLw_mends_137 : decode (mB Lw_mends) 137 = .ok (.ifCond .lt 57, 3) := by decide +kernel
theorem dLw_mends_140 : decode (mB Lw_mends) 140 = .ok (.aload_n 1, 1) := by decide +kernel
theorem dLw_mends_141 : decode (mB Lw_mends) 141 = .ok (.iload 4, 2) := by decide +kernel
theorem dLw_mends_143 : decode (mB Lw_mends) 143 = .ok (.invokestatic 40, 3) := by decide +kernel
theorem dLw_mends_146 : decode (mB Lw_mends) 146 = .ok (.istore 6, 2) := by decide +kernel
theorem dLw_mends_148 : decode (mB Lw_mends) 148 = .ok (.aload_n 1, 1) := by decide +kernel
theorem dLw_mends_149 : decode (mB Lw_mends) 149 = .ok (.aload_n 1, 1) := by decide +kernel
theorem dLw_mends_150 : decode (mB Lw_mends) 150 = .ok (.iconst 0, 1) := by decide +kernel
theorem dLw_mends_151 : decode (mB Lw_mends) 151 = .ok (.iaload, 1) := by decide +kernel
theorem dLw_mends_152 : decode (mB Lw_mends) 152 = .ok (.iload 6, 2) := by decide +kernel
theorem dLw_mends_154 : decode (mB Lw_mends) 154 = .ok (.bipush 64, 2) := by decide +kernel
theorem dLw_mends_156 : decode (mB Lw_mends) 156 = .ok (.aload_n 0, 1) := by decide +kernel
theorem dLw_mends_157 : decode (mB Lw_mends) 157 = .ok (.iload 6, 2) := by decide +kernel
theorem dLw_mends_159 : decode (mB Lw_mends) 159 = .ok (.invokestatic 86, 3) := by decide +kernel
theorem dLw_mends_162 : decode (mB Lw_mends) 162 = .ok (.imul, 1) := by decide +kernel
theorem dLw_mends_163 : decode (mB Lw_mends) 163 = .ok (.iadd, 1) := by decide +kernel
theorem dLw_mends_164 : decode (mB Lw_mends) 164 = .ok (.sipush 8192, 3) := by decide +kernel
theorem dLw_mends_167 : decode (mB Lw_mends) 167 = .ok (.aload_n 0, 1) := by decide +kernel
theorem dLw_mends_168 : decode (mB Lw_mends) 168 = .ok (.iload 6, 2) := by decide +kernel
theorem dLw_mends_170 : decode (mB Lw_mends) 170 = .ok (.invokestatic 40, 3) := by decide +kernel
theorem dLw_mends_173 : decode (mB Lw_mends) 173 = .ok (.iconst 1, 1) := by decide +kernel
theorem dLw_mends_174 : decode (mB Lw_mends) 174 = .ok (.iadd, 1) := by decide +kernel
theorem dLw_mends_175 : decode (mB Lw_mends) 175 = .ok (.imul, 1) := by decide +kernel
theorem dLw_mends_176 : decode (mB Lw_mends) 176 = .ok (.iadd, 1) := by decide +kernel
theorem dLw_mends_177 : decode (mB Lw_mends) 177 = .ok (.invokestatic 101, 3) := by decide +kernel
theorem dLw_mends_180 : decode (mB Lw_mends) 180 = .ok (.aload_n 2, 1) := by decide +kernel
theorem dLw_mends_181 : decode (mB Lw_mends) 181 = .ok (.bipush 8, 2) := by decide +kernel
theorem dLw_mends_183 : decode (mB Lw_mends) 183 = .ok (.iload 6, 2) := by decide +kernel
theorem dLw_mends_185 : decode (mB Lw_mends) 185 = .ok (.imul, 1) := by decide +kernel
theorem dLw_mends_186 : decode (mB Lw_mends) 186 = .ok (.iconst 3, 1) := by decide +kernel
theorem dLw_mends_187 : decode (mB Lw_mends) 187 = .ok (.iadd, 1) := by decide +kernel
theorem dLw_mends_188 : decode (mB Lw_mends) 188 = .ok (.invokestatic 89, 3) := by decide +kernel
theorem dLw_mends_191 : decode (mB Lw_mends) 191 = .ok (.goto 123, 3) := by decide +kernel
theorem dLw_mends_194 : decode (mB Lw_mends) 194 = .ok (.iload 5, 2) := by decide +kernel
theorem dLw_mends_196 : decode (mB Lw_mends) 196 = .ok (.ifCond .lt 118, 3) := by decide +kernel
theorem dLw_mends_199 : decode (mB Lw_mends) 199 = .ok (.bipush 40, 2) := by decide +kernel
theorem dLw_mends_201 : decode (mB Lw_mends) 201 = .ok (.newarray .int, 2) := by decide +kernel
theorem dLw_mends_203 : decode (mB Lw_mends) 203 = .ok (.astore 6, 2) := by decide +kernel
theorem dLw_mends_205 : decode (mB Lw_mends) 205 = .ok (.iload 5, 2) := by decide +kernel
theorem dLw_mends_207 : decode (mB Lw_mends) 207 = .ok (.istore 7, 2) := by decide +kernel
theorem dLw_mends_209 : decode (mB Lw_mends) 209 = .ok (.aload 6, 2) := by decide +kernel
theorem dLw_mends_211 : decode (mB Lw_mends) 211 = .ok (.iload 7, 2) := by decide +kernel
theorem dLw_mends_213 : decode (mB Lw_mends) 213 = .ok (.iaload, 1) := by decide +kernel
theorem dLw_mends_214 : decode (mB Lw_mends) 214 = .ok (.ifCond .ne 20, 3) := by decide +kernel
theorem dLw_mends_217 : decode (mB Lw_mends) 217 = .ok (.aload 6, 2) := by decide +kernel
theorem dLw_mends_219 : decode (mB Lw_mends) 219 = .ok (.iload 7, 2) := by decide +kernel
theorem dLw_mends_221 : decode (mB Lw_mends) 221 = .ok (.iconst 1, 1) := by decide +kernel
theorem dLw_mends_222 : decode (mB Lw_mends) 222 = .ok (.iastore, 1) := by decide +kernel
theorem dLw_mends_223 : decode (mB Lw_mends) 223 = .ok (.aload_n 1, 1) := by decide +kernel
theorem dLw_mends_224 : decode (mB Lw_mends) 224 = .ok (.iload 7, 2) := by decide +kernel
theorem dLw_mends_226 : decode (mB Lw_mends) 226 = .ok (.invokestatic 40, 3) := by decide +kernel
theorem dLw_mends_229 : decode (mB Lw_mends) 229 = .ok (.istore 7, 2) := by decide +kernel
theorem dLw_mends_231 : decode (mB Lw_mends) 231 = .ok (.goto (-22), 3) := by decide +kernel
theorem dLw_mends_234 : decode (mB Lw_mends) 234 = .ok (.iconst 0, 1) := by decide +kernel
theorem dLw_mends_235 : decode (mB Lw_mends) 235 = .ok (.istore 8, 2) := by decide +kernel
theorem dLw_mends_237 : decode (mB Lw_mends) 237 = .ok (.iload 8, 2) := by decide +kernel
theorem dLw_mends_239 : decode (mB Lw_mends) 239 = .ok (.bipush 40, 2) := by decide +kernel
theorem dLw_mends_241 : decode (mB Lw_mends) 241 = .ok (.if_icmp .ge 73, 3) := by decide +kernel
theorem dLw_mends_244 : decode (mB Lw_mends) 244 = .ok (.aload 6, 2) := by decide +kernel
theorem dLw_mends_246 : decode (mB Lw_mends) 246 = .ok (.iload 8, 2) := by decide +kernel
theorem dLw_mends_248 : decode (mB Lw_mends) 248 = .ok (.iaload, 1) := by decide +kernel
theorem dLw_mends_249 : decode (mB Lw_mends) 249 = .ok (.iconst 1, 1) := by decide +kernel
theorem dLw_mends_250 : decode (mB Lw_mends) 250 = .ok (.if_icmp .ne 58, 3) := by decide +kernel
theorem dLw_mends_253 : decode (mB Lw_mends) 253 = .ok (.aload_n 0, 1) := by decide +kernel
theorem dLw_mends_254 : decode (mB Lw_mends) 254 = .ok (.iload 8, 2) := by decide +kernel
theorem dLw_mends_256 : decode (mB Lw_mends) 256 = .ok (.invokestatic 13, 3) := by decide +kernel
theorem dLw_mends_259 : decode (mB Lw_mends) 259 = .ok (.ifCond .lt 49, 3) := by decide +kernel
theorem dLw_mends_262 : decode (mB Lw_mends) 262 = .ok (.aload_n 1, 1) := by decide +kernel
theorem dLw_mends_263 : decode (mB Lw_mends) 263 = .ok (.iconst 1, 1) := by decide +kernel
theorem dLw_mends_264 : decode (mB Lw_mends) 264 = .ok (.aload_n 1, 1) := by decide +kernel
theorem dLw_mends_265 : decode (mB Lw_mends) 265 = .ok (.iload 8, 2) := by decide +kernel
theorem dLw_mends_267 : decode (mB Lw_mends) 267 = .ok (.invokestatic 13, 3) := by decide +kernel
theorem dLw_mends_270 : decode (mB Lw_mends) 270 = .ok (.iadd, 1) := by decide +kernel
theorem dLw_mends_271 : decode (mB Lw_mends) 271 = .ok (.iload 8, 2) := by decide +kernel
theorem dLw_mends_273 : decode (mB Lw_mends) 273 = .ok (.bipush 64, 2) := by decide +kernel
theorem dLw_mends_275 : decode (mB Lw_mends) 275 = .ok (.aload_n 1, 1) := by decide +kernel
theorem dLw_mends_276 : decode (mB Lw_mends) 276 = .ok (.iload 8, 2) := by decide +kernel
theorem dLw_mends_278 : decode (mB Lw_mends) 278 = .ok (.invokestatic 86, 3) := by decide +kernel
theorem dLw_mends_281 : decode (mB Lw_mends) 281 = .ok (.imul, 1) := by decide +kernel
theorem dLw_mends_282 : decode (mB Lw_mends) 282 = .ok (.iadd, 1) := by decide +kernel
theorem dLw_mends_283 : decode (mB Lw_mends) 283 = .ok (.sipush 8192, 3) := by decide +kernel
theorem dLw_mends_286 : decode (mB Lw_mends) 286 = .ok (.aload_n 0, 1) := by decide +kernel
theorem dLw_mends_287 : decode (mB Lw_mends) 287 = .ok (.iload 8, 2) := by decide +kernel
theorem dLw_mends_289 : decode (mB Lw_mends) 289 = .ok (.invokestatic 40, 3) := by decide +kernel
theorem dLw_mends_292 : decode (mB Lw_mends) 292 = .ok (.iconst 1, 1) := by decide +kernel
theorem dLw_mends_293 : decode (mB Lw_mends) 293 = .ok (.iadd, 1) := by decide +kernel
theorem dLw_mends_294 : decode (mB Lw_mends) 294 = .ok (.imul, 1) := by decide +kernel
theorem dLw_mends_295 : decode (mB Lw_mends) 295 = .ok (.iadd, 1) := by decide +kernel
theorem dLw_mends_296 : decode (mB Lw_mends) 296 = .ok (.iastore, 1) := by decide +kernel
theorem dLw_mends_297 : decode (mB Lw_mends) 297 = .ok (.aload_n 2, 1) := by decide +kernel
theorem dLw_mends_298 : decode (mB Lw_mends) 298 = .ok (.bipush 8, 2) := by decide +kernel
theorem dLw_mends_300 : decode (mB Lw_mends) 300 = .ok (.iload 8, 2) := by decide +kernel
theorem dLw_mends_302 : decode (mB Lw_mends) 302 = .ok (.imul, 1) := by decide +kernel
theorem dLw_mends_303 : decode (mB Lw_mends) 303 = .ok (.iconst 4, 1) := by decide +kernel
theorem dLw_mends_304 : decode (mB Lw_mends) 304 = .ok (.iadd, 1) := by decide +kernel
theorem dLw_mends_305 : decode (mB Lw_mends) 305 = .ok (.invokestatic 89, 3) := by decide +kernel
theorem dLw_mends_308 : decode (mB Lw_mends) 308 = .ok (.iinc 8 1, 3) := by decide +kernel
theorem dLw_mends_311 : decode (mB Lw_mends) 311 = .ok (.goto (-74), 3) := by decide +kernel
theorem dLw_mends_314 : decode (mB Lw_mends) 314 = .ok (.goto (-312), 3) := by decide +kernel
theorem dLw_mends_317 : decode (mB Lw_mends) 317 = .ok (.return_, 1) := by decide +kernel
def w_Lw_mends_92 (R : tpH → Prop) (K16 : (Option Nat) → (Option Nat) → (Option Nat) → Int32 → Int32 → Int32 → tpH → Prop) (x0 : Option Nat) (x1 : Option Nat) (x2 : Option Nat) (x4 : Int32) (x5 : Int32) (x6 : Int32) (x7 : Int32) (x8 : Int32) (h : tpH) : Prop :=
  (x7 < 0 → (K16 x0 x1 x2 x4 x5 (x6 + (-1 : Int32)) h)) ∧ (¬ x7 < 0 → ((¬ x8 = x6 → (K16 x0 x1 x2 x4 x5 (x6 + (-1 : Int32)) h)) ∧ (x8 = x6 → (K16 x0 x1 x2 x4 x6 (x6 + (-1 : Int32)) h))))
def b_Lw_mends_59 (R : tpH → Prop) (K16 : (Option Nat) → (Option Nat) → (Option Nat) → Int32 → Int32 → Int32 → tpH → Prop) (Y : (Option Nat) → (Option Nat) → (Option Nat) → Int32 → Int32 → Int32 → Int32 → Int32 → Int32 → tpH → Prop) (x0 : Option Nat) (x1 : Option Nat) (x2 : Option Nat) (x4 : Int32) (x5 : Int32) (x6 : Int32) (x7 : Int32) (x8 : Int32) (x9 : Int32) (h : tpH) : Prop :=
  ((40 : Int32) ≤ x9 → (w_Lw_mends_92 R K16 x0 x1 x2 x4 x5 x6 x7 x8 h)) ∧ (¬ (40 : Int32) ≤ x9 → ((x8 < 0 → (w_Lw_mends_92 R K16 x0 x1 x2 x4 x5 x6 x7 x8 h)) ∧ (¬ x8 < 0 → ((x8 = x6 → (w_Lw_mends_92 R K16 x0 x1 x2 x4 x5 x6 x7 x8 h)) ∧ (¬ x8 = x6 → (w_Lw_parentOf x1 x8 h (fun v5 h4 => Y x0 x1 x2 x4 x5 x6 x7 v5 (x9 + (1 : Int32)) h4)))))))
def w_Lw_mends_59 (R : tpH → Prop) (K16 : (Option Nat) → (Option Nat) → (Option Nat) → Int32 → Int32 → Int32 → tpH → Prop) : Nat → (Option Nat) → (Option Nat) → (Option Nat) → Int32 → Int32 → Int32 → Int32 → Int32 → Int32 → tpH → Prop
  | 0 => fun _ _ _ _ _ _ _ _ _ _ => False
  | n + 1 => b_Lw_mends_59 R K16 (w_Lw_mends_59 R K16 n)
def b_Lw_mends_237 (R : tpH → Prop) (K2 : (Option Nat) → (Option Nat) → (Option Nat) → Int32 → tpH → Prop) (Y : (Option Nat) → (Option Nat) → (Option Nat) → Int32 → (Option Nat) → Int32 → tpH → Prop) (x0 : Option Nat) (x1 : Option Nat) (x2 : Option Nat) (x3 : Int32) (x6 : Option Nat) (x8 : Int32) (h : tpH) : Prop :=
  ((40 : Int32) ≤ x8 → (K2 x0 x1 x2 x3 h)) ∧ (¬ (40 : Int32) ≤ x8 → (∃ a2, x6 = some a2 ∧ hT h a2 = 15 ∧ (vp_in x8 (hL h a2) ∧ ((¬ (hI h a2 x8.toNatClampNeg) = (1 : Int32) → (Y x0 x1 x2 x3 x6 (x8 + (1 : Int32)) h)) ∧ ((hI h a2 x8.toNatClampNeg) = (1 : Int32) → (w_Lw_place x0 x8 h (fun v8 h7 => (v8 < 0 → (Y x0 x1 x2 x3 x6 (x8 + (1 : Int32)) h7)) ∧ (¬ v8 < 0 → (w_Lw_place x1 x8 h7 (fun v11 h10 => w_Lw_valueOf x1 x8 h10 (fun v13 h12 => w_Lw_parentOf x0 x8 h12 (fun v15 h14 => ∃ a16, x1 = some a16 ∧ hT h14 a16 = 15 ∧ (vp_in ((1 : Int32) + v11) (hL h14 a16) ∧ (∀ h20, h20 = sI h14 a16 ((1 : Int32) + v11).toNatClampNeg ((x8 + ((64 : Int32) * v13)) + ((8192 : Int32) * (v15 + (1 : Int32)))) → (w_Lw_adds x2 (((8 : Int32) * x8) + (4 : Int32)) h20 (fun h22 => Y x0 x1 x2 x3 x6 (x8 + (1 : Int32)) h22))))))))))))))))
def w_Lw_mends_237 (R : tpH → Prop) (K2 : (Option Nat) → (Option Nat) → (Option Nat) → Int32 → tpH → Prop) : Nat → (Option Nat) → (Option Nat) → (Option Nat) → Int32 → (Option Nat) → Int32 → tpH → Prop
  | 0 => fun _ _ _ _ _ _ _ => False
  | n + 1 => b_Lw_mends_237 R K2 (w_Lw_mends_237 R K2 n)
def b_Lw_mends_209 (R : tpH → Prop) (K2 : (Option Nat) → (Option Nat) → (Option Nat) → Int32 → tpH → Prop) (Y : (Option Nat) → (Option Nat) → (Option Nat) → Int32 → (Option Nat) → Int32 → tpH → Prop) (x0 : Option Nat) (x1 : Option Nat) (x2 : Option Nat) (x3 : Int32) (x6 : Option Nat) (x7 : Int32) (h : tpH) : Prop :=
  ∃ a1, x6 = some a1 ∧ hT h a1 = 15 ∧ (vp_in x7 (hL h a1) ∧ ((¬ (hI h a1 x7.toNatClampNeg) = 0 → (∃ n, w_Lw_mends_237 R K2 n x0 x1 x2 x3 x6 (0 : Int32) h)) ∧ ((hI h a1 x7.toNatClampNeg) = 0 → (vp_in x7 (hL h a1) ∧ (∀ h7, h7 = sI h a1 x7.toNatClampNeg (1 : Int32) → (w_Lw_parentOf x1 x7 h7 (fun v10 h9 => Y x0 x1 x2 x3 x6 v10 h9)))))))
def w_Lw_mends_209 (R : tpH → Prop) (K2 : (Option Nat) → (Option Nat) → (Option Nat) → Int32 → tpH → Prop) : Nat → (Option Nat) → (Option Nat) → (Option Nat) → Int32 → (Option Nat) → Int32 → tpH → Prop
  | 0 => fun _ _ _ _ _ _ _ => False
  | n + 1 => b_Lw_mends_209 R K2 (w_Lw_mends_209 R K2 n)
def w_Lw_mends_134 (R : tpH → Prop) (K2 : (Option Nat) → (Option Nat) → (Option Nat) → Int32 → tpH → Prop) (x0 : Option Nat) (x1 : Option Nat) (x2 : Option Nat) (x4 : Int32) (x5 : Int32) (t0 : Int32) (h : tpH) : Prop :=
  (x4 < 0 → ((x5 < 0 → (K2 x0 x1 x2 t0 h)) ∧ (¬ x5 < 0 → (∀ a3 h4, a3 = hZ h → h4 = nC h 15 40 40 → (∃ n, w_Lw_mends_209 R K2 n x0 x1 x2 t0 (some a3) x5 h4))))) ∧ (¬ x4 < 0 → (w_Lw_parentOf x1 x4 h (fun v8 h7 => ∃ a9, x1 = some a9 ∧ hT h7 a9 = 15 ∧ (vp_in (0 : Int32) (hL h7 a9) ∧ (w_Lw_valueOf x0 v8 h7 (fun v14 h13 => w_Lw_parentOf x0 v8 h13 (fun v16 h15 => w_Lw_puts x1 (hI h7 a9 (0 : Int32).toNatClampNeg) ((v8 + ((64 : Int32) * v14)) + ((8192 : Int32) * (v16 + (1 : Int32)))) h15 (fun h17 => w_Lw_adds x2 (((8 : Int32) * v8) + (3 : Int32)) h17 (fun h18 => K2 x0 x1 x2 t0 h18)))))))))
def b_Lw_mends_16 (R : tpH → Prop) (K2 : (Option Nat) → (Option Nat) → (Option Nat) → Int32 → tpH → Prop) (Y : (Option Nat) → (Option Nat) → (Option Nat) → Int32 → Int32 → Int32 → tpH → Prop) (x0 : Option Nat) (x1 : Option Nat) (x2 : Option Nat) (x4 : Int32) (x5 : Int32) (x6 : Int32) (h : tpH) : Prop :=
  (x6 < 0 → ((0 ≤ x4 → (w_Lw_mends_134 R K2 x0 x1 x2 x4 x5 (1 : Int32) h)) ∧ (¬ 0 ≤ x4 → ((x5 < 0 → (w_Lw_mends_134 R K2 x0 x1 x2 x4 x5 (0 : Int32) h)) ∧ (¬ x5 < 0 → (w_Lw_mends_134 R K2 x0 x1 x2 x4 x5 (1 : Int32) h)))))) ∧ (¬ x6 < 0 → (w_Lw_parentOf x1 x6 h (fun v5 h4 => (v5 < 0 → (∃ n, w_Lw_mends_59 R Y n x0 x1 x2 x4 x5 x6 v5 v5 (0 : Int32) h4)) ∧ (¬ v5 < 0 → (w_Lw_place x1 v5 h4 (fun v8 h7 => (0 ≤ v8 → (∃ n, w_Lw_mends_59 R Y n x0 x1 x2 x4 x5 x6 v5 v5 (0 : Int32) h7)) ∧ (¬ 0 ≤ v8 → (∃ n, w_Lw_mends_59 R Y n x0 x1 x2 x6 x5 x6 v5 v5 (0 : Int32) h7))))))))
def w_Lw_mends_16 (R : tpH → Prop) (K2 : (Option Nat) → (Option Nat) → (Option Nat) → Int32 → tpH → Prop) : Nat → (Option Nat) → (Option Nat) → (Option Nat) → Int32 → Int32 → Int32 → tpH → Prop
  | 0 => fun _ _ _ _ _ _ _ => False
  | n + 1 => b_Lw_mends_16 R K2 (w_Lw_mends_16 R K2 n)
def b_Lw_mends_2 (R : tpH → Prop) (Y : (Option Nat) → (Option Nat) → (Option Nat) → Int32 → tpH → Prop) (x0 : Option Nat) (x1 : Option Nat) (x2 : Option Nat) (x3 : Int32) (h : tpH) : Prop :=
  (x3 = 0 → (R h)) ∧ (¬ x3 = 0 → (∃ n, w_Lw_mends_16 R Y n x0 x1 x2 (-1 : Int32) (-1 : Int32) (39 : Int32) h))
def w_Lw_mends_2 (R : tpH → Prop) : Nat → (Option Nat) → (Option Nat) → (Option Nat) → Int32 → tpH → Prop
  | 0 => fun _ _ _ _ _ => False
  | n + 1 => b_Lw_mends_2 R (w_Lw_mends_2 R n)
def w_Lw_mends (x0 : Option Nat) (x1 : Option Nat) (x2 : Option Nat) (h : tpH) (R : tpH → Prop) : Prop :=
  ∃ n, w_Lw_mends_2 R n x0 x1 x2 (1 : Int32) h
theorem s_Lw_mends_92 {h0 : tpH} {av : List tpV} {R : tpH → Prop} {K16 : (Option Nat) → (Option Nat) → (Option Nat) → Int32 → Int32 → Int32 → tpH → Prop} (k16 : ∀ (x0 : Option Nat) (x1 : Option Nat) (x2 : Option Nat) (x4 : Int32) (x5 : Int32) (x6 : Int32) (h : tpH), K16 x0 x1 x2 x4 x5 x6 h → tpR Lw_mends 3 h0 av (tpOv R (fun _ _ => False)) 16 [some (vR x0), some (vR x1), some (vR x2), none, some (vI x4), some (vI x5), some (vI x6), none, none, none] [] h) : ∀ (x0 : Option Nat) (x1 : Option Nat) (x2 : Option Nat) (x4 : Int32) (x5 : Int32) (x6 : Int32) (x7 : Int32) (x8 : Int32) (h : tpH), w_Lw_mends_92 R K16 x0 x1 x2 x4 x5 x6 x7 x8 h → tpR Lw_mends 3 h0 av (tpOv R (fun _ _ => False)) 92 [some (vR x0), some (vR x1), some (vR x2), none, some (vI x4), some (vI x5), some (vI x6), some (vI x7), some (vI x8), none] [] h := by
  intro x0 x1 x2 x4 x5 x6 x7 x8 h hw
  unfold w_Lw_mends_92 at hw
  refine tq_iload dLw_mends_92 rfl ?_
  refine tq_iflt (tgt := 109) dLw_mends_94 (by decide) (fun c1 => ?_) (fun c1 => ?_)
  · have hw := hw.1 c1
    refine tq_iload dLw_mends_109 rfl ?_
    refine tq_istore (ls' := [some (vR x0), some (vR x1), some (vR x2), none, some (vI x4), some (vI x5), some (vI x6), some (vI x7), some (vI x8), none]) dLw_mends_111 (Nat.le_of_ble_eq_true rfl) rfl ?_
    refine tq_inc (k := (-1 : Int32)) (ls' := [some (vR x0), some (vR x1), some (vR x2), none, some (vI x4), some (vI x5), some (vI (x6 + (-1 : Int32))), some (vI x7), some (vI x8), none]) dLw_mends_113 rfl tni_m1 (Nat.le_of_ble_eq_true rfl) rfl ?_
    refine tq_goto (tgt := 16) dLw_mends_116 (by decide) ?_
    refine tpR.fo (ls' := [some (vR x0), some (vR x1), some (vR x2), none, some (vI x4), some (vI x5), some (vI (x6 + (-1 : Int32))), none, none, none]) ?_ (And.intro rfl (And.intro rfl (And.intro rfl (And.intro rfl (And.intro rfl (And.intro rfl trivial))))))
    exact k16 _ _ _ _ _ _ _ hw
  · have hw := hw.2 c1
    refine tq_iload dLw_mends_97 rfl ?_
    refine tq_iload dLw_mends_99 rfl ?_
    refine tq_icmpne (tgt := 109) dLw_mends_101 (by decide) (fun c2 => ?_) (fun c2 => ?_)
    · have hw := hw.1 c2
      refine tq_iload dLw_mends_109 rfl ?_
      refine tq_istore (ls' := [some (vR x0), some (vR x1), some (vR x2), none, some (vI x4), some (vI x5), some (vI x6), some (vI x7), some (vI x8), none]) dLw_mends_111 (Nat.le_of_ble_eq_true rfl) rfl ?_
      refine tq_inc (k := (-1 : Int32)) (ls' := [some (vR x0), some (vR x1), some (vR x2), none, some (vI x4), some (vI x5), some (vI (x6 + (-1 : Int32))), some (vI x7), some (vI x8), none]) dLw_mends_113 rfl tni_m1 (Nat.le_of_ble_eq_true rfl) rfl ?_
      refine tq_goto (tgt := 16) dLw_mends_116 (by decide) ?_
      refine tpR.fo (ls' := [some (vR x0), some (vR x1), some (vR x2), none, some (vI x4), some (vI x5), some (vI (x6 + (-1 : Int32))), none, none, none]) ?_ (And.intro rfl (And.intro rfl (And.intro rfl (And.intro rfl (And.intro rfl (And.intro rfl trivial))))))
      exact k16 _ _ _ _ _ _ _ hw
    · have hw := hw.2 c2
      refine tq_iload dLw_mends_104 rfl ?_
      refine tq_goto (tgt := 111) dLw_mends_106 (by decide) ?_
      refine tq_istore (ls' := [some (vR x0), some (vR x1), some (vR x2), none, some (vI x4), some (vI x6), some (vI x6), some (vI x7), some (vI x8), none]) dLw_mends_111 (Nat.le_of_ble_eq_true rfl) rfl ?_
      refine tq_inc (k := (-1 : Int32)) (ls' := [some (vR x0), some (vR x1), some (vR x2), none, some (vI x4), some (vI x6), some (vI (x6 + (-1 : Int32))), some (vI x7), some (vI x8), none]) dLw_mends_113 rfl tni_m1 (Nat.le_of_ble_eq_true rfl) rfl ?_
      refine tq_goto (tgt := 16) dLw_mends_116 (by decide) ?_
      refine tpR.fo (ls' := [some (vR x0), some (vR x1), some (vR x2), none, some (vI x4), some (vI x6), some (vI (x6 + (-1 : Int32))), none, none, none]) ?_ (And.intro rfl (And.intro rfl (And.intro rfl (And.intro rfl (And.intro rfl (And.intro rfl trivial))))))
      exact k16 _ _ _ _ _ _ _ hw
theorem s_Lw_mends_59 {h0 : tpH} {av : List tpV} {R : tpH → Prop} {K16 : (Option Nat) → (Option Nat) → (Option Nat) → Int32 → Int32 → Int32 → tpH → Prop} (k16 : ∀ (x0 : Option Nat) (x1 : Option Nat) (x2 : Option Nat) (x4 : Int32) (x5 : Int32) (x6 : Int32) (h : tpH), K16 x0 x1 x2 x4 x5 x6 h → tpR Lw_mends 3 h0 av (tpOv R (fun _ _ => False)) 16 [some (vR x0), some (vR x1), some (vR x2), none, some (vI x4), some (vI x5), some (vI x6), none, none, none] [] h) : ∀ (n : Nat) (x0 : Option Nat) (x1 : Option Nat) (x2 : Option Nat) (x4 : Int32) (x5 : Int32) (x6 : Int32) (x7 : Int32) (x8 : Int32) (x9 : Int32) (h : tpH), w_Lw_mends_59 R K16 n x0 x1 x2 x4 x5 x6 x7 x8 x9 h → tpR Lw_mends 3 h0 av (tpOv R (fun _ _ => False)) 59 [some (vR x0), some (vR x1), some (vR x2), none, some (vI x4), some (vI x5), some (vI x6), some (vI x7), some (vI x8), some (vI x9)] [] h := by
  intro n
  induction n with
  | zero => intro x0 x1 x2 x4 x5 x6 x7 x8 x9 h hw; exact False.elim hw
  | succ n ih =>
    intro x0 x1 x2 x4 x5 x6 x7 x8 x9 h hw
    change b_Lw_mends_59 R K16 (w_Lw_mends_59 R K16 n) x0 x1 x2 x4 x5 x6 x7 x8 x9 h at hw
    unfold b_Lw_mends_59 at hw
    refine tq_iload dLw_mends_59 rfl ?_
    refine tq_bipush (v := (40 : Int32)) dLw_mends_61 tnb_40 ?_
    refine tq_icmpge (tgt := 92) dLw_mends_63 (by decide) (fun c1 => ?_) (fun c1 => ?_)
    · have hw := hw.1 c1
      refine tpR.fo (ls' := [some (vR x0), some (vR x1), some (vR x2), none, some (vI x4), some (vI x5), some (vI x6), some (vI x7), some (vI x8), none]) ?_ (And.intro rfl (And.intro rfl (And.intro rfl (And.intro rfl (And.intro rfl (And.intro rfl (And.intro rfl (And.intro rfl trivial))))))))
      exact s_Lw_mends_92 k16 _ _ _ _ _ _ _ _ _ hw
    · have hw := hw.2 c1
      refine tq_iload dLw_mends_66 rfl ?_
      refine tq_iflt (tgt := 92) dLw_mends_68 (by decide) (fun c2 => ?_) (fun c2 => ?_)
      · have hw := hw.1 c2
        refine tpR.fo (ls' := [some (vR x0), some (vR x1), some (vR x2), none, some (vI x4), some (vI x5), some (vI x6), some (vI x7), some (vI x8), none]) ?_ (And.intro rfl (And.intro rfl (And.intro rfl (And.intro rfl (And.intro rfl (And.intro rfl (And.intro rfl (And.intro rfl trivial))))))))
        exact s_Lw_mends_92 k16 _ _ _ _ _ _ _ _ _ hw
      · have hw := hw.2 c2
        refine tq_iload dLw_mends_71 rfl ?_
        refine tq_iload dLw_mends_73 rfl ?_
        refine tq_icmpeq (tgt := 92) dLw_mends_75 (by decide) (fun c3 => ?_) (fun c3 => ?_)
        · have hw := hw.1 c3
          refine tpR.fo (ls' := [some (vR x0), some (vR x1), some (vR x2), none, some (vI x4), some (vI x5), some (vI x6), some (vI x7), some (vI x8), none]) ?_ (And.intro rfl (And.intro rfl (And.intro rfl (And.intro rfl (And.intro rfl (And.intro rfl (And.intro rfl (And.intro rfl trivial))))))))
          exact s_Lw_mends_92 k16 _ _ _ _ _ _ _ _ _ hw
        · have hw := hw.2 c3
          refine tq_aload_n dLw_mends_78 rfl rfl ?_
          refine tq_iload dLw_mends_79 rfl ?_
          refine tq_callS ms_Lw_parentOf (dc := 2) (as := [vR x1, vI x8]) (rest := []) kLw_40 (Nat.le_of_ble_eq_true rfl) (Nat.le_of_ble_eq_true rfl) rfl rfl (Nat.le_of_ble_eq_true rfl) dLw_mends_81 (s_Lw_parentOf hw) (fun _ _ hx => False.elim hx) (tk_i fun v5 h4 hw => ?_)
          refine tq_istore (ls' := [some (vR x0), some (vR x1), some (vR x2), none, some (vI x4), some (vI x5), some (vI x6), some (vI x7), some (vI v5), some (vI x9)]) dLw_mends_84 (Nat.le_of_ble_eq_true rfl) rfl ?_
          refine tq_inc (k := (1 : Int32)) (ls' := [some (vR x0), some (vR x1), some (vR x2), none, some (vI x4), some (vI x5), some (vI x6), some (vI x7), some (vI v5), some (vI (x9 + (1 : Int32)))]) dLw_mends_86 rfl tni_1 (Nat.le_of_ble_eq_true rfl) rfl ?_
          refine tq_goto (tgt := 59) dLw_mends_89 (by decide) ?_
          refine tpR.fo (ls' := [some (vR x0), some (vR x1), some (vR x2), none, some (vI x4), some (vI x5), some (vI x6), some (vI x7), some (vI v5), some (vI (x9 + (1 : Int32)))]) ?_ (And.intro rfl (And.intro rfl (And.intro rfl (And.intro rfl (And.intro rfl (And.intro rfl (And.intro rfl (And.intro rfl (And.intro rfl trivial)))))))))
          exact ih _ _ _ _ _ _ _ _ _ _ hw
theorem s_Lw_mends_237 {h0 : tpH} {av : List tpV} {R : tpH → Prop} {K2 : (Option Nat) → (Option Nat) → (Option Nat) → Int32 → tpH → Prop} (k2 : ∀ (x0 : Option Nat) (x1 : Option Nat) (x2 : Option Nat) (x3 : Int32) (h : tpH), K2 x0 x1 x2 x3 h → tpR Lw_mends 3 h0 av (tpOv R (fun _ _ => False)) 2 [some (vR x0), some (vR x1), some (vR x2), some (vI x3), none, none, none, none, none, none] [] h) : ∀ (n : Nat) (x0 : Option Nat) (x1 : Option Nat) (x2 : Option Nat) (x3 : Int32) (x6 : Option Nat) (x8 : Int32) (h : tpH), w_Lw_mends_237 R K2 n x0 x1 x2 x3 x6 x8 h → tpR Lw_mends 3 h0 av (tpOv R (fun _ _ => False)) 237 [some (vR x0), some (vR x1), some (vR x2), some (vI x3), none, none, some (vR x6), none, some (vI x8), none] [] h := by
  intro n
  induction n with
  | zero => intro x0 x1 x2 x3 x6 x8 h hw; exact False.elim hw
  | succ n ih =>
    intro x0 x1 x2 x3 x6 x8 h hw
    change b_Lw_mends_237 R K2 (w_Lw_mends_237 R K2 n) x0 x1 x2 x3 x6 x8 h at hw
    unfold b_Lw_mends_237 at hw
    refine tq_iload dLw_mends_237 rfl ?_
    refine tq_bipush (v := (40 : Int32)) dLw_mends_239 tnb_40 ?_
    refine tq_icmpge (tgt := 314) dLw_mends_241 (by decide) (fun c1 => ?_) (fun c1 => ?_)
    · have hw := hw.1 c1
      refine tq_goto (tgt := 2) dLw_mends_314 (by decide) ?_
      refine tpR.fo (ls' := [some (vR x0), some (vR x1), some (vR x2), some (vI x3), none, none, none, none, none, none]) ?_ (And.intro rfl (And.intro rfl (And.intro rfl (And.intro rfl trivial))))
      exact k2 _ _ _ _ _ hw
    · have hw := hw.2 c1
      refine tq_aload dLw_mends_244 rfl ?_
      refine tq_iload dLw_mends_246 rfl ?_
      obtain ⟨a2, e3, f4, hw⟩ := hw
      obtain ⟨f5, hw⟩ := hw
      refine te_iald dLw_mends_248 e3 (Or.inl f4) f5 ?_
      refine tq_iconst (v := (1 : Int32)) dLw_mends_249 tni_1 ?_
      refine tq_icmpne (tgt := 308) dLw_mends_250 (by decide) (fun c6 => ?_) (fun c6 => ?_)
      · have hw := hw.1 c6
        refine tq_inc (k := (1 : Int32)) (ls' := [some (vR x0), some (vR x1), some (vR x2), some (vI x3), none, none, some (vR x6), none, some (vI (x8 + (1 : Int32))), none]) dLw_mends_308 rfl tni_1 (Nat.le_of_ble_eq_true rfl) rfl ?_
        refine tq_goto (tgt := 237) dLw_mends_311 (by decide) ?_
        refine tpR.fo (ls' := [some (vR x0), some (vR x1), some (vR x2), some (vI x3), none, none, some (vR x6), none, some (vI (x8 + (1 : Int32))), none]) ?_ (And.intro rfl (And.intro rfl (And.intro rfl (And.intro rfl (And.intro rfl (And.intro rfl trivial))))))
        exact ih _ _ _ _ _ _ _ hw
      · have hw := hw.2 c6
        refine tq_aload_n dLw_mends_253 rfl rfl ?_
        refine tq_iload dLw_mends_254 rfl ?_
        refine tq_callS ms_Lw_place (dc := 1) (as := [vR x0, vI x8]) (rest := []) kLw_13 (Nat.le_of_ble_eq_true rfl) (Nat.le_of_ble_eq_true rfl) rfl rfl (Nat.le_of_ble_eq_true rfl) dLw_mends_256 (s_Lw_place hw) (fun _ _ hx => False.elim hx) (tk_i fun v8 h7 hw => ?_)
        refine tq_iflt (tgt := 308) dLw_mends_259 (by decide) (fun c9 => ?_) (fun c9 => ?_)
        · have hw := hw.1 c9
          refine tq_inc (k := (1 : Int32)) (ls' := [some (vR x0), some (vR x1), some (vR x2), some (vI x3), none, none, some (vR x6), none, some (vI (x8 + (1 : Int32))), none]) dLw_mends_308 rfl tni_1 (Nat.le_of_ble_eq_true rfl) rfl ?_
          refine tq_goto (tgt := 237) dLw_mends_311 (by decide) ?_
          refine tpR.fo (ls' := [some (vR x0), some (vR x1), some (vR x2), some (vI x3), none, none, some (vR x6), none, some (vI (x8 + (1 : Int32))), none]) ?_ (And.intro rfl (And.intro rfl (And.intro rfl (And.intro rfl (And.intro rfl (And.intro rfl trivial))))))
          exact ih _ _ _ _ _ _ _ hw
        · have hw := hw.2 c9
          refine tq_aload_n dLw_mends_262 rfl rfl ?_
          refine tq_iconst (v := (1 : Int32)) dLw_mends_263 tni_1 ?_
          refine tq_aload_n dLw_mends_264 rfl rfl ?_
          refine tq_iload dLw_mends_265 rfl ?_
          refine tq_callS ms_Lw_place (dc := 1) (as := [vR x1, vI x8]) (rest := [vI (1 : Int32), vR x1]) kLw_13 (Nat.le_of_ble_eq_true rfl) (Nat.le_of_ble_eq_true rfl) rfl rfl (Nat.le_of_ble_eq_true rfl) dLw_mends_267 (s_Lw_place hw) (fun _ _ hx => False.elim hx) (tk_i fun v11 h10 hw => ?_)
          refine tq_iadd dLw_mends_270 ?_
          refine tq_iload dLw_mends_271 rfl ?_
          refine tq_bipush (v := (64 : Int32)) dLw_mends_273 tnb_64 ?_
          refine tq_aload_n dLw_mends_275 rfl rfl ?_
          refine tq_iload dLw_mends_276 rfl ?_
          refine tq_callS ms_Lw_valueOf (dc := 2) (as := [vR x1, vI x8]) (rest := [vI (64 : Int32), vI x8, vI ((1 : Int32) + v11), vR x1]) kLw_86 (Nat.le_of_ble_eq_true rfl) (Nat.le_of_ble_eq_true rfl) rfl rfl (Nat.le_of_ble_eq_true rfl) dLw_mends_278 (s_Lw_valueOf hw) (fun _ _ hx => False.elim hx) (tk_i fun v13 h12 hw => ?_)
          refine tq_imul dLw_mends_281 ?_
          refine tq_iadd dLw_mends_282 ?_
          refine tq_sipush (v := (8192 : Int32)) dLw_mends_283 tns_8192 ?_
          refine tq_aload_n dLw_mends_286 rfl rfl ?_
          refine tq_iload dLw_mends_287 rfl ?_
          refine tq_callS ms_Lw_parentOf (dc := 2) (as := [vR x0, vI x8]) (rest := [vI (8192 : Int32), vI (x8 + ((64 : Int32) * v13)), vI ((1 : Int32) + v11), vR x1]) kLw_40 (Nat.le_of_ble_eq_true rfl) (Nat.le_of_ble_eq_true rfl) rfl rfl (Nat.le_of_ble_eq_true rfl) dLw_mends_289 (s_Lw_parentOf hw) (fun _ _ hx => False.elim hx) (tk_i fun v15 h14 hw => ?_)
          refine tq_iconst (v := (1 : Int32)) dLw_mends_292 tni_1 ?_
          refine tq_iadd dLw_mends_293 ?_
          refine tq_imul dLw_mends_294 ?_
          refine tq_iadd dLw_mends_295 ?_
          obtain ⟨a16, e17, f18, hw⟩ := hw
          obtain ⟨f19, hw⟩ := hw
          refine te_iast dLw_mends_296 e17 f18 f19 (fun h20 e21 => ?_)
          have hw := hw h20 e21
          refine tq_aload_n dLw_mends_297 rfl rfl ?_
          refine tq_bipush (v := (8 : Int32)) dLw_mends_298 tnb_8 ?_
          refine tq_iload dLw_mends_300 rfl ?_
          refine tq_imul dLw_mends_302 ?_
          refine tq_iconst (v := (4 : Int32)) dLw_mends_303 tni_4 ?_
          refine tq_iadd dLw_mends_304 ?_
          refine tq_callS ms_Lw_adds (dc := 0) (as := [vR x2, vI (((8 : Int32) * x8) + (4 : Int32))]) (rest := []) kLw_89 (Nat.le_of_ble_eq_true rfl) (Nat.le_of_ble_eq_true rfl) rfl rfl (Nat.le_of_ble_eq_true rfl) dLw_mends_305 (s_Lw_adds hw) (fun _ _ hx => False.elim hx) (tk_v fun h22 hw => ?_)
          refine tq_inc (k := (1 : Int32)) (ls' := [some (vR x0), some (vR x1), some (vR x2), some (vI x3), none, none, some (vR x6), none, some (vI (x8 + (1 : Int32))), none]) dLw_mends_308 rfl tni_1 (Nat.le_of_ble_eq_true rfl) rfl ?_
          refine tq_goto (tgt := 237) dLw_mends_311 (by decide) ?_
          refine tpR.fo (ls' := [some (vR x0), some (vR x1), some (vR x2), some (vI x3), none, none, some (vR x6), none, some (vI (x8 + (1 : Int32))), none]) ?_ (And.intro rfl (And.intro rfl (And.intro rfl (And.intro rfl (And.intro rfl (And.intro rfl trivial))))))
          exact ih _ _ _ _ _ _ _ hw
theorem s_Lw_mends_209 {h0 : tpH} {av : List tpV} {R : tpH → Prop} {K2 : (Option Nat) → (Option Nat) → (Option Nat) → Int32 → tpH → Prop} (k2 : ∀ (x0 : Option Nat) (x1 : Option Nat) (x2 : Option Nat) (x3 : Int32) (h : tpH), K2 x0 x1 x2 x3 h → tpR Lw_mends 3 h0 av (tpOv R (fun _ _ => False)) 2 [some (vR x0), some (vR x1), some (vR x2), some (vI x3), none, none, none, none, none, none] [] h) : ∀ (n : Nat) (x0 : Option Nat) (x1 : Option Nat) (x2 : Option Nat) (x3 : Int32) (x6 : Option Nat) (x7 : Int32) (h : tpH), w_Lw_mends_209 R K2 n x0 x1 x2 x3 x6 x7 h → tpR Lw_mends 3 h0 av (tpOv R (fun _ _ => False)) 209 [some (vR x0), some (vR x1), some (vR x2), some (vI x3), none, none, some (vR x6), some (vI x7), none, none] [] h := by
  intro n
  induction n with
  | zero => intro x0 x1 x2 x3 x6 x7 h hw; exact False.elim hw
  | succ n ih =>
    intro x0 x1 x2 x3 x6 x7 h hw
    change b_Lw_mends_209 R K2 (w_Lw_mends_209 R K2 n) x0 x1 x2 x3 x6 x7 h at hw
    unfold b_Lw_mends_209 at hw
    refine tq_aload dLw_mends_209 rfl ?_
    refine tq_iload dLw_mends_211 rfl ?_
    obtain ⟨a1, e2, f3, hw⟩ := hw
    obtain ⟨f4, hw⟩ := hw
    refine te_iald dLw_mends_213 e2 (Or.inl f3) f4 ?_
    refine tq_ifne (tgt := 234) dLw_mends_214 (by decide) (fun c5 => ?_) (fun c5 => ?_)
    · have hw := hw.1 c5
      refine tq_iconst (v := (0 : Int32)) dLw_mends_234 tni_0 ?_
      refine tq_istore (ls' := [some (vR x0), some (vR x1), some (vR x2), some (vI x3), none, none, some (vR x6), some (vI x7), some (vI (0 : Int32)), none]) dLw_mends_235 (Nat.le_of_ble_eq_true rfl) rfl ?_
      refine tpR.fo (ls' := [some (vR x0), some (vR x1), some (vR x2), some (vI x3), none, none, some (vR x6), none, some (vI (0 : Int32)), none]) ?_ (And.intro rfl (And.intro rfl (And.intro rfl (And.intro rfl (And.intro rfl (And.intro rfl trivial))))))
      obtain ⟨n, hw⟩ := hw
      exact s_Lw_mends_237 k2 n _ _ _ _ _ _ _ hw
    · have hw := hw.2 c5
      refine tq_aload dLw_mends_217 rfl ?_
      refine tq_iload dLw_mends_219 rfl ?_
      refine tq_iconst (v := (1 : Int32)) dLw_mends_221 tni_1 ?_
      obtain ⟨f6, hw⟩ := hw
      refine te_iast dLw_mends_222 e2 f3 f6 (fun h7 e8 => ?_)
      have hw := hw h7 e8
      refine tq_aload_n dLw_mends_223 rfl rfl ?_
      refine tq_iload dLw_mends_224 rfl ?_
      refine tq_callS ms_Lw_parentOf (dc := 2) (as := [vR x1, vI x7]) (rest := []) kLw_40 (Nat.le_of_ble_eq_true rfl) (Nat.le_of_ble_eq_true rfl) rfl rfl (Nat.le_of_ble_eq_true rfl) dLw_mends_226 (s_Lw_parentOf hw) (fun _ _ hx => False.elim hx) (tk_i fun v10 h9 hw => ?_)
      refine tq_istore (ls' := [some (vR x0), some (vR x1), some (vR x2), some (vI x3), none, none, some (vR x6), some (vI v10), none, none]) dLw_mends_229 (Nat.le_of_ble_eq_true rfl) rfl ?_
      refine tq_goto (tgt := 209) dLw_mends_231 (by decide) ?_
      refine tpR.fo (ls' := [some (vR x0), some (vR x1), some (vR x2), some (vI x3), none, none, some (vR x6), some (vI v10), none, none]) ?_ (And.intro rfl (And.intro rfl (And.intro rfl (And.intro rfl (And.intro rfl (And.intro rfl trivial))))))
      exact ih _ _ _ _ _ _ _ hw
theorem s_Lw_mends_134 {h0 : tpH} {av : List tpV} {R : tpH → Prop} {K2 : (Option Nat) → (Option Nat) → (Option Nat) → Int32 → tpH → Prop} (k2 : ∀ (x0 : Option Nat) (x1 : Option Nat) (x2 : Option Nat) (x3 : Int32) (h : tpH), K2 x0 x1 x2 x3 h → tpR Lw_mends 3 h0 av (tpOv R (fun _ _ => False)) 2 [some (vR x0), some (vR x1), some (vR x2), some (vI x3), none, none, none, none, none, none] [] h) : ∀ (x0 : Option Nat) (x1 : Option Nat) (x2 : Option Nat) (x4 : Int32) (x5 : Int32) (t0 : Int32) (h : tpH), w_Lw_mends_134 R K2 x0 x1 x2 x4 x5 t0 h → tpR Lw_mends 3 h0 av (tpOv R (fun _ _ => False)) 134 [some (vR x0), some (vR x1), some (vR x2), none, some (vI x4), some (vI x5), none, none, none, none] [vI t0] h := by
  intro x0 x1 x2 x4 x5 t0 h hw
  unfold w_Lw_mends_134 at hw
  refine tq_istore_n (ls' := [some (vR x0), some (vR x1), some (vR x2), some (vI t0), some (vI x4), some (vI x5), none, none, none, none]) dLw_mends_134 rfl (Nat.le_of_ble_eq_true rfl) rfl ?_
  refine tq_iload dLw_mends_135 rfl ?_
  refine tq_iflt (tgt := 194) dLw_mends_137 (by decide) (fun c1 => ?_) (fun c1 => ?_)
  · have hw := hw.1 c1
    refine tq_iload dLw_mends_194 rfl ?_
    refine tq_iflt (tgt := 314) dLw_mends_196 (by decide) (fun c2 => ?_) (fun c2 => ?_)
    · have hw := hw.1 c2
      refine tq_goto (tgt := 2) dLw_mends_314 (by decide) ?_
      refine tpR.fo (ls' := [some (vR x0), some (vR x1), some (vR x2), some (vI t0), none, none, none, none, none, none]) ?_ (And.intro rfl (And.intro rfl (And.intro rfl (And.intro rfl trivial))))
      exact k2 _ _ _ _ _ hw
    · have hw := hw.2 c2
      refine tq_bipush (v := (40 : Int32)) dLw_mends_199 tnb_40 ?_
      refine tq_newa tpN_int (N := 40) dLw_mends_201 (by decide) (by decide) (Nat.le_of_ble_eq_true rfl) (fun a3 h4 e5 e6 => ?_)
      have hw := hw a3 h4 e5 e6
      refine tq_astore (ls' := [some (vR x0), some (vR x1), some (vR x2), some (vI t0), some (vI x4), some (vI x5), some (vR (some a3)), none, none, none]) dLw_mends_203 (Nat.le_of_ble_eq_true rfl) rfl ?_
      refine tq_iload dLw_mends_205 rfl ?_
      refine tq_istore (ls' := [some (vR x0), some (vR x1), some (vR x2), some (vI t0), some (vI x4), some (vI x5), some (vR (some a3)), some (vI x5), none, none]) dLw_mends_207 (Nat.le_of_ble_eq_true rfl) rfl ?_
      refine tpR.fo (ls' := [some (vR x0), some (vR x1), some (vR x2), some (vI t0), none, none, some (vR (some a3)), some (vI x5), none, none]) ?_ (And.intro rfl (And.intro rfl (And.intro rfl (And.intro rfl (And.intro rfl (And.intro rfl trivial))))))
      obtain ⟨n, hw⟩ := hw
      exact s_Lw_mends_209 k2 n _ _ _ _ _ _ _ hw
  · have hw := hw.2 c1
    refine tq_aload_n dLw_mends_140 rfl rfl ?_
    refine tq_iload dLw_mends_141 rfl ?_
    refine tq_callS ms_Lw_parentOf (dc := 2) (as := [vR x1, vI x4]) (rest := []) kLw_40 (Nat.le_of_ble_eq_true rfl) (Nat.le_of_ble_eq_true rfl) rfl rfl (Nat.le_of_ble_eq_true rfl) dLw_mends_143 (s_Lw_parentOf hw) (fun _ _ hx => False.elim hx) (tk_i fun v8 h7 hw => ?_)
    refine tq_istore (ls' := [some (vR x0), some (vR x1), some (vR x2), some (vI t0), some (vI x4), some (vI x5), some (vI v8), none, none, none]) dLw_mends_146 (Nat.le_of_ble_eq_true rfl) rfl ?_
    refine tq_aload_n dLw_mends_148 rfl rfl ?_
    refine tq_aload_n dLw_mends_149 rfl rfl ?_
    refine tq_iconst (v := (0 : Int32)) dLw_mends_150 tni_0 ?_
    obtain ⟨a9, e10, f11, hw⟩ := hw
    obtain ⟨f12, hw⟩ := hw
    refine te_iald dLw_mends_151 e10 (Or.inl f11) f12 ?_
    refine tq_iload dLw_mends_152 rfl ?_
    refine tq_bipush (v := (64 : Int32)) dLw_mends_154 tnb_64 ?_
    refine tq_aload_n dLw_mends_156 rfl rfl ?_
    refine tq_iload dLw_mends_157 rfl ?_
    refine tq_callS ms_Lw_valueOf (dc := 2) (as := [vR x0, vI v8]) (rest := [vI (64 : Int32), vI v8, vI (hI h7 a9 (0 : Int32).toNatClampNeg), vR x1]) kLw_86 (Nat.le_of_ble_eq_true rfl) (Nat.le_of_ble_eq_true rfl) rfl rfl (Nat.le_of_ble_eq_true rfl) dLw_mends_159 (s_Lw_valueOf hw) (fun _ _ hx => False.elim hx) (tk_i fun v14 h13 hw => ?_)
    refine tq_imul dLw_mends_162 ?_
    refine tq_iadd dLw_mends_163 ?_
    refine tq_sipush (v := (8192 : Int32)) dLw_mends_164 tns_8192 ?_
    refine tq_aload_n dLw_mends_167 rfl rfl ?_
    refine tq_iload dLw_mends_168 rfl ?_
    refine tq_callS ms_Lw_parentOf (dc := 2) (as := [vR x0, vI v8]) (rest := [vI (8192 : Int32), vI (v8 + ((64 : Int32) * v14)), vI (hI h7 a9 (0 : Int32).toNatClampNeg), vR x1]) kLw_40 (Nat.le_of_ble_eq_true rfl) (Nat.le_of_ble_eq_true rfl) rfl rfl (Nat.le_of_ble_eq_true rfl) dLw_mends_170 (s_Lw_parentOf hw) (fun _ _ hx => False.elim hx) (tk_i fun v16 h15 hw => ?_)
    refine tq_iconst (v := (1 : Int32)) dLw_mends_173 tni_1 ?_
    refine tq_iadd dLw_mends_174 ?_
    refine tq_imul dLw_mends_175 ?_
    refine tq_iadd dLw_mends_176 ?_
    refine tq_callS ms_Lw_puts (dc := 0) (as := [vR x1, vI (hI h7 a9 (0 : Int32).toNatClampNeg), vI ((v8 + ((64 : Int32) * v14)) + ((8192 : Int32) * (v16 + (1 : Int32))))]) (rest := []) kLw_101 (Nat.le_of_ble_eq_true rfl) (Nat.le_of_ble_eq_true rfl) rfl rfl (Nat.le_of_ble_eq_true rfl) dLw_mends_177 (s_Lw_puts hw) (fun _ _ hx => False.elim hx) (tk_v fun h17 hw => ?_)
    refine tq_aload_n dLw_mends_180 rfl rfl ?_
    refine tq_bipush (v := (8 : Int32)) dLw_mends_181 tnb_8 ?_
    refine tq_iload dLw_mends_183 rfl ?_
    refine tq_imul dLw_mends_185 ?_
    refine tq_iconst (v := (3 : Int32)) dLw_mends_186 tni_3 ?_
    refine tq_iadd dLw_mends_187 ?_
    refine tq_callS ms_Lw_adds (dc := 0) (as := [vR x2, vI (((8 : Int32) * v8) + (3 : Int32))]) (rest := []) kLw_89 (Nat.le_of_ble_eq_true rfl) (Nat.le_of_ble_eq_true rfl) rfl rfl (Nat.le_of_ble_eq_true rfl) dLw_mends_188 (s_Lw_adds hw) (fun _ _ hx => False.elim hx) (tk_v fun h18 hw => ?_)
    refine tq_goto (tgt := 314) dLw_mends_191 (by decide) ?_
    refine tq_goto (tgt := 2) dLw_mends_314 (by decide) ?_
    refine tpR.fo (ls' := [some (vR x0), some (vR x1), some (vR x2), some (vI t0), none, none, none, none, none, none]) ?_ (And.intro rfl (And.intro rfl (And.intro rfl (And.intro rfl trivial))))
    exact k2 _ _ _ _ _ hw
theorem s_Lw_mends_16 {h0 : tpH} {av : List tpV} {R : tpH → Prop} {K2 : (Option Nat) → (Option Nat) → (Option Nat) → Int32 → tpH → Prop} (k2 : ∀ (x0 : Option Nat) (x1 : Option Nat) (x2 : Option Nat) (x3 : Int32) (h : tpH), K2 x0 x1 x2 x3 h → tpR Lw_mends 3 h0 av (tpOv R (fun _ _ => False)) 2 [some (vR x0), some (vR x1), some (vR x2), some (vI x3), none, none, none, none, none, none] [] h) : ∀ (n : Nat) (x0 : Option Nat) (x1 : Option Nat) (x2 : Option Nat) (x4 : Int32) (x5 : Int32) (x6 : Int32) (h : tpH), w_Lw_mends_16 R K2 n x0 x1 x2 x4 x5 x6 h → tpR Lw_mends 3 h0 av (tpOv R (fun _ _ => False)) 16 [some (vR x0), some (vR x1), some (vR x2), none, some (vI x4), some (vI x5), some (vI x6), none, none, none] [] h := by
  intro n
  induction n with
  | zero => intro x0 x1 x2 x4 x5 x6 h hw; exact False.elim hw
  | succ n ih =>
    intro x0 x1 x2 x4 x5 x6 h hw
    change b_Lw_mends_16 R K2 (w_Lw_mends_16 R K2 n) x0 x1 x2 x4 x5 x6 h at hw
    unfold b_Lw_mends_16 at hw
    refine tq_iload dLw_mends_16 rfl ?_
    refine tq_iflt (tgt := 119) dLw_mends_18 (by decide) (fun c1 => ?_) (fun c1 => ?_)
    · have hw := hw.1 c1
      refine tq_iload dLw_mends_119 rfl ?_
      refine tq_ifge (tgt := 129) dLw_mends_121 (by decide) (fun c2 => ?_) (fun c2 => ?_)
      · have hw := hw.1 c2
        refine tq_iconst (v := (1 : Int32)) dLw_mends_129 tni_1 ?_
        refine tq_goto (tgt := 134) dLw_mends_130 (by decide) ?_
        refine tpR.fo (ls' := [some (vR x0), some (vR x1), some (vR x2), none, some (vI x4), some (vI x5), none, none, none, none]) ?_ (And.intro rfl (And.intro rfl (And.intro rfl (And.intro rfl (And.intro rfl trivial)))))
        exact s_Lw_mends_134 k2 _ _ _ _ _ _ _ hw
      · have hw := hw.2 c2
        refine tq_iload dLw_mends_124 rfl ?_
        refine tq_iflt (tgt := 133) dLw_mends_126 (by decide) (fun c3 => ?_) (fun c3 => ?_)
        · have hw := hw.1 c3
          refine tq_iconst (v := (0 : Int32)) dLw_mends_133 tni_0 ?_
          refine tpR.fo (ls' := [some (vR x0), some (vR x1), some (vR x2), none, some (vI x4), some (vI x5), none, none, none, none]) ?_ (And.intro rfl (And.intro rfl (And.intro rfl (And.intro rfl (And.intro rfl trivial)))))
          exact s_Lw_mends_134 k2 _ _ _ _ _ _ _ hw
        · have hw := hw.2 c3
          refine tq_iconst (v := (1 : Int32)) dLw_mends_129 tni_1 ?_
          refine tq_goto (tgt := 134) dLw_mends_130 (by decide) ?_
          refine tpR.fo (ls' := [some (vR x0), some (vR x1), some (vR x2), none, some (vI x4), some (vI x5), none, none, none, none]) ?_ (And.intro rfl (And.intro rfl (And.intro rfl (And.intro rfl (And.intro rfl trivial)))))
          exact s_Lw_mends_134 k2 _ _ _ _ _ _ _ hw
    · have hw := hw.2 c1
      refine tq_aload_n dLw_mends_21 rfl rfl ?_
      refine tq_iload dLw_mends_22 rfl ?_
      refine tq_callS ms_Lw_parentOf (dc := 2) (as := [vR x1, vI x6]) (rest := []) kLw_40 (Nat.le_of_ble_eq_true rfl) (Nat.le_of_ble_eq_true rfl) rfl rfl (Nat.le_of_ble_eq_true rfl) dLw_mends_24 (s_Lw_parentOf hw) (fun _ _ hx => False.elim hx) (tk_i fun v5 h4 hw => ?_)
      refine tq_istore (ls' := [some (vR x0), some (vR x1), some (vR x2), none, some (vI x4), some (vI x5), some (vI x6), some (vI v5), none, none]) dLw_mends_27 (Nat.le_of_ble_eq_true rfl) rfl ?_
      refine tq_iload dLw_mends_29 rfl ?_
      refine tq_iflt (tgt := 48) dLw_mends_31 (by decide) (fun c6 => ?_) (fun c6 => ?_)
      · have hw := hw.1 c6
        refine tq_iload dLw_mends_48 rfl ?_
        refine tq_istore (ls' := [some (vR x0), some (vR x1), some (vR x2), none, some (vI x4), some (vI x5), some (vI x6), some (vI v5), none, none]) dLw_mends_50 (Nat.le_of_ble_eq_true rfl) rfl ?_
        refine tq_iload dLw_mends_52 rfl ?_
        refine tq_istore (ls' := [some (vR x0), some (vR x1), some (vR x2), none, some (vI x4), some (vI x5), some (vI x6), some (vI v5), some (vI v5), none]) dLw_mends_54 (Nat.le_of_ble_eq_true rfl) rfl ?_
        refine tq_iconst (v := (0 : Int32)) dLw_mends_56 tni_0 ?_
        refine tq_istore (ls' := [some (vR x0), some (vR x1), some (vR x2), none, some (vI x4), some (vI x5), some (vI x6), some (vI v5), some (vI v5), some (vI (0 : Int32))]) dLw_mends_57 (Nat.le_of_ble_eq_true rfl) rfl ?_
        refine tpR.fo (ls' := [some (vR x0), some (vR x1), some (vR x2), none, some (vI x4), some (vI x5), some (vI x6), some (vI v5), some (vI v5), some (vI (0 : Int32))]) ?_ (And.intro rfl (And.intro rfl (And.intro rfl (And.intro rfl (And.intro rfl (And.intro rfl (And.intro rfl (And.intro rfl (And.intro rfl trivial)))))))))
        obtain ⟨n, hw⟩ := hw
        exact s_Lw_mends_59 ih n _ _ _ _ _ _ _ _ _ _ hw
      · have hw := hw.2 c6
        refine tq_aload_n dLw_mends_34 rfl rfl ?_
        refine tq_iload dLw_mends_35 rfl ?_
        refine tq_callS ms_Lw_place (dc := 1) (as := [vR x1, vI v5]) (rest := []) kLw_13 (Nat.le_of_ble_eq_true rfl) (Nat.le_of_ble_eq_true rfl) rfl rfl (Nat.le_of_ble_eq_true rfl) dLw_mends_37 (s_Lw_place hw) (fun _ _ hx => False.elim hx) (tk_i fun v8 h7 hw => ?_)
        refine tq_ifge (tgt := 48) dLw_mends_40 (by decide) (fun c9 => ?_) (fun c9 => ?_)
        · have hw := hw.1 c9
          refine tq_iload dLw_mends_48 rfl ?_
          refine tq_istore (ls' := [some (vR x0), some (vR x1), some (vR x2), none, some (vI x4), some (vI x5), some (vI x6), some (vI v5), none, none]) dLw_mends_50 (Nat.le_of_ble_eq_true rfl) rfl ?_
          refine tq_iload dLw_mends_52 rfl ?_
          refine tq_istore (ls' := [some (vR x0), some (vR x1), some (vR x2), none, some (vI x4), some (vI x5), some (vI x6), some (vI v5), some (vI v5), none]) dLw_mends_54 (Nat.le_of_ble_eq_true rfl) rfl ?_
          refine tq_iconst (v := (0 : Int32)) dLw_mends_56 tni_0 ?_
          refine tq_istore (ls' := [some (vR x0), some (vR x1), some (vR x2), none, some (vI x4), some (vI x5), some (vI x6), some (vI v5), some (vI v5), some (vI (0 : Int32))]) dLw_mends_57 (Nat.le_of_ble_eq_true rfl) rfl ?_
          refine tpR.fo (ls' := [some (vR x0), some (vR x1), some (vR x2), none, some (vI x4), some (vI x5), some (vI x6), some (vI v5), some (vI v5), some (vI (0 : Int32))]) ?_ (And.intro rfl (And.intro rfl (And.intro rfl (And.intro rfl (And.intro rfl (And.intro rfl (And.intro rfl (And.intro rfl (And.intro rfl trivial)))))))))
          obtain ⟨n, hw⟩ := hw
          exact s_Lw_mends_59 ih n _ _ _ _ _ _ _ _ _ _ hw
        · have hw := hw.2 c9
          refine tq_iload dLw_mends_43 rfl ?_
          refine tq_goto (tgt := 50) dLw_mends_45 (by decide) ?_
          refine tq_istore (ls' := [some (vR x0), some (vR x1), some (vR x2), none, some (vI x6), some (vI x5), some (vI x6), some (vI v5), none, none]) dLw_mends_50 (Nat.le_of_ble_eq_true rfl) rfl ?_
          refine tq_iload dLw_mends_52 rfl ?_
          refine tq_istore (ls' := [some (vR x0), some (vR x1), some (vR x2), none, some (vI x6), some (vI x5), some (vI x6), some (vI v5), some (vI v5), none]) dLw_mends_54 (Nat.le_of_ble_eq_true rfl) rfl ?_
          refine tq_iconst (v := (0 : Int32)) dLw_mends_56 tni_0 ?_
          refine tq_istore (ls' := [some (vR x0), some (vR x1), some (vR x2), none, some (vI x6), some (vI x5), some (vI x6), some (vI v5), some (vI v5), some (vI (0 : Int32))]) dLw_mends_57 (Nat.le_of_ble_eq_true rfl) rfl ?_
          refine tpR.fo (ls' := [some (vR x0), some (vR x1), some (vR x2), none, some (vI x6), some (vI x5), some (vI x6), some (vI v5), some (vI v5), some (vI (0 : Int32))]) ?_ (And.intro rfl (And.intro rfl (And.intro rfl (And.intro rfl (And.intro rfl (And.intro rfl (And.intro rfl (And.intro rfl (And.intro rfl trivial)))))))))
          obtain ⟨n, hw⟩ := hw
          exact s_Lw_mends_59 ih n _ _ _ _ _ _ _ _ _ _ hw
theorem s_Lw_mends_2 {h0 : tpH} {av : List tpV} {R : tpH → Prop} : ∀ (n : Nat) (x0 : Option Nat) (x1 : Option Nat) (x2 : Option Nat) (x3 : Int32) (h : tpH), w_Lw_mends_2 R n x0 x1 x2 x3 h → tpR Lw_mends 3 h0 av (tpOv R (fun _ _ => False)) 2 [some (vR x0), some (vR x1), some (vR x2), some (vI x3), none, none, none, none, none, none] [] h := by
  intro n
  induction n with
  | zero => intro x0 x1 x2 x3 h hw; exact False.elim hw
  | succ n ih =>
    intro x0 x1 x2 x3 h hw
    change b_Lw_mends_2 R (w_Lw_mends_2 R n) x0 x1 x2 x3 h at hw
    unfold b_Lw_mends_2 at hw
    refine tq_iload_n dLw_mends_2 rfl rfl ?_
    refine tq_ifeq (tgt := 317) dLw_mends_3 (by decide) (fun c1 => ?_) (fun c1 => ?_)
    · have hw := hw.1 c1
      exact tq_vret rfl dLw_mends_317 hw
    · have hw := hw.2 c1
      refine tq_iconst (v := (-1 : Int32)) dLw_mends_6 tni_m1 ?_
      refine tq_istore (ls' := [some (vR x0), some (vR x1), some (vR x2), some (vI x3), some (vI (-1 : Int32)), none, none, none, none, none]) dLw_mends_7 (Nat.le_of_ble_eq_true rfl) rfl ?_
      refine tq_iconst (v := (-1 : Int32)) dLw_mends_9 tni_m1 ?_
      refine tq_istore (ls' := [some (vR x0), some (vR x1), some (vR x2), some (vI x3), some (vI (-1 : Int32)), some (vI (-1 : Int32)), none, none, none, none]) dLw_mends_10 (Nat.le_of_ble_eq_true rfl) rfl ?_
      refine tq_bipush (v := (39 : Int32)) dLw_mends_12 tnb_39 ?_
      refine tq_istore (ls' := [some (vR x0), some (vR x1), some (vR x2), some (vI x3), some (vI (-1 : Int32)), some (vI (-1 : Int32)), some (vI (39 : Int32)), none, none, none]) dLw_mends_14 (Nat.le_of_ble_eq_true rfl) rfl ?_
      refine tpR.fo (ls' := [some (vR x0), some (vR x1), some (vR x2), none, some (vI (-1 : Int32)), some (vI (-1 : Int32)), some (vI (39 : Int32)), none, none, none]) ?_ (And.intro rfl (And.intro rfl (And.intro rfl (And.intro rfl (And.intro rfl (And.intro rfl trivial))))))
      obtain ⟨n, hw⟩ := hw
      exact s_Lw_mends_16 ih n _ _ _ _ _ _ _ hw
theorem s_Lw_mends {x0 : Option Nat} {x1 : Option Nat} {x2 : Option Nat} {h : tpH} {R : tpH → Prop} (hw : w_Lw_mends x0 x1 x2 h R) : tpC Lw_mends 3 [vR x0, vR x1, vR x2] h (tpOv R (fun _ _ => False)) := by
  refine tpC_of ms_Lw_mends.2.2.2.1 rfl rfl (Nat.le_of_ble_eq_true rfl) ?_
  show tpR Lw_mends 3 h _ _ 0 [some (vR x0), some (vR x1), some (vR x2), none, none, none, none, none, none, none] [] h
  unfold w_Lw_mends at hw
  refine tq_iconst (v := (1 : Int32)) dLw_mends_0 tni_1 ?_
  refine tq_istore_n (ls' := [some (vR x0), some (vR x1), some (vR x2), some (vI (1 : Int32)), none, none, none, none, none, none]) dLw_mends_1 rfl (Nat.le_of_ble_eq_true rfl) rfl ?_
  refine tpR.fo (ls' := [some (vR x0), some (vR x1), some (vR x2), some (vI (1 : Int32)), none, none, none, none, none, none]) ?_ (And.intro rfl (And.intro rfl (And.intro rfl (And.intro rfl trivial))))
  obtain ⟨n, hw⟩ := hw
  exact s_Lw_mends_2 n _ _ _ _ _ hw
/-! TLaw.at -/
theorem dLw_at_0 : decode (mB Lw_at) 0 = .ok (.iconst (-1), 1) := by decide +kernel
theorem dLw_at_1 : decode (mB Lw_at) 1 = .ok (.istore_n 3, 1) := by decide +kernel
theorem dLw_at_2 : decode (mB Lw_at) 2 = .ok (.iconst 0, 1) := by decide +kernel
theorem dLw_at_3 : decode (mB Lw_at) 3 = .ok (.istore 4, 2) := by decide +kernel
theorem dLw_at_5 : decode (mB Lw_at) 5 = .ok (.iload 4, 2) := by decide +kernel
theorem dLw_at_7 : decode (mB Lw_at) 7 = .ok (.iload_n 1, 1) := by decide +kernel
theorem dLw_at_8 : decode (mB Lw_at) 8 = .ok (.if_icmp .ge 24, 3) := by decide +kernel
theorem dLw_at_11 : decode (mB Lw_at) 11 = .ok (.aload_n 0, 1) := by decide +kernel
theorem dLw_at_12 : decode (mB Lw_at) 12 = .ok (.iload 4, 2) := by decide +kernel
theorem dLw_at_14 : decode (mB Lw_at) 14 = .ok (.iaload, 1) := by decide +kernel
theorem dLw_at_15 : decode (mB Lw_at) 15 = .ok (.iload_n 2, 1) := by decide +kernel
theorem dLw_at_16 : decode (mB Lw_at) 16 = .ok (.if_icmp .ne 8, 3) := by decide +kernel
theorem dLw_at_19 : decode (mB Lw_at) 19 = .ok (.iload 4, 2) := by decide +kernel
theorem dLw_at_21 : decode (mB Lw_at) 21 = .ok (.goto 4, 3) := by decide +kernel
theorem dLw_at_24 : decode (mB Lw_at) 24 = .ok (.iload_n 3, 1) := by decide +kernel
theorem dLw_at_25 : decode (mB Lw_at) 25 = .ok (.istore_n 3, 1) := by decide +kernel
theorem dLw_at_26 : decode (mB Lw_at) 26 = .ok (.iinc 4 1, 3) := by decide +kernel
theorem dLw_at_29 : decode (mB Lw_at) 29 = .ok (.goto (-24), 3) := by decide +kernel
theorem dLw_at_32 : decode (mB Lw_at) 32 = .ok (.iload_n 3, 1) := by decide +kernel
theorem dLw_at_33 : decode (mB Lw_at) 33 = .ok (.ireturn, 1) := by decide +kernel
def b_Lw_at_5 (R : Int32 → tpH → Prop) (Y : (Option Nat) → Int32 → Int32 → Int32 → Int32 → tpH → Prop) (x0 : Option Nat) (x1 : Int32) (x2 : Int32) (x3 : Int32) (x4 : Int32) (h : tpH) : Prop :=
  (x1 ≤ x4 → (R x3 h)) ∧ (¬ x1 ≤ x4 → (∃ a2, x0 = some a2 ∧ hT h a2 = 15 ∧ (vp_in x4 (hL h a2) ∧ ((¬ (hI h a2 x4.toNatClampNeg) = x2 → (Y x0 x1 x2 x3 (x4 + (1 : Int32)) h)) ∧ ((hI h a2 x4.toNatClampNeg) = x2 → (Y x0 x1 x2 x4 (x4 + (1 : Int32)) h))))))
def w_Lw_at_5 (R : Int32 → tpH → Prop) : Nat → (Option Nat) → Int32 → Int32 → Int32 → Int32 → tpH → Prop
  | 0 => fun _ _ _ _ _ _ => False
  | n + 1 => b_Lw_at_5 R (w_Lw_at_5 R n)
def w_Lw_at (x0 : Option Nat) (x1 : Int32) (x2 : Int32) (h : tpH) (R : Int32 → tpH → Prop) : Prop :=
  ∃ n, w_Lw_at_5 R n x0 x1 x2 (-1 : Int32) (0 : Int32) h
theorem s_Lw_at_5 {h0 : tpH} {av : List tpV} {R : Int32 → tpH → Prop} : ∀ (n : Nat) (x0 : Option Nat) (x1 : Int32) (x2 : Int32) (x3 : Int32) (x4 : Int32) (h : tpH), w_Lw_at_5 R n x0 x1 x2 x3 x4 h → tpR Lw_at 0 h0 av (tpOi R (fun _ _ => False)) 5 [some (vR x0), some (vI x1), some (vI x2), some (vI x3), some (vI x4)] [] h := by
  intro n
  induction n with
  | zero => intro x0 x1 x2 x3 x4 h hw; exact False.elim hw
  | succ n ih =>
    intro x0 x1 x2 x3 x4 h hw
    change b_Lw_at_5 R (w_Lw_at_5 R n) x0 x1 x2 x3 x4 h at hw
    unfold b_Lw_at_5 at hw
    refine tq_iload dLw_at_5 rfl ?_
    refine tq_iload_n dLw_at_7 rfl rfl ?_
    refine tq_icmpge (tgt := 32) dLw_at_8 (by decide) (fun c1 => ?_) (fun c1 => ?_)
    · have hw := hw.1 c1
      refine tq_iload_n dLw_at_32 rfl rfl ?_
      exact tq_iret rfl rfl dLw_at_33 hw
    · have hw := hw.2 c1
      refine tq_aload_n dLw_at_11 rfl rfl ?_
      refine tq_iload dLw_at_12 rfl ?_
      obtain ⟨a2, e3, f4, hw⟩ := hw
      obtain ⟨f5, hw⟩ := hw
      refine te_iald dLw_at_14 e3 (Or.inl f4) f5 ?_
      refine tq_iload_n dLw_at_15 rfl rfl ?_
      refine tq_icmpne (tgt := 24) dLw_at_16 (by decide) (fun c6 => ?_) (fun c6 => ?_)
      · have hw := hw.1 c6
        refine tq_iload_n dLw_at_24 rfl rfl ?_
        refine tq_istore_n (ls' := [some (vR x0), some (vI x1), some (vI x2), some (vI x3), some (vI x4)]) dLw_at_25 rfl (Nat.le_of_ble_eq_true rfl) rfl ?_
        refine tq_inc (k := (1 : Int32)) (ls' := [some (vR x0), some (vI x1), some (vI x2), some (vI x3), some (vI (x4 + (1 : Int32)))]) dLw_at_26 rfl tni_1 (Nat.le_of_ble_eq_true rfl) rfl ?_
        refine tq_goto (tgt := 5) dLw_at_29 (by decide) ?_
        refine tpR.fo (ls' := [some (vR x0), some (vI x1), some (vI x2), some (vI x3), some (vI (x4 + (1 : Int32)))]) ?_ (And.intro rfl (And.intro rfl (And.intro rfl (And.intro rfl (And.intro rfl trivial)))))
        exact ih _ _ _ _ _ _ hw
      · have hw := hw.2 c6
        refine tq_iload dLw_at_19 rfl ?_
        refine tq_goto (tgt := 25) dLw_at_21 (by decide) ?_
        refine tq_istore_n (ls' := [some (vR x0), some (vI x1), some (vI x2), some (vI x4), some (vI x4)]) dLw_at_25 rfl (Nat.le_of_ble_eq_true rfl) rfl ?_
        refine tq_inc (k := (1 : Int32)) (ls' := [some (vR x0), some (vI x1), some (vI x2), some (vI x4), some (vI (x4 + (1 : Int32)))]) dLw_at_26 rfl tni_1 (Nat.le_of_ble_eq_true rfl) rfl ?_
        refine tq_goto (tgt := 5) dLw_at_29 (by decide) ?_
        refine tpR.fo (ls' := [some (vR x0), some (vI x1), some (vI x2), some (vI x4), some (vI (x4 + (1 : Int32)))]) ?_ (And.intro rfl (And.intro rfl (And.intro rfl (And.intro rfl (And.intro rfl trivial)))))
        exact ih _ _ _ _ _ _ hw
theorem s_Lw_at {x0 : Option Nat} {x1 : Int32} {x2 : Int32} {h : tpH} {R : Int32 → tpH → Prop} (hw : w_Lw_at x0 x1 x2 h R) : tpC Lw_at 0 [vR x0, vI x1, vI x2] h (tpOi R (fun _ _ => False)) := by
  refine tpC_of ms_Lw_at.2.2.2.1 rfl rfl (Nat.le_of_ble_eq_true rfl) ?_
  show tpR Lw_at 0 h _ _ 0 [some (vR x0), some (vI x1), some (vI x2), none, none] [] h
  unfold w_Lw_at at hw
  refine tq_iconst (v := (-1 : Int32)) dLw_at_0 tni_m1 ?_
  refine tq_istore_n (ls' := [some (vR x0), some (vI x1), some (vI x2), some (vI (-1 : Int32)), none]) dLw_at_1 rfl (Nat.le_of_ble_eq_true rfl) rfl ?_
  refine tq_iconst (v := (0 : Int32)) dLw_at_2 tni_0 ?_
  refine tq_istore (ls' := [some (vR x0), some (vI x1), some (vI x2), some (vI (-1 : Int32)), some (vI (0 : Int32))]) dLw_at_3 (Nat.le_of_ble_eq_true rfl) rfl ?_
  refine tpR.fo (ls' := [some (vR x0), some (vI x1), some (vI x2), some (vI (-1 : Int32)), some (vI (0 : Int32))]) ?_ (And.intro rfl (And.intro rfl (And.intro rfl (And.intro rfl (And.intro rfl trivial)))))
  obtain ⟨n, hw⟩ := hw
  exact s_Lw_at_5 n _ _ _ _ _ _ hw
/-! TLaw.shares -/
theorem dLw_shares_0 : decode (mB Lw_shares) 0 = .ok (.bipush 40, 2) := by decide +kernel
theorem dLw_shares_2 : decode (mB Lw_shares) 2 = .ok (.newarray .int, 2) := by decide +kernel
theorem dLw_shares_4 : decode (mB Lw_shares) 4 = .ok (.astore 6, 2) := by decide +kernel
theorem dLw_shares_6 : decode (mB Lw_shares) 6 = .ok (.aload_n 0, 1) := by decide +kernel
theorem dLw_shares_7 : decode (mB Lw_shares) 7 = .ok (.iload_n 2, 1) := by decide +kernel
theorem dLw_shares_8 : decode (mB Lw_shares) 8 = .ok (.invokestatic 13, 3) := by decide +kernel
theorem dLw_shares_11 : decode (mB Lw_shares) 11 = .ok (.ifCond .ge 7, 3) := by decide +kernel
theorem dLw_shares_14 : decode (mB Lw_shares) 14 = .ok (.iconst 0, 1) := by decide +kernel
theorem dLw_shares_15 : decode (mB Lw_shares) 15 = .ok (.goto 11, 3) := by decide +kernel
theorem dLw_shares_18 : decode (mB Lw_shares) 18 = .ok (.aload_n 0, 1) := by decide +kernel
theorem dLw_shares_19 : decode (mB Lw_shares) 19 = .ok (.aload_n 1, 1) := by decide +kernel
theorem dLw_shares_20 : decode (mB Lw_shares) 20 = .ok (.iload_n 2, 1) := by decide +kernel
theorem dLw_shares_21 : decode (mB Lw_shares) 21 = .ok (.aload 6, 2) := by decide +kernel
theorem dLw_shares_23 : decode (mB Lw_shares) 23 = .ok (.invokestatic 36, 3) := by decide +kernel
theorem dLw_shares_26 : decode (mB Lw_shares) 26 = .ok (.istore 7, 2) := by decide +kernel
theorem dLw_shares_28 : decode (mB Lw_shares) 28 = .ok (.iconst 0, 1) := by decide +kernel
theorem dLw_shares_29 : decode (mB Lw_shares) 29 = .ok (.istore 8, 2) := by decide +kernel
theorem dLw_shares_31 : decode (mB Lw_shares) 31 = .ok (.iconst (-1), 1) := by decide +kernel
theorem dLw_shares_32 : decode (mB Lw_shares) 32 = .ok (.istore 9, 2) := by decide +kernel
theorem dLw_shares_34 : decode (mB Lw_shares) 34 = .ok (.iconst 0, 1) := by decide +kernel
theorem dLw_shares_35 : decode (mB Lw_shares) 35 = .ok (.istore 10, 2) := by decide +kernel
theorem dLw_shares_37 : decode (mB Lw_shares) 37 = .ok (.iconst 0, 1) := by decide +kernel
theorem dLw_shares_38 : decode (mB Lw_shares) 38 = .ok (.istore 11, 2) := by decide +kernel
theorem dLw_shares_40 : decode (mB Lw_shares) 40 = .ok (.iload 11, 2) := by decide +kernel
theorem dLw_shares_42 : decode (mB Lw_shares) 42 = .ok (.iload 7, 2) := by decide +kernel
theorem dLw_shares_44 : decode (mB Lw_shares) 44 = .ok (.if_icmp .ge 63, 3) := by decide +kernel
theorem dLw_shares_47 : decode (mB Lw_shares) 47 = .ok (.aload_n 3, 1) := by decide +kernel
theorem dLw_shares_48 : decode (mB Lw_shares) 48 = .ok (.iload 4, 2) := by decide +kernel
theorem dLw_shares_50 : decode (mB Lw_shares) 50 = .ok (.aload 6, 2) := by decide +kernel
theorem dLw_shares_52 : decode (mB Lw_shares) 52 = .ok (.iload 11, 2) := by decide +kernel
theorem dLw_shares_54 : decode (mB Lw_shares) 54 = .ok (.iaload, 1) := by decide +kernel
theorem dLw_shares_55 : decode (mB Lw_shares) 55 = .ok (.invokestatic 105, 3) := by decide +kernel
theorem dLw_shares_58 : decode (mB Lw_shares) 58 = .ok (.istore 12, 2) := by decide +kernel
theorem dLw_shares_60 : decode (mB Lw_shares) 60 = .ok (.iload 12, 2) := by decide +kernel
theorem dLw_shares_62 : decode (mB Lw_shares) 62 = .ok (.ifCond .lt 39, 3) := by decide +kernel
theorem dLw_shares_65 : decode (mB Lw_shares) 65 = .ok (.iload 10, 2) := by decide +kernel
theorem dLw_shares_67 : decode (mB Lw_shares) 67 = .ok (.ifCond .ne 10, 3) := by decide +kernel
theorem dLw_shares_70 : decode (mB Lw_shares) 70 = .ok (.iload 12, 2) := by decide +kernel
theorem dLw_shares_72 : decode (mB Lw_shares) 72 = .ok (.iload 9, 2) := by decide +kernel
theorem dLw_shares_74 : decode (mB Lw_shares) 74 = .ok (.if_icmp .ge 7, 3) := by decide +kernel
theorem dLw_shares_77 : decode (mB Lw_shares) 77 = .ok (.iconst 1, 1) := by decide +kernel
theorem dLw_shares_78 : decode (mB Lw_shares) 78 = .ok (.goto 4, 3) := by decide +kernel
theorem dLw_shares_81 : decode (mB Lw_shares) 81 = .ok (.iconst 0, 1) := by decide +kernel
theorem dLw_shares_82 : decode (mB Lw_shares) 82 = .ok (.istore 10, 2) := by decide +kernel
theorem dLw_shares_84 : decode (mB Lw_shares) 84 = .ok (.iload 12, 2) := by decide +kernel
theorem dLw_shares_86 : decode (mB Lw_shares) 86 = .ok (.istore 9, 2) := by decide +kernel
theorem dLw_shares_88 : decode (mB Lw_shares) 88 = .ok (.iinc 8 1, 3) := by decide +kernel
theorem dLw_shares_91 : decode (mB Lw_shares) 91 = .ok (.aload 5, 2) := by decide +kernel
theorem dLw_shares_93 : decode (mB Lw_shares) 93 = .ok (.iload 8, 2) := by decide +kernel
theorem dLw_shares_95 : decode (mB Lw_shares) 95 = .ok (.aload 6, 2) := by decide +kernel
theorem dLw_shares_97 : decode (mB Lw_shares) 97 = .ok (.iload 11, 2) := by decide +kernel
theorem dLw_shares_99 : decode (mB Lw_shares) 99 = .ok (.iaload, 1) := by decide +kernel
theorem dLw_shares_100 : decode (mB Lw_shares) 100 = .ok (.iastore, 1) := by decide +kernel
theorem dLw_shares_101 : decode (mB Lw_shares) 101 = .ok (.iinc 11 1, 3) := by decide +kernel
theorem dLw_shares_104 : decode (mB Lw_shares) 104 = .ok (.goto (-64), 3) := by decide +kernel
theorem dLw_shares_107 : decode (mB Lw_shares) 107 = .ok (.aload 5, 2) := by decide +kernel
theorem dLw_shares_109 : decode (mB Lw_shares) 109 = .ok (.iconst 0, 1) := by decide +kernel
theorem dLw_shares_110 : decode (mB Lw_shares) 110 = .ok (.iload 8, 2) := by decide +kernel
theorem dLw_shares_112 : decode (mB Lw_shares) 112 = .ok (.iastore, 1) := by decide +kernel
theorem dLw_shares_113 : decode (mB Lw_shares) 113 = .ok (.iload 10, 2) := by decide +kernel
theorem dLw_shares_115 : decode (mB Lw_shares) 115 = .ok (.ireturn, 1) := by decide +kernel
def w_Lw_shares_82 (R : Int32 → tpH → Prop) (K40 : (Option Nat) → Int32 → (Option Nat) → (Option Nat) → Int32 → Int32 → Int32 → Int32 → Int32 → tpH → Prop) (x3 : Option Nat) (x4 : Int32) (x5 : Option Nat) (x6 : Option Nat) (x7 : Int32) (x8 : Int32) (x11 : Int32) (x12 : Int32) (t0 : Int32) (h : tpH) : Prop :=
  ∃ a1, x6 = some a1 ∧ hT h a1 = 15 ∧ (vp_in x11 (hL h a1) ∧ (∃ a5, x5 = some a5 ∧ hT h a5 = 15 ∧ (vp_in (x8 + (1 : Int32)) (hL h a5) ∧ (∀ h9, h9 = sI h a5 (x8 + (1 : Int32)).toNatClampNeg (hI h a1 x11.toNatClampNeg) → (K40 x3 x4 x5 x6 x7 (x8 + (1 : Int32)) x12 t0 (x11 + (1 : Int32)) h9)))))
def b_Lw_shares_40 (R : Int32 → tpH → Prop) (Y : (Option Nat) → Int32 → (Option Nat) → (Option Nat) → Int32 → Int32 → Int32 → Int32 → Int32 → tpH → Prop) (x3 : Option Nat) (x4 : Int32) (x5 : Option Nat) (x6 : Option Nat) (x7 : Int32) (x8 : Int32) (x9 : Int32) (x10 : Int32) (x11 : Int32) (h : tpH) : Prop :=
  (x7 ≤ x11 → (∃ a2, x5 = some a2 ∧ hT h a2 = 15 ∧ (vp_in (0 : Int32) (hL h a2) ∧ (∀ h6, h6 = sI h a2 (0 : Int32).toNatClampNeg x8 → (tpB x10 ∧ (R x10 h6)))))) ∧ (¬ x7 ≤ x11 → (∃ a9, x6 = some a9 ∧ hT h a9 = 15 ∧ (vp_in x11 (hL h a9) ∧ (w_Lw_at x3 x4 (hI h a9 x11.toNatClampNeg) h (fun v14 h13 => (v14 < 0 → (Y x3 x4 x5 x6 x7 x8 x9 x10 (x11 + (1 : Int32)) h13)) ∧ (¬ v14 < 0 → ((¬ x10 = 0 → (w_Lw_shares_82 R Y x3 x4 x5 x6 x7 x8 x11 v14 (1 : Int32) h13)) ∧ (x10 = 0 → ((x9 ≤ v14 → (w_Lw_shares_82 R Y x3 x4 x5 x6 x7 x8 x11 v14 (0 : Int32) h13)) ∧ (¬ x9 ≤ v14 → (w_Lw_shares_82 R Y x3 x4 x5 x6 x7 x8 x11 v14 (1 : Int32) h13)))))))))))
def w_Lw_shares_40 (R : Int32 → tpH → Prop) : Nat → (Option Nat) → Int32 → (Option Nat) → (Option Nat) → Int32 → Int32 → Int32 → Int32 → Int32 → tpH → Prop
  | 0 => fun _ _ _ _ _ _ _ _ _ _ => False
  | n + 1 => b_Lw_shares_40 R (w_Lw_shares_40 R n)
def w_Lw_shares_26 (R : Int32 → tpH → Prop) (x3 : Option Nat) (x4 : Int32) (x5 : Option Nat) (x6 : Option Nat) (t0 : Int32) (h : tpH) : Prop :=
  ∃ n, w_Lw_shares_40 R n x3 x4 x5 x6 t0 (0 : Int32) (-1 : Int32) (0 : Int32) (0 : Int32) h
def w_Lw_shares (x0 : Option Nat) (x1 : Option Nat) (x2 : Int32) (x3 : Option Nat) (x4 : Int32) (x5 : Option Nat) (h : tpH) (R : Int32 → tpH → Prop) : Prop :=
  ∀ a1 h2, a1 = hZ h → h2 = nC h 15 40 40 → (w_Lw_place x0 x2 h2 (fun v6 h5 => (0 ≤ v6 → (w_Lw_children x0 x1 x2 (some a1) h5 (fun v9 h8 => w_Lw_shares_26 R x3 x4 x5 (some a1) v9 h8))) ∧ (¬ 0 ≤ v6 → (w_Lw_shares_26 R x3 x4 x5 (some a1) (0 : Int32) h5))))
theorem s_Lw_shares_82 {h0 : tpH} {av : List tpV} {R : Int32 → tpH → Prop} {K40 : (Option Nat) → Int32 → (Option Nat) → (Option Nat) → Int32 → Int32 → Int32 → Int32 → Int32 → tpH → Prop} (k40 : ∀ (x3 : Option Nat) (x4 : Int32) (x5 : Option Nat) (x6 : Option Nat) (x7 : Int32) (x8 : Int32) (x9 : Int32) (x10 : Int32) (x11 : Int32) (h : tpH), K40 x3 x4 x5 x6 x7 x8 x9 x10 x11 h → tpR Lw_shares 2 h0 av (tpOi R (fun _ _ => False)) 40 [none, none, none, some (vR x3), some (vI x4), some (vR x5), some (vR x6), some (vI x7), some (vI x8), some (vI x9), some (vI x10), some (vI x11), none] [] h) : ∀ (x3 : Option Nat) (x4 : Int32) (x5 : Option Nat) (x6 : Option Nat) (x7 : Int32) (x8 : Int32) (x11 : Int32) (x12 : Int32) (t0 : Int32) (h : tpH), w_Lw_shares_82 R K40 x3 x4 x5 x6 x7 x8 x11 x12 t0 h → tpR Lw_shares 2 h0 av (tpOi R (fun _ _ => False)) 82 [none, none, none, some (vR x3), some (vI x4), some (vR x5), some (vR x6), some (vI x7), some (vI x8), none, none, some (vI x11), some (vI x12)] [vI t0] h := by
  intro x3 x4 x5 x6 x7 x8 x11 x12 t0 h hw
  unfold w_Lw_shares_82 at hw
  refine tq_istore (ls' := [none, none, none, some (vR x3), some (vI x4), some (vR x5), some (vR x6), some (vI x7), some (vI x8), none, some (vI t0), some (vI x11), some (vI x12)]) dLw_shares_82 (Nat.le_of_ble_eq_true rfl) rfl ?_
  refine tq_iload dLw_shares_84 rfl ?_
  refine tq_istore (ls' := [none, none, none, some (vR x3), some (vI x4), some (vR x5), some (vR x6), some (vI x7), some (vI x8), some (vI x12), some (vI t0), some (vI x11), some (vI x12)]) dLw_shares_86 (Nat.le_of_ble_eq_true rfl) rfl ?_
  refine tq_inc (k := (1 : Int32)) (ls' := [none, none, none, some (vR x3), some (vI x4), some (vR x5), some (vR x6), some (vI x7), some (vI (x8 + (1 : Int32))), some (vI x12), some (vI t0), some (vI x11), some (vI x12)]) dLw_shares_88 rfl tni_1 (Nat.le_of_ble_eq_true rfl) rfl ?_
  refine tq_aload dLw_shares_91 rfl ?_
  refine tq_iload dLw_shares_93 rfl ?_
  refine tq_aload dLw_shares_95 rfl ?_
  refine tq_iload dLw_shares_97 rfl ?_
  obtain ⟨a1, e2, f3, hw⟩ := hw
  obtain ⟨f4, hw⟩ := hw
  refine te_iald dLw_shares_99 e2 (Or.inl f3) f4 ?_
  obtain ⟨a5, e6, f7, hw⟩ := hw
  obtain ⟨f8, hw⟩ := hw
  refine te_iast dLw_shares_100 e6 f7 f8 (fun h9 e10 => ?_)
  have hw := hw h9 e10
  refine tq_inc (k := (1 : Int32)) (ls' := [none, none, none, some (vR x3), some (vI x4), some (vR x5), some (vR x6), some (vI x7), some (vI (x8 + (1 : Int32))), some (vI x12), some (vI t0), some (vI (x11 + (1 : Int32))), some (vI x12)]) dLw_shares_101 rfl tni_1 (Nat.le_of_ble_eq_true rfl) rfl ?_
  refine tq_goto (tgt := 40) dLw_shares_104 (by decide) ?_
  refine tpR.fo (ls' := [none, none, none, some (vR x3), some (vI x4), some (vR x5), some (vR x6), some (vI x7), some (vI (x8 + (1 : Int32))), some (vI x12), some (vI t0), some (vI (x11 + (1 : Int32))), none]) ?_ (And.intro rfl (And.intro rfl (And.intro rfl (And.intro rfl (And.intro rfl (And.intro rfl (And.intro rfl (And.intro rfl (And.intro rfl trivial)))))))))
  exact k40 _ _ _ _ _ _ _ _ _ _ hw
theorem s_Lw_shares_40 {h0 : tpH} {av : List tpV} {R : Int32 → tpH → Prop} : ∀ (n : Nat) (x3 : Option Nat) (x4 : Int32) (x5 : Option Nat) (x6 : Option Nat) (x7 : Int32) (x8 : Int32) (x9 : Int32) (x10 : Int32) (x11 : Int32) (h : tpH), w_Lw_shares_40 R n x3 x4 x5 x6 x7 x8 x9 x10 x11 h → tpR Lw_shares 2 h0 av (tpOi R (fun _ _ => False)) 40 [none, none, none, some (vR x3), some (vI x4), some (vR x5), some (vR x6), some (vI x7), some (vI x8), some (vI x9), some (vI x10), some (vI x11), none] [] h := by
  intro n
  induction n with
  | zero => intro x3 x4 x5 x6 x7 x8 x9 x10 x11 h hw; exact False.elim hw
  | succ n ih =>
    intro x3 x4 x5 x6 x7 x8 x9 x10 x11 h hw
    change b_Lw_shares_40 R (w_Lw_shares_40 R n) x3 x4 x5 x6 x7 x8 x9 x10 x11 h at hw
    unfold b_Lw_shares_40 at hw
    refine tq_iload dLw_shares_40 rfl ?_
    refine tq_iload dLw_shares_42 rfl ?_
    refine tq_icmpge (tgt := 107) dLw_shares_44 (by decide) (fun c1 => ?_) (fun c1 => ?_)
    · have hw := hw.1 c1
      refine tq_aload dLw_shares_107 rfl ?_
      refine tq_iconst (v := (0 : Int32)) dLw_shares_109 tni_0 ?_
      refine tq_iload dLw_shares_110 rfl ?_
      obtain ⟨a2, e3, f4, hw⟩ := hw
      obtain ⟨f5, hw⟩ := hw
      refine te_iast dLw_shares_112 e3 f4 f5 (fun h6 e7 => ?_)
      have hw := hw h6 e7
      refine tq_iload dLw_shares_113 rfl ?_
      obtain ⟨f8, hw⟩ := hw
      exact tq_iret rfl (tpB_n f8) dLw_shares_115 hw
    · have hw := hw.2 c1
      refine tq_aload_n dLw_shares_47 rfl rfl ?_
      refine tq_iload dLw_shares_48 rfl ?_
      refine tq_aload dLw_shares_50 rfl ?_
      refine tq_iload dLw_shares_52 rfl ?_
      obtain ⟨a9, e10, f11, hw⟩ := hw
      obtain ⟨f12, hw⟩ := hw
      refine te_iald dLw_shares_54 e10 (Or.inl f11) f12 ?_
      refine tq_callS ms_Lw_at (dc := 0) (as := [vR x3, vI x4, vI (hI h a9 x11.toNatClampNeg)]) (rest := []) kLw_105 (Nat.le_of_ble_eq_true rfl) (Nat.le_of_ble_eq_true rfl) rfl rfl (Nat.le_of_ble_eq_true rfl) dLw_shares_55 (s_Lw_at hw) (fun _ _ hx => False.elim hx) (tk_i fun v14 h13 hw => ?_)
      refine tq_istore (ls' := [none, none, none, some (vR x3), some (vI x4), some (vR x5), some (vR x6), some (vI x7), some (vI x8), some (vI x9), some (vI x10), some (vI x11), some (vI v14)]) dLw_shares_58 (Nat.le_of_ble_eq_true rfl) rfl ?_
      refine tq_iload dLw_shares_60 rfl ?_
      refine tq_iflt (tgt := 101) dLw_shares_62 (by decide) (fun c15 => ?_) (fun c15 => ?_)
      · have hw := hw.1 c15
        refine tq_inc (k := (1 : Int32)) (ls' := [none, none, none, some (vR x3), some (vI x4), some (vR x5), some (vR x6), some (vI x7), some (vI x8), some (vI x9), some (vI x10), some (vI (x11 + (1 : Int32))), some (vI v14)]) dLw_shares_101 rfl tni_1 (Nat.le_of_ble_eq_true rfl) rfl ?_
        refine tq_goto (tgt := 40) dLw_shares_104 (by decide) ?_
        refine tpR.fo (ls' := [none, none, none, some (vR x3), some (vI x4), some (vR x5), some (vR x6), some (vI x7), some (vI x8), some (vI x9), some (vI x10), some (vI (x11 + (1 : Int32))), none]) ?_ (And.intro rfl (And.intro rfl (And.intro rfl (And.intro rfl (And.intro rfl (And.intro rfl (And.intro rfl (And.intro rfl (And.intro rfl trivial)))))))))
        exact ih _ _ _ _ _ _ _ _ _ _ hw
      · have hw := hw.2 c15
        refine tq_iload dLw_shares_65 rfl ?_
        refine tq_ifne (tgt := 77) dLw_shares_67 (by decide) (fun c16 => ?_) (fun c16 => ?_)
        · have hw := hw.1 c16
          refine tq_iconst (v := (1 : Int32)) dLw_shares_77 tni_1 ?_
          refine tq_goto (tgt := 82) dLw_shares_78 (by decide) ?_
          refine tpR.fo (ls' := [none, none, none, some (vR x3), some (vI x4), some (vR x5), some (vR x6), some (vI x7), some (vI x8), none, none, some (vI x11), some (vI v14)]) ?_ (And.intro rfl (And.intro rfl (And.intro rfl (And.intro rfl (And.intro rfl (And.intro rfl (And.intro rfl (And.intro rfl trivial))))))))
          exact s_Lw_shares_82 ih _ _ _ _ _ _ _ _ _ _ hw
        · have hw := hw.2 c16
          refine tq_iload dLw_shares_70 rfl ?_
          refine tq_iload dLw_shares_72 rfl ?_
          refine tq_icmpge (tgt := 81) dLw_shares_74 (by decide) (fun c17 => ?_) (fun c17 => ?_)
          · have hw := hw.1 c17
            refine tq_iconst (v := (0 : Int32)) dLw_shares_81 tni_0 ?_
            refine tpR.fo (ls' := [none, none, none, some (vR x3), some (vI x4), some (vR x5), some (vR x6), some (vI x7), some (vI x8), none, none, some (vI x11), some (vI v14)]) ?_ (And.intro rfl (And.intro rfl (And.intro rfl (And.intro rfl (And.intro rfl (And.intro rfl (And.intro rfl (And.intro rfl trivial))))))))
            exact s_Lw_shares_82 ih _ _ _ _ _ _ _ _ _ _ hw
          · have hw := hw.2 c17
            refine tq_iconst (v := (1 : Int32)) dLw_shares_77 tni_1 ?_
            refine tq_goto (tgt := 82) dLw_shares_78 (by decide) ?_
            refine tpR.fo (ls' := [none, none, none, some (vR x3), some (vI x4), some (vR x5), some (vR x6), some (vI x7), some (vI x8), none, none, some (vI x11), some (vI v14)]) ?_ (And.intro rfl (And.intro rfl (And.intro rfl (And.intro rfl (And.intro rfl (And.intro rfl (And.intro rfl (And.intro rfl trivial))))))))
            exact s_Lw_shares_82 ih _ _ _ _ _ _ _ _ _ _ hw
theorem s_Lw_shares_26 {h0 : tpH} {av : List tpV} {R : Int32 → tpH → Prop} : ∀ (x3 : Option Nat) (x4 : Int32) (x5 : Option Nat) (x6 : Option Nat) (t0 : Int32) (h : tpH), w_Lw_shares_26 R x3 x4 x5 x6 t0 h → tpR Lw_shares 2 h0 av (tpOi R (fun _ _ => False)) 26 [none, none, none, some (vR x3), some (vI x4), some (vR x5), some (vR x6), none, none, none, none, none, none] [vI t0] h := by
  intro x3 x4 x5 x6 t0 h hw
  unfold w_Lw_shares_26 at hw
  refine tq_istore (ls' := [none, none, none, some (vR x3), some (vI x4), some (vR x5), some (vR x6), some (vI t0), none, none, none, none, none]) dLw_shares_26 (Nat.le_of_ble_eq_true rfl) rfl ?_
  refine tq_iconst (v := (0 : Int32)) dLw_shares_28 tni_0 ?_
  refine tq_istore (ls' := [none, none, none, some (vR x3), some (vI x4), some (vR x5), some (vR x6), some (vI t0), some (vI (0 : Int32)), none, none, none, none]) dLw_shares_29 (Nat.le_of_ble_eq_true rfl) rfl ?_
  refine tq_iconst (v := (-1 : Int32)) dLw_shares_31 tni_m1 ?_
  refine tq_istore (ls' := [none, none, none, some (vR x3), some (vI x4), some (vR x5), some (vR x6), some (vI t0), some (vI (0 : Int32)), some (vI (-1 : Int32)), none, none, none]) dLw_shares_32 (Nat.le_of_ble_eq_true rfl) rfl ?_
  refine tq_iconst (v := (0 : Int32)) dLw_shares_34 tni_0 ?_
  refine tq_istore (ls' := [none, none, none, some (vR x3), some (vI x4), some (vR x5), some (vR x6), some (vI t0), some (vI (0 : Int32)), some (vI (-1 : Int32)), some (vI (0 : Int32)), none, none]) dLw_shares_35 (Nat.le_of_ble_eq_true rfl) rfl ?_
  refine tq_iconst (v := (0 : Int32)) dLw_shares_37 tni_0 ?_
  refine tq_istore (ls' := [none, none, none, some (vR x3), some (vI x4), some (vR x5), some (vR x6), some (vI t0), some (vI (0 : Int32)), some (vI (-1 : Int32)), some (vI (0 : Int32)), some (vI (0 : Int32)), none]) dLw_shares_38 (Nat.le_of_ble_eq_true rfl) rfl ?_
  refine tpR.fo (ls' := [none, none, none, some (vR x3), some (vI x4), some (vR x5), some (vR x6), some (vI t0), some (vI (0 : Int32)), some (vI (-1 : Int32)), some (vI (0 : Int32)), some (vI (0 : Int32)), none]) ?_ (And.intro rfl (And.intro rfl (And.intro rfl (And.intro rfl (And.intro rfl (And.intro rfl (And.intro rfl (And.intro rfl (And.intro rfl trivial)))))))))
  obtain ⟨n, hw⟩ := hw
  exact s_Lw_shares_40 n _ _ _ _ _ _ _ _ _ _ hw
theorem s_Lw_shares {x0 : Option Nat} {x1 : Option Nat} {x2 : Int32} {x3 : Option Nat} {x4 : Int32} {x5 : Option Nat} {h : tpH} {R : Int32 → tpH → Prop} (hw : w_Lw_shares x0 x1 x2 x3 x4 x5 h R) : tpC Lw_shares 2 [vR x0, vR x1, vI x2, vR x3, vI x4, vR x5] h (tpOi R (fun _ _ => False)) := by
  refine tpC_of ms_Lw_shares.2.2.2.1 rfl rfl (Nat.le_of_ble_eq_true rfl) ?_
  show tpR Lw_shares 2 h _ _ 0 [some (vR x0), some (vR x1), some (vI x2), some (vR x3), some (vI x4), some (vR x5), none, none, none, none, none, none, none] [] h
  unfold w_Lw_shares at hw
  refine tq_bipush (v := (40 : Int32)) dLw_shares_0 tnb_40 ?_
  refine tq_newa tpN_int (N := 40) dLw_shares_2 (by decide) (by decide) (Nat.le_of_ble_eq_true rfl) (fun a1 h2 e3 e4 => ?_)
  have hw := hw a1 h2 e3 e4
  refine tq_astore (ls' := [some (vR x0), some (vR x1), some (vI x2), some (vR x3), some (vI x4), some (vR x5), some (vR (some a1)), none, none, none, none, none, none]) dLw_shares_4 (Nat.le_of_ble_eq_true rfl) rfl ?_
  refine tq_aload_n dLw_shares_6 rfl rfl ?_
  refine tq_iload_n dLw_shares_7 rfl rfl ?_
  refine tq_callS ms_Lw_place (dc := 1) (as := [vR x0, vI x2]) (rest := []) kLw_13 (Nat.le_of_ble_eq_true rfl) (Nat.le_of_ble_eq_true rfl) rfl rfl (Nat.le_of_ble_eq_true rfl) dLw_shares_8 (s_Lw_place hw) (fun _ _ hx => False.elim hx) (tk_i fun v6 h5 hw => ?_)
  refine tq_ifge (tgt := 18) dLw_shares_11 (by decide) (fun c7 => ?_) (fun c7 => ?_)
  · have hw := hw.1 c7
    refine tq_aload_n dLw_shares_18 rfl rfl ?_
    refine tq_aload_n dLw_shares_19 rfl rfl ?_
    refine tq_iload_n dLw_shares_20 rfl rfl ?_
    refine tq_aload dLw_shares_21 rfl ?_
    refine tq_callS ms_Lw_children (dc := 1) (as := [vR x0, vR x1, vI x2, vR (some a1)]) (rest := []) kLw_36 (Nat.le_of_ble_eq_true rfl) (Nat.le_of_ble_eq_true rfl) rfl rfl (Nat.le_of_ble_eq_true rfl) dLw_shares_23 (s_Lw_children hw) (fun _ _ hx => False.elim hx) (tk_i fun v9 h8 hw => ?_)
    refine tpR.fo (ls' := [none, none, none, some (vR x3), some (vI x4), some (vR x5), some (vR (some a1)), none, none, none, none, none, none]) ?_ (And.intro rfl (And.intro rfl (And.intro rfl (And.intro rfl trivial))))
    exact s_Lw_shares_26 _ _ _ _ _ _ hw
  · have hw := hw.2 c7
    refine tq_iconst (v := (0 : Int32)) dLw_shares_14 tni_0 ?_
    refine tq_goto (tgt := 26) dLw_shares_15 (by decide) ?_
    refine tpR.fo (ls' := [none, none, none, some (vR x3), some (vI x4), some (vR x5), some (vR (some a1)), none, none, none, none, none, none]) ?_ (And.intro rfl (And.intro rfl (And.intro rfl (And.intro rfl trivial))))
    exact s_Lw_shares_26 _ _ _ _ _ _ hw
/-! TLaw.ahead -/
theorem dLw_ahead_0 : decode (mB Lw_ahead) 0 = .ok (.bipush 40, 2) := by decide +kernel
theorem dLw_ahead_2 : decode (mB Lw_ahead) 2 = .ok (.newarray .int, 2) := by decide +kernel
theorem dLw_ahead_4 : decode (mB Lw_ahead) 4 = .ok (.astore 5, 2) := by decide +kernel
theorem dLw_ahead_6 : decode (mB Lw_ahead) 6 = .ok (.aload_n 0, 1) := by decide +kernel
theorem dLw_ahead_7 : decode (mB Lw_ahead) 7 = .ok (.aload_n 1, 1) := by decide +kernel
theorem dLw_ahead_8 : decode (mB Lw_ahead) 8 = .ok (.iload_n 2, 1) := by decide +kernel
theorem dLw_ahead_9 : decode (mB Lw_ahead) 9 = .ok (.aload 5, 2) := by decide +kernel
theorem dLw_ahead_11 : decode (mB Lw_ahead) 11 = .ok (.invokestatic 36, 3) := by decide +kernel
theorem dLw_ahead_14 : decode (mB Lw_ahead) 14 = .ok (.istore 6, 2) := by decide +kernel
theorem dLw_ahead_16 : decode (mB Lw_ahead) 16 = .ok (.iconst (-1), 1) := by decide +kernel
theorem dLw_ahead_17 : decode (mB Lw_ahead) 17 = .ok (.istore 7, 2) := by decide +kernel
theorem dLw_ahead_19 : decode (mB Lw_ahead) 19 = .ok (.iconst 0, 1) := by decide +kernel
theorem dLw_ahead_20 : decode (mB Lw_ahead) 20 = .ok (.istore 8, 2) := by decide +kernel
theorem dLw_ahead_22 : decode (mB Lw_ahead) 22 = .ok (.iload 8, 2) := by decide +kernel
theorem dLw_ahead_24 : decode (mB Lw_ahead) 24 = .ok (.aload 5, 2) := by decide +kernel
theorem dLw_ahead_26 : decode (mB Lw_ahead) 26 = .ok (.iload 6, 2) := by decide +kernel
theorem dLw_ahead_28 : decode (mB Lw_ahead) 28 = .ok (.iload_n 3, 1) := by decide +kernel
theorem dLw_ahead_29 : decode (mB Lw_ahead) 29 = .ok (.invokestatic 105, 3) := by decide +kernel
theorem dLw_ahead_32 : decode (mB Lw_ahead) 32 = .ok (.if_icmp .ge 72, 3) := by decide +kernel
theorem dLw_ahead_35 : decode (mB Lw_ahead) 35 = .ok (.iconst 0, 1) := by decide +kernel
theorem dLw_ahead_36 : decode (mB Lw_ahead) 36 = .ok (.istore 9, 2) := by decide +kernel
theorem dLw_ahead_38 : decode (mB Lw_ahead) 38 = .ok (.iconst 1, 1) := by decide +kernel
theorem dLw_ahead_39 : decode (mB Lw_ahead) 39 = .ok (.istore 10, 2) := by decide +kernel
theorem dLw_ahead_41 : decode (mB Lw_ahead) 41 = .ok (.iload 10, 2) := by decide +kernel
theorem dLw_ahead_43 : decode (mB Lw_ahead) 43 = .ok (.aload 4, 2) := by decide +kernel
theorem dLw_ahead_45 : decode (mB Lw_ahead) 45 = .ok (.iconst 0, 1) := by decide +kernel
theorem dLw_ahead_46 : decode (mB Lw_ahead) 46 = .ok (.iaload, 1) := by decide +kernel
theorem dLw_ahead_47 : decode (mB Lw_ahead) 47 = .ok (.if_icmp .gt 34, 3) := by decide +kernel
theorem dLw_ahead_50 : decode (mB Lw_ahead) 50 = .ok (.iload 9, 2) := by decide +kernel
theorem dLw_ahead_52 : decode (mB Lw_ahead) 52 = .ok (.ifCond .ne 16, 3) := by decide +kernel
theorem dLw_ahead_55 : decode (mB Lw_ahead) 55 = .ok (.aload 4, 2) := by decide +kernel
theorem dLw_ahead_57 : decode (mB Lw_ahead) 57 = .ok (.iload 10, 2) := by decide +kernel
theorem dLw_ahead_59 : decode (mB Lw_ahead) 59 = .ok (.iaload, 1) := by decide +kernel
theorem dLw_ahead_60 : decode (mB Lw_ahead) 60 = .ok (.aload 5, 2) := by decide +kernel
theorem dLw_ahead_62 : decode (mB Lw_ahead) 62 = .ok (.iload 8, 2) := by decide +kernel
theorem dLw_ahead_64 : decode (mB Lw_ahead) 64 = .ok (.iaload, 1) := by decide +kernel
theorem dLw_ahead_65 : decode (mB Lw_ahead) 65 = .ok (.if_icmp .ne 7, 3) := by decide +kernel
theorem dLw_ahead_68 : decode (mB Lw_ahead) 68 = .ok (.iconst 1, 1) := by decide +kernel
theorem dLw_ahead_69 : decode (mB Lw_ahead) 69 = .ok (.goto 4, 3) := by decide +kernel
theorem dLw_ahead_72 : decode (mB Lw_ahead) 72 = .ok (.iconst 0, 1) := by decide +kernel
theorem dLw_ahead_73 : decode (mB Lw_ahead) 73 = .ok (.istore 9, 2) := by decide +kernel
theorem dLw_ahead_75 : decode (mB Lw_ahead) 75 = .ok (.iinc 10 1, 3) := by decide +kernel
theorem dLw_ahead_78 : decode (mB Lw_ahead) 78 = .ok (.goto (-37), 3) := by decide +kernel
theorem dLw_ahead_81 : decode (mB Lw_ahead) 81 = .ok (.iload 9, 2) := by decide +kernel
theorem dLw_ahead_83 : decode (mB Lw_ahead) 83 = .ok (.ifCond .eq 11, 3) := by decide +kernel
theorem dLw_ahead_86 : decode (mB Lw_ahead) 86 = .ok (.aload 5, 2) := by decide +kernel
theorem dLw_ahead_88 : decode (mB Lw_ahead) 88 = .ok (.iload 8, 2) := by decide +kernel
theorem dLw_ahead_90 : decode (mB Lw_ahead) 90 = .ok (.iaload, 1) := by decide +kernel
theorem dLw_ahead_91 : decode (mB Lw_ahead) 91 = .ok (.goto 5, 3) := by decide +kernel
theorem dLw_ahead_94 : decode (mB Lw_ahead) 94 = .ok (.iload 7, 2) := by decide +kernel
theorem dLw_ahead_96 : decode (mB Lw_ahead) 96 = .ok (.istore 7, 2) := by decide +kernel
theorem dLw_ahead_98 : decode (mB Lw_ahead) 98 = .ok (.iinc 8 1, 3) := by decide +kernel
theorem dLw_ahead_101 : decode (mB Lw_ahead) 101 = .ok (.goto (-79), 3) := by decide +kernel
theorem dLw_ahead_104 : decode (mB Lw_ahead) 104 = .ok (.iload 7, 2) := by decide +kernel
theorem dLw_ahead_106 : decode (mB Lw_ahead) 106 = .ok (.ireturn, 1) := by decide +kernel
def b_Lw_ahead_41 (R : Int32 → tpH → Prop) (K22 : Int32 → (Option Nat) → (Option Nat) → Int32 → Int32 → Int32 → tpH → Prop) (Y : Int32 → (Option Nat) → (Option Nat) → Int32 → Int32 → Int32 → Int32 → Int32 → tpH → Prop) (x3 : Int32) (x4 : Option Nat) (x5 : Option Nat) (x6 : Int32) (x7 : Int32) (x8 : Int32) (x9 : Int32) (x10 : Int32) (h : tpH) : Prop :=
  ∃ a1, x4 = some a1 ∧ hT h a1 = 15 ∧ (vp_in (0 : Int32) (hL h a1) ∧ (((hI h a1 (0 : Int32).toNatClampNeg) < x10 → ((x9 = 0 → (K22 x3 x4 x5 x6 x7 (x8 + (1 : Int32)) h)) ∧ (¬ x9 = 0 → (∃ a7, x5 = some a7 ∧ hT h a7 = 15 ∧ (vp_in x8 (hL h a7) ∧ (K22 x3 x4 x5 x6 (hI h a7 x8.toNatClampNeg) (x8 + (1 : Int32)) h)))))) ∧ (¬ (hI h a1 (0 : Int32).toNatClampNeg) < x10 → ((¬ x9 = 0 → (Y x3 x4 x5 x6 x7 x8 (1 : Int32) (x10 + (1 : Int32)) h)) ∧ (x9 = 0 → (vp_in x10 (hL h a1) ∧ (∃ a13, x5 = some a13 ∧ hT h a13 = 15 ∧ (vp_in x8 (hL h a13) ∧ ((¬ (hI h a1 x10.toNatClampNeg) = (hI h a13 x8.toNatClampNeg) → (Y x3 x4 x5 x6 x7 x8 (0 : Int32) (x10 + (1 : Int32)) h)) ∧ ((hI h a1 x10.toNatClampNeg) = (hI h a13 x8.toNatClampNeg) → (Y x3 x4 x5 x6 x7 x8 (1 : Int32) (x10 + (1 : Int32)) h)))))))))))
def w_Lw_ahead_41 (R : Int32 → tpH → Prop) (K22 : Int32 → (Option Nat) → (Option Nat) → Int32 → Int32 → Int32 → tpH → Prop) : Nat → Int32 → (Option Nat) → (Option Nat) → Int32 → Int32 → Int32 → Int32 → Int32 → tpH → Prop
  | 0 => fun _ _ _ _ _ _ _ _ _ => False
  | n + 1 => b_Lw_ahead_41 R K22 (w_Lw_ahead_41 R K22 n)
def b_Lw_ahead_22 (R : Int32 → tpH → Prop) (Y : Int32 → (Option Nat) → (Option Nat) → Int32 → Int32 → Int32 → tpH → Prop) (x3 : Int32) (x4 : Option Nat) (x5 : Option Nat) (x6 : Int32) (x7 : Int32) (x8 : Int32) (h : tpH) : Prop :=
  w_Lw_at x5 x6 x3 h (fun v2 h1 => (v2 ≤ x8 → (R x7 h1)) ∧ (¬ v2 ≤ x8 → (∃ n, w_Lw_ahead_41 R Y n x3 x4 x5 x6 x7 x8 (0 : Int32) (1 : Int32) h1)))
def w_Lw_ahead_22 (R : Int32 → tpH → Prop) : Nat → Int32 → (Option Nat) → (Option Nat) → Int32 → Int32 → Int32 → tpH → Prop
  | 0 => fun _ _ _ _ _ _ _ => False
  | n + 1 => b_Lw_ahead_22 R (w_Lw_ahead_22 R n)
def w_Lw_ahead (x0 : Option Nat) (x1 : Option Nat) (x2 : Int32) (x3 : Int32) (x4 : Option Nat) (h : tpH) (R : Int32 → tpH → Prop) : Prop :=
  ∀ a1 h2, a1 = hZ h → h2 = nC h 15 40 40 → (w_Lw_children x0 x1 x2 (some a1) h2 (fun v6 h5 => ∃ n, w_Lw_ahead_22 R n x3 x4 (some a1) v6 (-1 : Int32) (0 : Int32) h5))
theorem s_Lw_ahead_41 {h0 : tpH} {av : List tpV} {R : Int32 → tpH → Prop} {K22 : Int32 → (Option Nat) → (Option Nat) → Int32 → Int32 → Int32 → tpH → Prop} (k22 : ∀ (x3 : Int32) (x4 : Option Nat) (x5 : Option Nat) (x6 : Int32) (x7 : Int32) (x8 : Int32) (h : tpH), K22 x3 x4 x5 x6 x7 x8 h → tpR Lw_ahead 2 h0 av (tpOi R (fun _ _ => False)) 22 [none, none, none, some (vI x3), some (vR x4), some (vR x5), some (vI x6), some (vI x7), some (vI x8), none, none] [] h) : ∀ (n : Nat) (x3 : Int32) (x4 : Option Nat) (x5 : Option Nat) (x6 : Int32) (x7 : Int32) (x8 : Int32) (x9 : Int32) (x10 : Int32) (h : tpH), w_Lw_ahead_41 R K22 n x3 x4 x5 x6 x7 x8 x9 x10 h → tpR Lw_ahead 2 h0 av (tpOi R (fun _ _ => False)) 41 [none, none, none, some (vI x3), some (vR x4), some (vR x5), some (vI x6), some (vI x7), some (vI x8), some (vI x9), some (vI x10)] [] h := by
  intro n
  induction n with
  | zero => intro x3 x4 x5 x6 x7 x8 x9 x10 h hw; exact False.elim hw
  | succ n ih =>
    intro x3 x4 x5 x6 x7 x8 x9 x10 h hw
    change b_Lw_ahead_41 R K22 (w_Lw_ahead_41 R K22 n) x3 x4 x5 x6 x7 x8 x9 x10 h at hw
    unfold b_Lw_ahead_41 at hw
    refine tq_iload dLw_ahead_41 rfl ?_
    refine tq_aload dLw_ahead_43 rfl ?_
    refine tq_iconst (v := (0 : Int32)) dLw_ahead_45 tni_0 ?_
    obtain ⟨a1, e2, f3, hw⟩ := hw
    obtain ⟨f4, hw⟩ := hw
    refine te_iald dLw_ahead_46 e2 (Or.inl f3) f4 ?_
    refine tq_icmpgt (tgt := 81) dLw_ahead_47 (by decide) (fun c5 => ?_) (fun c5 => ?_)
    · have hw := hw.1 c5
      refine tq_iload dLw_ahead_81 rfl ?_
      refine tq_ifeq (tgt := 94) dLw_ahead_83 (by decide) (fun c6 => ?_) (fun c6 => ?_)
      · have hw := hw.1 c6
        refine tq_iload dLw_ahead_94 rfl ?_
        refine tq_istore (ls' := [none, none, none, some (vI x3), some (vR x4), some (vR x5), some (vI x6), some (vI x7), some (vI x8), some (vI x9), some (vI x10)]) dLw_ahead_96 (Nat.le_of_ble_eq_true rfl) rfl ?_
        refine tq_inc (k := (1 : Int32)) (ls' := [none, none, none, some (vI x3), some (vR x4), some (vR x5), some (vI x6), some (vI x7), some (vI (x8 + (1 : Int32))), some (vI x9), some (vI x10)]) dLw_ahead_98 rfl tni_1 (Nat.le_of_ble_eq_true rfl) rfl ?_
        refine tq_goto (tgt := 22) dLw_ahead_101 (by decide) ?_
        refine tpR.fo (ls' := [none, none, none, some (vI x3), some (vR x4), some (vR x5), some (vI x6), some (vI x7), some (vI (x8 + (1 : Int32))), none, none]) ?_ (And.intro rfl (And.intro rfl (And.intro rfl (And.intro rfl (And.intro rfl (And.intro rfl trivial))))))
        exact k22 _ _ _ _ _ _ _ hw
      · have hw := hw.2 c6
        refine tq_aload dLw_ahead_86 rfl ?_
        refine tq_iload dLw_ahead_88 rfl ?_
        obtain ⟨a7, e8, f9, hw⟩ := hw
        obtain ⟨f10, hw⟩ := hw
        refine te_iald dLw_ahead_90 e8 (Or.inl f9) f10 ?_
        refine tq_goto (tgt := 96) dLw_ahead_91 (by decide) ?_
        refine tq_istore (ls' := [none, none, none, some (vI x3), some (vR x4), some (vR x5), some (vI x6), some (vI (hI h a7 x8.toNatClampNeg)), some (vI x8), some (vI x9), some (vI x10)]) dLw_ahead_96 (Nat.le_of_ble_eq_true rfl) rfl ?_
        refine tq_inc (k := (1 : Int32)) (ls' := [none, none, none, some (vI x3), some (vR x4), some (vR x5), some (vI x6), some (vI (hI h a7 x8.toNatClampNeg)), some (vI (x8 + (1 : Int32))), some (vI x9), some (vI x10)]) dLw_ahead_98 rfl tni_1 (Nat.le_of_ble_eq_true rfl) rfl ?_
        refine tq_goto (tgt := 22) dLw_ahead_101 (by decide) ?_
        refine tpR.fo (ls' := [none, none, none, some (vI x3), some (vR x4), some (vR x5), some (vI x6), some (vI (hI h a7 x8.toNatClampNeg)), some (vI (x8 + (1 : Int32))), none, none]) ?_ (And.intro rfl (And.intro rfl (And.intro rfl (And.intro rfl (And.intro rfl (And.intro rfl trivial))))))
        exact k22 _ _ _ _ _ _ _ hw
    · have hw := hw.2 c5
      refine tq_iload dLw_ahead_50 rfl ?_
      refine tq_ifne (tgt := 68) dLw_ahead_52 (by decide) (fun c11 => ?_) (fun c11 => ?_)
      · have hw := hw.1 c11
        refine tq_iconst (v := (1 : Int32)) dLw_ahead_68 tni_1 ?_
        refine tq_goto (tgt := 73) dLw_ahead_69 (by decide) ?_
        refine tq_istore (ls' := [none, none, none, some (vI x3), some (vR x4), some (vR x5), some (vI x6), some (vI x7), some (vI x8), some (vI (1 : Int32)), some (vI x10)]) dLw_ahead_73 (Nat.le_of_ble_eq_true rfl) rfl ?_
        refine tq_inc (k := (1 : Int32)) (ls' := [none, none, none, some (vI x3), some (vR x4), some (vR x5), some (vI x6), some (vI x7), some (vI x8), some (vI (1 : Int32)), some (vI (x10 + (1 : Int32)))]) dLw_ahead_75 rfl tni_1 (Nat.le_of_ble_eq_true rfl) rfl ?_
        refine tq_goto (tgt := 41) dLw_ahead_78 (by decide) ?_
        refine tpR.fo (ls' := [none, none, none, some (vI x3), some (vR x4), some (vR x5), some (vI x6), some (vI x7), some (vI x8), some (vI (1 : Int32)), some (vI (x10 + (1 : Int32)))]) ?_ (And.intro rfl (And.intro rfl (And.intro rfl (And.intro rfl (And.intro rfl (And.intro rfl (And.intro rfl (And.intro rfl trivial))))))))
        exact ih _ _ _ _ _ _ _ _ _ hw
      · have hw := hw.2 c11
        refine tq_aload dLw_ahead_55 rfl ?_
        refine tq_iload dLw_ahead_57 rfl ?_
        obtain ⟨f12, hw⟩ := hw
        refine te_iald dLw_ahead_59 e2 (Or.inl f3) f12 ?_
        refine tq_aload dLw_ahead_60 rfl ?_
        refine tq_iload dLw_ahead_62 rfl ?_
        obtain ⟨a13, e14, f15, hw⟩ := hw
        obtain ⟨f16, hw⟩ := hw
        refine te_iald dLw_ahead_64 e14 (Or.inl f15) f16 ?_
        refine tq_icmpne (tgt := 72) dLw_ahead_65 (by decide) (fun c17 => ?_) (fun c17 => ?_)
        · have hw := hw.1 c17
          refine tq_iconst (v := (0 : Int32)) dLw_ahead_72 tni_0 ?_
          refine tq_istore (ls' := [none, none, none, some (vI x3), some (vR x4), some (vR x5), some (vI x6), some (vI x7), some (vI x8), some (vI (0 : Int32)), some (vI x10)]) dLw_ahead_73 (Nat.le_of_ble_eq_true rfl) rfl ?_
          refine tq_inc (k := (1 : Int32)) (ls' := [none, none, none, some (vI x3), some (vR x4), some (vR x5), some (vI x6), some (vI x7), some (vI x8), some (vI (0 : Int32)), some (vI (x10 + (1 : Int32)))]) dLw_ahead_75 rfl tni_1 (Nat.le_of_ble_eq_true rfl) rfl ?_
          refine tq_goto (tgt := 41) dLw_ahead_78 (by decide) ?_
          refine tpR.fo (ls' := [none, none, none, some (vI x3), some (vR x4), some (vR x5), some (vI x6), some (vI x7), some (vI x8), some (vI (0 : Int32)), some (vI (x10 + (1 : Int32)))]) ?_ (And.intro rfl (And.intro rfl (And.intro rfl (And.intro rfl (And.intro rfl (And.intro rfl (And.intro rfl (And.intro rfl trivial))))))))
          exact ih _ _ _ _ _ _ _ _ _ hw
        · have hw := hw.2 c17
          refine tq_iconst (v := (1 : Int32)) dLw_ahead_68 tni_1 ?_
          refine tq_goto (tgt := 73) dLw_ahead_69 (by decide) ?_
          refine tq_istore (ls' := [none, none, none, some (vI x3), some (vR x4), some (vR x5), some (vI x6), some (vI x7), some (vI x8), some (vI (1 : Int32)), some (vI x10)]) dLw_ahead_73 (Nat.le_of_ble_eq_true rfl) rfl ?_
          refine tq_inc (k := (1 : Int32)) (ls' := [none, none, none, some (vI x3), some (vR x4), some (vR x5), some (vI x6), some (vI x7), some (vI x8), some (vI (1 : Int32)), some (vI (x10 + (1 : Int32)))]) dLw_ahead_75 rfl tni_1 (Nat.le_of_ble_eq_true rfl) rfl ?_
          refine tq_goto (tgt := 41) dLw_ahead_78 (by decide) ?_
          refine tpR.fo (ls' := [none, none, none, some (vI x3), some (vR x4), some (vR x5), some (vI x6), some (vI x7), some (vI x8), some (vI (1 : Int32)), some (vI (x10 + (1 : Int32)))]) ?_ (And.intro rfl (And.intro rfl (And.intro rfl (And.intro rfl (And.intro rfl (And.intro rfl (And.intro rfl (And.intro rfl trivial))))))))
          exact ih _ _ _ _ _ _ _ _ _ hw
theorem s_Lw_ahead_22 {h0 : tpH} {av : List tpV} {R : Int32 → tpH → Prop} : ∀ (n : Nat) (x3 : Int32) (x4 : Option Nat) (x5 : Option Nat) (x6 : Int32) (x7 : Int32) (x8 : Int32) (h : tpH), w_Lw_ahead_22 R n x3 x4 x5 x6 x7 x8 h → tpR Lw_ahead 2 h0 av (tpOi R (fun _ _ => False)) 22 [none, none, none, some (vI x3), some (vR x4), some (vR x5), some (vI x6), some (vI x7), some (vI x8), none, none] [] h := by
  intro n
  induction n with
  | zero => intro x3 x4 x5 x6 x7 x8 h hw; exact False.elim hw
  | succ n ih =>
    intro x3 x4 x5 x6 x7 x8 h hw
    change b_Lw_ahead_22 R (w_Lw_ahead_22 R n) x3 x4 x5 x6 x7 x8 h at hw
    unfold b_Lw_ahead_22 at hw
    refine tq_iload dLw_ahead_22 rfl ?_
    refine tq_aload dLw_ahead_24 rfl ?_
    refine tq_iload dLw_ahead_26 rfl ?_
    refine tq_iload_n dLw_ahead_28 rfl rfl ?_
    refine tq_callS ms_Lw_at (dc := 0) (as := [vR x5, vI x6, vI x3]) (rest := [vI x8]) kLw_105 (Nat.le_of_ble_eq_true rfl) (Nat.le_of_ble_eq_true rfl) rfl rfl (Nat.le_of_ble_eq_true rfl) dLw_ahead_29 (s_Lw_at hw) (fun _ _ hx => False.elim hx) (tk_i fun v2 h1 hw => ?_)
    refine tq_icmpge (tgt := 104) dLw_ahead_32 (by decide) (fun c3 => ?_) (fun c3 => ?_)
    · have hw := hw.1 c3
      refine tq_iload dLw_ahead_104 rfl ?_
      exact tq_iret rfl rfl dLw_ahead_106 hw
    · have hw := hw.2 c3
      refine tq_iconst (v := (0 : Int32)) dLw_ahead_35 tni_0 ?_
      refine tq_istore (ls' := [none, none, none, some (vI x3), some (vR x4), some (vR x5), some (vI x6), some (vI x7), some (vI x8), some (vI (0 : Int32)), none]) dLw_ahead_36 (Nat.le_of_ble_eq_true rfl) rfl ?_
      refine tq_iconst (v := (1 : Int32)) dLw_ahead_38 tni_1 ?_
      refine tq_istore (ls' := [none, none, none, some (vI x3), some (vR x4), some (vR x5), some (vI x6), some (vI x7), some (vI x8), some (vI (0 : Int32)), some (vI (1 : Int32))]) dLw_ahead_39 (Nat.le_of_ble_eq_true rfl) rfl ?_
      refine tpR.fo (ls' := [none, none, none, some (vI x3), some (vR x4), some (vR x5), some (vI x6), some (vI x7), some (vI x8), some (vI (0 : Int32)), some (vI (1 : Int32))]) ?_ (And.intro rfl (And.intro rfl (And.intro rfl (And.intro rfl (And.intro rfl (And.intro rfl (And.intro rfl (And.intro rfl trivial))))))))
      obtain ⟨n, hw⟩ := hw
      exact s_Lw_ahead_41 ih n _ _ _ _ _ _ _ _ _ hw
theorem s_Lw_ahead {x0 : Option Nat} {x1 : Option Nat} {x2 : Int32} {x3 : Int32} {x4 : Option Nat} {h : tpH} {R : Int32 → tpH → Prop} (hw : w_Lw_ahead x0 x1 x2 x3 x4 h R) : tpC Lw_ahead 2 [vR x0, vR x1, vI x2, vI x3, vR x4] h (tpOi R (fun _ _ => False)) := by
  refine tpC_of ms_Lw_ahead.2.2.2.1 rfl rfl (Nat.le_of_ble_eq_true rfl) ?_
  show tpR Lw_ahead 2 h _ _ 0 [some (vR x0), some (vR x1), some (vI x2), some (vI x3), some (vR x4), none, none, none, none, none, none] [] h
  unfold w_Lw_ahead at hw
  refine tq_bipush (v := (40 : Int32)) dLw_ahead_0 tnb_40 ?_
  refine tq_newa tpN_int (N := 40) dLw_ahead_2 (by decide) (by decide) (Nat.le_of_ble_eq_true rfl) (fun a1 h2 e3 e4 => ?_)
  have hw := hw a1 h2 e3 e4
  refine tq_astore (ls' := [some (vR x0), some (vR x1), some (vI x2), some (vI x3), some (vR x4), some (vR (some a1)), none, none, none, none, none]) dLw_ahead_4 (Nat.le_of_ble_eq_true rfl) rfl ?_
  refine tq_aload_n dLw_ahead_6 rfl rfl ?_
  refine tq_aload_n dLw_ahead_7 rfl rfl ?_
  refine tq_iload_n dLw_ahead_8 rfl rfl ?_
  refine tq_aload dLw_ahead_9 rfl ?_
  refine tq_callS ms_Lw_children (dc := 1) (as := [vR x0, vR x1, vI x2, vR (some a1)]) (rest := []) kLw_36 (Nat.le_of_ble_eq_true rfl) (Nat.le_of_ble_eq_true rfl) rfl rfl (Nat.le_of_ble_eq_true rfl) dLw_ahead_11 (s_Lw_children hw) (fun _ _ hx => False.elim hx) (tk_i fun v6 h5 hw => ?_)
  refine tq_istore (ls' := [some (vR x0), some (vR x1), some (vI x2), some (vI x3), some (vR x4), some (vR (some a1)), some (vI v6), none, none, none, none]) dLw_ahead_14 (Nat.le_of_ble_eq_true rfl) rfl ?_
  refine tq_iconst (v := (-1 : Int32)) dLw_ahead_16 tni_m1 ?_
  refine tq_istore (ls' := [some (vR x0), some (vR x1), some (vI x2), some (vI x3), some (vR x4), some (vR (some a1)), some (vI v6), some (vI (-1 : Int32)), none, none, none]) dLw_ahead_17 (Nat.le_of_ble_eq_true rfl) rfl ?_
  refine tq_iconst (v := (0 : Int32)) dLw_ahead_19 tni_0 ?_
  refine tq_istore (ls' := [some (vR x0), some (vR x1), some (vI x2), some (vI x3), some (vR x4), some (vR (some a1)), some (vI v6), some (vI (-1 : Int32)), some (vI (0 : Int32)), none, none]) dLw_ahead_20 (Nat.le_of_ble_eq_true rfl) rfl ?_
  refine tpR.fo (ls' := [none, none, none, some (vI x3), some (vR x4), some (vR (some a1)), some (vI v6), some (vI (-1 : Int32)), some (vI (0 : Int32)), none, none]) ?_ (And.intro rfl (And.intro rfl (And.intro rfl (And.intro rfl (And.intro rfl (And.intro rfl trivial))))))
  obtain ⟨n, hw⟩ := hw
  exact s_Lw_ahead_22 n _ _ _ _ _ _ _ hw
/-! TLaw.putsBehind -/
theorem dLw_putsBehind_0 : decode (mB Lw_putsBehind) 0 = .ok (.iconst 1, 1) := by decide +kernel
theorem dLw_putsBehind_1 : decode (mB Lw_putsBehind) 1 = .ok (.istore_n 3, 1) := by decide +kernel
theorem dLw_putsBehind_2 : decode (mB Lw_putsBehind) 2 = .ok (.iconst 1, 1) := by decide +kernel
theorem dLw_putsBehind_3 : decode (mB Lw_putsBehind) 3 = .ok (.istore 4, 2) := by decide +kernel
theorem dLw_putsBehind_5 : decode (mB Lw_putsBehind) 5 = .ok (.iload 4, 2) := by decide +kernel
theorem dLw_putsBehind_7 : decode (mB Lw_putsBehind) 7 = .ok (.aload_n 0, 1) := by decide +kernel
theorem dLw_putsBehind_8 : decode (mB Lw_putsBehind) 8 = .ok (.iconst 0, 1) := by decide +kernel
theorem dLw_putsBehind_9 : decode (mB Lw_putsBehind) 9 = .ok (.iaload, 1) := by decide +kernel
theorem dLw_putsBehind_10 : decode (mB Lw_putsBehind) 10 = .ok (.if_icmp .gt 26, 3) := by decide +kernel
theorem dLw_putsBehind_13 : decode (mB Lw_putsBehind) 13 = .ok (.aload_n 0, 1) := by decide +kernel
theorem dLw_putsBehind_14 : decode (mB Lw_putsBehind) 14 = .ok (.iload 4, 2) := by decide +kernel
theorem dLw_putsBehind_16 : decode (mB Lw_putsBehind) 16 = .ok (.iaload, 1) := by decide +kernel
theorem dLw_putsBehind_17 : decode (mB Lw_putsBehind) 17 = .ok (.iload_n 2, 1) := by decide +kernel
theorem dLw_putsBehind_18 : decode (mB Lw_putsBehind) 18 = .ok (.if_icmp .ne 10, 3) := by decide +kernel
theorem dLw_putsBehind_21 : decode (mB Lw_putsBehind) 21 = .ok (.iload 4, 2) := by decide +kernel
theorem dLw_putsBehind_23 : decode (mB Lw_putsBehind) 23 = .ok (.iconst 1, 1) := by decide +kernel
theorem dLw_putsBehind_24 : decode (mB Lw_putsBehind) 24 = .ok (.iadd, 1) := by decide +kernel
theorem dLw_putsBehind_25 : decode (mB Lw_putsBehind) 25 = .ok (.goto 4, 3) := by decide +kernel
theorem dLw_putsBehind_28 : decode (mB Lw_putsBehind) 28 = .ok (.iload_n 3, 1) := by decide +kernel
theorem dLw_putsBehind_29 : decode (mB Lw_putsBehind) 29 = .ok (.istore_n 3, 1) := by decide +kernel
theorem dLw_putsBehind_30 : decode (mB Lw_putsBehind) 30 = .ok (.iinc 4 1, 3) := by decide +kernel
theorem dLw_putsBehind_33 : decode (mB Lw_putsBehind) 33 = .ok (.goto (-28), 3) := by decide +kernel
theorem dLw_putsBehind_36 : decode (mB Lw_putsBehind) 36 = .ok (.aload_n 0, 1) := by decide +kernel
theorem dLw_putsBehind_37 : decode (mB Lw_putsBehind) 37 = .ok (.iconst 0, 1) := by decide +kernel
theorem dLw_putsBehind_38 : decode (mB Lw_putsBehind) 38 = .ok (.iaload, 1) := by decide +kernel
theorem dLw_putsBehind_39 : decode (mB Lw_putsBehind) 39 = .ok (.istore 4, 2) := by decide +kernel
theorem dLw_putsBehind_41 : decode (mB Lw_putsBehind) 41 = .ok (.iload 4, 2) := by decide +kernel
theorem dLw_putsBehind_43 : decode (mB Lw_putsBehind) 43 = .ok (.iload_n 3, 1) := by decide +kernel
theorem dLw_putsBehind_44 : decode (mB Lw_putsBehind) 44 = .ok (.if_icmp .lt 19, 3) := by decide +kernel
theorem dLw_putsBehind_47 : decode (mB Lw_putsBehind) 47 = .ok (.aload_n 0, 1) := by decide +kernel
theorem dLw_putsBehind_48 : decode (mB Lw_putsBehind) 48 = .ok (.iload 4, 2) := by decide +kernel
theorem dLw_putsBehind_50 : decode (mB Lw_putsBehind) 50 = .ok (.iconst 1, 1) := by decide +kernel
theorem dLw_putsBehind_51 : decode (mB Lw_putsBehind) 51 = .ok (.iadd, 1) := by decide +kernel
theorem dLw_putsBehind_52 : decode (mB Lw_putsBehind) 52 = .ok (.aload_n 0, 1) := by decide +kernel
theorem dLw_putsBehind_53 : decode (mB Lw_putsBehind) 53 = .ok (.iload 4, 2) := by decide +kernel
theorem dLw_putsBehind_55 : decode (mB Lw_putsBehind) 55 = .ok (.iaload, 1) := by decide +kernel
theorem dLw_putsBehind_56 : decode (mB Lw_putsBehind) 56 = .ok (.iastore, 1) := by decide +kernel
theorem dLw_putsBehind_57 : decode (mB Lw_putsBehind) 57 = .ok (.iinc 4 (-1), 3) := by decide +kernel
theorem dLw_putsBehind_60 : decode (mB Lw_putsBehind) 60 = .ok (.goto (-19), 3) := by decide +kernel
theorem dLw_putsBehind_63 : decode (mB Lw_putsBehind) 63 = .ok (.aload_n 0, 1) := by decide +kernel
theorem dLw_putsBehind_64 : decode (mB Lw_putsBehind) 64 = .ok (.iload_n 3, 1) := by decide +kernel
theorem dLw_putsBehind_65 : decode (mB Lw_putsBehind) 65 = .ok (.iload_n 1, 1) := by decide +kernel
theorem dLw_putsBehind_66 : decode (mB Lw_putsBehind) 66 = .ok (.iastore, 1) := by decide +kernel
theorem dLw_putsBehind_67 : decode (mB Lw_putsBehind) 67 = .ok (.aload_n 0, 1) := by decide +kernel
theorem dLw_putsBehind_68 : decode (mB Lw_putsBehind) 68 = .ok (.iconst 0, 1) := by decide +kernel
theorem dLw_putsBehind_69 : decode (mB Lw_putsBehind) 69 = .ok (.dup2, 1) := by decide +kernel
theorem dLw_putsBehind_70 : decode (mB Lw_putsBehind) 70 = .ok (.iaload, 1) := by decide +kernel
theorem dLw_putsBehind_71 : decode (mB Lw_putsBehind) 71 = .ok (.iconst 1, 1) := by decide +kernel
theorem dLw_putsBehind_72 : decode (mB Lw_putsBehind) 72 = .ok (.iadd, 1) := by decide +kernel
theorem dLw_putsBehind_73 : decode (mB Lw_putsBehind) 73 = .ok (.iastore, 1) := by decide +kernel
theorem dLw_putsBehind_74 : decode (mB Lw_putsBehind) 74 = .ok (.return_, 1) := by decide +kernel
def b_Lw_putsBehind_41 (R : tpH → Prop) (Y : (Option Nat) → Int32 → Int32 → Int32 → tpH → Prop) (x0 : Option Nat) (x1 : Int32) (x3 : Int32) (x4 : Int32) (h : tpH) : Prop :=
  (x4 < x3 → (∃ a2, x0 = some a2 ∧ hT h a2 = 15 ∧ (vp_in x3 (hL h a2) ∧ (∀ h6, h6 = sI h a2 x3.toNatClampNeg x1 → (vp_in (0 : Int32) (hL h6 a2) ∧ (vp_in (0 : Int32) (hL h6 a2) ∧ (∀ h10, h10 = sI h6 a2 (0 : Int32).toNatClampNeg ((hI h6 a2 (0 : Int32).toNatClampNeg) + (1 : Int32)) → (R h10)))))))) ∧ (¬ x4 < x3 → (∃ a12, x0 = some a12 ∧ hT h a12 = 15 ∧ (vp_in x4 (hL h a12) ∧ (vp_in (x4 + (1 : Int32)) (hL h a12) ∧ (∀ h17, h17 = sI h a12 (x4 + (1 : Int32)).toNatClampNeg (hI h a12 x4.toNatClampNeg) → (Y x0 x1 x3 (x4 + (-1 : Int32)) h17))))))
def w_Lw_putsBehind_41 (R : tpH → Prop) : Nat → (Option Nat) → Int32 → Int32 → Int32 → tpH → Prop
  | 0 => fun _ _ _ _ _ => False
  | n + 1 => b_Lw_putsBehind_41 R (w_Lw_putsBehind_41 R n)
def b_Lw_putsBehind_5 (R : tpH → Prop) (Y : (Option Nat) → Int32 → Int32 → Int32 → Int32 → tpH → Prop) (x0 : Option Nat) (x1 : Int32) (x2 : Int32) (x3 : Int32) (x4 : Int32) (h : tpH) : Prop :=
  ∃ a1, x0 = some a1 ∧ hT h a1 = 15 ∧ (vp_in (0 : Int32) (hL h a1) ∧ (((hI h a1 (0 : Int32).toNatClampNeg) < x4 → (vp_in (0 : Int32) (hL h a1) ∧ (∃ n, w_Lw_putsBehind_41 R n x0 x1 x3 (hI h a1 (0 : Int32).toNatClampNeg) h))) ∧ (¬ (hI h a1 (0 : Int32).toNatClampNeg) < x4 → (vp_in x4 (hL h a1) ∧ ((¬ (hI h a1 x4.toNatClampNeg) = x2 → (Y x0 x1 x2 x3 (x4 + (1 : Int32)) h)) ∧ ((hI h a1 x4.toNatClampNeg) = x2 → (Y x0 x1 x2 (x4 + (1 : Int32)) (x4 + (1 : Int32)) h)))))))
def w_Lw_putsBehind_5 (R : tpH → Prop) : Nat → (Option Nat) → Int32 → Int32 → Int32 → Int32 → tpH → Prop
  | 0 => fun _ _ _ _ _ _ => False
  | n + 1 => b_Lw_putsBehind_5 R (w_Lw_putsBehind_5 R n)
def w_Lw_putsBehind (x0 : Option Nat) (x1 : Int32) (x2 : Int32) (h : tpH) (R : tpH → Prop) : Prop :=
  ∃ n, w_Lw_putsBehind_5 R n x0 x1 x2 (1 : Int32) (1 : Int32) h
theorem s_Lw_putsBehind_41 {h0 : tpH} {av : List tpV} {R : tpH → Prop} : ∀ (n : Nat) (x0 : Option Nat) (x1 : Int32) (x3 : Int32) (x4 : Int32) (h : tpH), w_Lw_putsBehind_41 R n x0 x1 x3 x4 h → tpR Lw_putsBehind 0 h0 av (tpOv R (fun _ _ => False)) 41 [some (vR x0), some (vI x1), none, some (vI x3), some (vI x4)] [] h := by
  intro n
  induction n with
  | zero => intro x0 x1 x3 x4 h hw; exact False.elim hw
  | succ n ih =>
    intro x0 x1 x3 x4 h hw
    change b_Lw_putsBehind_41 R (w_Lw_putsBehind_41 R n) x0 x1 x3 x4 h at hw
    unfold b_Lw_putsBehind_41 at hw
    refine tq_iload dLw_putsBehind_41 rfl ?_
    refine tq_iload_n dLw_putsBehind_43 rfl rfl ?_
    refine tq_icmplt (tgt := 63) dLw_putsBehind_44 (by decide) (fun c1 => ?_) (fun c1 => ?_)
    · have hw := hw.1 c1
      refine tq_aload_n dLw_putsBehind_63 rfl rfl ?_
      refine tq_iload_n dLw_putsBehind_64 rfl rfl ?_
      refine tq_iload_n dLw_putsBehind_65 rfl rfl ?_
      obtain ⟨a2, e3, f4, hw⟩ := hw
      obtain ⟨f5, hw⟩ := hw
      refine te_iast dLw_putsBehind_66 e3 f4 f5 (fun h6 e7 => ?_)
      have hw := hw h6 e7
      refine tq_aload_n dLw_putsBehind_67 rfl rfl ?_
      refine tq_iconst (v := (0 : Int32)) dLw_putsBehind_68 tni_0 ?_
      refine tq_dup2 dLw_putsBehind_69 rfl rfl ?_
      obtain ⟨f8, hw⟩ := hw
      refine te_iald dLw_putsBehind_70 e3 (Or.inl (by rw [e7]; exact f4)) f8 ?_
      refine tq_iconst (v := (1 : Int32)) dLw_putsBehind_71 tni_1 ?_
      refine tq_iadd dLw_putsBehind_72 ?_
      obtain ⟨f9, hw⟩ := hw
      refine te_iast dLw_putsBehind_73 e3 (by rw [e7]; exact f4) f9 (fun h10 e11 => ?_)
      have hw := hw h10 e11
      exact tq_vret rfl dLw_putsBehind_74 hw
    · have hw := hw.2 c1
      refine tq_aload_n dLw_putsBehind_47 rfl rfl ?_
      refine tq_iload dLw_putsBehind_48 rfl ?_
      refine tq_iconst (v := (1 : Int32)) dLw_putsBehind_50 tni_1 ?_
      refine tq_iadd dLw_putsBehind_51 ?_
      refine tq_aload_n dLw_putsBehind_52 rfl rfl ?_
      refine tq_iload dLw_putsBehind_53 rfl ?_
      obtain ⟨a12, e13, f14, hw⟩ := hw
      obtain ⟨f15, hw⟩ := hw
      refine te_iald dLw_putsBehind_55 e13 (Or.inl f14) f15 ?_
      obtain ⟨f16, hw⟩ := hw
      refine te_iast dLw_putsBehind_56 e13 f14 f16 (fun h17 e18 => ?_)
      have hw := hw h17 e18
      refine tq_inc (k := (-1 : Int32)) (ls' := [some (vR x0), some (vI x1), none, some (vI x3), some (vI (x4 + (-1 : Int32)))]) dLw_putsBehind_57 rfl tni_m1 (Nat.le_of_ble_eq_true rfl) rfl ?_
      refine tq_goto (tgt := 41) dLw_putsBehind_60 (by decide) ?_
      refine tpR.fo (ls' := [some (vR x0), some (vI x1), none, some (vI x3), some (vI (x4 + (-1 : Int32)))]) ?_ (And.intro rfl (And.intro rfl (And.intro rfl (And.intro rfl trivial))))
      exact ih _ _ _ _ _ hw
theorem s_Lw_putsBehind_5 {h0 : tpH} {av : List tpV} {R : tpH → Prop} : ∀ (n : Nat) (x0 : Option Nat) (x1 : Int32) (x2 : Int32) (x3 : Int32) (x4 : Int32) (h : tpH), w_Lw_putsBehind_5 R n x0 x1 x2 x3 x4 h → tpR Lw_putsBehind 0 h0 av (tpOv R (fun _ _ => False)) 5 [some (vR x0), some (vI x1), some (vI x2), some (vI x3), some (vI x4)] [] h := by
  intro n
  induction n with
  | zero => intro x0 x1 x2 x3 x4 h hw; exact False.elim hw
  | succ n ih =>
    intro x0 x1 x2 x3 x4 h hw
    change b_Lw_putsBehind_5 R (w_Lw_putsBehind_5 R n) x0 x1 x2 x3 x4 h at hw
    unfold b_Lw_putsBehind_5 at hw
    refine tq_iload dLw_putsBehind_5 rfl ?_
    refine tq_aload_n dLw_putsBehind_7 rfl rfl ?_
    refine tq_iconst (v := (0 : Int32)) dLw_putsBehind_8 tni_0 ?_
    obtain ⟨a1, e2, f3, hw⟩ := hw
    obtain ⟨f4, hw⟩ := hw
    refine te_iald dLw_putsBehind_9 e2 (Or.inl f3) f4 ?_
    refine tq_icmpgt (tgt := 36) dLw_putsBehind_10 (by decide) (fun c5 => ?_) (fun c5 => ?_)
    · have hw := hw.1 c5
      refine tq_aload_n dLw_putsBehind_36 rfl rfl ?_
      refine tq_iconst (v := (0 : Int32)) dLw_putsBehind_37 tni_0 ?_
      obtain ⟨f6, hw⟩ := hw
      refine te_iald dLw_putsBehind_38 e2 (Or.inl f3) f6 ?_
      refine tq_istore (ls' := [some (vR x0), some (vI x1), some (vI x2), some (vI x3), some (vI (hI h a1 (0 : Int32).toNatClampNeg))]) dLw_putsBehind_39 (Nat.le_of_ble_eq_true rfl) rfl ?_
      refine tpR.fo (ls' := [some (vR x0), some (vI x1), none, some (vI x3), some (vI (hI h a1 (0 : Int32).toNatClampNeg))]) ?_ (And.intro rfl (And.intro rfl (And.intro rfl (And.intro rfl trivial))))
      obtain ⟨n, hw⟩ := hw
      exact s_Lw_putsBehind_41 n _ _ _ _ _ hw
    · have hw := hw.2 c5
      refine tq_aload_n dLw_putsBehind_13 rfl rfl ?_
      refine tq_iload dLw_putsBehind_14 rfl ?_
      obtain ⟨f7, hw⟩ := hw
      refine te_iald dLw_putsBehind_16 e2 (Or.inl f3) f7 ?_
      refine tq_iload_n dLw_putsBehind_17 rfl rfl ?_
      refine tq_icmpne (tgt := 28) dLw_putsBehind_18 (by decide) (fun c8 => ?_) (fun c8 => ?_)
      · have hw := hw.1 c8
        refine tq_iload_n dLw_putsBehind_28 rfl rfl ?_
        refine tq_istore_n (ls' := [some (vR x0), some (vI x1), some (vI x2), some (vI x3), some (vI x4)]) dLw_putsBehind_29 rfl (Nat.le_of_ble_eq_true rfl) rfl ?_
        refine tq_inc (k := (1 : Int32)) (ls' := [some (vR x0), some (vI x1), some (vI x2), some (vI x3), some (vI (x4 + (1 : Int32)))]) dLw_putsBehind_30 rfl tni_1 (Nat.le_of_ble_eq_true rfl) rfl ?_
        refine tq_goto (tgt := 5) dLw_putsBehind_33 (by decide) ?_
        refine tpR.fo (ls' := [some (vR x0), some (vI x1), some (vI x2), some (vI x3), some (vI (x4 + (1 : Int32)))]) ?_ (And.intro rfl (And.intro rfl (And.intro rfl (And.intro rfl (And.intro rfl trivial)))))
        exact ih _ _ _ _ _ _ hw
      · have hw := hw.2 c8
        refine tq_iload dLw_putsBehind_21 rfl ?_
        refine tq_iconst (v := (1 : Int32)) dLw_putsBehind_23 tni_1 ?_
        refine tq_iadd dLw_putsBehind_24 ?_
        refine tq_goto (tgt := 29) dLw_putsBehind_25 (by decide) ?_
        refine tq_istore_n (ls' := [some (vR x0), some (vI x1), some (vI x2), some (vI (x4 + (1 : Int32))), some (vI x4)]) dLw_putsBehind_29 rfl (Nat.le_of_ble_eq_true rfl) rfl ?_
        refine tq_inc (k := (1 : Int32)) (ls' := [some (vR x0), some (vI x1), some (vI x2), some (vI (x4 + (1 : Int32))), some (vI (x4 + (1 : Int32)))]) dLw_putsBehind_30 rfl tni_1 (Nat.le_of_ble_eq_true rfl) rfl ?_
        refine tq_goto (tgt := 5) dLw_putsBehind_33 (by decide) ?_
        refine tpR.fo (ls' := [some (vR x0), some (vI x1), some (vI x2), some (vI (x4 + (1 : Int32))), some (vI (x4 + (1 : Int32)))]) ?_ (And.intro rfl (And.intro rfl (And.intro rfl (And.intro rfl (And.intro rfl trivial)))))
        exact ih _ _ _ _ _ _ hw
theorem s_Lw_putsBehind {x0 : Option Nat} {x1 : Int32} {x2 : Int32} {h : tpH} {R : tpH → Prop} (hw : w_Lw_putsBehind x0 x1 x2 h R) : tpC Lw_putsBehind 0 [vR x0, vI x1, vI x2] h (tpOv R (fun _ _ => False)) := by
  refine tpC_of ms_Lw_putsBehind.2.2.2.1 rfl rfl (Nat.le_of_ble_eq_true rfl) ?_
  show tpR Lw_putsBehind 0 h _ _ 0 [some (vR x0), some (vI x1), some (vI x2), none, none] [] h
  unfold w_Lw_putsBehind at hw
  refine tq_iconst (v := (1 : Int32)) dLw_putsBehind_0 tni_1 ?_
  refine tq_istore_n (ls' := [some (vR x0), some (vI x1), some (vI x2), some (vI (1 : Int32)), none]) dLw_putsBehind_1 rfl (Nat.le_of_ble_eq_true rfl) rfl ?_
  refine tq_iconst (v := (1 : Int32)) dLw_putsBehind_2 tni_1 ?_
  refine tq_istore (ls' := [some (vR x0), some (vI x1), some (vI x2), some (vI (1 : Int32)), some (vI (1 : Int32))]) dLw_putsBehind_3 (Nat.le_of_ble_eq_true rfl) rfl ?_
  refine tpR.fo (ls' := [some (vR x0), some (vI x1), some (vI x2), some (vI (1 : Int32)), some (vI (1 : Int32))]) ?_ (And.intro rfl (And.intro rfl (And.intro rfl (And.intro rfl (And.intro rfl trivial)))))
  obtain ⟨n, hw⟩ := hw
  exact s_Lw_putsBehind_5 n _ _ _ _ _ _ hw
/-! TLaw.orders -/
theorem dLw_orders_0 : decode (mB Lw_orders) 0 = .ok (.bipush 40, 2) := by decide +kernel
theorem dLw_orders_2 : decode (mB Lw_orders) 2 = .ok (.newarray .int, 2) := by decide +kernel
theorem dLw_orders_4 : decode (mB Lw_orders) 4 = .ok (.astore 8, 2) := by decide +kernel
theorem dLw_orders_6 : decode (mB Lw_orders) 6 = .ok (.bipush 40, 2) := by decide +kernel
theorem dLw_orders_8 : decode (mB Lw_orders) 8 = .ok (.newarray .int, 2) := by decide +kernel
theorem dLw_orders_10 : decode (mB Lw_orders) 10 = .ok (.astore 9, 2) := by decide +kernel
theorem dLw_orders_12 : decode (mB Lw_orders) 12 = .ok (.bipush 41, 2) := by decide +kernel
theorem dLw_orders_14 : decode (mB Lw_orders) 14 = .ok (.newarray .int, 2) := by decide +kernel
theorem dLw_orders_16 : decode (mB Lw_orders) 16 = .ok (.astore 10, 2) := by decide +kernel
theorem dLw_orders_18 : decode (mB Lw_orders) 18 = .ok (.bipush 41, 2) := by decide +kernel
theorem dLw_orders_20 : decode (mB Lw_orders) 20 = .ok (.newarray .int, 2) := by decide +kernel
theorem dLw_orders_22 : decode (mB Lw_orders) 22 = .ok (.astore 11, 2) := by decide +kernel
theorem dLw_orders_24 : decode (mB Lw_orders) 24 = .ok (.bipush 41, 2) := by decide +kernel
theorem dLw_orders_26 : decode (mB Lw_orders) 26 = .ok (.newarray .int, 2) := by decide +kernel
theorem dLw_orders_28 : decode (mB Lw_orders) 28 = .ok (.astore 12, 2) := by decide +kernel
theorem dLw_orders_30 : decode (mB Lw_orders) 30 = .ok (.aload_n 0, 1) := by decide +kernel
theorem dLw_orders_31 : decode (mB Lw_orders) 31 = .ok (.iload 6, 2) := by decide +kernel
theorem dLw_orders_33 : decode (mB Lw_orders) 33 = .ok (.invokestatic 13, 3) := by decide +kernel
theorem dLw_orders_36 : decode (mB Lw_orders) 36 = .ok (.ifCond .ge 7, 3) := by decide +kernel
theorem dLw_orders_39 : decode (mB Lw_orders) 39 = .ok (.iconst 0, 1) := by decide +kernel
theorem dLw_orders_40 : decode (mB Lw_orders) 40 = .ok (.goto 13, 3) := by decide +kernel
theorem dLw_orders_43 : decode (mB Lw_orders) 43 = .ok (.aload_n 0, 1) := by decide +kernel
theorem dLw_orders_44 : decode (mB Lw_orders) 44 = .ok (.aload 4, 2) := by decide +kernel
theorem dLw_orders_46 : decode (mB Lw_orders) 46 = .ok (.iload 6, 2) := by decide +kernel
theorem dLw_orders_48 : decode (mB Lw_orders) 48 = .ok (.aload 8, 2) := by decide +kernel
theorem dLw_orders_50 : decode (mB Lw_orders) 50 = .ok (.invokestatic 36, 3) := by decide +kernel
theorem dLw_orders_53 : decode (mB Lw_orders) 53 = .ok (.istore 13, 2) := by decide +kernel
theorem dLw_orders_55 : decode (mB Lw_orders) 55 = .ok (.iconst 0, 1) := by decide +kernel
theorem dLw_orders_56 : decode (mB Lw_orders) 56 = .ok (.istore 14, 2) := by decide +kernel
theorem dLw_orders_58 : decode (mB Lw_orders) 58 = .ok (.iconst 0, 1) := by decide +kernel
theorem dLw_orders_59 : decode (mB Lw_orders) 59 = .ok (.istore 15, 2) := by decide +kernel
theorem dLw_orders_61 : decode (mB Lw_orders) 61 = .ok (.iload 15, 2) := by decide +kernel
theorem dLw_orders_63 : decode (mB Lw_orders) 63 = .ok (.iload 13, 2) := by decide +kernel
theorem dLw_orders_65 : decode (mB Lw_orders) 65 = .ok (.if_icmp .ge 36, 3) := by decide +kernel
theorem dLw_orders_68 : decode (mB Lw_orders) 68 = .ok (.aload_n 3, 1) := by decide +kernel
theorem dLw_orders_69 : decode (mB Lw_orders) 69 = .ok (.aload 8, 2) := by decide +kernel
theorem dLw_orders_71 : decode (mB Lw_orders) 71 = .ok (.iload 15, 2) := by decide +kernel
theorem dLw_orders_73 : decode (mB Lw_orders) 73 = .ok (.iaload, 1) := by decide +kernel
theorem dLw_orders_74 : decode (mB Lw_orders) 74 = .ok (.invokestatic 40, 3) := by decide +kernel
theorem dLw_orders_77 : decode (mB Lw_orders) 77 = .ok (.iload 6, 2) := by decide +kernel
theorem dLw_orders_79 : decode (mB Lw_orders) 79 = .ok (.if_icmp .ne 16, 3) := by decide +kernel
theorem dLw_orders_82 : decode (mB Lw_orders) 82 = .ok (.aload 9, 2) := by decide +kernel
theorem dLw_orders_84 : decode (mB Lw_orders) 84 = .ok (.iload 14, 2) := by decide +kernel
theorem dLw_orders_86 : decode (mB Lw_orders) 86 = .ok (.aload 8, 2) := by decide +kernel
theorem dLw_orders_88 : decode (mB Lw_orders) 88 = .ok (.iload 15, 2) := by decide +kernel
theorem dLw_orders_90 : decode (mB Lw_orders) 90 = .ok (.iaload, 1) := by decide +kernel
theorem dLw_orders_91 : decode (mB Lw_orders) 91 = .ok (.iastore, 1) := by decide +kernel
theorem dLw_orders_92 : decode (mB Lw_orders) 92 = .ok (.iinc 14 1, 3) := by decide +kernel
theorem dLw_orders_95 : decode (mB Lw_orders) 95 = .ok (.iinc 15 1, 3) := by decide +kernel
theorem dLw_orders_98 : decode (mB Lw_orders) 98 = .ok (.goto (-37), 3) := by decide +kernel
theorem dLw_orders_101 : decode (mB Lw_orders) 101 = .ok (.aload_n 1, 1) := by decide +kernel
theorem dLw_orders_102 : decode (mB Lw_orders) 102 = .ok (.aload 4, 2) := by decide +kernel
theorem dLw_orders_104 : decode (mB Lw_orders) 104 = .ok (.iload 6, 2) := by decide +kernel
theorem dLw_orders_106 : decode (mB Lw_orders) 106 = .ok (.aload 9, 2) := by decide +kernel
theorem dLw_orders_108 : decode (mB Lw_orders) 108 = .ok (.iload 14, 2) := by decide +kernel
theorem dLw_orders_110 : decode (mB Lw_orders) 110 = .ok (.aload 10, 2) := by decide +kernel
theorem dLw_orders_112 : decode (mB Lw_orders) 112 = .ok (.invokestatic 109, 3) := by decide +kernel
theorem dLw_orders_115 : decode (mB Lw_orders) 115 = .ok (.istore 15, 2) := by decide +kernel
theorem dLw_orders_117 : decode (mB Lw_orders) 117 = .ok (.aload_n 2, 1) := by decide +kernel
theorem dLw_orders_118 : decode (mB Lw_orders) 118 = .ok (.aload 4, 2) := by decide +kernel
theorem dLw_orders_120 : decode (mB Lw_orders) 120 = .ok (.iload 6, 2) := by decide +kernel
theorem dLw_orders_122 : decode (mB Lw_orders) 122 = .ok (.aload 9, 2) := by decide +kernel
theorem dLw_orders_124 : decode (mB Lw_orders) 124 = .ok (.iload 14, 2) := by decide +kernel
theorem dLw_orders_126 : decode (mB Lw_orders) 126 = .ok (.aload 11, 2) := by decide +kernel
theorem dLw_orders_128 : decode (mB Lw_orders) 128 = .ok (.invokestatic 109, 3) := by decide +kernel
theorem dLw_orders_131 : decode (mB Lw_orders) 131 = .ok (.istore 16, 2) := by decide +kernel
theorem dLw_orders_133 : decode (mB Lw_orders) 133 = .ok (.iconst 1, 1) := by decide +kernel
theorem dLw_orders_134 : decode (mB Lw_orders) 134 = .ok (.istore 17, 2) := by decide +kernel
theorem dLw_orders_136 : decode (mB Lw_orders) 136 = .ok (.iconst 0, 1) := by decide +kernel
theorem dLw_orders_137 : decode (mB Lw_orders) 137 = .ok (.istore 18, 2) := by decide +kernel
theorem dLw_orders_139 : decode (mB Lw_orders) 139 = .ok (.iload 18, 2) := by decide +kernel
theorem dLw_orders_141 : decode (mB Lw_orders) 141 = .ok (.bipush 40, 2) := by decide +kernel
theorem dLw_orders_143 : decode (mB Lw_orders) 143 = .ok (.if_icmp .ge 52, 3) := by decide +kernel
theorem dLw_orders_146 : decode (mB Lw_orders) 146 = .ok (.iload 17, 2) := by decide +kernel
theorem dLw_orders_148 : decode (mB Lw_orders) 148 = .ok (.ifCond .eq 38, 3) := by decide +kernel
theorem dLw_orders_151 : decode (mB Lw_orders) 151 = .ok (.iload 18, 2) := by decide +kernel
theorem dLw_orders_153 : decode (mB Lw_orders) 153 = .ok (.aload 10, 2) := by decide +kernel
theorem dLw_orders_155 : decode (mB Lw_orders) 155 = .ok (.iconst 0, 1) := by decide +kernel
theorem dLw_orders_156 : decode (mB Lw_orders) 156 = .ok (.iaload, 1) := by decide +kernel
theorem dLw_orders_157 : decode (mB Lw_orders) 157 = .ok (.if_icmp .le 12, 3) := by decide +kernel
theorem dLw_orders_160 : decode (mB Lw_orders) 160 = .ok (.iload 18, 2) := by decide +kernel
theorem dLw_orders_162 : decode (mB Lw_orders) 162 = .ok (.aload 11, 2) := by decide +kernel
theorem dLw_orders_164 : decode (mB Lw_orders) 164 = .ok (.iconst 0, 1) := by decide +kernel
theorem dLw_orders_165 : decode (mB Lw_orders) 165 = .ok (.iaload, 1) := by decide +kernel
theorem dLw_orders_166 : decode (mB Lw_orders) 166 = .ok (.if_icmp .gt 16, 3) := by decide +kernel
theorem dLw_orders_169 : decode (mB Lw_orders) 169 = .ok (.aload 10, 2) := by decide +kernel
theorem dLw_orders_171 : decode (mB Lw_orders) 171 = .ok (.iload 18, 2) := by decide +kernel
theorem dLw_orders_173 : decode (mB Lw_orders) 173 = .ok (.iaload, 1) := by decide +kernel
theorem dLw_orders_174 : decode (mB Lw_orders) 174 = .ok (.aload 11, 2) := by decide +kernel
theorem dLw_orders_176 : decode (mB Lw_orders) 176 = .ok (.iload 18, 2) := by decide +kernel
theorem dLw_orders_178 : decode (mB Lw_orders) 178 = .ok (.iaload, 1) := by decide +kernel
theorem dLw_orders_179 : decode (mB Lw_orders) 179 = .ok (.if_icmp .ne 7, 3) := by decide +kernel
theorem dLw_orders_182 : decode (mB Lw_orders) 182 = .ok (.iconst 1, 1) := by decide +kernel
theorem dLw_orders_183 : decode (mB Lw_orders) 183 = .ok (.goto 4, 3) := by decide +kernel
theorem dLw_orders_186 : decode (mB Lw_orders) 186 = .ok (.iconst 0, 1) := by decide +kernel
theorem dLw_orders_187 : decode (mB Lw_orders) 187 = .ok (.istore 17, 2) := by decide +kernel
theorem dLw_orders_189 : decode (mB Lw_orders) 189 = .ok (.iinc 18 1, 3) := by decide +kernel
theorem dLw_orders_192 : decode (mB Lw_orders) 192 = .ok (.goto (-53), 3) := by decide +kernel
theorem dLw_orders_195 : decode (mB Lw_orders) 195 = .ok (.iload 15, 2) := by decide +kernel
theorem dLw_orders_197 : decode (mB Lw_orders) 197 = .ok (.ifCond .eq 17, 3) := by decide +kernel
theorem dLw_orders_200 : decode (mB Lw_orders) 200 = .ok (.iload 16, 2) := by decide +kernel
theorem dLw_orders_202 : decode (mB Lw_orders) 202 = .ok (.ifCond .eq 12, 3) := by decide +kernel
theorem dLw_orders_205 : decode (mB Lw_orders) 205 = .ok (.iload 17, 2) := by decide +kernel
theorem dLw_orders_207 : decode (mB Lw_orders) 207 = .ok (.ifCond .ne 7, 3) := by decide +kernel
theorem dLw_orders_210 : decode (mB Lw_orders) 210 = .ok (.iconst 1, 1) := by decide +kernel
theorem dLw_orders_211 : decode (mB Lw_orders) 211 = .ok (.goto 4, 3) := by decide +kernel
theorem dLw_orders_214 : decode (mB Lw_orders) 214 = .ok (.iconst 0, 1) := by decide +kernel
theorem dLw_orders_215 : decode (mB Lw_orders) 215 = .ok (.istore 18, 2) := by decide +kernel
theorem dLw_orders_217 : decode (mB Lw_orders) 217 = .ok (.aload_n 0, 1) := by decide +kernel
theorem dLw_orders_218 : decode (mB Lw_orders) 218 = .ok (.aload 4, 2) := by decide +kernel
theorem dLw_orders_220 : decode (mB Lw_orders) 220 = .ok (.iload 6, 2) := by decide +kernel
theorem dLw_orders_222 : decode (mB Lw_orders) 222 = .ok (.aload 9, 2) := by decide +kernel
theorem dLw_orders_224 : decode (mB Lw_orders) 224 = .ok (.iload 14, 2) := by decide +kernel
theorem dLw_orders_226 : decode (mB Lw_orders) 226 = .ok (.aload 12, 2) := by decide +kernel
theorem dLw_orders_228 : decode (mB Lw_orders) 228 = .ok (.invokestatic 109, 3) := by decide +kernel
theorem dLw_orders_231 : decode (mB Lw_orders) 231 = .ok (.istore 19, 2) := by decide +kernel
theorem dLw_orders_233 : decode (mB Lw_orders) 233 = .ok (.aload 7, 2) := by decide +kernel
theorem dLw_orders_235 : decode (mB Lw_orders) 235 = .ok (.iconst 0, 1) := by decide +kernel
theorem dLw_orders_236 : decode (mB Lw_orders) 236 = .ok (.iconst 0, 1) := by decide +kernel
theorem dLw_orders_237 : decode (mB Lw_orders) 237 = .ok (.iastore, 1) := by decide +kernel
theorem dLw_orders_238 : decode (mB Lw_orders) 238 = .ok (.iload 18, 2) := by decide +kernel
theorem dLw_orders_240 : decode (mB Lw_orders) 240 = .ok (.ifCond .eq 10, 3) := by decide +kernel
theorem dLw_orders_243 : decode (mB Lw_orders) 243 = .ok (.aload 5, 2) := by decide +kernel
theorem dLw_orders_245 : decode (mB Lw_orders) 245 = .ok (.iconst 5, 1) := by decide +kernel
theorem dLw_orders_246 : decode (mB Lw_orders) 246 = .ok (.iaload, 1) := by decide +kernel
theorem dLw_orders_247 : decode (mB Lw_orders) 247 = .ok (.goto 13, 3) := by decide +kernel
theorem dLw_orders_250 : decode (mB Lw_orders) 250 = .ok (.iload 15, 2) := by decide +kernel
theorem dLw_orders_252 : decode (mB Lw_orders) 252 = .ok (.ifCond .eq 7, 3) := by decide +kernel
theorem dLw_orders_255 : decode (mB Lw_orders) 255 = .ok (.iconst 1, 1) := by decide +kernel
theorem dLw_orders_256 : decode (mB Lw_orders) 256 = .ok (.goto 4, 3) := by decide +kernel
theorem dLw_orders_259 : decode (mB Lw_orders) 259 = .ok (.iconst 2, 1) := by decide +kernel
theorem dLw_orders_260 : decode (mB Lw_orders) 260 = .ok (.istore 20, 2) := by decide +kernel
theorem dLw_orders_262 : decode (mB Lw_orders) 262 = .ok (.iconst 1, 1) := by decide +kernel
theorem dLw_orders_263 : decode (mB Lw_orders) 263 = .ok (.istore 21, 2) := by decide +kernel
theorem dLw_orders_265 : decode (mB Lw_orders) 265 = .ok (.iload 21, 2) := by decide +kernel
theorem dLw_orders_267 : decode (mB Lw_orders) 267 = .ok (.iload 20, 2) := by decide +kernel
theorem dLw_orders_269 : decode (mB Lw_orders) 269 = .ok (.ifCond .ne 10, 3) := by decide +kernel
theorem dLw_orders_272 : decode (mB Lw_orders) 272 = .ok (.aload 12, 2) := by decide +kernel
theorem dLw_orders_274 : decode (mB Lw_orders) 274 = .ok (.iconst 0, 1) := by decide +kernel
theorem dLw_orders_275 : decode (mB Lw_orders) 275 = .ok (.iaload, 1) := by decide +kernel
theorem dLw_orders_276 : decode (mB Lw_orders) 276 = .ok (.goto 20, 3) := by decide +kernel
theorem dLw_orders_279 : decode (mB Lw_orders) 279 = .ok (.iload 20, 2) := by decide +kernel
theorem dLw_orders_281 : decode (mB Lw_orders) 281 = .ok (.iconst 1, 1) := by decide +kernel
theorem dLw_orders_282 : decode (mB Lw_orders) 282 = .ok (.if_icmp .ne 10, 3) := by decide +kernel
theorem dLw_orders_285 : decode (mB Lw_orders) 285 = .ok (.aload 10, 2) := by decide +kernel
theorem dLw_orders_287 : decode (mB Lw_orders) 287 = .ok (.iconst 0, 1) := by decide +kernel
theorem dLw_orders_288 : decode (mB Lw_orders) 288 = .ok (.iaload, 1) := by decide +kernel
theorem dLw_orders_289 : decode (mB Lw_orders) 289 = .ok (.goto 7, 3) := by decide +kernel
theorem dLw_orders_292 : decode (mB Lw_orders) 292 = .ok (.aload 11, 2) := by decide +kernel
theorem dLw_orders_294 : decode (mB Lw_orders) 294 = .ok (.iconst 0, 1) := by decide +kernel
theorem dLw_orders_295 : decode (mB Lw_orders) 295 = .ok (.iaload, 1) := by decide +kernel
theorem dLw_orders_296 : decode (mB Lw_orders) 296 = .ok (.if_icmp .gt 54, 3) := by decide +kernel
theorem dLw_orders_299 : decode (mB Lw_orders) 299 = .ok (.aload 7, 2) := by decide +kernel
theorem dLw_orders_301 : decode (mB Lw_orders) 301 = .ok (.iconst 0, 1) := by decide +kernel
theorem dLw_orders_302 : decode (mB Lw_orders) 302 = .ok (.dup2, 1) := by decide +kernel
theorem dLw_orders_303 : decode (mB Lw_orders) 303 = .ok (.iaload, 1) := by decide +kernel
theorem dLw_orders_304 : decode (mB Lw_orders) 304 = .ok (.iconst 1, 1) := by decide +kernel
theorem dLw_orders_305 : decode (mB Lw_orders) 305 = .ok (.iadd, 1) := by decide +kernel
theorem dLw_orders_306 : decode (mB Lw_orders) 306 = .ok (.iastore, 1) := by decide +kernel
theorem dLw_orders_307 : decode (mB Lw_orders) 307 = .ok (.aload 7, 2) := by decide +kernel
theorem dLw_orders_309 : decode (mB Lw_orders) 309 = .ok (.iload 21, 2) := by decide +kernel
theorem dLw_orders_311 : decode (mB Lw_orders) 311 = .ok (.iload 20, 2) := by decide +kernel
theorem dLw_orders_313 : decode (mB Lw_orders) 313 = .ok (.ifCond .ne 11, 3) := by decide +kernel
theorem dLw_orders_316 : decode (mB Lw_orders) 316 = .ok (.aload 12, 2) := by decide +kernel
theorem dLw_orders_318 : decode (mB Lw_orders) 318 = .ok (.iload 21, 2) := by decide +kernel
theorem dLw_orders_320 : decode (mB Lw_orders) 320 = .ok (.iaload, 1) := by decide +kernel
theorem dLw_orders_321 : decode (mB Lw_orders) 321 = .ok (.goto 22, 3) := by decide +kernel
theorem dLw_orders_324 : decode (mB Lw_orders) 324 = .ok (.iload 20, 2) := by decide +kernel
theorem dLw_orders_326 : decode (mB Lw_orders) 326 = .ok (.iconst 1, 1) := by decide +kernel
theorem dLw_orders_327 : decode (mB Lw_orders) 327 = .ok (.if_icmp .ne 11, 3) := by decide +kernel
theorem dLw_orders_330 : decode (mB Lw_orders) 330 = .ok (.aload 10, 2) := by decide +kernel
theorem dLw_orders_332 : decode (mB Lw_orders) 332 = .ok (.iload 21, 2) := by decide +kernel
theorem dLw_orders_334 : decode (mB Lw_orders) 334 = .ok (.iaload, 1) := by decide +kernel
theorem dLw_orders_335 : decode (mB Lw_orders) 335 = .ok (.goto 8, 3) := by decide +kernel
theorem dLw_orders_338 : decode (mB Lw_orders) 338 = .ok (.aload 11, 2) := by decide +kernel
theorem dLw_orders_340 : decode (mB Lw_orders) 340 = .ok (.iload 21, 2) := by decide +kernel
theorem dLw_orders_342 : decode (mB Lw_orders) 342 = .ok (.iaload, 1) := by decide +kernel
theorem dLw_orders_343 : decode (mB Lw_orders) 343 = .ok (.iastore, 1) := by decide +kernel
theorem dLw_orders_344 : decode (mB Lw_orders) 344 = .ok (.iinc 21 1, 3) := by decide +kernel
theorem dLw_orders_347 : decode (mB Lw_orders) 347 = .ok (.goto (-82), 3) := by decide +kernel
theorem dLw_orders_350 : decode (mB Lw_orders) 350 = .ok (.iconst 0, 1) := by decide +kernel
theorem dLw_orders_351 : decode (mB Lw_orders) 351 = .ok (.istore 21, 2) := by decide +kernel
theorem dLw_orders_353 : decode (mB Lw_orders) 353 = .ok (.iload 21, 2) := by decide +kernel
theorem dLw_orders_355 : decode (mB Lw_orders) 355 = .ok (.iload 14, 2) := by decide +kernel
theorem dLw_orders_357 : decode (mB Lw_orders) 357 = .ok (.if_icmp .ge 85, 3) := by decide +kernel
theorem dLw_orders_360 : decode (mB Lw_orders) 360 = .ok (.iconst 0, 1) := by decide +kernel
theorem dLw_orders_361 : decode (mB Lw_orders) 361 = .ok (.istore 22, 2) := by decide +kernel
theorem dLw_orders_363 : decode (mB Lw_orders) 363 = .ok (.iconst 1, 1) := by decide +kernel
theorem dLw_orders_364 : decode (mB Lw_orders) 364 = .ok (.istore 23, 2) := by decide +kernel
theorem dLw_orders_366 : decode (mB Lw_orders) 366 = .ok (.iload 23, 2) := by decide +kernel
theorem dLw_orders_368 : decode (mB Lw_orders) 368 = .ok (.aload 7, 2) := by decide +kernel
theorem dLw_orders_370 : decode (mB Lw_orders) 370 = .ok (.iconst 0, 1) := by decide +kernel
theorem dLw_orders_371 : decode (mB Lw_orders) 371 = .ok (.iaload, 1) := by decide +kernel
theorem dLw_orders_372 : decode (mB Lw_orders) 372 = .ok (.if_icmp .gt 34, 3) := by decide +kernel
theorem dLw_orders_375 : decode (mB Lw_orders) 375 = .ok (.iload 22, 2) := by decide +kernel
theorem dLw_orders_377 : decode (mB Lw_orders) 377 = .ok (.ifCond .ne 16, 3) := by decide +kernel
theorem dLw_orders_380 : decode (mB Lw_orders) 380 = .ok (.aload 7, 2) := by decide +kernel
theorem dLw_orders_382 : decode (mB Lw_orders) 382 = .ok (.iload 23, 2) := by decide +kernel
theorem dLw_orders_384 : decode (mB Lw_orders) 384 = .ok (.iaload, 1) := by decide +kernel
theorem dLw_orders_385 : decode (mB Lw_orders) 385 = .ok (.aload 9, 2) := by decide +kernel
theorem dLw_orders_387 : decode (mB Lw_orders) 387 = .ok (.iload 21, 2) := by decide +kernel
theorem dLw_orders_389 : decode (mB Lw_orders) 389 = .ok (.iaload, 1) := by decide +kernel
theorem dLw_orders_390 : decode (mB Lw_orders) 390 = .ok (.if_icmp .ne 7, 3) := by decide +kernel
theorem dLw_orders_393 : decode (mB Lw_orders) 393 = .ok (.iconst 1, 1) := by decide +kernel
theorem dLw_orders_394 : decode (mB Lw_orders) 394 = .ok (.goto 4, 3) := by decide +kernel
theorem dLw_orders_397 : decode (mB Lw_orders) 397 = .ok (.iconst 0, 1) := by decide +kernel
theorem dLw_orders_398 : decode (mB Lw_orders) 398 = .ok (.istore 22, 2) := by decide +kernel
theorem dLw_orders_400 : decode (mB Lw_orders) 400 = .ok (.iinc 23 1, 3) := by decide +kernel
theorem dLw_orders_403 : decode (mB Lw_orders) 403 = .ok (.goto (-37), 3) := by decide +kernel
theorem dLw_orders_406 : decode (mB Lw_orders) 406 = .ok (.iload 22, 2) := by decide +kernel
theorem dLw_orders_408 : decode (mB Lw_orders) 408 = .ok (.ifCond .ne 28, 3) := by decide +kernel
theorem dLw_orders_411 : decode (mB Lw_orders) 411 = .ok (.aload 7, 2) := by decide +kernel
theorem dLw_orders_413 : decode (mB Lw_orders) 413 = .ok (.aload 9, 2) := by decide +kernel
theorem dLw_orders_415 : decode (mB Lw_orders) 415 = .ok (.iload 21, 2) := by decide +kernel
theorem dLw_orders_417 : decode (mB Lw_orders) 417 = .ok (.iaload, 1) := by decide +kernel
theorem dLw_orders_418 : decode (mB Lw_orders) 418 = .ok (.aload_n 0, 1) := by decide +kernel
theorem dLw_orders_419 : decode (mB Lw_orders) 419 = .ok (.aload 4, 2) := by decide +kernel
theorem dLw_orders_421 : decode (mB Lw_orders) 421 = .ok (.iload 6, 2) := by decide +kernel
theorem dLw_orders_423 : decode (mB Lw_orders) 423 = .ok (.aload 9, 2) := by decide +kernel
theorem dLw_orders_425 : decode (mB Lw_orders) 425 = .ok (.iload 21, 2) := by decide +kernel
theorem dLw_orders_427 : decode (mB Lw_orders) 427 = .ok (.iaload, 1) := by decide +kernel
theorem dLw_orders_428 : decode (mB Lw_orders) 428 = .ok (.aload 7, 2) := by decide +kernel
theorem dLw_orders_430 : decode (mB Lw_orders) 430 = .ok (.invokestatic 113, 3) := by decide +kernel
theorem dLw_orders_433 : decode (mB Lw_orders) 433 = .ok (.invokestatic 117, 3) := by decide +kernel
theorem dLw_orders_436 : decode (mB Lw_orders) 436 = .ok (.iinc 21 1, 3) := by decide +kernel
theorem dLw_orders_439 : decode (mB Lw_orders) 439 = .ok (.goto (-86), 3) := by decide +kernel
theorem dLw_orders_442 : decode (mB Lw_orders) 442 = .ok (.iconst 0, 1) := by decide +kernel
theorem dLw_orders_443 : decode (mB Lw_orders) 443 = .ok (.istore 21, 2) := by decide +kernel
theorem dLw_orders_445 : decode (mB Lw_orders) 445 = .ok (.iload 21, 2) := by decide +kernel
theorem dLw_orders_447 : decode (mB Lw_orders) 447 = .ok (.bipush 40, 2) := by decide +kernel
theorem dLw_orders_449 : decode (mB Lw_orders) 449 = .ok (.if_icmp .ge 113, 3) := by decide +kernel
theorem dLw_orders_452 : decode (mB Lw_orders) 452 = .ok (.aload_n 3, 1) := by decide +kernel
theorem dLw_orders_453 : decode (mB Lw_orders) 453 = .ok (.iload 21, 2) := by decide +kernel
theorem dLw_orders_455 : decode (mB Lw_orders) 455 = .ok (.invokestatic 40, 3) := by decide +kernel
theorem dLw_orders_458 : decode (mB Lw_orders) 458 = .ok (.iload 6, 2) := by decide +kernel
theorem dLw_orders_460 : decode (mB Lw_orders) 460 = .ok (.if_icmp .ne 96, 3) := by decide +kernel
theorem dLw_orders_463 : decode (mB Lw_orders) 463 = .ok (.aload 9, 2) := by decide +kernel
theorem dLw_orders_465 : decode (mB Lw_orders) 465 = .ok (.iload 14, 2) := by decide +kernel
theorem dLw_orders_467 : decode (mB Lw_orders) 467 = .ok (.iload 21, 2) := by decide +kernel
theorem dLw_orders_469 : decode (mB Lw_orders) 469 = .ok (.invokestatic 105, 3) := by decide +kernel
theorem dLw_orders_472 : decode (mB Lw_orders) 472 = .ok (.ifCond .ge 84, 3) := by decide +kernel
theorem dLw_orders_475 : decode (mB Lw_orders) 475 = .ok (.aload_n 1, 1) := by decide +kernel
theorem dLw_orders_476 : decode (mB Lw_orders) 476 = .ok (.iload 21, 2) := by decide +kernel
theorem dLw_orders_478 : decode (mB Lw_orders) 478 = .ok (.invokestatic 40, 3) := by decide +kernel
theorem dLw_orders_481 : decode (mB Lw_orders) 481 = .ok (.iload 6, 2) := by decide +kernel
theorem dLw_orders_483 : decode (mB Lw_orders) 483 = .ok (.if_icmp .ne 18, 3) := by decide +kernel
theorem dLw_orders_486 : decode (mB Lw_orders) 486 = .ok (.aload_n 1, 1) := by decide +kernel
theorem dLw_orders_487 : decode (mB Lw_orders) 487 = .ok (.aload 4, 2) := by decide +kernel
theorem dLw_orders_489 : decode (mB Lw_orders) 489 = .ok (.iload 6, 2) := by decide +kernel
theorem dLw_orders_491 : decode (mB Lw_orders) 491 = .ok (.iload 21, 2) := by decide +kernel
theorem dLw_orders_493 : decode (mB Lw_orders) 493 = .ok (.aload 7, 2) := by decide +kernel
theorem dLw_orders_495 : decode (mB Lw_orders) 495 = .ok (.invokestatic 113, 3) := by decide +kernel
theorem dLw_orders_498 : decode (mB Lw_orders) 498 = .ok (.goto 5, 3) := by decide +kernel
theorem dLw_orders_501 : decode (mB Lw_orders) 501 = .ok (.bipush 99, 2) := by decide +kernel
theorem dLw_orders_503 : decode (mB Lw_orders) 503 = .ok (.istore 22, 2) := by decide +kernel
theorem dLw_orders_505 : decode (mB Lw_orders) 505 = .ok (.aload_n 2, 1) := by decide +kernel
theorem dLw_orders_506 : decode (mB Lw_orders) 506 = .ok (.iload 21, 2) := by decide +kernel
theorem dLw_orders_508 : decode (mB Lw_orders) 508 = .ok (.invokestatic 40, 3) := by decide +kernel
theorem dLw_orders_511 : decode (mB Lw_orders) 511 = .ok (.iload 6, 2) := by decide +kernel
theorem dLw_orders_513 : decode (mB Lw_orders) 513 = .ok (.if_icmp .ne 18, 3) := by decide +kernel
theorem dLw_orders_516 : decode (mB Lw_orders) 516 = .ok (.aload_n 2, 1) := by decide +kernel
theorem dLw_orders_517 : decode (mB Lw_orders) 517 = .ok (.aload 4, 2) := by decide +kernel
theorem dLw_orders_519 : decode (mB Lw_orders) 519 = .ok (.iload 6, 2) := by decide +kernel
theorem dLw_orders_521 : decode (mB Lw_orders) 521 = .ok (.iload 21, 2) := by decide +kernel
theorem dLw_orders_523 : decode (mB Lw_orders) 523 = .ok (.aload 7, 2) := by decide +kernel
theorem dLw_orders_525 : decode (mB Lw_orders) 525 = .ok (.invokestatic 113, 3) := by decide +kernel
theorem dLw_orders_528 : decode (mB Lw_orders) 528 = .ok (.goto 5, 3) := by decide +kernel
theorem dLw_orders_531 : decode (mB Lw_orders) 531 = .ok (.bipush 99, 2) := by decide +kernel
theorem dLw_orders_533 : decode (mB Lw_orders) 533 = .ok (.istore 23, 2) := by decide +kernel
theorem dLw_orders_535 : decode (mB Lw_orders) 535 = .ok (.aload 7, 2) := by decide +kernel
theorem dLw_orders_537 : decode (mB Lw_orders) 537 = .ok (.iload 21, 2) := by decide +kernel
theorem dLw_orders_539 : decode (mB Lw_orders) 539 = .ok (.iload 22, 2) := by decide +kernel
theorem dLw_orders_541 : decode (mB Lw_orders) 541 = .ok (.iload 23, 2) := by decide +kernel
theorem dLw_orders_543 : decode (mB Lw_orders) 543 = .ok (.if_icmp .ge 8, 3) := by decide +kernel
theorem dLw_orders_546 : decode (mB Lw_orders) 546 = .ok (.iload 22, 2) := by decide +kernel
theorem dLw_orders_548 : decode (mB Lw_orders) 548 = .ok (.goto 5, 3) := by decide +kernel
theorem dLw_orders_551 : decode (mB Lw_orders) 551 = .ok (.iload 23, 2) := by decide +kernel
theorem dLw_orders_553 : decode (mB Lw_orders) 553 = .ok (.invokestatic 117, 3) := by decide +kernel
theorem dLw_orders_556 : decode (mB Lw_orders) 556 = .ok (.iinc 21 1, 3) := by decide +kernel
theorem dLw_orders_559 : decode (mB Lw_orders) 559 = .ok (.goto (-114), 3) := by decide +kernel
theorem dLw_orders_562 : decode (mB Lw_orders) 562 = .ok (.iload 18, 2) := by decide +kernel
theorem dLw_orders_564 : decode (mB Lw_orders) 564 = .ok (.ireturn, 1) := by decide +kernel
def w_Lw_orders_169 (R : Int32 → tpH → Prop) (K139 : (Option Nat) → (Option Nat) → (Option Nat) → (Option Nat) → (Option Nat) → (Option Nat) → Int32 → (Option Nat) → (Option Nat) → (Option Nat) → (Option Nat) → (Option Nat) → Int32 → Int32 → Int32 → Int32 → Int32 → tpH → Prop) (x0 : Option Nat) (x1 : Option Nat) (x2 : Option Nat) (x3 : Option Nat) (x4 : Option Nat) (x5 : Option Nat) (x6 : Int32) (x7 : Option Nat) (x9 : Option Nat) (x10 : Option Nat) (x11 : Option Nat) (x12 : Option Nat) (x14 : Int32) (x15 : Int32) (x16 : Int32) (x18 : Int32) (h : tpH) : Prop :=
  ∃ a1, x10 = some a1 ∧ hT h a1 = 15 ∧ (vp_in x18 (hL h a1) ∧ (∃ a5, x11 = some a5 ∧ hT h a5 = 15 ∧ (vp_in x18 (hL h a5) ∧ ((¬ (hI h a1 x18.toNatClampNeg) = (hI h a5 x18.toNatClampNeg) → (K139 x0 x1 x2 x3 x4 x5 x6 x7 x9 x10 x11 x12 x14 x15 x16 (0 : Int32) (x18 + (1 : Int32)) h)) ∧ ((hI h a1 x18.toNatClampNeg) = (hI h a5 x18.toNatClampNeg) → (K139 x0 x1 x2 x3 x4 x5 x6 x7 x9 x10 x11 x12 x14 x15 x16 (1 : Int32) (x18 + (1 : Int32)) h))))))
def w_Lw_orders_343 (R : Int32 → tpH → Prop) (K265 : (Option Nat) → (Option Nat) → (Option Nat) → (Option Nat) → (Option Nat) → Int32 → (Option Nat) → (Option Nat) → (Option Nat) → (Option Nat) → (Option Nat) → Int32 → Int32 → Int32 → Int32 → tpH → Prop) (x0 : Option Nat) (x1 : Option Nat) (x2 : Option Nat) (x3 : Option Nat) (x4 : Option Nat) (x6 : Int32) (x7 : Option Nat) (x9 : Option Nat) (x10 : Option Nat) (x11 : Option Nat) (x12 : Option Nat) (x14 : Int32) (x18 : Int32) (x20 : Int32) (x21 : Int32) (t0 : Int32) (t1 : Int32) (t2 : Option Nat) (h : tpH) : Prop :=
  ∃ a1, t2 = some a1 ∧ hT h a1 = 15 ∧ (vp_in t1 (hL h a1) ∧ (∀ h5, h5 = sI h a1 t1.toNatClampNeg t0 → (K265 x0 x1 x2 x3 x4 x6 x7 x9 x10 x11 x12 x14 x18 x20 (x21 + (1 : Int32)) h5)))
def b_Lw_orders_366 (R : Int32 → tpH → Prop) (K353 : (Option Nat) → (Option Nat) → (Option Nat) → (Option Nat) → (Option Nat) → Int32 → (Option Nat) → (Option Nat) → Int32 → Int32 → Int32 → tpH → Prop) (Y : (Option Nat) → (Option Nat) → (Option Nat) → (Option Nat) → (Option Nat) → Int32 → (Option Nat) → (Option Nat) → Int32 → Int32 → Int32 → Int32 → Int32 → tpH → Prop) (x0 : Option Nat) (x1 : Option Nat) (x2 : Option Nat) (x3 : Option Nat) (x4 : Option Nat) (x6 : Int32) (x7 : Option Nat) (x9 : Option Nat) (x14 : Int32) (x18 : Int32) (x21 : Int32) (x22 : Int32) (x23 : Int32) (h : tpH) : Prop :=
  ∃ a1, x7 = some a1 ∧ hT h a1 = 15 ∧ (vp_in (0 : Int32) (hL h a1) ∧ (((hI h a1 (0 : Int32).toNatClampNeg) < x23 → ((¬ x22 = 0 → (K353 x0 x1 x2 x3 x4 x6 x7 x9 x14 x18 (x21 + (1 : Int32)) h)) ∧ (x22 = 0 → (∃ a7, x9 = some a7 ∧ hT h a7 = 15 ∧ (vp_in x21 (hL h a7) ∧ (vp_in x21 (hL h a7) ∧ (w_Lw_ahead x0 x4 x6 (hI h a7 x21.toNatClampNeg) x7 h (fun v13 h12 => w_Lw_putsBehind x7 (hI h a7 x21.toNatClampNeg) v13 h12 (fun h14 => K353 x0 x1 x2 x3 x4 x6 x7 x9 x14 x18 (x21 + (1 : Int32)) h14))))))))) ∧ (¬ (hI h a1 (0 : Int32).toNatClampNeg) < x23 → ((¬ x22 = 0 → (Y x0 x1 x2 x3 x4 x6 x7 x9 x14 x18 x21 (1 : Int32) (x23 + (1 : Int32)) h)) ∧ (x22 = 0 → (vp_in x23 (hL h a1) ∧ (∃ a17, x9 = some a17 ∧ hT h a17 = 15 ∧ (vp_in x21 (hL h a17) ∧ ((¬ (hI h a1 x23.toNatClampNeg) = (hI h a17 x21.toNatClampNeg) → (Y x0 x1 x2 x3 x4 x6 x7 x9 x14 x18 x21 (0 : Int32) (x23 + (1 : Int32)) h)) ∧ ((hI h a1 x23.toNatClampNeg) = (hI h a17 x21.toNatClampNeg) → (Y x0 x1 x2 x3 x4 x6 x7 x9 x14 x18 x21 (1 : Int32) (x23 + (1 : Int32)) h)))))))))))
def w_Lw_orders_366 (R : Int32 → tpH → Prop) (K353 : (Option Nat) → (Option Nat) → (Option Nat) → (Option Nat) → (Option Nat) → Int32 → (Option Nat) → (Option Nat) → Int32 → Int32 → Int32 → tpH → Prop) : Nat → (Option Nat) → (Option Nat) → (Option Nat) → (Option Nat) → (Option Nat) → Int32 → (Option Nat) → (Option Nat) → Int32 → Int32 → Int32 → Int32 → Int32 → tpH → Prop
  | 0 => fun _ _ _ _ _ _ _ _ _ _ _ _ _ _ => False
  | n + 1 => b_Lw_orders_366 R K353 (w_Lw_orders_366 R K353 n)
def w_Lw_orders_553 (R : Int32 → tpH → Prop) (K445 : (Option Nat) → (Option Nat) → (Option Nat) → (Option Nat) → Int32 → (Option Nat) → (Option Nat) → Int32 → Int32 → Int32 → tpH → Prop) (x1 : Option Nat) (x2 : Option Nat) (x3 : Option Nat) (x4 : Option Nat) (x6 : Int32) (x7 : Option Nat) (x9 : Option Nat) (x14 : Int32) (x18 : Int32) (x21 : Int32) (t0 : Int32) (t1 : Int32) (t2 : Option Nat) (h : tpH) : Prop :=
  w_Lw_putsBehind t2 t1 t0 h (fun h1 => K445 x1 x2 x3 x4 x6 x7 x9 x14 x18 (x21 + (1 : Int32)) h1)
def w_Lw_orders_533 (R : Int32 → tpH → Prop) (K445 : (Option Nat) → (Option Nat) → (Option Nat) → (Option Nat) → Int32 → (Option Nat) → (Option Nat) → Int32 → Int32 → Int32 → tpH → Prop) (x1 : Option Nat) (x2 : Option Nat) (x3 : Option Nat) (x4 : Option Nat) (x6 : Int32) (x7 : Option Nat) (x9 : Option Nat) (x14 : Int32) (x18 : Int32) (x21 : Int32) (x22 : Int32) (t0 : Int32) (h : tpH) : Prop :=
  (t0 ≤ x22 → (w_Lw_orders_553 R K445 x1 x2 x3 x4 x6 x7 x9 x14 x18 x21 t0 x21 x7 h)) ∧ (¬ t0 ≤ x22 → (w_Lw_orders_553 R K445 x1 x2 x3 x4 x6 x7 x9 x14 x18 x21 x22 x21 x7 h))
def w_Lw_orders_503 (R : Int32 → tpH → Prop) (K445 : (Option Nat) → (Option Nat) → (Option Nat) → (Option Nat) → Int32 → (Option Nat) → (Option Nat) → Int32 → Int32 → Int32 → tpH → Prop) (x1 : Option Nat) (x2 : Option Nat) (x3 : Option Nat) (x4 : Option Nat) (x6 : Int32) (x7 : Option Nat) (x9 : Option Nat) (x14 : Int32) (x18 : Int32) (x21 : Int32) (t0 : Int32) (h : tpH) : Prop :=
  w_Lw_parentOf x2 x21 h (fun v2 h1 => (¬ v2 = x6 → (w_Lw_orders_533 R K445 x1 x2 x3 x4 x6 x7 x9 x14 x18 x21 t0 (99 : Int32) h1)) ∧ (v2 = x6 → (w_Lw_ahead x2 x4 x6 x21 x7 h1 (fun v5 h4 => w_Lw_orders_533 R K445 x1 x2 x3 x4 x6 x7 x9 x14 x18 x21 t0 v5 h4))))
def b_Lw_orders_445 (R : Int32 → tpH → Prop) (Y : (Option Nat) → (Option Nat) → (Option Nat) → (Option Nat) → Int32 → (Option Nat) → (Option Nat) → Int32 → Int32 → Int32 → tpH → Prop) (x1 : Option Nat) (x2 : Option Nat) (x3 : Option Nat) (x4 : Option Nat) (x6 : Int32) (x7 : Option Nat) (x9 : Option Nat) (x14 : Int32) (x18 : Int32) (x21 : Int32) (h : tpH) : Prop :=
  ((40 : Int32) ≤ x21 → (tpB x18 ∧ (R x18 h))) ∧ (¬ (40 : Int32) ≤ x21 → (w_Lw_parentOf x3 x21 h (fun v4 h3 => (¬ v4 = x6 → (Y x1 x2 x3 x4 x6 x7 x9 x14 x18 (x21 + (1 : Int32)) h3)) ∧ (v4 = x6 → (w_Lw_at x9 x14 x21 h3 (fun v7 h6 => (0 ≤ v7 → (Y x1 x2 x3 x4 x6 x7 x9 x14 x18 (x21 + (1 : Int32)) h6)) ∧ (¬ 0 ≤ v7 → (w_Lw_parentOf x1 x21 h6 (fun v10 h9 => (¬ v10 = x6 → (w_Lw_orders_503 R Y x1 x2 x3 x4 x6 x7 x9 x14 x18 x21 (99 : Int32) h9)) ∧ (v10 = x6 → (w_Lw_ahead x1 x4 x6 x21 x7 h9 (fun v13 h12 => w_Lw_orders_503 R Y x1 x2 x3 x4 x6 x7 x9 x14 x18 x21 v13 h12))))))))))))
def w_Lw_orders_445 (R : Int32 → tpH → Prop) : Nat → (Option Nat) → (Option Nat) → (Option Nat) → (Option Nat) → Int32 → (Option Nat) → (Option Nat) → Int32 → Int32 → Int32 → tpH → Prop
  | 0 => fun _ _ _ _ _ _ _ _ _ _ _ => False
  | n + 1 => b_Lw_orders_445 R (w_Lw_orders_445 R n)
def b_Lw_orders_353 (R : Int32 → tpH → Prop) (Y : (Option Nat) → (Option Nat) → (Option Nat) → (Option Nat) → (Option Nat) → Int32 → (Option Nat) → (Option Nat) → Int32 → Int32 → Int32 → tpH → Prop) (x0 : Option Nat) (x1 : Option Nat) (x2 : Option Nat) (x3 : Option Nat) (x4 : Option Nat) (x6 : Int32) (x7 : Option Nat) (x9 : Option Nat) (x14 : Int32) (x18 : Int32) (x21 : Int32) (h : tpH) : Prop :=
  (x14 ≤ x21 → (∃ n, w_Lw_orders_445 R n x1 x2 x3 x4 x6 x7 x9 x14 x18 (0 : Int32) h)) ∧ (¬ x14 ≤ x21 → (∃ n, w_Lw_orders_366 R Y n x0 x1 x2 x3 x4 x6 x7 x9 x14 x18 x21 (0 : Int32) (1 : Int32) h))
def w_Lw_orders_353 (R : Int32 → tpH → Prop) : Nat → (Option Nat) → (Option Nat) → (Option Nat) → (Option Nat) → (Option Nat) → Int32 → (Option Nat) → (Option Nat) → Int32 → Int32 → Int32 → tpH → Prop
  | 0 => fun _ _ _ _ _ _ _ _ _ _ _ _ => False
  | n + 1 => b_Lw_orders_353 R (w_Lw_orders_353 R n)
def w_Lw_orders_296 (R : Int32 → tpH → Prop) (K265 : (Option Nat) → (Option Nat) → (Option Nat) → (Option Nat) → (Option Nat) → Int32 → (Option Nat) → (Option Nat) → (Option Nat) → (Option Nat) → (Option Nat) → Int32 → Int32 → Int32 → Int32 → tpH → Prop) (x0 : Option Nat) (x1 : Option Nat) (x2 : Option Nat) (x3 : Option Nat) (x4 : Option Nat) (x6 : Int32) (x7 : Option Nat) (x9 : Option Nat) (x10 : Option Nat) (x11 : Option Nat) (x12 : Option Nat) (x14 : Int32) (x18 : Int32) (x20 : Int32) (x21 : Int32) (t0 : Int32) (t1 : Int32) (h : tpH) : Prop :=
  (t0 < t1 → (∃ n, w_Lw_orders_353 R n x0 x1 x2 x3 x4 x6 x7 x9 x14 x18 (0 : Int32) h)) ∧ (¬ t0 < t1 → (∃ a2, x7 = some a2 ∧ hT h a2 = 15 ∧ (vp_in (0 : Int32) (hL h a2) ∧ (vp_in (0 : Int32) (hL h a2) ∧ (∀ h7, h7 = sI h a2 (0 : Int32).toNatClampNeg ((hI h a2 (0 : Int32).toNatClampNeg) + (1 : Int32)) → ((¬ x20 = 0 → ((¬ x20 = (1 : Int32) → (∃ a11, x11 = some a11 ∧ hT h7 a11 = 15 ∧ (vp_in x21 (hL h7 a11) ∧ (w_Lw_orders_343 R K265 x0 x1 x2 x3 x4 x6 x7 x9 x10 x11 x12 x14 x18 x20 x21 (hI h7 a11 x21.toNatClampNeg) x21 x7 h7)))) ∧ (x20 = (1 : Int32) → (∃ a15, x10 = some a15 ∧ hT h7 a15 = 15 ∧ (vp_in x21 (hL h7 a15) ∧ (w_Lw_orders_343 R K265 x0 x1 x2 x3 x4 x6 x7 x9 x10 x11 x12 x14 x18 x20 x21 (hI h7 a15 x21.toNatClampNeg) x21 x7 h7)))))) ∧ (x20 = 0 → (∃ a19, x12 = some a19 ∧ hT h7 a19 = 15 ∧ (vp_in x21 (hL h7 a19) ∧ (w_Lw_orders_343 R K265 x0 x1 x2 x3 x4 x6 x7 x9 x10 x11 x12 x14 x18 x20 x21 (hI h7 a19 x21.toNatClampNeg) x21 x7 h7))))))))))
def b_Lw_orders_265 (R : Int32 → tpH → Prop) (Y : (Option Nat) → (Option Nat) → (Option Nat) → (Option Nat) → (Option Nat) → Int32 → (Option Nat) → (Option Nat) → (Option Nat) → (Option Nat) → (Option Nat) → Int32 → Int32 → Int32 → Int32 → tpH → Prop) (x0 : Option Nat) (x1 : Option Nat) (x2 : Option Nat) (x3 : Option Nat) (x4 : Option Nat) (x6 : Int32) (x7 : Option Nat) (x9 : Option Nat) (x10 : Option Nat) (x11 : Option Nat) (x12 : Option Nat) (x14 : Int32) (x18 : Int32) (x20 : Int32) (x21 : Int32) (h : tpH) : Prop :=
  (¬ x20 = 0 → ((¬ x20 = (1 : Int32) → (∃ a3, x11 = some a3 ∧ hT h a3 = 15 ∧ (vp_in (0 : Int32) (hL h a3) ∧ (w_Lw_orders_296 R Y x0 x1 x2 x3 x4 x6 x7 x9 x10 x11 x12 x14 x18 x20 x21 (hI h a3 (0 : Int32).toNatClampNeg) x21 h)))) ∧ (x20 = (1 : Int32) → (∃ a7, x10 = some a7 ∧ hT h a7 = 15 ∧ (vp_in (0 : Int32) (hL h a7) ∧ (w_Lw_orders_296 R Y x0 x1 x2 x3 x4 x6 x7 x9 x10 x11 x12 x14 x18 x20 x21 (hI h a7 (0 : Int32).toNatClampNeg) x21 h)))))) ∧ (x20 = 0 → (∃ a11, x12 = some a11 ∧ hT h a11 = 15 ∧ (vp_in (0 : Int32) (hL h a11) ∧ (w_Lw_orders_296 R Y x0 x1 x2 x3 x4 x6 x7 x9 x10 x11 x12 x14 x18 x20 x21 (hI h a11 (0 : Int32).toNatClampNeg) x21 h))))
def w_Lw_orders_265 (R : Int32 → tpH → Prop) : Nat → (Option Nat) → (Option Nat) → (Option Nat) → (Option Nat) → (Option Nat) → Int32 → (Option Nat) → (Option Nat) → (Option Nat) → (Option Nat) → (Option Nat) → Int32 → Int32 → Int32 → Int32 → tpH → Prop
  | 0 => fun _ _ _ _ _ _ _ _ _ _ _ _ _ _ _ _ => False
  | n + 1 => b_Lw_orders_265 R (w_Lw_orders_265 R n)
def w_Lw_orders_215 (R : Int32 → tpH → Prop) (x0 : Option Nat) (x1 : Option Nat) (x2 : Option Nat) (x3 : Option Nat) (x4 : Option Nat) (x5 : Option Nat) (x6 : Int32) (x7 : Option Nat) (x9 : Option Nat) (x10 : Option Nat) (x11 : Option Nat) (x12 : Option Nat) (x14 : Int32) (x15 : Int32) (t0 : Int32) (h : tpH) : Prop :=
  w_Lw_shares x0 x4 x6 x9 x14 x12 h (fun v2 h1 => ∃ a3, x7 = some a3 ∧ hT h1 a3 = 15 ∧ (vp_in (0 : Int32) (hL h1 a3) ∧ (∀ h7, h7 = sI h1 a3 (0 : Int32).toNatClampNeg (0 : Int32) → ((t0 = 0 → ((x15 = 0 → (∃ n, w_Lw_orders_265 R n x0 x1 x2 x3 x4 x6 x7 x9 x10 x11 x12 x14 t0 (2 : Int32) (1 : Int32) h7)) ∧ (¬ x15 = 0 → (∃ n, w_Lw_orders_265 R n x0 x1 x2 x3 x4 x6 x7 x9 x10 x11 x12 x14 t0 (1 : Int32) (1 : Int32) h7)))) ∧ (¬ t0 = 0 → (∃ a11, x5 = some a11 ∧ hT h7 a11 = 15 ∧ (vp_in (5 : Int32) (hL h7 a11) ∧ (∃ n, w_Lw_orders_265 R n x0 x1 x2 x3 x4 x6 x7 x9 x10 x11 x12 x14 t0 (hI h7 a11 (5 : Int32).toNatClampNeg) (1 : Int32) h7))))))))
def b_Lw_orders_139 (R : Int32 → tpH → Prop) (Y : (Option Nat) → (Option Nat) → (Option Nat) → (Option Nat) → (Option Nat) → (Option Nat) → Int32 → (Option Nat) → (Option Nat) → (Option Nat) → (Option Nat) → (Option Nat) → Int32 → Int32 → Int32 → Int32 → Int32 → tpH → Prop) (x0 : Option Nat) (x1 : Option Nat) (x2 : Option Nat) (x3 : Option Nat) (x4 : Option Nat) (x5 : Option Nat) (x6 : Int32) (x7 : Option Nat) (x9 : Option Nat) (x10 : Option Nat) (x11 : Option Nat) (x12 : Option Nat) (x14 : Int32) (x15 : Int32) (x16 : Int32) (x17 : Int32) (x18 : Int32) (h : tpH) : Prop :=
  ((40 : Int32) ≤ x18 → ((x15 = 0 → (w_Lw_orders_215 R x0 x1 x2 x3 x4 x5 x6 x7 x9 x10 x11 x12 x14 x15 (0 : Int32) h)) ∧ (¬ x15 = 0 → ((x16 = 0 → (w_Lw_orders_215 R x0 x1 x2 x3 x4 x5 x6 x7 x9 x10 x11 x12 x14 x15 (0 : Int32) h)) ∧ (¬ x16 = 0 → ((¬ x17 = 0 → (w_Lw_orders_215 R x0 x1 x2 x3 x4 x5 x6 x7 x9 x10 x11 x12 x14 x15 (0 : Int32) h)) ∧ (x17 = 0 → (w_Lw_orders_215 R x0 x1 x2 x3 x4 x5 x6 x7 x9 x10 x11 x12 x14 x15 (1 : Int32) h)))))))) ∧ (¬ (40 : Int32) ≤ x18 → ((x17 = 0 → (Y x0 x1 x2 x3 x4 x5 x6 x7 x9 x10 x11 x12 x14 x15 x16 (0 : Int32) (x18 + (1 : Int32)) h)) ∧ (¬ x17 = 0 → (∃ a6, x10 = some a6 ∧ hT h a6 = 15 ∧ (vp_in (0 : Int32) (hL h a6) ∧ ((x18 ≤ (hI h a6 (0 : Int32).toNatClampNeg) → (w_Lw_orders_169 R Y x0 x1 x2 x3 x4 x5 x6 x7 x9 x10 x11 x12 x14 x15 x16 x18 h)) ∧ (¬ x18 ≤ (hI h a6 (0 : Int32).toNatClampNeg) → (∃ a11, x11 = some a11 ∧ hT h a11 = 15 ∧ (vp_in (0 : Int32) (hL h a11) ∧ (((hI h a11 (0 : Int32).toNatClampNeg) < x18 → (Y x0 x1 x2 x3 x4 x5 x6 x7 x9 x10 x11 x12 x14 x15 x16 (1 : Int32) (x18 + (1 : Int32)) h)) ∧ (¬ (hI h a11 (0 : Int32).toNatClampNeg) < x18 → (w_Lw_orders_169 R Y x0 x1 x2 x3 x4 x5 x6 x7 x9 x10 x11 x12 x14 x15 x16 x18 h))))))))))))
def w_Lw_orders_139 (R : Int32 → tpH → Prop) : Nat → (Option Nat) → (Option Nat) → (Option Nat) → (Option Nat) → (Option Nat) → (Option Nat) → Int32 → (Option Nat) → (Option Nat) → (Option Nat) → (Option Nat) → (Option Nat) → Int32 → Int32 → Int32 → Int32 → Int32 → tpH → Prop
  | 0 => fun _ _ _ _ _ _ _ _ _ _ _ _ _ _ _ _ _ _ => False
  | n + 1 => b_Lw_orders_139 R (w_Lw_orders_139 R n)
def b_Lw_orders_61 (R : Int32 → tpH → Prop) (Y : (Option Nat) → (Option Nat) → (Option Nat) → (Option Nat) → (Option Nat) → (Option Nat) → Int32 → (Option Nat) → (Option Nat) → (Option Nat) → (Option Nat) → (Option Nat) → (Option Nat) → Int32 → Int32 → Int32 → tpH → Prop) (x0 : Option Nat) (x1 : Option Nat) (x2 : Option Nat) (x3 : Option Nat) (x4 : Option Nat) (x5 : Option Nat) (x6 : Int32) (x7 : Option Nat) (x8 : Option Nat) (x9 : Option Nat) (x10 : Option Nat) (x11 : Option Nat) (x12 : Option Nat) (x13 : Int32) (x14 : Int32) (x15 : Int32) (h : tpH) : Prop :=
  (x13 ≤ x15 → (w_Lw_shares x1 x4 x6 x9 x14 x10 h (fun v3 h2 => w_Lw_shares x2 x4 x6 x9 x14 x11 h2 (fun v5 h4 => ∃ n, w_Lw_orders_139 R n x0 x1 x2 x3 x4 x5 x6 x7 x9 x10 x11 x12 x14 v3 v5 (1 : Int32) (0 : Int32) h4)))) ∧ (¬ x13 ≤ x15 → (∃ a6, x8 = some a6 ∧ hT h a6 = 15 ∧ (vp_in x15 (hL h a6) ∧ (w_Lw_parentOf x3 (hI h a6 x15.toNatClampNeg) h (fun v11 h10 => (¬ v11 = x6 → (Y x0 x1 x2 x3 x4 x5 x6 x7 x8 x9 x10 x11 x12 x13 x14 (x15 + (1 : Int32)) h10)) ∧ (v11 = x6 → (hT h10 a6 = 15 ∧ (vp_in x15 (hL h10 a6) ∧ (∃ a15, x9 = some a15 ∧ hT h10 a15 = 15 ∧ (vp_in x14 (hL h10 a15) ∧ (∀ h19, h19 = sI h10 a15 x14.toNatClampNeg (hI h10 a6 x15.toNatClampNeg) → (Y x0 x1 x2 x3 x4 x5 x6 x7 x8 x9 x10 x11 x12 x13 (x14 + (1 : Int32)) (x15 + (1 : Int32)) h19))))))))))))
def w_Lw_orders_61 (R : Int32 → tpH → Prop) : Nat → (Option Nat) → (Option Nat) → (Option Nat) → (Option Nat) → (Option Nat) → (Option Nat) → Int32 → (Option Nat) → (Option Nat) → (Option Nat) → (Option Nat) → (Option Nat) → (Option Nat) → Int32 → Int32 → Int32 → tpH → Prop
  | 0 => fun _ _ _ _ _ _ _ _ _ _ _ _ _ _ _ _ _ => False
  | n + 1 => b_Lw_orders_61 R (w_Lw_orders_61 R n)
def w_Lw_orders (x0 : Option Nat) (x1 : Option Nat) (x2 : Option Nat) (x3 : Option Nat) (x4 : Option Nat) (x5 : Option Nat) (x6 : Int32) (x7 : Option Nat) (h : tpH) (R : Int32 → tpH → Prop) : Prop :=
  ∀ a1 h2, a1 = hZ h → h2 = nC h 15 40 40 → (∀ a5 h6, a5 = hZ h2 → h6 = nC h2 15 40 40 → (∀ a9 h10, a9 = hZ h6 → h10 = nC h6 15 41 41 → (∀ a13 h14, a13 = hZ h10 → h14 = nC h10 15 41 41 → (∀ a17 h18, a17 = hZ h14 → h18 = nC h14 15 41 41 → (w_Lw_place x0 x6 h18 (fun v22 h21 => (0 ≤ v22 → (w_Lw_children x0 x4 x6 (some a1) h21 (fun v25 h24 => ∃ n, w_Lw_orders_61 R n x0 x1 x2 x3 x4 x5 x6 x7 (some a1) (some a5) (some a9) (some a13) (some a17) v25 (0 : Int32) (0 : Int32) h24))) ∧ (¬ 0 ≤ v22 → (∃ n, w_Lw_orders_61 R n x0 x1 x2 x3 x4 x5 x6 x7 (some a1) (some a5) (some a9) (some a13) (some a17) (0 : Int32) (0 : Int32) (0 : Int32) h21))))))))
theorem s_Lw_orders_169 {h0 : tpH} {av : List tpV} {R : Int32 → tpH → Prop} {K139 : (Option Nat) → (Option Nat) → (Option Nat) → (Option Nat) → (Option Nat) → (Option Nat) → Int32 → (Option Nat) → (Option Nat) → (Option Nat) → (Option Nat) → (Option Nat) → Int32 → Int32 → Int32 → Int32 → Int32 → tpH → Prop} (k139 : ∀ (x0 : Option Nat) (x1 : Option Nat) (x2 : Option Nat) (x3 : Option Nat) (x4 : Option Nat) (x5 : Option Nat) (x6 : Int32) (x7 : Option Nat) (x9 : Option Nat) (x10 : Option Nat) (x11 : Option Nat) (x12 : Option Nat) (x14 : Int32) (x15 : Int32) (x16 : Int32) (x17 : Int32) (x18 : Int32) (h : tpH), K139 x0 x1 x2 x3 x4 x5 x6 x7 x9 x10 x11 x12 x14 x15 x16 x17 x18 h → tpR Lw_orders 3 h0 av (tpOi R (fun _ _ => False)) 139 [some (vR x0), some (vR x1), some (vR x2), some (vR x3), some (vR x4), some (vR x5), some (vI x6), some (vR x7), none, some (vR x9), some (vR x10), some (vR x11), some (vR x12), none, some (vI x14), some (vI x15), some (vI x16), some (vI x17), some (vI x18), none, none, none, none, none] [] h) : ∀ (x0 : Option Nat) (x1 : Option Nat) (x2 : Option Nat) (x3 : Option Nat) (x4 : Option Nat) (x5 : Option Nat) (x6 : Int32) (x7 : Option Nat) (x9 : Option Nat) (x10 : Option Nat) (x11 : Option Nat) (x12 : Option Nat) (x14 : Int32) (x15 : Int32) (x16 : Int32) (x18 : Int32) (h : tpH), w_Lw_orders_169 R K139 x0 x1 x2 x3 x4 x5 x6 x7 x9 x10 x11 x12 x14 x15 x16 x18 h → tpR Lw_orders 3 h0 av (tpOi R (fun _ _ => False)) 169 [some (vR x0), some (vR x1), some (vR x2), some (vR x3), some (vR x4), some (vR x5), some (vI x6), some (vR x7), none, some (vR x9), some (vR x10), some (vR x11), some (vR x12), none, some (vI x14), some (vI x15), some (vI x16), none, some (vI x18), none, none, none, none, none] [] h := by
  intro x0 x1 x2 x3 x4 x5 x6 x7 x9 x10 x11 x12 x14 x15 x16 x18 h hw
  unfold w_Lw_orders_169 at hw
  refine tq_aload dLw_orders_169 rfl ?_
  refine tq_iload dLw_orders_171 rfl ?_
  obtain ⟨a1, e2, f3, hw⟩ := hw
  obtain ⟨f4, hw⟩ := hw
  refine te_iald dLw_orders_173 e2 (Or.inl f3) f4 ?_
  refine tq_aload dLw_orders_174 rfl ?_
  refine tq_iload dLw_orders_176 rfl ?_
  obtain ⟨a5, e6, f7, hw⟩ := hw
  obtain ⟨f8, hw⟩ := hw
  refine te_iald dLw_orders_178 e6 (Or.inl f7) f8 ?_
  refine tq_icmpne (tgt := 186) dLw_orders_179 (by decide) (fun c9 => ?_) (fun c9 => ?_)
  · have hw := hw.1 c9
    refine tq_iconst (v := (0 : Int32)) dLw_orders_186 tni_0 ?_
    refine tq_istore (ls' := [some (vR x0), some (vR x1), some (vR x2), some (vR x3), some (vR x4), some (vR x5), some (vI x6), some (vR x7), none, some (vR x9), some (vR x10), some (vR x11), some (vR x12), none, some (vI x14), some (vI x15), some (vI x16), some (vI (0 : Int32)), some (vI x18), none, none, none, none, none]) dLw_orders_187 (Nat.le_of_ble_eq_true rfl) rfl ?_
    refine tq_inc (k := (1 : Int32)) (ls' := [some (vR x0), some (vR x1), some (vR x2), some (vR x3), some (vR x4), some (vR x5), some (vI x6), some (vR x7), none, some (vR x9), some (vR x10), some (vR x11), some (vR x12), none, some (vI x14), some (vI x15), some (vI x16), some (vI (0 : Int32)), some (vI (x18 + (1 : Int32))), none, none, none, none, none]) dLw_orders_189 rfl tni_1 (Nat.le_of_ble_eq_true rfl) rfl ?_
    refine tq_goto (tgt := 139) dLw_orders_192 (by decide) ?_
    refine tpR.fo (ls' := [some (vR x0), some (vR x1), some (vR x2), some (vR x3), some (vR x4), some (vR x5), some (vI x6), some (vR x7), none, some (vR x9), some (vR x10), some (vR x11), some (vR x12), none, some (vI x14), some (vI x15), some (vI x16), some (vI (0 : Int32)), some (vI (x18 + (1 : Int32))), none, none, none, none, none]) ?_ (And.intro rfl (And.intro rfl (And.intro rfl (And.intro rfl (And.intro rfl (And.intro rfl (And.intro rfl (And.intro rfl (And.intro rfl (And.intro rfl (And.intro rfl (And.intro rfl (And.intro rfl (And.intro rfl (And.intro rfl (And.intro rfl (And.intro rfl trivial)))))))))))))))))
    exact k139 _ _ _ _ _ _ _ _ _ _ _ _ _ _ _ _ _ _ hw
  · have hw := hw.2 c9
    refine tq_iconst (v := (1 : Int32)) dLw_orders_182 tni_1 ?_
    refine tq_goto (tgt := 187) dLw_orders_183 (by decide) ?_
    refine tq_istore (ls' := [some (vR x0), some (vR x1), some (vR x2), some (vR x3), some (vR x4), some (vR x5), some (vI x6), some (vR x7), none, some (vR x9), some (vR x10), some (vR x11), some (vR x12), none, some (vI x14), some (vI x15), some (vI x16), some (vI (1 : Int32)), some (vI x18), none, none, none, none, none]) dLw_orders_187 (Nat.le_of_ble_eq_true rfl) rfl ?_
    refine tq_inc (k := (1 : Int32)) (ls' := [some (vR x0), some (vR x1), some (vR x2), some (vR x3), some (vR x4), some (vR x5), some (vI x6), some (vR x7), none, some (vR x9), some (vR x10), some (vR x11), some (vR x12), none, some (vI x14), some (vI x15), some (vI x16), some (vI (1 : Int32)), some (vI (x18 + (1 : Int32))), none, none, none, none, none]) dLw_orders_189 rfl tni_1 (Nat.le_of_ble_eq_true rfl) rfl ?_
    refine tq_goto (tgt := 139) dLw_orders_192 (by decide) ?_
    refine tpR.fo (ls' := [some (vR x0), some (vR x1), some (vR x2), some (vR x3), some (vR x4), some (vR x5), some (vI x6), some (vR x7), none, some (vR x9), some (vR x10), some (vR x11), some (vR x12), none, some (vI x14), some (vI x15), some (vI x16), some (vI (1 : Int32)), some (vI (x18 + (1 : Int32))), none, none, none, none, none]) ?_ (And.intro rfl (And.intro rfl (And.intro rfl (And.intro rfl (And.intro rfl (And.intro rfl (And.intro rfl (And.intro rfl (And.intro rfl (And.intro rfl (And.intro rfl (And.intro rfl (And.intro rfl (And.intro rfl (And.intro rfl (And.intro rfl (And.intro rfl trivial)))))))))))))))))
    exact k139 _ _ _ _ _ _ _ _ _ _ _ _ _ _ _ _ _ _ hw
theorem s_Lw_orders_343 {h0 : tpH} {av : List tpV} {R : Int32 → tpH → Prop} {K265 : (Option Nat) → (Option Nat) → (Option Nat) → (Option Nat) → (Option Nat) → Int32 → (Option Nat) → (Option Nat) → (Option Nat) → (Option Nat) → (Option Nat) → Int32 → Int32 → Int32 → Int32 → tpH → Prop} (k265 : ∀ (x0 : Option Nat) (x1 : Option Nat) (x2 : Option Nat) (x3 : Option Nat) (x4 : Option Nat) (x6 : Int32) (x7 : Option Nat) (x9 : Option Nat) (x10 : Option Nat) (x11 : Option Nat) (x12 : Option Nat) (x14 : Int32) (x18 : Int32) (x20 : Int32) (x21 : Int32) (h : tpH), K265 x0 x1 x2 x3 x4 x6 x7 x9 x10 x11 x12 x14 x18 x20 x21 h → tpR Lw_orders 3 h0 av (tpOi R (fun _ _ => False)) 265 [some (vR x0), some (vR x1), some (vR x2), some (vR x3), some (vR x4), none, some (vI x6), some (vR x7), none, some (vR x9), some (vR x10), some (vR x11), some (vR x12), none, some (vI x14), none, none, none, some (vI x18), none, some (vI x20), some (vI x21), none, none] [] h) : ∀ (x0 : Option Nat) (x1 : Option Nat) (x2 : Option Nat) (x3 : Option Nat) (x4 : Option Nat) (x6 : Int32) (x7 : Option Nat) (x9 : Option Nat) (x10 : Option Nat) (x11 : Option Nat) (x12 : Option Nat) (x14 : Int32) (x18 : Int32) (x20 : Int32) (x21 : Int32) (t0 : Int32) (t1 : Int32) (t2 : Option Nat) (h : tpH), w_Lw_orders_343 R K265 x0 x1 x2 x3 x4 x6 x7 x9 x10 x11 x12 x14 x18 x20 x21 t0 t1 t2 h → tpR Lw_orders 3 h0 av (tpOi R (fun _ _ => False)) 343 [some (vR x0), some (vR x1), some (vR x2), some (vR x3), some (vR x4), none, some (vI x6), some (vR x7), none, some (vR x9), some (vR x10), some (vR x11), some (vR x12), none, some (vI x14), none, none, none, some (vI x18), none, some (vI x20), some (vI x21), none, none] [vI t0, vI t1, vR t2] h := by
  intro x0 x1 x2 x3 x4 x6 x7 x9 x10 x11 x12 x14 x18 x20 x21 t0 t1 t2 h hw
  unfold w_Lw_orders_343 at hw
  obtain ⟨a1, e2, f3, hw⟩ := hw
  obtain ⟨f4, hw⟩ := hw
  refine te_iast dLw_orders_343 e2 f3 f4 (fun h5 e6 => ?_)
  have hw := hw h5 e6
  refine tq_inc (k := (1 : Int32)) (ls' := [some (vR x0), some (vR x1), some (vR x2), some (vR x3), some (vR x4), none, some (vI x6), some (vR x7), none, some (vR x9), some (vR x10), some (vR x11), some (vR x12), none, some (vI x14), none, none, none, some (vI x18), none, some (vI x20), some (vI (x21 + (1 : Int32))), none, none]) dLw_orders_344 rfl tni_1 (Nat.le_of_ble_eq_true rfl) rfl ?_
  refine tq_goto (tgt := 265) dLw_orders_347 (by decide) ?_
  refine tpR.fo (ls' := [some (vR x0), some (vR x1), some (vR x2), some (vR x3), some (vR x4), none, some (vI x6), some (vR x7), none, some (vR x9), some (vR x10), some (vR x11), some (vR x12), none, some (vI x14), none, none, none, some (vI x18), none, some (vI x20), some (vI (x21 + (1 : Int32))), none, none]) ?_ (And.intro rfl (And.intro rfl (And.intro rfl (And.intro rfl (And.intro rfl (And.intro rfl (And.intro rfl (And.intro rfl (And.intro rfl (And.intro rfl (And.intro rfl (And.intro rfl (And.intro rfl (And.intro rfl (And.intro rfl trivial)))))))))))))))
  exact k265 _ _ _ _ _ _ _ _ _ _ _ _ _ _ _ _ hw
theorem s_Lw_orders_366 {h0 : tpH} {av : List tpV} {R : Int32 → tpH → Prop} {K353 : (Option Nat) → (Option Nat) → (Option Nat) → (Option Nat) → (Option Nat) → Int32 → (Option Nat) → (Option Nat) → Int32 → Int32 → Int32 → tpH → Prop} (k353 : ∀ (x0 : Option Nat) (x1 : Option Nat) (x2 : Option Nat) (x3 : Option Nat) (x4 : Option Nat) (x6 : Int32) (x7 : Option Nat) (x9 : Option Nat) (x14 : Int32) (x18 : Int32) (x21 : Int32) (h : tpH), K353 x0 x1 x2 x3 x4 x6 x7 x9 x14 x18 x21 h → tpR Lw_orders 3 h0 av (tpOi R (fun _ _ => False)) 353 [some (vR x0), some (vR x1), some (vR x2), some (vR x3), some (vR x4), none, some (vI x6), some (vR x7), none, some (vR x9), none, none, none, none, some (vI x14), none, none, none, some (vI x18), none, none, some (vI x21), none, none] [] h) : ∀ (n : Nat) (x0 : Option Nat) (x1 : Option Nat) (x2 : Option Nat) (x3 : Option Nat) (x4 : Option Nat) (x6 : Int32) (x7 : Option Nat) (x9 : Option Nat) (x14 : Int32) (x18 : Int32) (x21 : Int32) (x22 : Int32) (x23 : Int32) (h : tpH), w_Lw_orders_366 R K353 n x0 x1 x2 x3 x4 x6 x7 x9 x14 x18 x21 x22 x23 h → tpR Lw_orders 3 h0 av (tpOi R (fun _ _ => False)) 366 [some (vR x0), some (vR x1), some (vR x2), some (vR x3), some (vR x4), none, some (vI x6), some (vR x7), none, some (vR x9), none, none, none, none, some (vI x14), none, none, none, some (vI x18), none, none, some (vI x21), some (vI x22), some (vI x23)] [] h := by
  intro n
  induction n with
  | zero => intro x0 x1 x2 x3 x4 x6 x7 x9 x14 x18 x21 x22 x23 h hw; exact False.elim hw
  | succ n ih =>
    intro x0 x1 x2 x3 x4 x6 x7 x9 x14 x18 x21 x22 x23 h hw
    change b_Lw_orders_366 R K353 (w_Lw_orders_366 R K353 n) x0 x1 x2 x3 x4 x6 x7 x9 x14 x18 x21 x22 x23 h at hw
    unfold b_Lw_orders_366 at hw
    refine tq_iload dLw_orders_366 rfl ?_
    refine tq_aload dLw_orders_368 rfl ?_
    refine tq_iconst (v := (0 : Int32)) dLw_orders_370 tni_0 ?_
    obtain ⟨a1, e2, f3, hw⟩ := hw
    obtain ⟨f4, hw⟩ := hw
    refine te_iald dLw_orders_371 e2 (Or.inl f3) f4 ?_
    refine tq_icmpgt (tgt := 406) dLw_orders_372 (by decide) (fun c5 => ?_) (fun c5 => ?_)
    · have hw := hw.1 c5
      refine tq_iload dLw_orders_406 rfl ?_
      refine tq_ifne (tgt := 436) dLw_orders_408 (by decide) (fun c6 => ?_) (fun c6 => ?_)
      · have hw := hw.1 c6
        refine tq_inc (k := (1 : Int32)) (ls' := [some (vR x0), some (vR x1), some (vR x2), some (vR x3), some (vR x4), none, some (vI x6), some (vR x7), none, some (vR x9), none, none, none, none, some (vI x14), none, none, none, some (vI x18), none, none, some (vI (x21 + (1 : Int32))), some (vI x22), some (vI x23)]) dLw_orders_436 rfl tni_1 (Nat.le_of_ble_eq_true rfl) rfl ?_
        refine tq_goto (tgt := 353) dLw_orders_439 (by decide) ?_
        refine tpR.fo (ls' := [some (vR x0), some (vR x1), some (vR x2), some (vR x3), some (vR x4), none, some (vI x6), some (vR x7), none, some (vR x9), none, none, none, none, some (vI x14), none, none, none, some (vI x18), none, none, some (vI (x21 + (1 : Int32))), none, none]) ?_ (And.intro rfl (And.intro rfl (And.intro rfl (And.intro rfl (And.intro rfl (And.intro rfl (And.intro rfl (And.intro rfl (And.intro rfl (And.intro rfl (And.intro rfl trivial)))))))))))
        exact k353 _ _ _ _ _ _ _ _ _ _ _ _ hw
      · have hw := hw.2 c6
        refine tq_aload dLw_orders_411 rfl ?_
        refine tq_aload dLw_orders_413 rfl ?_
        refine tq_iload dLw_orders_415 rfl ?_
        obtain ⟨a7, e8, f9, hw⟩ := hw
        obtain ⟨f10, hw⟩ := hw
        refine te_iald dLw_orders_417 e8 (Or.inl f9) f10 ?_
        refine tq_aload_n dLw_orders_418 rfl rfl ?_
        refine tq_aload dLw_orders_419 rfl ?_
        refine tq_iload dLw_orders_421 rfl ?_
        refine tq_aload dLw_orders_423 rfl ?_
        refine tq_iload dLw_orders_425 rfl ?_
        obtain ⟨f11, hw⟩ := hw
        refine te_iald dLw_orders_427 e8 (Or.inl f9) f11 ?_
        refine tq_aload dLw_orders_428 rfl ?_
        refine tq_callS ms_Lw_ahead (dc := 2) (as := [vR x0, vR x4, vI x6, vI (hI h a7 x21.toNatClampNeg), vR x7]) (rest := [vI (hI h a7 x21.toNatClampNeg), vR x7]) kLw_113 (Nat.le_of_ble_eq_true rfl) (Nat.le_of_ble_eq_true rfl) rfl rfl (Nat.le_of_ble_eq_true rfl) dLw_orders_430 (s_Lw_ahead hw) (fun _ _ hx => False.elim hx) (tk_i fun v13 h12 hw => ?_)
        refine tq_callS ms_Lw_putsBehind (dc := 0) (as := [vR x7, vI (hI h a7 x21.toNatClampNeg), vI v13]) (rest := []) kLw_117 (Nat.le_of_ble_eq_true rfl) (Nat.le_of_ble_eq_true rfl) rfl rfl (Nat.le_of_ble_eq_true rfl) dLw_orders_433 (s_Lw_putsBehind hw) (fun _ _ hx => False.elim hx) (tk_v fun h14 hw => ?_)
        refine tq_inc (k := (1 : Int32)) (ls' := [some (vR x0), some (vR x1), some (vR x2), some (vR x3), some (vR x4), none, some (vI x6), some (vR x7), none, some (vR x9), none, none, none, none, some (vI x14), none, none, none, some (vI x18), none, none, some (vI (x21 + (1 : Int32))), some (vI x22), some (vI x23)]) dLw_orders_436 rfl tni_1 (Nat.le_of_ble_eq_true rfl) rfl ?_
        refine tq_goto (tgt := 353) dLw_orders_439 (by decide) ?_
        refine tpR.fo (ls' := [some (vR x0), some (vR x1), some (vR x2), some (vR x3), some (vR x4), none, some (vI x6), some (vR x7), none, some (vR x9), none, none, none, none, some (vI x14), none, none, none, some (vI x18), none, none, some (vI (x21 + (1 : Int32))), none, none]) ?_ (And.intro rfl (And.intro rfl (And.intro rfl (And.intro rfl (And.intro rfl (And.intro rfl (And.intro rfl (And.intro rfl (And.intro rfl (And.intro rfl (And.intro rfl trivial)))))))))))
        exact k353 _ _ _ _ _ _ _ _ _ _ _ _ hw
    · have hw := hw.2 c5
      refine tq_iload dLw_orders_375 rfl ?_
      refine tq_ifne (tgt := 393) dLw_orders_377 (by decide) (fun c15 => ?_) (fun c15 => ?_)
      · have hw := hw.1 c15
        refine tq_iconst (v := (1 : Int32)) dLw_orders_393 tni_1 ?_
        refine tq_goto (tgt := 398) dLw_orders_394 (by decide) ?_
        refine tq_istore (ls' := [some (vR x0), some (vR x1), some (vR x2), some (vR x3), some (vR x4), none, some (vI x6), some (vR x7), none, some (vR x9), none, none, none, none, some (vI x14), none, none, none, some (vI x18), none, none, some (vI x21), some (vI (1 : Int32)), some (vI x23)]) dLw_orders_398 (Nat.le_of_ble_eq_true rfl) rfl ?_
        refine tq_inc (k := (1 : Int32)) (ls' := [some (vR x0), some (vR x1), some (vR x2), some (vR x3), some (vR x4), none, some (vI x6), some (vR x7), none, some (vR x9), none, none, none, none, some (vI x14), none, none, none, some (vI x18), none, none, some (vI x21), some (vI (1 : Int32)), some (vI (x23 + (1 : Int32)))]) dLw_orders_400 rfl tni_1 (Nat.le_of_ble_eq_true rfl) rfl ?_
        refine tq_goto (tgt := 366) dLw_orders_403 (by decide) ?_
        refine tpR.fo (ls' := [some (vR x0), some (vR x1), some (vR x2), some (vR x3), some (vR x4), none, some (vI x6), some (vR x7), none, some (vR x9), none, none, none, none, some (vI x14), none, none, none, some (vI x18), none, none, some (vI x21), some (vI (1 : Int32)), some (vI (x23 + (1 : Int32)))]) ?_ (And.intro rfl (And.intro rfl (And.intro rfl (And.intro rfl (And.intro rfl (And.intro rfl (And.intro rfl (And.intro rfl (And.intro rfl (And.intro rfl (And.intro rfl (And.intro rfl (And.intro rfl trivial)))))))))))))
        exact ih _ _ _ _ _ _ _ _ _ _ _ _ _ _ hw
      · have hw := hw.2 c15
        refine tq_aload dLw_orders_380 rfl ?_
        refine tq_iload dLw_orders_382 rfl ?_
        obtain ⟨f16, hw⟩ := hw
        refine te_iald dLw_orders_384 e2 (Or.inl f3) f16 ?_
        refine tq_aload dLw_orders_385 rfl ?_
        refine tq_iload dLw_orders_387 rfl ?_
        obtain ⟨a17, e18, f19, hw⟩ := hw
        obtain ⟨f20, hw⟩ := hw
        refine te_iald dLw_orders_389 e18 (Or.inl f19) f20 ?_
        refine tq_icmpne (tgt := 397) dLw_orders_390 (by decide) (fun c21 => ?_) (fun c21 => ?_)
        · have hw := hw.1 c21
          refine tq_iconst (v := (0 : Int32)) dLw_orders_397 tni_0 ?_
          refine tq_istore (ls' := [some (vR x0), some (vR x1), some (vR x2), some (vR x3), some (vR x4), none, some (vI x6), some (vR x7), none, some (vR x9), none, none, none, none, some (vI x14), none, none, none, some (vI x18), none, none, some (vI x21), some (vI (0 : Int32)), some (vI x23)]) dLw_orders_398 (Nat.le_of_ble_eq_true rfl) rfl ?_
          refine tq_inc (k := (1 : Int32)) (ls' := [some (vR x0), some (vR x1), some (vR x2), some (vR x3), some (vR x4), none, some (vI x6), some (vR x7), none, some (vR x9), none, none, none, none, some (vI x14), none, none, none, some (vI x18), none, none, some (vI x21), some (vI (0 : Int32)), some (vI (x23 + (1 : Int32)))]) dLw_orders_400 rfl tni_1 (Nat.le_of_ble_eq_true rfl) rfl ?_
          refine tq_goto (tgt := 366) dLw_orders_403 (by decide) ?_
          refine tpR.fo (ls' := [some (vR x0), some (vR x1), some (vR x2), some (vR x3), some (vR x4), none, some (vI x6), some (vR x7), none, some (vR x9), none, none, none, none, some (vI x14), none, none, none, some (vI x18), none, none, some (vI x21), some (vI (0 : Int32)), some (vI (x23 + (1 : Int32)))]) ?_ (And.intro rfl (And.intro rfl (And.intro rfl (And.intro rfl (And.intro rfl (And.intro rfl (And.intro rfl (And.intro rfl (And.intro rfl (And.intro rfl (And.intro rfl (And.intro rfl (And.intro rfl trivial)))))))))))))
          exact ih _ _ _ _ _ _ _ _ _ _ _ _ _ _ hw
        · have hw := hw.2 c21
          refine tq_iconst (v := (1 : Int32)) dLw_orders_393 tni_1 ?_
          refine tq_goto (tgt := 398) dLw_orders_394 (by decide) ?_
          refine tq_istore (ls' := [some (vR x0), some (vR x1), some (vR x2), some (vR x3), some (vR x4), none, some (vI x6), some (vR x7), none, some (vR x9), none, none, none, none, some (vI x14), none, none, none, some (vI x18), none, none, some (vI x21), some (vI (1 : Int32)), some (vI x23)]) dLw_orders_398 (Nat.le_of_ble_eq_true rfl) rfl ?_
          refine tq_inc (k := (1 : Int32)) (ls' := [some (vR x0), some (vR x1), some (vR x2), some (vR x3), some (vR x4), none, some (vI x6), some (vR x7), none, some (vR x9), none, none, none, none, some (vI x14), none, none, none, some (vI x18), none, none, some (vI x21), some (vI (1 : Int32)), some (vI (x23 + (1 : Int32)))]) dLw_orders_400 rfl tni_1 (Nat.le_of_ble_eq_true rfl) rfl ?_
          refine tq_goto (tgt := 366) dLw_orders_403 (by decide) ?_
          refine tpR.fo (ls' := [some (vR x0), some (vR x1), some (vR x2), some (vR x3), some (vR x4), none, some (vI x6), some (vR x7), none, some (vR x9), none, none, none, none, some (vI x14), none, none, none, some (vI x18), none, none, some (vI x21), some (vI (1 : Int32)), some (vI (x23 + (1 : Int32)))]) ?_ (And.intro rfl (And.intro rfl (And.intro rfl (And.intro rfl (And.intro rfl (And.intro rfl (And.intro rfl (And.intro rfl (And.intro rfl (And.intro rfl (And.intro rfl (And.intro rfl (And.intro rfl trivial)))))))))))))
          exact ih _ _ _ _ _ _ _ _ _ _ _ _ _ _ hw
theorem s_Lw_orders_553 {h0 : tpH} {av : List tpV} {R : Int32 → tpH → Prop} {K445 : (Option Nat) → (Option Nat) → (Option Nat) → (Option Nat) → Int32 → (Option Nat) → (Option Nat) → Int32 → Int32 → Int32 → tpH → Prop} (k445 : ∀ (x1 : Option Nat) (x2 : Option Nat) (x3 : Option Nat) (x4 : Option Nat) (x6 : Int32) (x7 : Option Nat) (x9 : Option Nat) (x14 : Int32) (x18 : Int32) (x21 : Int32) (h : tpH), K445 x1 x2 x3 x4 x6 x7 x9 x14 x18 x21 h → tpR Lw_orders 3 h0 av (tpOi R (fun _ _ => False)) 445 [none, some (vR x1), some (vR x2), some (vR x3), some (vR x4), none, some (vI x6), some (vR x7), none, some (vR x9), none, none, none, none, some (vI x14), none, none, none, some (vI x18), none, none, some (vI x21), none, none] [] h) : ∀ (x1 : Option Nat) (x2 : Option Nat) (x3 : Option Nat) (x4 : Option Nat) (x6 : Int32) (x7 : Option Nat) (x9 : Option Nat) (x14 : Int32) (x18 : Int32) (x21 : Int32) (t0 : Int32) (t1 : Int32) (t2 : Option Nat) (h : tpH), w_Lw_orders_553 R K445 x1 x2 x3 x4 x6 x7 x9 x14 x18 x21 t0 t1 t2 h → tpR Lw_orders 3 h0 av (tpOi R (fun _ _ => False)) 553 [none, some (vR x1), some (vR x2), some (vR x3), some (vR x4), none, some (vI x6), some (vR x7), none, some (vR x9), none, none, none, none, some (vI x14), none, none, none, some (vI x18), none, none, some (vI x21), none, none] [vI t0, vI t1, vR t2] h := by
  intro x1 x2 x3 x4 x6 x7 x9 x14 x18 x21 t0 t1 t2 h hw
  unfold w_Lw_orders_553 at hw
  refine tq_callS ms_Lw_putsBehind (dc := 0) (as := [vR t2, vI t1, vI t0]) (rest := []) kLw_117 (Nat.le_of_ble_eq_true rfl) (Nat.le_of_ble_eq_true rfl) rfl rfl (Nat.le_of_ble_eq_true rfl) dLw_orders_553 (s_Lw_putsBehind hw) (fun _ _ hx => False.elim hx) (tk_v fun h1 hw => ?_)
  refine tq_inc (k := (1 : Int32)) (ls' := [none, some (vR x1), some (vR x2), some (vR x3), some (vR x4), none, some (vI x6), some (vR x7), none, some (vR x9), none, none, none, none, some (vI x14), none, none, none, some (vI x18), none, none, some (vI (x21 + (1 : Int32))), none, none]) dLw_orders_556 rfl tni_1 (Nat.le_of_ble_eq_true rfl) rfl ?_
  refine tq_goto (tgt := 445) dLw_orders_559 (by decide) ?_
  refine tpR.fo (ls' := [none, some (vR x1), some (vR x2), some (vR x3), some (vR x4), none, some (vI x6), some (vR x7), none, some (vR x9), none, none, none, none, some (vI x14), none, none, none, some (vI x18), none, none, some (vI (x21 + (1 : Int32))), none, none]) ?_ (And.intro rfl (And.intro rfl (And.intro rfl (And.intro rfl (And.intro rfl (And.intro rfl (And.intro rfl (And.intro rfl (And.intro rfl (And.intro rfl trivial))))))))))
  exact k445 _ _ _ _ _ _ _ _ _ _ _ hw
theorem s_Lw_orders_533 {h0 : tpH} {av : List tpV} {R : Int32 → tpH → Prop} {K445 : (Option Nat) → (Option Nat) → (Option Nat) → (Option Nat) → Int32 → (Option Nat) → (Option Nat) → Int32 → Int32 → Int32 → tpH → Prop} (k445 : ∀ (x1 : Option Nat) (x2 : Option Nat) (x3 : Option Nat) (x4 : Option Nat) (x6 : Int32) (x7 : Option Nat) (x9 : Option Nat) (x14 : Int32) (x18 : Int32) (x21 : Int32) (h : tpH), K445 x1 x2 x3 x4 x6 x7 x9 x14 x18 x21 h → tpR Lw_orders 3 h0 av (tpOi R (fun _ _ => False)) 445 [none, some (vR x1), some (vR x2), some (vR x3), some (vR x4), none, some (vI x6), some (vR x7), none, some (vR x9), none, none, none, none, some (vI x14), none, none, none, some (vI x18), none, none, some (vI x21), none, none] [] h) : ∀ (x1 : Option Nat) (x2 : Option Nat) (x3 : Option Nat) (x4 : Option Nat) (x6 : Int32) (x7 : Option Nat) (x9 : Option Nat) (x14 : Int32) (x18 : Int32) (x21 : Int32) (x22 : Int32) (t0 : Int32) (h : tpH), w_Lw_orders_533 R K445 x1 x2 x3 x4 x6 x7 x9 x14 x18 x21 x22 t0 h → tpR Lw_orders 3 h0 av (tpOi R (fun _ _ => False)) 533 [none, some (vR x1), some (vR x2), some (vR x3), some (vR x4), none, some (vI x6), some (vR x7), none, some (vR x9), none, none, none, none, some (vI x14), none, none, none, some (vI x18), none, none, some (vI x21), some (vI x22), none] [vI t0] h := by
  intro x1 x2 x3 x4 x6 x7 x9 x14 x18 x21 x22 t0 h hw
  unfold w_Lw_orders_533 at hw
  refine tq_istore (ls' := [none, some (vR x1), some (vR x2), some (vR x3), some (vR x4), none, some (vI x6), some (vR x7), none, some (vR x9), none, none, none, none, some (vI x14), none, none, none, some (vI x18), none, none, some (vI x21), some (vI x22), some (vI t0)]) dLw_orders_533 (Nat.le_of_ble_eq_true rfl) rfl ?_
  refine tq_aload dLw_orders_535 rfl ?_
  refine tq_iload dLw_orders_537 rfl ?_
  refine tq_iload dLw_orders_539 rfl ?_
  refine tq_iload dLw_orders_541 rfl ?_
  refine tq_icmpge (tgt := 551) dLw_orders_543 (by decide) (fun c1 => ?_) (fun c1 => ?_)
  · have hw := hw.1 c1
    refine tq_iload dLw_orders_551 rfl ?_
    refine tpR.fo (ls' := [none, some (vR x1), some (vR x2), some (vR x3), some (vR x4), none, some (vI x6), some (vR x7), none, some (vR x9), none, none, none, none, some (vI x14), none, none, none, some (vI x18), none, none, some (vI x21), none, none]) ?_ (And.intro rfl (And.intro rfl (And.intro rfl (And.intro rfl (And.intro rfl (And.intro rfl (And.intro rfl (And.intro rfl (And.intro rfl (And.intro rfl trivial))))))))))
    exact s_Lw_orders_553 k445 _ _ _ _ _ _ _ _ _ _ _ _ _ _ hw
  · have hw := hw.2 c1
    refine tq_iload dLw_orders_546 rfl ?_
    refine tq_goto (tgt := 553) dLw_orders_548 (by decide) ?_
    refine tpR.fo (ls' := [none, some (vR x1), some (vR x2), some (vR x3), some (vR x4), none, some (vI x6), some (vR x7), none, some (vR x9), none, none, none, none, some (vI x14), none, none, none, some (vI x18), none, none, some (vI x21), none, none]) ?_ (And.intro rfl (And.intro rfl (And.intro rfl (And.intro rfl (And.intro rfl (And.intro rfl (And.intro rfl (And.intro rfl (And.intro rfl (And.intro rfl trivial))))))))))
    exact s_Lw_orders_553 k445 _ _ _ _ _ _ _ _ _ _ _ _ _ _ hw
theorem s_Lw_orders_503 {h0 : tpH} {av : List tpV} {R : Int32 → tpH → Prop} {K445 : (Option Nat) → (Option Nat) → (Option Nat) → (Option Nat) → Int32 → (Option Nat) → (Option Nat) → Int32 → Int32 → Int32 → tpH → Prop} (k445 : ∀ (x1 : Option Nat) (x2 : Option Nat) (x3 : Option Nat) (x4 : Option Nat) (x6 : Int32) (x7 : Option Nat) (x9 : Option Nat) (x14 : Int32) (x18 : Int32) (x21 : Int32) (h : tpH), K445 x1 x2 x3 x4 x6 x7 x9 x14 x18 x21 h → tpR Lw_orders 3 h0 av (tpOi R (fun _ _ => False)) 445 [none, some (vR x1), some (vR x2), some (vR x3), some (vR x4), none, some (vI x6), some (vR x7), none, some (vR x9), none, none, none, none, some (vI x14), none, none, none, some (vI x18), none, none, some (vI x21), none, none] [] h) : ∀ (x1 : Option Nat) (x2 : Option Nat) (x3 : Option Nat) (x4 : Option Nat) (x6 : Int32) (x7 : Option Nat) (x9 : Option Nat) (x14 : Int32) (x18 : Int32) (x21 : Int32) (t0 : Int32) (h : tpH), w_Lw_orders_503 R K445 x1 x2 x3 x4 x6 x7 x9 x14 x18 x21 t0 h → tpR Lw_orders 3 h0 av (tpOi R (fun _ _ => False)) 503 [none, some (vR x1), some (vR x2), some (vR x3), some (vR x4), none, some (vI x6), some (vR x7), none, some (vR x9), none, none, none, none, some (vI x14), none, none, none, some (vI x18), none, none, some (vI x21), none, none] [vI t0] h := by
  intro x1 x2 x3 x4 x6 x7 x9 x14 x18 x21 t0 h hw
  unfold w_Lw_orders_503 at hw
  refine tq_istore (ls' := [none, some (vR x1), some (vR x2), some (vR x3), some (vR x4), none, some (vI x6), some (vR x7), none, some (vR x9), none, none, none, none, some (vI x14), none, none, none, some (vI x18), none, none, some (vI x21), some (vI t0), none]) dLw_orders_503 (Nat.le_of_ble_eq_true rfl) rfl ?_
  refine tq_aload_n dLw_orders_505 rfl rfl ?_
  refine tq_iload dLw_orders_506 rfl ?_
  refine tq_callS ms_Lw_parentOf (dc := 2) (as := [vR x2, vI x21]) (rest := []) kLw_40 (Nat.le_of_ble_eq_true rfl) (Nat.le_of_ble_eq_true rfl) rfl rfl (Nat.le_of_ble_eq_true rfl) dLw_orders_508 (s_Lw_parentOf hw) (fun _ _ hx => False.elim hx) (tk_i fun v2 h1 hw => ?_)
  refine tq_iload dLw_orders_511 rfl ?_
  refine tq_icmpne (tgt := 531) dLw_orders_513 (by decide) (fun c3 => ?_) (fun c3 => ?_)
  · have hw := hw.1 c3
    refine tq_bipush (v := (99 : Int32)) dLw_orders_531 tnb_99 ?_
    refine tpR.fo (ls' := [none, some (vR x1), some (vR x2), some (vR x3), some (vR x4), none, some (vI x6), some (vR x7), none, some (vR x9), none, none, none, none, some (vI x14), none, none, none, some (vI x18), none, none, some (vI x21), some (vI t0), none]) ?_ (And.intro rfl (And.intro rfl (And.intro rfl (And.intro rfl (And.intro rfl (And.intro rfl (And.intro rfl (And.intro rfl (And.intro rfl (And.intro rfl (And.intro rfl trivial)))))))))))
    exact s_Lw_orders_533 k445 _ _ _ _ _ _ _ _ _ _ _ _ _ hw
  · have hw := hw.2 c3
    refine tq_aload_n dLw_orders_516 rfl rfl ?_
    refine tq_aload dLw_orders_517 rfl ?_
    refine tq_iload dLw_orders_519 rfl ?_
    refine tq_iload dLw_orders_521 rfl ?_
    refine tq_aload dLw_orders_523 rfl ?_
    refine tq_callS ms_Lw_ahead (dc := 2) (as := [vR x2, vR x4, vI x6, vI x21, vR x7]) (rest := []) kLw_113 (Nat.le_of_ble_eq_true rfl) (Nat.le_of_ble_eq_true rfl) rfl rfl (Nat.le_of_ble_eq_true rfl) dLw_orders_525 (s_Lw_ahead hw) (fun _ _ hx => False.elim hx) (tk_i fun v5 h4 hw => ?_)
    refine tq_goto (tgt := 533) dLw_orders_528 (by decide) ?_
    refine tpR.fo (ls' := [none, some (vR x1), some (vR x2), some (vR x3), some (vR x4), none, some (vI x6), some (vR x7), none, some (vR x9), none, none, none, none, some (vI x14), none, none, none, some (vI x18), none, none, some (vI x21), some (vI t0), none]) ?_ (And.intro rfl (And.intro rfl (And.intro rfl (And.intro rfl (And.intro rfl (And.intro rfl (And.intro rfl (And.intro rfl (And.intro rfl (And.intro rfl (And.intro rfl trivial)))))))))))
    exact s_Lw_orders_533 k445 _ _ _ _ _ _ _ _ _ _ _ _ _ hw
theorem s_Lw_orders_445 {h0 : tpH} {av : List tpV} {R : Int32 → tpH → Prop} : ∀ (n : Nat) (x1 : Option Nat) (x2 : Option Nat) (x3 : Option Nat) (x4 : Option Nat) (x6 : Int32) (x7 : Option Nat) (x9 : Option Nat) (x14 : Int32) (x18 : Int32) (x21 : Int32) (h : tpH), w_Lw_orders_445 R n x1 x2 x3 x4 x6 x7 x9 x14 x18 x21 h → tpR Lw_orders 3 h0 av (tpOi R (fun _ _ => False)) 445 [none, some (vR x1), some (vR x2), some (vR x3), some (vR x4), none, some (vI x6), some (vR x7), none, some (vR x9), none, none, none, none, some (vI x14), none, none, none, some (vI x18), none, none, some (vI x21), none, none] [] h := by
  intro n
  induction n with
  | zero => intro x1 x2 x3 x4 x6 x7 x9 x14 x18 x21 h hw; exact False.elim hw
  | succ n ih =>
    intro x1 x2 x3 x4 x6 x7 x9 x14 x18 x21 h hw
    change b_Lw_orders_445 R (w_Lw_orders_445 R n) x1 x2 x3 x4 x6 x7 x9 x14 x18 x21 h at hw
    unfold b_Lw_orders_445 at hw
    refine tq_iload dLw_orders_445 rfl ?_
    refine tq_bipush (v := (40 : Int32)) dLw_orders_447 tnb_40 ?_
    refine tq_icmpge (tgt := 562) dLw_orders_449 (by decide) (fun c1 => ?_) (fun c1 => ?_)
    · have hw := hw.1 c1
      refine tq_iload dLw_orders_562 rfl ?_
      obtain ⟨f2, hw⟩ := hw
      exact tq_iret rfl (tpB_n f2) dLw_orders_564 hw
    · have hw := hw.2 c1
      refine tq_aload_n dLw_orders_452 rfl rfl ?_
      refine tq_iload dLw_orders_453 rfl ?_
      refine tq_callS ms_Lw_parentOf (dc := 2) (as := [vR x3, vI x21]) (rest := []) kLw_40 (Nat.le_of_ble_eq_true rfl) (Nat.le_of_ble_eq_true rfl) rfl rfl (Nat.le_of_ble_eq_true rfl) dLw_orders_455 (s_Lw_parentOf hw) (fun _ _ hx => False.elim hx) (tk_i fun v4 h3 hw => ?_)
      refine tq_iload dLw_orders_458 rfl ?_
      refine tq_icmpne (tgt := 556) dLw_orders_460 (by decide) (fun c5 => ?_) (fun c5 => ?_)
      · have hw := hw.1 c5
        refine tq_inc (k := (1 : Int32)) (ls' := [none, some (vR x1), some (vR x2), some (vR x3), some (vR x4), none, some (vI x6), some (vR x7), none, some (vR x9), none, none, none, none, some (vI x14), none, none, none, some (vI x18), none, none, some (vI (x21 + (1 : Int32))), none, none]) dLw_orders_556 rfl tni_1 (Nat.le_of_ble_eq_true rfl) rfl ?_
        refine tq_goto (tgt := 445) dLw_orders_559 (by decide) ?_
        refine tpR.fo (ls' := [none, some (vR x1), some (vR x2), some (vR x3), some (vR x4), none, some (vI x6), some (vR x7), none, some (vR x9), none, none, none, none, some (vI x14), none, none, none, some (vI x18), none, none, some (vI (x21 + (1 : Int32))), none, none]) ?_ (And.intro rfl (And.intro rfl (And.intro rfl (And.intro rfl (And.intro rfl (And.intro rfl (And.intro rfl (And.intro rfl (And.intro rfl (And.intro rfl trivial))))))))))
        exact ih _ _ _ _ _ _ _ _ _ _ _ hw
      · have hw := hw.2 c5
        refine tq_aload dLw_orders_463 rfl ?_
        refine tq_iload dLw_orders_465 rfl ?_
        refine tq_iload dLw_orders_467 rfl ?_
        refine tq_callS ms_Lw_at (dc := 0) (as := [vR x9, vI x14, vI x21]) (rest := []) kLw_105 (Nat.le_of_ble_eq_true rfl) (Nat.le_of_ble_eq_true rfl) rfl rfl (Nat.le_of_ble_eq_true rfl) dLw_orders_469 (s_Lw_at hw) (fun _ _ hx => False.elim hx) (tk_i fun v7 h6 hw => ?_)
        refine tq_ifge (tgt := 556) dLw_orders_472 (by decide) (fun c8 => ?_) (fun c8 => ?_)
        · have hw := hw.1 c8
          refine tq_inc (k := (1 : Int32)) (ls' := [none, some (vR x1), some (vR x2), some (vR x3), some (vR x4), none, some (vI x6), some (vR x7), none, some (vR x9), none, none, none, none, some (vI x14), none, none, none, some (vI x18), none, none, some (vI (x21 + (1 : Int32))), none, none]) dLw_orders_556 rfl tni_1 (Nat.le_of_ble_eq_true rfl) rfl ?_
          refine tq_goto (tgt := 445) dLw_orders_559 (by decide) ?_
          refine tpR.fo (ls' := [none, some (vR x1), some (vR x2), some (vR x3), some (vR x4), none, some (vI x6), some (vR x7), none, some (vR x9), none, none, none, none, some (vI x14), none, none, none, some (vI x18), none, none, some (vI (x21 + (1 : Int32))), none, none]) ?_ (And.intro rfl (And.intro rfl (And.intro rfl (And.intro rfl (And.intro rfl (And.intro rfl (And.intro rfl (And.intro rfl (And.intro rfl (And.intro rfl trivial))))))))))
          exact ih _ _ _ _ _ _ _ _ _ _ _ hw
        · have hw := hw.2 c8
          refine tq_aload_n dLw_orders_475 rfl rfl ?_
          refine tq_iload dLw_orders_476 rfl ?_
          refine tq_callS ms_Lw_parentOf (dc := 2) (as := [vR x1, vI x21]) (rest := []) kLw_40 (Nat.le_of_ble_eq_true rfl) (Nat.le_of_ble_eq_true rfl) rfl rfl (Nat.le_of_ble_eq_true rfl) dLw_orders_478 (s_Lw_parentOf hw) (fun _ _ hx => False.elim hx) (tk_i fun v10 h9 hw => ?_)
          refine tq_iload dLw_orders_481 rfl ?_
          refine tq_icmpne (tgt := 501) dLw_orders_483 (by decide) (fun c11 => ?_) (fun c11 => ?_)
          · have hw := hw.1 c11
            refine tq_bipush (v := (99 : Int32)) dLw_orders_501 tnb_99 ?_
            refine tpR.fo (ls' := [none, some (vR x1), some (vR x2), some (vR x3), some (vR x4), none, some (vI x6), some (vR x7), none, some (vR x9), none, none, none, none, some (vI x14), none, none, none, some (vI x18), none, none, some (vI x21), none, none]) ?_ (And.intro rfl (And.intro rfl (And.intro rfl (And.intro rfl (And.intro rfl (And.intro rfl (And.intro rfl (And.intro rfl (And.intro rfl (And.intro rfl trivial))))))))))
            exact s_Lw_orders_503 ih _ _ _ _ _ _ _ _ _ _ _ _ hw
          · have hw := hw.2 c11
            refine tq_aload_n dLw_orders_486 rfl rfl ?_
            refine tq_aload dLw_orders_487 rfl ?_
            refine tq_iload dLw_orders_489 rfl ?_
            refine tq_iload dLw_orders_491 rfl ?_
            refine tq_aload dLw_orders_493 rfl ?_
            refine tq_callS ms_Lw_ahead (dc := 2) (as := [vR x1, vR x4, vI x6, vI x21, vR x7]) (rest := []) kLw_113 (Nat.le_of_ble_eq_true rfl) (Nat.le_of_ble_eq_true rfl) rfl rfl (Nat.le_of_ble_eq_true rfl) dLw_orders_495 (s_Lw_ahead hw) (fun _ _ hx => False.elim hx) (tk_i fun v13 h12 hw => ?_)
            refine tq_goto (tgt := 503) dLw_orders_498 (by decide) ?_
            refine tpR.fo (ls' := [none, some (vR x1), some (vR x2), some (vR x3), some (vR x4), none, some (vI x6), some (vR x7), none, some (vR x9), none, none, none, none, some (vI x14), none, none, none, some (vI x18), none, none, some (vI x21), none, none]) ?_ (And.intro rfl (And.intro rfl (And.intro rfl (And.intro rfl (And.intro rfl (And.intro rfl (And.intro rfl (And.intro rfl (And.intro rfl (And.intro rfl trivial))))))))))
            exact s_Lw_orders_503 ih _ _ _ _ _ _ _ _ _ _ _ _ hw
theorem s_Lw_orders_353 {h0 : tpH} {av : List tpV} {R : Int32 → tpH → Prop} : ∀ (n : Nat) (x0 : Option Nat) (x1 : Option Nat) (x2 : Option Nat) (x3 : Option Nat) (x4 : Option Nat) (x6 : Int32) (x7 : Option Nat) (x9 : Option Nat) (x14 : Int32) (x18 : Int32) (x21 : Int32) (h : tpH), w_Lw_orders_353 R n x0 x1 x2 x3 x4 x6 x7 x9 x14 x18 x21 h → tpR Lw_orders 3 h0 av (tpOi R (fun _ _ => False)) 353 [some (vR x0), some (vR x1), some (vR x2), some (vR x3), some (vR x4), none, some (vI x6), some (vR x7), none, some (vR x9), none, none, none, none, some (vI x14), none, none, none, some (vI x18), none, none, some (vI x21), none, none] [] h := by
  intro n
  induction n with
  | zero => intro x0 x1 x2 x3 x4 x6 x7 x9 x14 x18 x21 h hw; exact False.elim hw
  | succ n ih =>
    intro x0 x1 x2 x3 x4 x6 x7 x9 x14 x18 x21 h hw
    change b_Lw_orders_353 R (w_Lw_orders_353 R n) x0 x1 x2 x3 x4 x6 x7 x9 x14 x18 x21 h at hw
    unfold b_Lw_orders_353 at hw
    refine tq_iload dLw_orders_353 rfl ?_
    refine tq_iload dLw_orders_355 rfl ?_
    refine tq_icmpge (tgt := 442) dLw_orders_357 (by decide) (fun c1 => ?_) (fun c1 => ?_)
    · have hw := hw.1 c1
      refine tq_iconst (v := (0 : Int32)) dLw_orders_442 tni_0 ?_
      refine tq_istore (ls' := [some (vR x0), some (vR x1), some (vR x2), some (vR x3), some (vR x4), none, some (vI x6), some (vR x7), none, some (vR x9), none, none, none, none, some (vI x14), none, none, none, some (vI x18), none, none, some (vI (0 : Int32)), none, none]) dLw_orders_443 (Nat.le_of_ble_eq_true rfl) rfl ?_
      refine tpR.fo (ls' := [none, some (vR x1), some (vR x2), some (vR x3), some (vR x4), none, some (vI x6), some (vR x7), none, some (vR x9), none, none, none, none, some (vI x14), none, none, none, some (vI x18), none, none, some (vI (0 : Int32)), none, none]) ?_ (And.intro rfl (And.intro rfl (And.intro rfl (And.intro rfl (And.intro rfl (And.intro rfl (And.intro rfl (And.intro rfl (And.intro rfl (And.intro rfl trivial))))))))))
      obtain ⟨n, hw⟩ := hw
      exact s_Lw_orders_445 n _ _ _ _ _ _ _ _ _ _ _ hw
    · have hw := hw.2 c1
      refine tq_iconst (v := (0 : Int32)) dLw_orders_360 tni_0 ?_
      refine tq_istore (ls' := [some (vR x0), some (vR x1), some (vR x2), some (vR x3), some (vR x4), none, some (vI x6), some (vR x7), none, some (vR x9), none, none, none, none, some (vI x14), none, none, none, some (vI x18), none, none, some (vI x21), some (vI (0 : Int32)), none]) dLw_orders_361 (Nat.le_of_ble_eq_true rfl) rfl ?_
      refine tq_iconst (v := (1 : Int32)) dLw_orders_363 tni_1 ?_
      refine tq_istore (ls' := [some (vR x0), some (vR x1), some (vR x2), some (vR x3), some (vR x4), none, some (vI x6), some (vR x7), none, some (vR x9), none, none, none, none, some (vI x14), none, none, none, some (vI x18), none, none, some (vI x21), some (vI (0 : Int32)), some (vI (1 : Int32))]) dLw_orders_364 (Nat.le_of_ble_eq_true rfl) rfl ?_
      refine tpR.fo (ls' := [some (vR x0), some (vR x1), some (vR x2), some (vR x3), some (vR x4), none, some (vI x6), some (vR x7), none, some (vR x9), none, none, none, none, some (vI x14), none, none, none, some (vI x18), none, none, some (vI x21), some (vI (0 : Int32)), some (vI (1 : Int32))]) ?_ (And.intro rfl (And.intro rfl (And.intro rfl (And.intro rfl (And.intro rfl (And.intro rfl (And.intro rfl (And.intro rfl (And.intro rfl (And.intro rfl (And.intro rfl (And.intro rfl (And.intro rfl trivial)))))))))))))
      obtain ⟨n, hw⟩ := hw
      exact s_Lw_orders_366 ih n _ _ _ _ _ _ _ _ _ _ _ _ _ _ hw
theorem s_Lw_orders_296 {h0 : tpH} {av : List tpV} {R : Int32 → tpH → Prop} {K265 : (Option Nat) → (Option Nat) → (Option Nat) → (Option Nat) → (Option Nat) → Int32 → (Option Nat) → (Option Nat) → (Option Nat) → (Option Nat) → (Option Nat) → Int32 → Int32 → Int32 → Int32 → tpH → Prop} (k265 : ∀ (x0 : Option Nat) (x1 : Option Nat) (x2 : Option Nat) (x3 : Option Nat) (x4 : Option Nat) (x6 : Int32) (x7 : Option Nat) (x9 : Option Nat) (x10 : Option Nat) (x11 : Option Nat) (x12 : Option Nat) (x14 : Int32) (x18 : Int32) (x20 : Int32) (x21 : Int32) (h : tpH), K265 x0 x1 x2 x3 x4 x6 x7 x9 x10 x11 x12 x14 x18 x20 x21 h → tpR Lw_orders 3 h0 av (tpOi R (fun _ _ => False)) 265 [some (vR x0), some (vR x1), some (vR x2), some (vR x3), some (vR x4), none, some (vI x6), some (vR x7), none, some (vR x9), some (vR x10), some (vR x11), some (vR x12), none, some (vI x14), none, none, none, some (vI x18), none, some (vI x20), some (vI x21), none, none] [] h) : ∀ (x0 : Option Nat) (x1 : Option Nat) (x2 : Option Nat) (x3 : Option Nat) (x4 : Option Nat) (x6 : Int32) (x7 : Option Nat) (x9 : Option Nat) (x10 : Option Nat) (x11 : Option Nat) (x12 : Option Nat) (x14 : Int32) (x18 : Int32) (x20 : Int32) (x21 : Int32) (t0 : Int32) (t1 : Int32) (h : tpH), w_Lw_orders_296 R K265 x0 x1 x2 x3 x4 x6 x7 x9 x10 x11 x12 x14 x18 x20 x21 t0 t1 h → tpR Lw_orders 3 h0 av (tpOi R (fun _ _ => False)) 296 [some (vR x0), some (vR x1), some (vR x2), some (vR x3), some (vR x4), none, some (vI x6), some (vR x7), none, some (vR x9), some (vR x10), some (vR x11), some (vR x12), none, some (vI x14), none, none, none, some (vI x18), none, some (vI x20), some (vI x21), none, none] [vI t0, vI t1] h := by
  intro x0 x1 x2 x3 x4 x6 x7 x9 x10 x11 x12 x14 x18 x20 x21 t0 t1 h hw
  unfold w_Lw_orders_296 at hw
  refine tq_icmpgt (tgt := 350) dLw_orders_296 (by decide) (fun c1 => ?_) (fun c1 => ?_)
  · have hw := hw.1 c1
    refine tq_iconst (v := (0 : Int32)) dLw_orders_350 tni_0 ?_
    refine tq_istore (ls' := [some (vR x0), some (vR x1), some (vR x2), some (vR x3), some (vR x4), none, some (vI x6), some (vR x7), none, some (vR x9), some (vR x10), some (vR x11), some (vR x12), none, some (vI x14), none, none, none, some (vI x18), none, some (vI x20), some (vI (0 : Int32)), none, none]) dLw_orders_351 (Nat.le_of_ble_eq_true rfl) rfl ?_
    refine tpR.fo (ls' := [some (vR x0), some (vR x1), some (vR x2), some (vR x3), some (vR x4), none, some (vI x6), some (vR x7), none, some (vR x9), none, none, none, none, some (vI x14), none, none, none, some (vI x18), none, none, some (vI (0 : Int32)), none, none]) ?_ (And.intro rfl (And.intro rfl (And.intro rfl (And.intro rfl (And.intro rfl (And.intro rfl (And.intro rfl (And.intro rfl (And.intro rfl (And.intro rfl (And.intro rfl trivial)))))))))))
    obtain ⟨n, hw⟩ := hw
    exact s_Lw_orders_353 n _ _ _ _ _ _ _ _ _ _ _ _ hw
  · have hw := hw.2 c1
    refine tq_aload dLw_orders_299 rfl ?_
    refine tq_iconst (v := (0 : Int32)) dLw_orders_301 tni_0 ?_
    refine tq_dup2 dLw_orders_302 rfl rfl ?_
    obtain ⟨a2, e3, f4, hw⟩ := hw
    obtain ⟨f5, hw⟩ := hw
    refine te_iald dLw_orders_303 e3 (Or.inl f4) f5 ?_
    refine tq_iconst (v := (1 : Int32)) dLw_orders_304 tni_1 ?_
    refine tq_iadd dLw_orders_305 ?_
    obtain ⟨f6, hw⟩ := hw
    refine te_iast dLw_orders_306 e3 f4 f6 (fun h7 e8 => ?_)
    have hw := hw h7 e8
    refine tq_aload dLw_orders_307 rfl ?_
    refine tq_iload dLw_orders_309 rfl ?_
    refine tq_iload dLw_orders_311 rfl ?_
    refine tq_ifne (tgt := 324) dLw_orders_313 (by decide) (fun c9 => ?_) (fun c9 => ?_)
    · have hw := hw.1 c9
      refine tq_iload dLw_orders_324 rfl ?_
      refine tq_iconst (v := (1 : Int32)) dLw_orders_326 tni_1 ?_
      refine tq_icmpne (tgt := 338) dLw_orders_327 (by decide) (fun c10 => ?_) (fun c10 => ?_)
      · have hw := hw.1 c10
        refine tq_aload dLw_orders_338 rfl ?_
        refine tq_iload dLw_orders_340 rfl ?_
        obtain ⟨a11, e12, f13, hw⟩ := hw
        obtain ⟨f14, hw⟩ := hw
        refine te_iald dLw_orders_342 e12 (Or.inl f13) f14 ?_
        refine tpR.fo (ls' := [some (vR x0), some (vR x1), some (vR x2), some (vR x3), some (vR x4), none, some (vI x6), some (vR x7), none, some (vR x9), some (vR x10), some (vR x11), some (vR x12), none, some (vI x14), none, none, none, some (vI x18), none, some (vI x20), some (vI x21), none, none]) ?_ (And.intro rfl (And.intro rfl (And.intro rfl (And.intro rfl (And.intro rfl (And.intro rfl (And.intro rfl (And.intro rfl (And.intro rfl (And.intro rfl (And.intro rfl (And.intro rfl (And.intro rfl (And.intro rfl (And.intro rfl trivial)))))))))))))))
        exact s_Lw_orders_343 k265 _ _ _ _ _ _ _ _ _ _ _ _ _ _ _ _ _ _ _ hw
      · have hw := hw.2 c10
        refine tq_aload dLw_orders_330 rfl ?_
        refine tq_iload dLw_orders_332 rfl ?_
        obtain ⟨a15, e16, f17, hw⟩ := hw
        obtain ⟨f18, hw⟩ := hw
        refine te_iald dLw_orders_334 e16 (Or.inl f17) f18 ?_
        refine tq_goto (tgt := 343) dLw_orders_335 (by decide) ?_
        refine tpR.fo (ls' := [some (vR x0), some (vR x1), some (vR x2), some (vR x3), some (vR x4), none, some (vI x6), some (vR x7), none, some (vR x9), some (vR x10), some (vR x11), some (vR x12), none, some (vI x14), none, none, none, some (vI x18), none, some (vI x20), some (vI x21), none, none]) ?_ (And.intro rfl (And.intro rfl (And.intro rfl (And.intro rfl (And.intro rfl (And.intro rfl (And.intro rfl (And.intro rfl (And.intro rfl (And.intro rfl (And.intro rfl (And.intro rfl (And.intro rfl (And.intro rfl (And.intro rfl trivial)))))))))))))))
        exact s_Lw_orders_343 k265 _ _ _ _ _ _ _ _ _ _ _ _ _ _ _ _ _ _ _ hw
    · have hw := hw.2 c9
      refine tq_aload dLw_orders_316 rfl ?_
      refine tq_iload dLw_orders_318 rfl ?_
      obtain ⟨a19, e20, f21, hw⟩ := hw
      obtain ⟨f22, hw⟩ := hw
      refine te_iald dLw_orders_320 e20 (Or.inl f21) f22 ?_
      refine tq_goto (tgt := 343) dLw_orders_321 (by decide) ?_
      refine tpR.fo (ls' := [some (vR x0), some (vR x1), some (vR x2), some (vR x3), some (vR x4), none, some (vI x6), some (vR x7), none, some (vR x9), some (vR x10), some (vR x11), some (vR x12), none, some (vI x14), none, none, none, some (vI x18), none, some (vI x20), some (vI x21), none, none]) ?_ (And.intro rfl (And.intro rfl (And.intro rfl (And.intro rfl (And.intro rfl (And.intro rfl (And.intro rfl (And.intro rfl (And.intro rfl (And.intro rfl (And.intro rfl (And.intro rfl (And.intro rfl (And.intro rfl (And.intro rfl trivial)))))))))))))))
      exact s_Lw_orders_343 k265 _ _ _ _ _ _ _ _ _ _ _ _ _ _ _ _ _ _ _ hw
theorem s_Lw_orders_265 {h0 : tpH} {av : List tpV} {R : Int32 → tpH → Prop} : ∀ (n : Nat) (x0 : Option Nat) (x1 : Option Nat) (x2 : Option Nat) (x3 : Option Nat) (x4 : Option Nat) (x6 : Int32) (x7 : Option Nat) (x9 : Option Nat) (x10 : Option Nat) (x11 : Option Nat) (x12 : Option Nat) (x14 : Int32) (x18 : Int32) (x20 : Int32) (x21 : Int32) (h : tpH), w_Lw_orders_265 R n x0 x1 x2 x3 x4 x6 x7 x9 x10 x11 x12 x14 x18 x20 x21 h → tpR Lw_orders 3 h0 av (tpOi R (fun _ _ => False)) 265 [some (vR x0), some (vR x1), some (vR x2), some (vR x3), some (vR x4), none, some (vI x6), some (vR x7), none, some (vR x9), some (vR x10), some (vR x11), some (vR x12), none, some (vI x14), none, none, none, some (vI x18), none, some (vI x20), some (vI x21), none, none] [] h := by
  intro n
  induction n with
  | zero => intro x0 x1 x2 x3 x4 x6 x7 x9 x10 x11 x12 x14 x18 x20 x21 h hw; exact False.elim hw
  | succ n ih =>
    intro x0 x1 x2 x3 x4 x6 x7 x9 x10 x11 x12 x14 x18 x20 x21 h hw
    change b_Lw_orders_265 R (w_Lw_orders_265 R n) x0 x1 x2 x3 x4 x6 x7 x9 x10 x11 x12 x14 x18 x20 x21 h at hw
    unfold b_Lw_orders_265 at hw
    refine tq_iload dLw_orders_265 rfl ?_
    refine tq_iload dLw_orders_267 rfl ?_
    refine tq_ifne (tgt := 279) dLw_orders_269 (by decide) (fun c1 => ?_) (fun c1 => ?_)
    · have hw := hw.1 c1
      refine tq_iload dLw_orders_279 rfl ?_
      refine tq_iconst (v := (1 : Int32)) dLw_orders_281 tni_1 ?_
      refine tq_icmpne (tgt := 292) dLw_orders_282 (by decide) (fun c2 => ?_) (fun c2 => ?_)
      · have hw := hw.1 c2
        refine tq_aload dLw_orders_292 rfl ?_
        refine tq_iconst (v := (0 : Int32)) dLw_orders_294 tni_0 ?_
        obtain ⟨a3, e4, f5, hw⟩ := hw
        obtain ⟨f6, hw⟩ := hw
        refine te_iald dLw_orders_295 e4 (Or.inl f5) f6 ?_
        refine tpR.fo (ls' := [some (vR x0), some (vR x1), some (vR x2), some (vR x3), some (vR x4), none, some (vI x6), some (vR x7), none, some (vR x9), some (vR x10), some (vR x11), some (vR x12), none, some (vI x14), none, none, none, some (vI x18), none, some (vI x20), some (vI x21), none, none]) ?_ (And.intro rfl (And.intro rfl (And.intro rfl (And.intro rfl (And.intro rfl (And.intro rfl (And.intro rfl (And.intro rfl (And.intro rfl (And.intro rfl (And.intro rfl (And.intro rfl (And.intro rfl (And.intro rfl (And.intro rfl trivial)))))))))))))))
        exact s_Lw_orders_296 ih _ _ _ _ _ _ _ _ _ _ _ _ _ _ _ _ _ _ hw
      · have hw := hw.2 c2
        refine tq_aload dLw_orders_285 rfl ?_
        refine tq_iconst (v := (0 : Int32)) dLw_orders_287 tni_0 ?_
        obtain ⟨a7, e8, f9, hw⟩ := hw
        obtain ⟨f10, hw⟩ := hw
        refine te_iald dLw_orders_288 e8 (Or.inl f9) f10 ?_
        refine tq_goto (tgt := 296) dLw_orders_289 (by decide) ?_
        refine tpR.fo (ls' := [some (vR x0), some (vR x1), some (vR x2), some (vR x3), some (vR x4), none, some (vI x6), some (vR x7), none, some (vR x9), some (vR x10), some (vR x11), some (vR x12), none, some (vI x14), none, none, none, some (vI x18), none, some (vI x20), some (vI x21), none, none]) ?_ (And.intro rfl (And.intro rfl (And.intro rfl (And.intro rfl (And.intro rfl (And.intro rfl (And.intro rfl (And.intro rfl (And.intro rfl (And.intro rfl (And.intro rfl (And.intro rfl (And.intro rfl (And.intro rfl (And.intro rfl trivial)))))))))))))))
        exact s_Lw_orders_296 ih _ _ _ _ _ _ _ _ _ _ _ _ _ _ _ _ _ _ hw
    · have hw := hw.2 c1
      refine tq_aload dLw_orders_272 rfl ?_
      refine tq_iconst (v := (0 : Int32)) dLw_orders_274 tni_0 ?_
      obtain ⟨a11, e12, f13, hw⟩ := hw
      obtain ⟨f14, hw⟩ := hw
      refine te_iald dLw_orders_275 e12 (Or.inl f13) f14 ?_
      refine tq_goto (tgt := 296) dLw_orders_276 (by decide) ?_
      refine tpR.fo (ls' := [some (vR x0), some (vR x1), some (vR x2), some (vR x3), some (vR x4), none, some (vI x6), some (vR x7), none, some (vR x9), some (vR x10), some (vR x11), some (vR x12), none, some (vI x14), none, none, none, some (vI x18), none, some (vI x20), some (vI x21), none, none]) ?_ (And.intro rfl (And.intro rfl (And.intro rfl (And.intro rfl (And.intro rfl (And.intro rfl (And.intro rfl (And.intro rfl (And.intro rfl (And.intro rfl (And.intro rfl (And.intro rfl (And.intro rfl (And.intro rfl (And.intro rfl trivial)))))))))))))))
      exact s_Lw_orders_296 ih _ _ _ _ _ _ _ _ _ _ _ _ _ _ _ _ _ _ hw
theorem s_Lw_orders_215 {h0 : tpH} {av : List tpV} {R : Int32 → tpH → Prop} : ∀ (x0 : Option Nat) (x1 : Option Nat) (x2 : Option Nat) (x3 : Option Nat) (x4 : Option Nat) (x5 : Option Nat) (x6 : Int32) (x7 : Option Nat) (x9 : Option Nat) (x10 : Option Nat) (x11 : Option Nat) (x12 : Option Nat) (x14 : Int32) (x15 : Int32) (t0 : Int32) (h : tpH), w_Lw_orders_215 R x0 x1 x2 x3 x4 x5 x6 x7 x9 x10 x11 x12 x14 x15 t0 h → tpR Lw_orders 3 h0 av (tpOi R (fun _ _ => False)) 215 [some (vR x0), some (vR x1), some (vR x2), some (vR x3), some (vR x4), some (vR x5), some (vI x6), some (vR x7), none, some (vR x9), some (vR x10), some (vR x11), some (vR x12), none, some (vI x14), some (vI x15), none, none, none, none, none, none, none, none] [vI t0] h := by
  intro x0 x1 x2 x3 x4 x5 x6 x7 x9 x10 x11 x12 x14 x15 t0 h hw
  unfold w_Lw_orders_215 at hw
  refine tq_istore (ls' := [some (vR x0), some (vR x1), some (vR x2), some (vR x3), some (vR x4), some (vR x5), some (vI x6), some (vR x7), none, some (vR x9), some (vR x10), some (vR x11), some (vR x12), none, some (vI x14), some (vI x15), none, none, some (vI t0), none, none, none, none, none]) dLw_orders_215 (Nat.le_of_ble_eq_true rfl) rfl ?_
  refine tq_aload_n dLw_orders_217 rfl rfl ?_
  refine tq_aload dLw_orders_218 rfl ?_
  refine tq_iload dLw_orders_220 rfl ?_
  refine tq_aload dLw_orders_222 rfl ?_
  refine tq_iload dLw_orders_224 rfl ?_
  refine tq_aload dLw_orders_226 rfl ?_
  refine tq_callS ms_Lw_shares (dc := 2) (as := [vR x0, vR x4, vI x6, vR x9, vI x14, vR x12]) (rest := []) kLw_109 (Nat.le_of_ble_eq_true rfl) (Nat.le_of_ble_eq_true rfl) rfl rfl (Nat.le_of_ble_eq_true rfl) dLw_orders_228 (s_Lw_shares hw) (fun _ _ hx => False.elim hx) (tk_i fun v2 h1 hw => ?_)
  refine tq_istore (ls' := [some (vR x0), some (vR x1), some (vR x2), some (vR x3), some (vR x4), some (vR x5), some (vI x6), some (vR x7), none, some (vR x9), some (vR x10), some (vR x11), some (vR x12), none, some (vI x14), some (vI x15), none, none, some (vI t0), some (vI v2), none, none, none, none]) dLw_orders_231 (Nat.le_of_ble_eq_true rfl) rfl ?_
  refine tq_aload dLw_orders_233 rfl ?_
  refine tq_iconst (v := (0 : Int32)) dLw_orders_235 tni_0 ?_
  refine tq_iconst (v := (0 : Int32)) dLw_orders_236 tni_0 ?_
  obtain ⟨a3, e4, f5, hw⟩ := hw
  obtain ⟨f6, hw⟩ := hw
  refine te_iast dLw_orders_237 e4 f5 f6 (fun h7 e8 => ?_)
  have hw := hw h7 e8
  refine tq_iload dLw_orders_238 rfl ?_
  refine tq_ifeq (tgt := 250) dLw_orders_240 (by decide) (fun c9 => ?_) (fun c9 => ?_)
  · have hw := hw.1 c9
    refine tq_iload dLw_orders_250 rfl ?_
    refine tq_ifeq (tgt := 259) dLw_orders_252 (by decide) (fun c10 => ?_) (fun c10 => ?_)
    · have hw := hw.1 c10
      refine tq_iconst (v := (2 : Int32)) dLw_orders_259 tni_2 ?_
      refine tq_istore (ls' := [some (vR x0), some (vR x1), some (vR x2), some (vR x3), some (vR x4), some (vR x5), some (vI x6), some (vR x7), none, some (vR x9), some (vR x10), some (vR x11), some (vR x12), none, some (vI x14), some (vI x15), none, none, some (vI t0), some (vI v2), some (vI (2 : Int32)), none, none, none]) dLw_orders_260 (Nat.le_of_ble_eq_true rfl) rfl ?_
      refine tq_iconst (v := (1 : Int32)) dLw_orders_262 tni_1 ?_
      refine tq_istore (ls' := [some (vR x0), some (vR x1), some (vR x2), some (vR x3), some (vR x4), some (vR x5), some (vI x6), some (vR x7), none, some (vR x9), some (vR x10), some (vR x11), some (vR x12), none, some (vI x14), some (vI x15), none, none, some (vI t0), some (vI v2), some (vI (2 : Int32)), some (vI (1 : Int32)), none, none]) dLw_orders_263 (Nat.le_of_ble_eq_true rfl) rfl ?_
      refine tpR.fo (ls' := [some (vR x0), some (vR x1), some (vR x2), some (vR x3), some (vR x4), none, some (vI x6), some (vR x7), none, some (vR x9), some (vR x10), some (vR x11), some (vR x12), none, some (vI x14), none, none, none, some (vI t0), none, some (vI (2 : Int32)), some (vI (1 : Int32)), none, none]) ?_ (And.intro rfl (And.intro rfl (And.intro rfl (And.intro rfl (And.intro rfl (And.intro rfl (And.intro rfl (And.intro rfl (And.intro rfl (And.intro rfl (And.intro rfl (And.intro rfl (And.intro rfl (And.intro rfl (And.intro rfl trivial)))))))))))))))
      obtain ⟨n, hw⟩ := hw
      exact s_Lw_orders_265 n _ _ _ _ _ _ _ _ _ _ _ _ _ _ _ _ hw
    · have hw := hw.2 c10
      refine tq_iconst (v := (1 : Int32)) dLw_orders_255 tni_1 ?_
      refine tq_goto (tgt := 260) dLw_orders_256 (by decide) ?_
      refine tq_istore (ls' := [some (vR x0), some (vR x1), some (vR x2), some (vR x3), some (vR x4), some (vR x5), some (vI x6), some (vR x7), none, some (vR x9), some (vR x10), some (vR x11), some (vR x12), none, some (vI x14), some (vI x15), none, none, some (vI t0), some (vI v2), some (vI (1 : Int32)), none, none, none]) dLw_orders_260 (Nat.le_of_ble_eq_true rfl) rfl ?_
      refine tq_iconst (v := (1 : Int32)) dLw_orders_262 tni_1 ?_
      refine tq_istore (ls' := [some (vR x0), some (vR x1), some (vR x2), some (vR x3), some (vR x4), some (vR x5), some (vI x6), some (vR x7), none, some (vR x9), some (vR x10), some (vR x11), some (vR x12), none, some (vI x14), some (vI x15), none, none, some (vI t0), some (vI v2), some (vI (1 : Int32)), some (vI (1 : Int32)), none, none]) dLw_orders_263 (Nat.le_of_ble_eq_true rfl) rfl ?_
      refine tpR.fo (ls' := [some (vR x0), some (vR x1), some (vR x2), some (vR x3), some (vR x4), none, some (vI x6), some (vR x7), none, some (vR x9), some (vR x10), some (vR x11), some (vR x12), none, some (vI x14), none, none, none, some (vI t0), none, some (vI (1 : Int32)), some (vI (1 : Int32)), none, none]) ?_ (And.intro rfl (And.intro rfl (And.intro rfl (And.intro rfl (And.intro rfl (And.intro rfl (And.intro rfl (And.intro rfl (And.intro rfl (And.intro rfl (And.intro rfl (And.intro rfl (And.intro rfl (And.intro rfl (And.intro rfl trivial)))))))))))))))
      obtain ⟨n, hw⟩ := hw
      exact s_Lw_orders_265 n _ _ _ _ _ _ _ _ _ _ _ _ _ _ _ _ hw
  · have hw := hw.2 c9
    refine tq_aload dLw_orders_243 rfl ?_
    refine tq_iconst (v := (5 : Int32)) dLw_orders_245 tni_5 ?_
    obtain ⟨a11, e12, f13, hw⟩ := hw
    obtain ⟨f14, hw⟩ := hw
    refine te_iald dLw_orders_246 e12 (Or.inl f13) f14 ?_
    refine tq_goto (tgt := 260) dLw_orders_247 (by decide) ?_
    refine tq_istore (ls' := [some (vR x0), some (vR x1), some (vR x2), some (vR x3), some (vR x4), some (vR x5), some (vI x6), some (vR x7), none, some (vR x9), some (vR x10), some (vR x11), some (vR x12), none, some (vI x14), some (vI x15), none, none, some (vI t0), some (vI v2), some (vI (hI h7 a11 (5 : Int32).toNatClampNeg)), none, none, none]) dLw_orders_260 (Nat.le_of_ble_eq_true rfl) rfl ?_
    refine tq_iconst (v := (1 : Int32)) dLw_orders_262 tni_1 ?_
    refine tq_istore (ls' := [some (vR x0), some (vR x1), some (vR x2), some (vR x3), some (vR x4), some (vR x5), some (vI x6), some (vR x7), none, some (vR x9), some (vR x10), some (vR x11), some (vR x12), none, some (vI x14), some (vI x15), none, none, some (vI t0), some (vI v2), some (vI (hI h7 a11 (5 : Int32).toNatClampNeg)), some (vI (1 : Int32)), none, none]) dLw_orders_263 (Nat.le_of_ble_eq_true rfl) rfl ?_
    refine tpR.fo (ls' := [some (vR x0), some (vR x1), some (vR x2), some (vR x3), some (vR x4), none, some (vI x6), some (vR x7), none, some (vR x9), some (vR x10), some (vR x11), some (vR x12), none, some (vI x14), none, none, none, some (vI t0), none, some (vI (hI h7 a11 (5 : Int32).toNatClampNeg)), some (vI (1 : Int32)), none, none]) ?_ (And.intro rfl (And.intro rfl (And.intro rfl (And.intro rfl (And.intro rfl (And.intro rfl (And.intro rfl (And.intro rfl (And.intro rfl (And.intro rfl (And.intro rfl (And.intro rfl (And.intro rfl (And.intro rfl (And.intro rfl trivial)))))))))))))))
    obtain ⟨n, hw⟩ := hw
    exact s_Lw_orders_265 n _ _ _ _ _ _ _ _ _ _ _ _ _ _ _ _ hw
theorem s_Lw_orders_139 {h0 : tpH} {av : List tpV} {R : Int32 → tpH → Prop} : ∀ (n : Nat) (x0 : Option Nat) (x1 : Option Nat) (x2 : Option Nat) (x3 : Option Nat) (x4 : Option Nat) (x5 : Option Nat) (x6 : Int32) (x7 : Option Nat) (x9 : Option Nat) (x10 : Option Nat) (x11 : Option Nat) (x12 : Option Nat) (x14 : Int32) (x15 : Int32) (x16 : Int32) (x17 : Int32) (x18 : Int32) (h : tpH), w_Lw_orders_139 R n x0 x1 x2 x3 x4 x5 x6 x7 x9 x10 x11 x12 x14 x15 x16 x17 x18 h → tpR Lw_orders 3 h0 av (tpOi R (fun _ _ => False)) 139 [some (vR x0), some (vR x1), some (vR x2), some (vR x3), some (vR x4), some (vR x5), some (vI x6), some (vR x7), none, some (vR x9), some (vR x10), some (vR x11), some (vR x12), none, some (vI x14), some (vI x15), some (vI x16), some (vI x17), some (vI x18), none, none, none, none, none] [] h := by
  intro n
  induction n with
  | zero => intro x0 x1 x2 x3 x4 x5 x6 x7 x9 x10 x11 x12 x14 x15 x16 x17 x18 h hw; exact False.elim hw
  | succ n ih =>
    intro x0 x1 x2 x3 x4 x5 x6 x7 x9 x10 x11 x12 x14 x15 x16 x17 x18 h hw
    change b_Lw_orders_139 R (w_Lw_orders_139 R n) x0 x1 x2 x3 x4 x5 x6 x7 x9 x10 x11 x12 x14 x15 x16 x17 x18 h at hw
    unfold b_Lw_orders_139 at hw
    refine tq_iload dLw_orders_139 rfl ?_
    refine tq_bipush (v := (40 : Int32)) dLw_orders_141 tnb_40 ?_
    refine tq_icmpge (tgt := 195) dLw_orders_143 (by decide) (fun c1 => ?_) (fun c1 => ?_)
    · have hw := hw.1 c1
      refine tq_iload dLw_orders_195 rfl ?_
      refine tq_ifeq (tgt := 214) dLw_orders_197 (by decide) (fun c2 => ?_) (fun c2 => ?_)
      · have hw := hw.1 c2
        refine tq_iconst (v := (0 : Int32)) dLw_orders_214 tni_0 ?_
        refine tpR.fo (ls' := [some (vR x0), some (vR x1), some (vR x2), some (vR x3), some (vR x4), some (vR x5), some (vI x6), some (vR x7), none, some (vR x9), some (vR x10), some (vR x11), some (vR x12), none, some (vI x14), some (vI x15), none, none, none, none, none, none, none, none]) ?_ (And.intro rfl (And.intro rfl (And.intro rfl (And.intro rfl (And.intro rfl (And.intro rfl (And.intro rfl (And.intro rfl (And.intro rfl (And.intro rfl (And.intro rfl (And.intro rfl (And.intro rfl (And.intro rfl trivial))))))))))))))
        exact s_Lw_orders_215 _ _ _ _ _ _ _ _ _ _ _ _ _ _ _ _ hw
      · have hw := hw.2 c2
        refine tq_iload dLw_orders_200 rfl ?_
        refine tq_ifeq (tgt := 214) dLw_orders_202 (by decide) (fun c3 => ?_) (fun c3 => ?_)
        · have hw := hw.1 c3
          refine tq_iconst (v := (0 : Int32)) dLw_orders_214 tni_0 ?_
          refine tpR.fo (ls' := [some (vR x0), some (vR x1), some (vR x2), some (vR x3), some (vR x4), some (vR x5), some (vI x6), some (vR x7), none, some (vR x9), some (vR x10), some (vR x11), some (vR x12), none, some (vI x14), some (vI x15), none, none, none, none, none, none, none, none]) ?_ (And.intro rfl (And.intro rfl (And.intro rfl (And.intro rfl (And.intro rfl (And.intro rfl (And.intro rfl (And.intro rfl (And.intro rfl (And.intro rfl (And.intro rfl (And.intro rfl (And.intro rfl (And.intro rfl trivial))))))))))))))
          exact s_Lw_orders_215 _ _ _ _ _ _ _ _ _ _ _ _ _ _ _ _ hw
        · have hw := hw.2 c3
          refine tq_iload dLw_orders_205 rfl ?_
          refine tq_ifne (tgt := 214) dLw_orders_207 (by decide) (fun c4 => ?_) (fun c4 => ?_)
          · have hw := hw.1 c4
            refine tq_iconst (v := (0 : Int32)) dLw_orders_214 tni_0 ?_
            refine tpR.fo (ls' := [some (vR x0), some (vR x1), some (vR x2), some (vR x3), some (vR x4), some (vR x5), some (vI x6), some (vR x7), none, some (vR x9), some (vR x10), some (vR x11), some (vR x12), none, some (vI x14), some (vI x15), none, none, none, none, none, none, none, none]) ?_ (And.intro rfl (And.intro rfl (And.intro rfl (And.intro rfl (And.intro rfl (And.intro rfl (And.intro rfl (And.intro rfl (And.intro rfl (And.intro rfl (And.intro rfl (And.intro rfl (And.intro rfl (And.intro rfl trivial))))))))))))))
            exact s_Lw_orders_215 _ _ _ _ _ _ _ _ _ _ _ _ _ _ _ _ hw
          · have hw := hw.2 c4
            refine tq_iconst (v := (1 : Int32)) dLw_orders_210 tni_1 ?_
            refine tq_goto (tgt := 215) dLw_orders_211 (by decide) ?_
            refine tpR.fo (ls' := [some (vR x0), some (vR x1), some (vR x2), some (vR x3), some (vR x4), some (vR x5), some (vI x6), some (vR x7), none, some (vR x9), some (vR x10), some (vR x11), some (vR x12), none, some (vI x14), some (vI x15), none, none, none, none, none, none, none, none]) ?_ (And.intro rfl (And.intro rfl (And.intro rfl (And.intro rfl (And.intro rfl (And.intro rfl (And.intro rfl (And.intro rfl (And.intro rfl (And.intro rfl (And.intro rfl (And.intro rfl (And.intro rfl (And.intro rfl trivial))))))))))))))
            exact s_Lw_orders_215 _ _ _ _ _ _ _ _ _ _ _ _ _ _ _ _ hw
    · have hw := hw.2 c1
      refine tq_iload dLw_orders_146 rfl ?_
      refine tq_ifeq (tgt := 186) dLw_orders_148 (by decide) (fun c5 => ?_) (fun c5 => ?_)
      · have hw := hw.1 c5
        refine tq_iconst (v := (0 : Int32)) dLw_orders_186 tni_0 ?_
        refine tq_istore (ls' := [some (vR x0), some (vR x1), some (vR x2), some (vR x3), some (vR x4), some (vR x5), some (vI x6), some (vR x7), none, some (vR x9), some (vR x10), some (vR x11), some (vR x12), none, some (vI x14), some (vI x15), some (vI x16), some (vI (0 : Int32)), some (vI x18), none, none, none, none, none]) dLw_orders_187 (Nat.le_of_ble_eq_true rfl) rfl ?_
        refine tq_inc (k := (1 : Int32)) (ls' := [some (vR x0), some (vR x1), some (vR x2), some (vR x3), some (vR x4), some (vR x5), some (vI x6), some (vR x7), none, some (vR x9), some (vR x10), some (vR x11), some (vR x12), none, some (vI x14), some (vI x15), some (vI x16), some (vI (0 : Int32)), some (vI (x18 + (1 : Int32))), none, none, none, none, none]) dLw_orders_189 rfl tni_1 (Nat.le_of_ble_eq_true rfl) rfl ?_
        refine tq_goto (tgt := 139) dLw_orders_192 (by decide) ?_
        refine tpR.fo (ls' := [some (vR x0), some (vR x1), some (vR x2), some (vR x3), some (vR x4), some (vR x5), some (vI x6), some (vR x7), none, some (vR x9), some (vR x10), some (vR x11), some (vR x12), none, some (vI x14), some (vI x15), some (vI x16), some (vI (0 : Int32)), some (vI (x18 + (1 : Int32))), none, none, none, none, none]) ?_ (And.intro rfl (And.intro rfl (And.intro rfl (And.intro rfl (And.intro rfl (And.intro rfl (And.intro rfl (And.intro rfl (And.intro rfl (And.intro rfl (And.intro rfl (And.intro rfl (And.intro rfl (And.intro rfl (And.intro rfl (And.intro rfl (And.intro rfl trivial)))))))))))))))))
        exact ih _ _ _ _ _ _ _ _ _ _ _ _ _ _ _ _ _ _ hw
      · have hw := hw.2 c5
        refine tq_iload dLw_orders_151 rfl ?_
        refine tq_aload dLw_orders_153 rfl ?_
        refine tq_iconst (v := (0 : Int32)) dLw_orders_155 tni_0 ?_
        obtain ⟨a6, e7, f8, hw⟩ := hw
        obtain ⟨f9, hw⟩ := hw
        refine te_iald dLw_orders_156 e7 (Or.inl f8) f9 ?_
        refine tq_icmple (tgt := 169) dLw_orders_157 (by decide) (fun c10 => ?_) (fun c10 => ?_)
        · have hw := hw.1 c10
          refine tpR.fo (ls' := [some (vR x0), some (vR x1), some (vR x2), some (vR x3), some (vR x4), some (vR x5), some (vI x6), some (vR x7), none, some (vR x9), some (vR x10), some (vR x11), some (vR x12), none, some (vI x14), some (vI x15), some (vI x16), none, some (vI x18), none, none, none, none, none]) ?_ (And.intro rfl (And.intro rfl (And.intro rfl (And.intro rfl (And.intro rfl (And.intro rfl (And.intro rfl (And.intro rfl (And.intro rfl (And.intro rfl (And.intro rfl (And.intro rfl (And.intro rfl (And.intro rfl (And.intro rfl (And.intro rfl trivial))))))))))))))))
          exact s_Lw_orders_169 ih _ _ _ _ _ _ _ _ _ _ _ _ _ _ _ _ _ hw
        · have hw := hw.2 c10
          refine tq_iload dLw_orders_160 rfl ?_
          refine tq_aload dLw_orders_162 rfl ?_
          refine tq_iconst (v := (0 : Int32)) dLw_orders_164 tni_0 ?_
          obtain ⟨a11, e12, f13, hw⟩ := hw
          obtain ⟨f14, hw⟩ := hw
          refine te_iald dLw_orders_165 e12 (Or.inl f13) f14 ?_
          refine tq_icmpgt (tgt := 182) dLw_orders_166 (by decide) (fun c15 => ?_) (fun c15 => ?_)
          · have hw := hw.1 c15
            refine tq_iconst (v := (1 : Int32)) dLw_orders_182 tni_1 ?_
            refine tq_goto (tgt := 187) dLw_orders_183 (by decide) ?_
            refine tq_istore (ls' := [some (vR x0), some (vR x1), some (vR x2), some (vR x3), some (vR x4), some (vR x5), some (vI x6), some (vR x7), none, some (vR x9), some (vR x10), some (vR x11), some (vR x12), none, some (vI x14), some (vI x15), some (vI x16), some (vI (1 : Int32)), some (vI x18), none, none, none, none, none]) dLw_orders_187 (Nat.le_of_ble_eq_true rfl) rfl ?_
            refine tq_inc (k := (1 : Int32)) (ls' := [some (vR x0), some (vR x1), some (vR x2), some (vR x3), some (vR x4), some (vR x5), some (vI x6), some (vR x7), none, some (vR x9), some (vR x10), some (vR x11), some (vR x12), none, some (vI x14), some (vI x15), some (vI x16), some (vI (1 : Int32)), some (vI (x18 + (1 : Int32))), none, none, none, none, none]) dLw_orders_189 rfl tni_1 (Nat.le_of_ble_eq_true rfl) rfl ?_
            refine tq_goto (tgt := 139) dLw_orders_192 (by decide) ?_
            refine tpR.fo (ls' := [some (vR x0), some (vR x1), some (vR x2), some (vR x3), some (vR x4), some (vR x5), some (vI x6), some (vR x7), none, some (vR x9), some (vR x10), some (vR x11), some (vR x12), none, some (vI x14), some (vI x15), some (vI x16), some (vI (1 : Int32)), some (vI (x18 + (1 : Int32))), none, none, none, none, none]) ?_ (And.intro rfl (And.intro rfl (And.intro rfl (And.intro rfl (And.intro rfl (And.intro rfl (And.intro rfl (And.intro rfl (And.intro rfl (And.intro rfl (And.intro rfl (And.intro rfl (And.intro rfl (And.intro rfl (And.intro rfl (And.intro rfl (And.intro rfl trivial)))))))))))))))))
            exact ih _ _ _ _ _ _ _ _ _ _ _ _ _ _ _ _ _ _ hw
          · have hw := hw.2 c15
            refine tpR.fo (ls' := [some (vR x0), some (vR x1), some (vR x2), some (vR x3), some (vR x4), some (vR x5), some (vI x6), some (vR x7), none, some (vR x9), some (vR x10), some (vR x11), some (vR x12), none, some (vI x14), some (vI x15), some (vI x16), none, some (vI x18), none, none, none, none, none]) ?_ (And.intro rfl (And.intro rfl (And.intro rfl (And.intro rfl (And.intro rfl (And.intro rfl (And.intro rfl (And.intro rfl (And.intro rfl (And.intro rfl (And.intro rfl (And.intro rfl (And.intro rfl (And.intro rfl (And.intro rfl (And.intro rfl trivial))))))))))))))))
            exact s_Lw_orders_169 ih _ _ _ _ _ _ _ _ _ _ _ _ _ _ _ _ _ hw
theorem s_Lw_orders_61 {h0 : tpH} {av : List tpV} {R : Int32 → tpH → Prop} : ∀ (n : Nat) (x0 : Option Nat) (x1 : Option Nat) (x2 : Option Nat) (x3 : Option Nat) (x4 : Option Nat) (x5 : Option Nat) (x6 : Int32) (x7 : Option Nat) (x8 : Option Nat) (x9 : Option Nat) (x10 : Option Nat) (x11 : Option Nat) (x12 : Option Nat) (x13 : Int32) (x14 : Int32) (x15 : Int32) (h : tpH), w_Lw_orders_61 R n x0 x1 x2 x3 x4 x5 x6 x7 x8 x9 x10 x11 x12 x13 x14 x15 h → tpR Lw_orders 3 h0 av (tpOi R (fun _ _ => False)) 61 [some (vR x0), some (vR x1), some (vR x2), some (vR x3), some (vR x4), some (vR x5), some (vI x6), some (vR x7), some (vR x8), some (vR x9), some (vR x10), some (vR x11), some (vR x12), some (vI x13), some (vI x14), some (vI x15), none, none, none, none, none, none, none, none] [] h := by
  intro n
  induction n with
  | zero => intro x0 x1 x2 x3 x4 x5 x6 x7 x8 x9 x10 x11 x12 x13 x14 x15 h hw; exact False.elim hw
  | succ n ih =>
    intro x0 x1 x2 x3 x4 x5 x6 x7 x8 x9 x10 x11 x12 x13 x14 x15 h hw
    change b_Lw_orders_61 R (w_Lw_orders_61 R n) x0 x1 x2 x3 x4 x5 x6 x7 x8 x9 x10 x11 x12 x13 x14 x15 h at hw
    unfold b_Lw_orders_61 at hw
    refine tq_iload dLw_orders_61 rfl ?_
    refine tq_iload dLw_orders_63 rfl ?_
    refine tq_icmpge (tgt := 101) dLw_orders_65 (by decide) (fun c1 => ?_) (fun c1 => ?_)
    · have hw := hw.1 c1
      refine tq_aload_n dLw_orders_101 rfl rfl ?_
      refine tq_aload dLw_orders_102 rfl ?_
      refine tq_iload dLw_orders_104 rfl ?_
      refine tq_aload dLw_orders_106 rfl ?_
      refine tq_iload dLw_orders_108 rfl ?_
      refine tq_aload dLw_orders_110 rfl ?_
      refine tq_callS ms_Lw_shares (dc := 2) (as := [vR x1, vR x4, vI x6, vR x9, vI x14, vR x10]) (rest := []) kLw_109 (Nat.le_of_ble_eq_true rfl) (Nat.le_of_ble_eq_true rfl) rfl rfl (Nat.le_of_ble_eq_true rfl) dLw_orders_112 (s_Lw_shares hw) (fun _ _ hx => False.elim hx) (tk_i fun v3 h2 hw => ?_)
      refine tq_istore (ls' := [some (vR x0), some (vR x1), some (vR x2), some (vR x3), some (vR x4), some (vR x5), some (vI x6), some (vR x7), some (vR x8), some (vR x9), some (vR x10), some (vR x11), some (vR x12), some (vI x13), some (vI x14), some (vI v3), none, none, none, none, none, none, none, none]) dLw_orders_115 (Nat.le_of_ble_eq_true rfl) rfl ?_
      refine tq_aload_n dLw_orders_117 rfl rfl ?_
      refine tq_aload dLw_orders_118 rfl ?_
      refine tq_iload dLw_orders_120 rfl ?_
      refine tq_aload dLw_orders_122 rfl ?_
      refine tq_iload dLw_orders_124 rfl ?_
      refine tq_aload dLw_orders_126 rfl ?_
      refine tq_callS ms_Lw_shares (dc := 2) (as := [vR x2, vR x4, vI x6, vR x9, vI x14, vR x11]) (rest := []) kLw_109 (Nat.le_of_ble_eq_true rfl) (Nat.le_of_ble_eq_true rfl) rfl rfl (Nat.le_of_ble_eq_true rfl) dLw_orders_128 (s_Lw_shares hw) (fun _ _ hx => False.elim hx) (tk_i fun v5 h4 hw => ?_)
      refine tq_istore (ls' := [some (vR x0), some (vR x1), some (vR x2), some (vR x3), some (vR x4), some (vR x5), some (vI x6), some (vR x7), some (vR x8), some (vR x9), some (vR x10), some (vR x11), some (vR x12), some (vI x13), some (vI x14), some (vI v3), some (vI v5), none, none, none, none, none, none, none]) dLw_orders_131 (Nat.le_of_ble_eq_true rfl) rfl ?_
      refine tq_iconst (v := (1 : Int32)) dLw_orders_133 tni_1 ?_
      refine tq_istore (ls' := [some (vR x0), some (vR x1), some (vR x2), some (vR x3), some (vR x4), some (vR x5), some (vI x6), some (vR x7), some (vR x8), some (vR x9), some (vR x10), some (vR x11), some (vR x12), some (vI x13), some (vI x14), some (vI v3), some (vI v5), some (vI (1 : Int32)), none, none, none, none, none, none]) dLw_orders_134 (Nat.le_of_ble_eq_true rfl) rfl ?_
      refine tq_iconst (v := (0 : Int32)) dLw_orders_136 tni_0 ?_
      refine tq_istore (ls' := [some (vR x0), some (vR x1), some (vR x2), some (vR x3), some (vR x4), some (vR x5), some (vI x6), some (vR x7), some (vR x8), some (vR x9), some (vR x10), some (vR x11), some (vR x12), some (vI x13), some (vI x14), some (vI v3), some (vI v5), some (vI (1 : Int32)), some (vI (0 : Int32)), none, none, none, none, none]) dLw_orders_137 (Nat.le_of_ble_eq_true rfl) rfl ?_
      refine tpR.fo (ls' := [some (vR x0), some (vR x1), some (vR x2), some (vR x3), some (vR x4), some (vR x5), some (vI x6), some (vR x7), none, some (vR x9), some (vR x10), some (vR x11), some (vR x12), none, some (vI x14), some (vI v3), some (vI v5), some (vI (1 : Int32)), some (vI (0 : Int32)), none, none, none, none, none]) ?_ (And.intro rfl (And.intro rfl (And.intro rfl (And.intro rfl (And.intro rfl (And.intro rfl (And.intro rfl (And.intro rfl (And.intro rfl (And.intro rfl (And.intro rfl (And.intro rfl (And.intro rfl (And.intro rfl (And.intro rfl (And.intro rfl (And.intro rfl trivial)))))))))))))))))
      obtain ⟨n, hw⟩ := hw
      exact s_Lw_orders_139 n _ _ _ _ _ _ _ _ _ _ _ _ _ _ _ _ _ _ hw
    · have hw := hw.2 c1
      refine tq_aload_n dLw_orders_68 rfl rfl ?_
      refine tq_aload dLw_orders_69 rfl ?_
      refine tq_iload dLw_orders_71 rfl ?_
      obtain ⟨a6, e7, f8, hw⟩ := hw
      obtain ⟨f9, hw⟩ := hw
      refine te_iald dLw_orders_73 e7 (Or.inl f8) f9 ?_
      refine tq_callS ms_Lw_parentOf (dc := 2) (as := [vR x3, vI (hI h a6 x15.toNatClampNeg)]) (rest := []) kLw_40 (Nat.le_of_ble_eq_true rfl) (Nat.le_of_ble_eq_true rfl) rfl rfl (Nat.le_of_ble_eq_true rfl) dLw_orders_74 (s_Lw_parentOf hw) (fun _ _ hx => False.elim hx) (tk_i fun v11 h10 hw => ?_)
      refine tq_iload dLw_orders_77 rfl ?_
      refine tq_icmpne (tgt := 95) dLw_orders_79 (by decide) (fun c12 => ?_) (fun c12 => ?_)
      · have hw := hw.1 c12
        refine tq_inc (k := (1 : Int32)) (ls' := [some (vR x0), some (vR x1), some (vR x2), some (vR x3), some (vR x4), some (vR x5), some (vI x6), some (vR x7), some (vR x8), some (vR x9), some (vR x10), some (vR x11), some (vR x12), some (vI x13), some (vI x14), some (vI (x15 + (1 : Int32))), none, none, none, none, none, none, none, none]) dLw_orders_95 rfl tni_1 (Nat.le_of_ble_eq_true rfl) rfl ?_
        refine tq_goto (tgt := 61) dLw_orders_98 (by decide) ?_
        refine tpR.fo (ls' := [some (vR x0), some (vR x1), some (vR x2), some (vR x3), some (vR x4), some (vR x5), some (vI x6), some (vR x7), some (vR x8), some (vR x9), some (vR x10), some (vR x11), some (vR x12), some (vI x13), some (vI x14), some (vI (x15 + (1 : Int32))), none, none, none, none, none, none, none, none]) ?_ (And.intro rfl (And.intro rfl (And.intro rfl (And.intro rfl (And.intro rfl (And.intro rfl (And.intro rfl (And.intro rfl (And.intro rfl (And.intro rfl (And.intro rfl (And.intro rfl (And.intro rfl (And.intro rfl (And.intro rfl (And.intro rfl trivial))))))))))))))))
        exact ih _ _ _ _ _ _ _ _ _ _ _ _ _ _ _ _ _ hw
      · have hw := hw.2 c12
        refine tq_aload dLw_orders_82 rfl ?_
        refine tq_iload dLw_orders_84 rfl ?_
        refine tq_aload dLw_orders_86 rfl ?_
        refine tq_iload dLw_orders_88 rfl ?_
        obtain ⟨f13, hw⟩ := hw
        obtain ⟨f14, hw⟩ := hw
        refine te_iald dLw_orders_90 e7 (Or.inl f13) f14 ?_
        obtain ⟨a15, e16, f17, hw⟩ := hw
        obtain ⟨f18, hw⟩ := hw
        refine te_iast dLw_orders_91 e16 f17 f18 (fun h19 e20 => ?_)
        have hw := hw h19 e20
        refine tq_inc (k := (1 : Int32)) (ls' := [some (vR x0), some (vR x1), some (vR x2), some (vR x3), some (vR x4), some (vR x5), some (vI x6), some (vR x7), some (vR x8), some (vR x9), some (vR x10), some (vR x11), some (vR x12), some (vI x13), some (vI (x14 + (1 : Int32))), some (vI x15), none, none, none, none, none, none, none, none]) dLw_orders_92 rfl tni_1 (Nat.le_of_ble_eq_true rfl) rfl ?_
        refine tq_inc (k := (1 : Int32)) (ls' := [some (vR x0), some (vR x1), some (vR x2), some (vR x3), some (vR x4), some (vR x5), some (vI x6), some (vR x7), some (vR x8), some (vR x9), some (vR x10), some (vR x11), some (vR x12), some (vI x13), some (vI (x14 + (1 : Int32))), some (vI (x15 + (1 : Int32))), none, none, none, none, none, none, none, none]) dLw_orders_95 rfl tni_1 (Nat.le_of_ble_eq_true rfl) rfl ?_
        refine tq_goto (tgt := 61) dLw_orders_98 (by decide) ?_
        refine tpR.fo (ls' := [some (vR x0), some (vR x1), some (vR x2), some (vR x3), some (vR x4), some (vR x5), some (vI x6), some (vR x7), some (vR x8), some (vR x9), some (vR x10), some (vR x11), some (vR x12), some (vI x13), some (vI (x14 + (1 : Int32))), some (vI (x15 + (1 : Int32))), none, none, none, none, none, none, none, none]) ?_ (And.intro rfl (And.intro rfl (And.intro rfl (And.intro rfl (And.intro rfl (And.intro rfl (And.intro rfl (And.intro rfl (And.intro rfl (And.intro rfl (And.intro rfl (And.intro rfl (And.intro rfl (And.intro rfl (And.intro rfl (And.intro rfl trivial))))))))))))))))
        exact ih _ _ _ _ _ _ _ _ _ _ _ _ _ _ _ _ _ hw
theorem s_Lw_orders {x0 : Option Nat} {x1 : Option Nat} {x2 : Option Nat} {x3 : Option Nat} {x4 : Option Nat} {x5 : Option Nat} {x6 : Int32} {x7 : Option Nat} {h : tpH} {R : Int32 → tpH → Prop} (hw : w_Lw_orders x0 x1 x2 x3 x4 x5 x6 x7 h R) : tpC Lw_orders 3 [vR x0, vR x1, vR x2, vR x3, vR x4, vR x5, vI x6, vR x7] h (tpOi R (fun _ _ => False)) := by
  refine tpC_of ms_Lw_orders.2.2.2.1 rfl rfl (Nat.le_of_ble_eq_true rfl) ?_
  show tpR Lw_orders 3 h _ _ 0 [some (vR x0), some (vR x1), some (vR x2), some (vR x3), some (vR x4), some (vR x5), some (vI x6), some (vR x7), none, none, none, none, none, none, none, none, none, none, none, none, none, none, none, none] [] h
  unfold w_Lw_orders at hw
  refine tq_bipush (v := (40 : Int32)) dLw_orders_0 tnb_40 ?_
  refine tq_newa tpN_int (N := 40) dLw_orders_2 (by decide) (by decide) (Nat.le_of_ble_eq_true rfl) (fun a1 h2 e3 e4 => ?_)
  have hw := hw a1 h2 e3 e4
  refine tq_astore (ls' := [some (vR x0), some (vR x1), some (vR x2), some (vR x3), some (vR x4), some (vR x5), some (vI x6), some (vR x7), some (vR (some a1)), none, none, none, none, none, none, none, none, none, none, none, none, none, none, none]) dLw_orders_4 (Nat.le_of_ble_eq_true rfl) rfl ?_
  refine tq_bipush (v := (40 : Int32)) dLw_orders_6 tnb_40 ?_
  refine tq_newa tpN_int (N := 40) dLw_orders_8 (by decide) (by decide) (Nat.le_of_ble_eq_true rfl) (fun a5 h6 e7 e8 => ?_)
  have hw := hw a5 h6 e7 e8
  refine tq_astore (ls' := [some (vR x0), some (vR x1), some (vR x2), some (vR x3), some (vR x4), some (vR x5), some (vI x6), some (vR x7), some (vR (some a1)), some (vR (some a5)), none, none, none, none, none, none, none, none, none, none, none, none, none, none]) dLw_orders_10 (Nat.le_of_ble_eq_true rfl) rfl ?_
  refine tq_bipush (v := (41 : Int32)) dLw_orders_12 tnb_41 ?_
  refine tq_newa tpN_int (N := 41) dLw_orders_14 (by decide) (by decide) (Nat.le_of_ble_eq_true rfl) (fun a9 h10 e11 e12 => ?_)
  have hw := hw a9 h10 e11 e12
  refine tq_astore (ls' := [some (vR x0), some (vR x1), some (vR x2), some (vR x3), some (vR x4), some (vR x5), some (vI x6), some (vR x7), some (vR (some a1)), some (vR (some a5)), some (vR (some a9)), none, none, none, none, none, none, none, none, none, none, none, none, none]) dLw_orders_16 (Nat.le_of_ble_eq_true rfl) rfl ?_
  refine tq_bipush (v := (41 : Int32)) dLw_orders_18 tnb_41 ?_
  refine tq_newa tpN_int (N := 41) dLw_orders_20 (by decide) (by decide) (Nat.le_of_ble_eq_true rfl) (fun a13 h14 e15 e16 => ?_)
  have hw := hw a13 h14 e15 e16
  refine tq_astore (ls' := [some (vR x0), some (vR x1), some (vR x2), some (vR x3), some (vR x4), some (vR x5), some (vI x6), some (vR x7), some (vR (some a1)), some (vR (some a5)), some (vR (some a9)), some (vR (some a13)), none, none, none, none, none, none, none, none, none, none, none, none]) dLw_orders_22 (Nat.le_of_ble_eq_true rfl) rfl ?_
  refine tq_bipush (v := (41 : Int32)) dLw_orders_24 tnb_41 ?_
  refine tq_newa tpN_int (N := 41) dLw_orders_26 (by decide) (by decide) (Nat.le_of_ble_eq_true rfl) (fun a17 h18 e19 e20 => ?_)
  have hw := hw a17 h18 e19 e20
  refine tq_astore (ls' := [some (vR x0), some (vR x1), some (vR x2), some (vR x3), some (vR x4), some (vR x5), some (vI x6), some (vR x7), some (vR (some a1)), some (vR (some a5)), some (vR (some a9)), some (vR (some a13)), some (vR (some a17)), none, none, none, none, none, none, none, none, none, none, none]) dLw_orders_28 (Nat.le_of_ble_eq_true rfl) rfl ?_
  refine tq_aload_n dLw_orders_30 rfl rfl ?_
  refine tq_iload dLw_orders_31 rfl ?_
  refine tq_callS ms_Lw_place (dc := 1) (as := [vR x0, vI x6]) (rest := []) kLw_13 (Nat.le_of_ble_eq_true rfl) (Nat.le_of_ble_eq_true rfl) rfl rfl (Nat.le_of_ble_eq_true rfl) dLw_orders_33 (s_Lw_place hw) (fun _ _ hx => False.elim hx) (tk_i fun v22 h21 hw => ?_)
  refine tq_ifge (tgt := 43) dLw_orders_36 (by decide) (fun c23 => ?_) (fun c23 => ?_)
  · have hw := hw.1 c23
    refine tq_aload_n dLw_orders_43 rfl rfl ?_
    refine tq_aload dLw_orders_44 rfl ?_
    refine tq_iload dLw_orders_46 rfl ?_
    refine tq_aload dLw_orders_48 rfl ?_
    refine tq_callS ms_Lw_children (dc := 1) (as := [vR x0, vR x4, vI x6, vR (some a1)]) (rest := []) kLw_36 (Nat.le_of_ble_eq_true rfl) (Nat.le_of_ble_eq_true rfl) rfl rfl (Nat.le_of_ble_eq_true rfl) dLw_orders_50 (s_Lw_children hw) (fun _ _ hx => False.elim hx) (tk_i fun v25 h24 hw => ?_)
    refine tq_istore (ls' := [some (vR x0), some (vR x1), some (vR x2), some (vR x3), some (vR x4), some (vR x5), some (vI x6), some (vR x7), some (vR (some a1)), some (vR (some a5)), some (vR (some a9)), some (vR (some a13)), some (vR (some a17)), some (vI v25), none, none, none, none, none, none, none, none, none, none]) dLw_orders_53 (Nat.le_of_ble_eq_true rfl) rfl ?_
    refine tq_iconst (v := (0 : Int32)) dLw_orders_55 tni_0 ?_
    refine tq_istore (ls' := [some (vR x0), some (vR x1), some (vR x2), some (vR x3), some (vR x4), some (vR x5), some (vI x6), some (vR x7), some (vR (some a1)), some (vR (some a5)), some (vR (some a9)), some (vR (some a13)), some (vR (some a17)), some (vI v25), some (vI (0 : Int32)), none, none, none, none, none, none, none, none, none]) dLw_orders_56 (Nat.le_of_ble_eq_true rfl) rfl ?_
    refine tq_iconst (v := (0 : Int32)) dLw_orders_58 tni_0 ?_
    refine tq_istore (ls' := [some (vR x0), some (vR x1), some (vR x2), some (vR x3), some (vR x4), some (vR x5), some (vI x6), some (vR x7), some (vR (some a1)), some (vR (some a5)), some (vR (some a9)), some (vR (some a13)), some (vR (some a17)), some (vI v25), some (vI (0 : Int32)), some (vI (0 : Int32)), none, none, none, none, none, none, none, none]) dLw_orders_59 (Nat.le_of_ble_eq_true rfl) rfl ?_
    refine tpR.fo (ls' := [some (vR x0), some (vR x1), some (vR x2), some (vR x3), some (vR x4), some (vR x5), some (vI x6), some (vR x7), some (vR (some a1)), some (vR (some a5)), some (vR (some a9)), some (vR (some a13)), some (vR (some a17)), some (vI v25), some (vI (0 : Int32)), some (vI (0 : Int32)), none, none, none, none, none, none, none, none]) ?_ (And.intro rfl (And.intro rfl (And.intro rfl (And.intro rfl (And.intro rfl (And.intro rfl (And.intro rfl (And.intro rfl (And.intro rfl (And.intro rfl (And.intro rfl (And.intro rfl (And.intro rfl (And.intro rfl (And.intro rfl (And.intro rfl trivial))))))))))))))))
    obtain ⟨n, hw⟩ := hw
    exact s_Lw_orders_61 n _ _ _ _ _ _ _ _ _ _ _ _ _ _ _ _ _ hw
  · have hw := hw.2 c23
    refine tq_iconst (v := (0 : Int32)) dLw_orders_39 tni_0 ?_
    refine tq_goto (tgt := 53) dLw_orders_40 (by decide) ?_
    refine tq_istore (ls' := [some (vR x0), some (vR x1), some (vR x2), some (vR x3), some (vR x4), some (vR x5), some (vI x6), some (vR x7), some (vR (some a1)), some (vR (some a5)), some (vR (some a9)), some (vR (some a13)), some (vR (some a17)), some (vI (0 : Int32)), none, none, none, none, none, none, none, none, none, none]) dLw_orders_53 (Nat.le_of_ble_eq_true rfl) rfl ?_
    refine tq_iconst (v := (0 : Int32)) dLw_orders_55 tni_0 ?_
    refine tq_istore (ls' := [some (vR x0), some (vR x1), some (vR x2), some (vR x3), some (vR x4), some (vR x5), some (vI x6), some (vR x7), some (vR (some a1)), some (vR (some a5)), some (vR (some a9)), some (vR (some a13)), some (vR (some a17)), some (vI (0 : Int32)), some (vI (0 : Int32)), none, none, none, none, none, none, none, none, none]) dLw_orders_56 (Nat.le_of_ble_eq_true rfl) rfl ?_
    refine tq_iconst (v := (0 : Int32)) dLw_orders_58 tni_0 ?_
    refine tq_istore (ls' := [some (vR x0), some (vR x1), some (vR x2), some (vR x3), some (vR x4), some (vR x5), some (vI x6), some (vR x7), some (vR (some a1)), some (vR (some a5)), some (vR (some a9)), some (vR (some a13)), some (vR (some a17)), some (vI (0 : Int32)), some (vI (0 : Int32)), some (vI (0 : Int32)), none, none, none, none, none, none, none, none]) dLw_orders_59 (Nat.le_of_ble_eq_true rfl) rfl ?_
    refine tpR.fo (ls' := [some (vR x0), some (vR x1), some (vR x2), some (vR x3), some (vR x4), some (vR x5), some (vI x6), some (vR x7), some (vR (some a1)), some (vR (some a5)), some (vR (some a9)), some (vR (some a13)), some (vR (some a17)), some (vI (0 : Int32)), some (vI (0 : Int32)), some (vI (0 : Int32)), none, none, none, none, none, none, none, none]) ?_ (And.intro rfl (And.intro rfl (And.intro rfl (And.intro rfl (And.intro rfl (And.intro rfl (And.intro rfl (And.intro rfl (And.intro rfl (And.intro rfl (And.intro rfl (And.intro rfl (And.intro rfl (And.intro rfl (And.intro rfl (And.intro rfl trivial))))))))))))))))
    obtain ⟨n, hw⟩ := hw
    exact s_Lw_orders_61 n _ _ _ _ _ _ _ _ _ _ _ _ _ _ _ _ _ hw
/-! TLaw.isMerged -/
theorem dLw_isMerged_0 : decode (mB Lw_isMerged) 0 = .ok (.bipush 41, 2) := by decide +kernel
theorem dLw_isMerged_2 : decode (mB Lw_isMerged) 2 = .ok (.newarray .int, 2) := by decide +kernel
theorem dLw_isMerged_4 : decode (mB Lw_isMerged) 4 = .ok (.astore 8, 2) := by decide +kernel
theorem dLw_isMerged_6 : decode (mB Lw_isMerged) 6 = .ok (.bipush 64, 2) := by decide +kernel
theorem dLw_isMerged_8 : decode (mB Lw_isMerged) 8 = .ok (.newarray .int, 2) := by decide +kernel
theorem dLw_isMerged_10 : decode (mB Lw_isMerged) 10 = .ok (.astore 9, 2) := by decide +kernel
theorem dLw_isMerged_12 : decode (mB Lw_isMerged) 12 = .ok (.bipush 42, 2) := by decide +kernel
theorem dLw_isMerged_14 : decode (mB Lw_isMerged) 14 = .ok (.newarray .int, 2) := by decide +kernel
theorem dLw_isMerged_16 : decode (mB Lw_isMerged) 16 = .ok (.astore 10, 2) := by decide +kernel
theorem dLw_isMerged_18 : decode (mB Lw_isMerged) 18 = .ok (.bipush 41, 2) := by decide +kernel
theorem dLw_isMerged_20 : decode (mB Lw_isMerged) 20 = .ok (.newarray .int, 2) := by decide +kernel
theorem dLw_isMerged_22 : decode (mB Lw_isMerged) 22 = .ok (.astore 11, 2) := by decide +kernel
theorem dLw_isMerged_24 : decode (mB Lw_isMerged) 24 = .ok (.bipush 40, 2) := by decide +kernel
theorem dLw_isMerged_26 : decode (mB Lw_isMerged) 26 = .ok (.newarray .int, 2) := by decide +kernel
theorem dLw_isMerged_28 : decode (mB Lw_isMerged) 28 = .ok (.astore 12, 2) := by decide +kernel
theorem dLw_isMerged_30 : decode (mB Lw_isMerged) 30 = .ok (.iconst 0, 1) := by decide +kernel
theorem dLw_isMerged_31 : decode (mB Lw_isMerged) 31 = .ok (.istore 13, 2) := by decide +kernel
theorem dLw_isMerged_33 : decode (mB Lw_isMerged) 33 = .ok (.iload 13, 2) := by decide +kernel
theorem dLw_isMerged_35 : decode (mB Lw_isMerged) 35 = .ok (.iload 7, 2) := by decide +kernel
theorem dLw_isMerged_37 : decode (mB Lw_isMerged) 37 = .ok (.if_icmp .ge 40, 3) := by decide +kernel
theorem dLw_isMerged_40 : decode (mB Lw_isMerged) 40 = .ok (.aload_n 2, 1) := by decide +kernel
theorem dLw_isMerged_41 : decode (mB Lw_isMerged) 41 = .ok (.aload_n 3, 1) := by decide +kernel
theorem dLw_isMerged_42 : decode (mB Lw_isMerged) 42 = .ok (.aload 4, 2) := by decide +kernel
theorem dLw_isMerged_44 : decode (mB Lw_isMerged) 44 = .ok (.aload 9, 2) := by decide +kernel
theorem dLw_isMerged_46 : decode (mB Lw_isMerged) 46 = .ok (.aload 6, 2) := by decide +kernel
theorem dLw_isMerged_48 : decode (mB Lw_isMerged) 48 = .ok (.iload 13, 2) := by decide +kernel
theorem dLw_isMerged_50 : decode (mB Lw_isMerged) 50 = .ok (.invokestatic 120, 3) := by decide +kernel
theorem dLw_isMerged_53 : decode (mB Lw_isMerged) 53 = .ok (.istore 14, 2) := by decide +kernel
theorem dLw_isMerged_55 : decode (mB Lw_isMerged) 55 = .ok (.iload 14, 2) := by decide +kernel
theorem dLw_isMerged_57 : decode (mB Lw_isMerged) 57 = .ok (.ifCond .lt 14, 3) := by decide +kernel
theorem dLw_isMerged_60 : decode (mB Lw_isMerged) 60 = .ok (.aload 8, 2) := by decide +kernel
theorem dLw_isMerged_62 : decode (mB Lw_isMerged) 62 = .ok (.aload 8, 2) := by decide +kernel
theorem dLw_isMerged_64 : decode (mB Lw_isMerged) 64 = .ok (.iconst 0, 1) := by decide +kernel
theorem dLw_isMerged_65 : decode (mB Lw_isMerged) 65 = .ok (.iaload, 1) := by decide +kernel
theorem dLw_isMerged_66 : decode (mB Lw_isMerged) 66 = .ok (.iload 14, 2) := by decide +kernel
theorem dLw_isMerged_68 : decode (mB Lw_isMerged) 68 = .ok (.invokestatic 101, 3) := by decide +kernel
theorem dLw_isMerged_71 : decode (mB Lw_isMerged) 71 = .ok (.iinc 13 1, 3) := by decide +kernel
theorem dLw_isMerged_74 : decode (mB Lw_isMerged) 74 = .ok (.goto (-41), 3) := by decide +kernel
theorem dLw_isMerged_77 : decode (mB Lw_isMerged) 77 = .ok (.aload_n 2, 1) := by decide +kernel
theorem dLw_isMerged_78 : decode (mB Lw_isMerged) 78 = .ok (.aload 8, 2) := by decide +kernel
theorem dLw_isMerged_80 : decode (mB Lw_isMerged) 80 = .ok (.aload 9, 2) := by decide +kernel
theorem dLw_isMerged_82 : decode (mB Lw_isMerged) 82 = .ok (.invokestatic 124, 3) := by decide +kernel
theorem dLw_isMerged_85 : decode (mB Lw_isMerged) 85 = .ok (.aload_n 0, 1) := by decide +kernel
theorem dLw_isMerged_86 : decode (mB Lw_isMerged) 86 = .ok (.iload_n 1, 1) := by decide +kernel
theorem dLw_isMerged_87 : decode (mB Lw_isMerged) 87 = .ok (.invokevirtual 22, 3) := by decide +kernel
theorem dLw_isMerged_90 : decode (mB Lw_isMerged) 90 = .ok (.aload 8, 2) := by decide +kernel
theorem dLw_isMerged_92 : decode (mB Lw_isMerged) 92 = .ok (.iconst 0, 1) := by decide +kernel
theorem dLw_isMerged_93 : decode (mB Lw_isMerged) 93 = .ok (.iaload, 1) := by decide +kernel
theorem dLw_isMerged_94 : decode (mB Lw_isMerged) 94 = .ok (.if_icmp .ne 7, 3) := by decide +kernel
theorem dLw_isMerged_97 : decode (mB Lw_isMerged) 97 = .ok (.iconst 1, 1) := by decide +kernel
theorem dLw_isMerged_98 : decode (mB Lw_isMerged) 98 = .ok (.goto 4, 3) := by decide +kernel
theorem dLw_isMerged_101 : decode (mB Lw_isMerged) 101 = .ok (.iconst 0, 1) := by decide +kernel
theorem dLw_isMerged_102 : decode (mB Lw_isMerged) 102 = .ok (.istore 13, 2) := by decide +kernel
theorem dLw_isMerged_104 : decode (mB Lw_isMerged) 104 = .ok (.iload 13, 2) := by decide +kernel
theorem dLw_isMerged_106 : decode (mB Lw_isMerged) 106 = .ok (.ifCond .eq 10, 3) := by decide +kernel
theorem dLw_isMerged_109 : decode (mB Lw_isMerged) 109 = .ok (.aload_n 0, 1) := by decide +kernel
theorem dLw_isMerged_110 : decode (mB Lw_isMerged) 110 = .ok (.iload_n 1, 1) := by decide +kernel
theorem dLw_isMerged_111 : decode (mB Lw_isMerged) 111 = .ok (.aload 11, 2) := by decide +kernel
theorem dLw_isMerged_113 : decode (mB Lw_isMerged) 113 = .ok (.invokestatic 82, 3) := by decide +kernel
theorem dLw_isMerged_116 : decode (mB Lw_isMerged) 116 = .ok (.iconst 0, 1) := by decide +kernel
theorem dLw_isMerged_117 : decode (mB Lw_isMerged) 117 = .ok (.istore 14, 2) := by decide +kernel
theorem dLw_isMerged_119 : decode (mB Lw_isMerged) 119 = .ok (.iload 14, 2) := by decide +kernel
theorem dLw_isMerged_121 : decode (mB Lw_isMerged) 121 = .ok (.aload 8, 2) := by decide +kernel
theorem dLw_isMerged_123 : decode (mB Lw_isMerged) 123 = .ok (.iconst 0, 1) := by decide +kernel
theorem dLw_isMerged_124 : decode (mB Lw_isMerged) 124 = .ok (.iaload, 1) := by decide +kernel
theorem dLw_isMerged_125 : decode (mB Lw_isMerged) 125 = .ok (.if_icmp .ge 189, 3) := by decide +kernel
theorem dLw_isMerged_128 : decode (mB Lw_isMerged) 128 = .ok (.iload 13, 2) := by decide +kernel
theorem dLw_isMerged_130 : decode (mB Lw_isMerged) 130 = .ok (.ifCond .eq 184, 3) := by decide +kernel
theorem dLw_isMerged_133 : decode (mB Lw_isMerged) 133 = .ok (.aload 11, 2) := by decide +kernel
theorem dLw_isMerged_135 : decode (mB Lw_isMerged) 135 = .ok (.iload 14, 2) := by decide +kernel
theorem dLw_isMerged_137 : decode (mB Lw_isMerged) 137 = .ok (.invokestatic 7, 3) := by decide +kernel
theorem dLw_isMerged_140 : decode (mB Lw_isMerged) 140 = .ok (.istore 15, 2) := by decide +kernel
theorem dLw_isMerged_142 : decode (mB Lw_isMerged) 142 = .ok (.iconst 0, 1) := by decide +kernel
theorem dLw_isMerged_143 : decode (mB Lw_isMerged) 143 = .ok (.istore 16, 2) := by decide +kernel
theorem dLw_isMerged_145 : decode (mB Lw_isMerged) 145 = .ok (.aload 8, 2) := by decide +kernel
theorem dLw_isMerged_147 : decode (mB Lw_isMerged) 147 = .ok (.iload 15, 2) := by decide +kernel
theorem dLw_isMerged_149 : decode (mB Lw_isMerged) 149 = .ok (.invokestatic 40, 3) := by decide +kernel
theorem dLw_isMerged_152 : decode (mB Lw_isMerged) 152 = .ok (.aload 11, 2) := by decide +kernel
theorem dLw_isMerged_154 : decode (mB Lw_isMerged) 154 = .ok (.iload 14, 2) := by decide +kernel
theorem dLw_isMerged_156 : decode (mB Lw_isMerged) 156 = .ok (.invokestatic 16, 3) := by decide +kernel
theorem dLw_isMerged_159 : decode (mB Lw_isMerged) 159 = .ok (.if_icmp .ne 24, 3) := by decide +kernel
theorem dLw_isMerged_162 : decode (mB Lw_isMerged) 162 = .ok (.aload 8, 2) := by decide +kernel
theorem dLw_isMerged_164 : decode (mB Lw_isMerged) 164 = .ok (.iload 15, 2) := by decide +kernel
theorem dLw_isMerged_166 : decode (mB Lw_isMerged) 166 = .ok (.invokestatic 86, 3) := by decide +kernel
theorem dLw_isMerged_169 : decode (mB Lw_isMerged) 169 = .ok (.aload 11, 2) := by decide +kernel
theorem dLw_isMerged_171 : decode (mB Lw_isMerged) 171 = .ok (.iload 14, 2) := by decide +kernel
theorem dLw_isMerged_173 : decode (mB Lw_isMerged) 173 = .ok (.invokestatic 19, 3) := by decide +kernel
theorem dLw_isMerged_176 : decode (mB Lw_isMerged) 176 = .ok (.if_icmp .ne 7, 3) := by decide +kernel
theorem dLw_isMerged_179 : decode (mB Lw_isMerged) 179 = .ok (.iconst 1, 1) := by decide +kernel
theorem dLw_isMerged_180 : decode (mB Lw_isMerged) 180 = .ok (.goto 4, 3) := by decide +kernel
theorem dLw_isMerged_183 : decode (mB Lw_isMerged) 183 = .ok (.iconst 0, 1) := by decide +kernel
theorem dLw_isMerged_184 : decode (mB Lw_isMerged) 184 = .ok (.istore 13, 2) := by decide +kernel
theorem dLw_isMerged_186 : decode (mB Lw_isMerged) 186 = .ok (.aload 11, 2) := by decide +kernel
theorem dLw_isMerged_188 : decode (mB Lw_isMerged) 188 = .ok (.aload 5, 2) := by decide +kernel
theorem dLw_isMerged_190 : decode (mB Lw_isMerged) 190 = .ok (.iload 15, 2) := by decide +kernel
theorem dLw_isMerged_192 : decode (mB Lw_isMerged) 192 = .ok (.aload 12, 2) := by decide +kernel
theorem dLw_isMerged_194 : decode (mB Lw_isMerged) 194 = .ok (.invokestatic 36, 3) := by decide +kernel
theorem dLw_isMerged_197 : decode (mB Lw_isMerged) 197 = .ok (.istore 17, 2) := by decide +kernel
theorem dLw_isMerged_199 : decode (mB Lw_isMerged) 199 = .ok (.aload 5, 2) := by decide +kernel
theorem dLw_isMerged_201 : decode (mB Lw_isMerged) 201 = .ok (.iload 15, 2) := by decide +kernel
theorem dLw_isMerged_203 : decode (mB Lw_isMerged) 203 = .ok (.iaload, 1) := by decide +kernel
theorem dLw_isMerged_204 : decode (mB Lw_isMerged) 204 = .ok (.iconst 4, 1) := by decide +kernel
theorem dLw_isMerged_205 : decode (mB Lw_isMerged) 205 = .ok (.if_icmp .ge 86, 3) := by decide +kernel
theorem dLw_isMerged_208 : decode (mB Lw_isMerged) 208 = .ok (.iload 13, 2) := by decide +kernel
theorem dLw_isMerged_210 : decode (mB Lw_isMerged) 210 = .ok (.ifCond .eq 81, 3) := by decide +kernel
theorem dLw_isMerged_213 : decode (mB Lw_isMerged) 213 = .ok (.aload_n 2, 1) := by decide +kernel
theorem dLw_isMerged_214 : decode (mB Lw_isMerged) 214 = .ok (.aload_n 3, 1) := by decide +kernel
theorem dLw_isMerged_215 : decode (mB Lw_isMerged) 215 = .ok (.aload 4, 2) := by decide +kernel
theorem dLw_isMerged_217 : decode (mB Lw_isMerged) 217 = .ok (.aload 8, 2) := by decide +kernel
theorem dLw_isMerged_219 : decode (mB Lw_isMerged) 219 = .ok (.aload 5, 2) := by decide +kernel
theorem dLw_isMerged_221 : decode (mB Lw_isMerged) 221 = .ok (.aload 6, 2) := by decide +kernel
theorem dLw_isMerged_223 : decode (mB Lw_isMerged) 223 = .ok (.iload 15, 2) := by decide +kernel
theorem dLw_isMerged_225 : decode (mB Lw_isMerged) 225 = .ok (.aload 10, 2) := by decide +kernel
theorem dLw_isMerged_227 : decode (mB Lw_isMerged) 227 = .ok (.invokestatic 128, 3) := by decide +kernel
theorem dLw_isMerged_230 : decode (mB Lw_isMerged) 230 = .ok (.istore 16, 2) := by decide +kernel
theorem dLw_isMerged_232 : decode (mB Lw_isMerged) 232 = .ok (.aload 10, 2) := by decide +kernel
theorem dLw_isMerged_234 : decode (mB Lw_isMerged) 234 = .ok (.iconst 0, 1) := by decide +kernel
theorem dLw_isMerged_235 : decode (mB Lw_isMerged) 235 = .ok (.iaload, 1) := by decide +kernel
theorem dLw_isMerged_236 : decode (mB Lw_isMerged) 236 = .ok (.iload 17, 2) := by decide +kernel
theorem dLw_isMerged_238 : decode (mB Lw_isMerged) 238 = .ok (.if_icmp .ne 7, 3) := by decide +kernel
theorem dLw_isMerged_241 : decode (mB Lw_isMerged) 241 = .ok (.iconst 1, 1) := by decide +kernel
theorem dLw_isMerged_242 : decode (mB Lw_isMerged) 242 = .ok (.goto 4, 3) := by decide +kernel
theorem dLw_isMerged_245 : decode (mB Lw_isMerged) 245 = .ok (.iconst 0, 1) := by decide +kernel
theorem dLw_isMerged_246 : decode (mB Lw_isMerged) 246 = .ok (.istore 13, 2) := by decide +kernel
theorem dLw_isMerged_248 : decode (mB Lw_isMerged) 248 = .ok (.iconst 0, 1) := by decide +kernel
theorem dLw_isMerged_249 : decode (mB Lw_isMerged) 249 = .ok (.istore 18, 2) := by decide +kernel
theorem dLw_isMerged_251 : decode (mB Lw_isMerged) 251 = .ok (.iload 18, 2) := by decide +kernel
theorem dLw_isMerged_253 : decode (mB Lw_isMerged) 253 = .ok (.iload 17, 2) := by decide +kernel
theorem dLw_isMerged_255 : decode (mB Lw_isMerged) 255 = .ok (.if_icmp .ge 36, 3) := by decide +kernel
theorem dLw_isMerged_258 : decode (mB Lw_isMerged) 258 = .ok (.iload 13, 2) := by decide +kernel
theorem dLw_isMerged_260 : decode (mB Lw_isMerged) 260 = .ok (.ifCond .eq 31, 3) := by decide +kernel
theorem dLw_isMerged_263 : decode (mB Lw_isMerged) 263 = .ok (.aload 10, 2) := by decide +kernel
theorem dLw_isMerged_265 : decode (mB Lw_isMerged) 265 = .ok (.iload 18, 2) := by decide +kernel
theorem dLw_isMerged_267 : decode (mB Lw_isMerged) 267 = .ok (.iconst 1, 1) := by decide +kernel
theorem dLw_isMerged_268 : decode (mB Lw_isMerged) 268 = .ok (.iadd, 1) := by decide +kernel
theorem dLw_isMerged_269 : decode (mB Lw_isMerged) 269 = .ok (.iaload, 1) := by decide +kernel
theorem dLw_isMerged_270 : decode (mB Lw_isMerged) 270 = .ok (.aload 12, 2) := by decide +kernel
theorem dLw_isMerged_272 : decode (mB Lw_isMerged) 272 = .ok (.iload 18, 2) := by decide +kernel
theorem dLw_isMerged_274 : decode (mB Lw_isMerged) 274 = .ok (.iaload, 1) := by decide +kernel
theorem dLw_isMerged_275 : decode (mB Lw_isMerged) 275 = .ok (.if_icmp .ne 7, 3) := by decide +kernel
theorem dLw_isMerged_278 : decode (mB Lw_isMerged) 278 = .ok (.iconst 1, 1) := by decide +kernel
theorem dLw_isMerged_279 : decode (mB Lw_isMerged) 279 = .ok (.goto 4, 3) := by decide +kernel
theorem dLw_isMerged_282 : decode (mB Lw_isMerged) 282 = .ok (.iconst 0, 1) := by decide +kernel
theorem dLw_isMerged_283 : decode (mB Lw_isMerged) 283 = .ok (.istore 13, 2) := by decide +kernel
theorem dLw_isMerged_285 : decode (mB Lw_isMerged) 285 = .ok (.iinc 18 1, 3) := by decide +kernel
theorem dLw_isMerged_288 : decode (mB Lw_isMerged) 288 = .ok (.goto (-37), 3) := by decide +kernel
theorem dLw_isMerged_291 : decode (mB Lw_isMerged) 291 = .ok (.iload 16, 2) := by decide +kernel
theorem dLw_isMerged_293 : decode (mB Lw_isMerged) 293 = .ok (.ifCond .eq 15, 3) := by decide +kernel
theorem dLw_isMerged_296 : decode (mB Lw_isMerged) 296 = .ok (.aload 9, 2) := by decide +kernel
theorem dLw_isMerged_298 : decode (mB Lw_isMerged) 298 = .ok (.bipush 8, 2) := by decide +kernel
theorem dLw_isMerged_300 : decode (mB Lw_isMerged) 300 = .ok (.iload 15, 2) := by decide +kernel
theorem dLw_isMerged_302 : decode (mB Lw_isMerged) 302 = .ok (.imul, 1) := by decide +kernel
theorem dLw_isMerged_303 : decode (mB Lw_isMerged) 303 = .ok (.iconst 5, 1) := by decide +kernel
theorem dLw_isMerged_304 : decode (mB Lw_isMerged) 304 = .ok (.iadd, 1) := by decide +kernel
theorem dLw_isMerged_305 : decode (mB Lw_isMerged) 305 = .ok (.invokestatic 89, 3) := by decide +kernel
theorem dLw_isMerged_308 : decode (mB Lw_isMerged) 308 = .ok (.iinc 14 1, 3) := by decide +kernel
theorem dLw_isMerged_311 : decode (mB Lw_isMerged) 311 = .ok (.goto (-192), 3) := by decide +kernel
theorem dLw_isMerged_314 : decode (mB Lw_isMerged) 314 = .ok (.iload 13, 2) := by decide +kernel
theorem dLw_isMerged_316 : decode (mB Lw_isMerged) 316 = .ok (.ifCond .eq 18, 3) := by decide +kernel
theorem dLw_isMerged_319 : decode (mB Lw_isMerged) 319 = .ok (.aload_n 0, 1) := by decide +kernel
theorem dLw_isMerged_320 : decode (mB Lw_isMerged) 320 = .ok (.invokevirtual 132, 3) := by decide +kernel
theorem dLw_isMerged_323 : decode (mB Lw_isMerged) 323 = .ok (.aload 9, 2) := by decide +kernel
theorem dLw_isMerged_325 : decode (mB Lw_isMerged) 325 = .ok (.iconst 0, 1) := by decide +kernel
theorem dLw_isMerged_326 : decode (mB Lw_isMerged) 326 = .ok (.iaload, 1) := by decide +kernel
theorem dLw_isMerged_327 : decode (mB Lw_isMerged) 327 = .ok (.if_icmp .ne 7, 3) := by decide +kernel
theorem dLw_isMerged_330 : decode (mB Lw_isMerged) 330 = .ok (.iconst 1, 1) := by decide +kernel
theorem dLw_isMerged_331 : decode (mB Lw_isMerged) 331 = .ok (.goto 4, 3) := by decide +kernel
theorem dLw_isMerged_334 : decode (mB Lw_isMerged) 334 = .ok (.iconst 0, 1) := by decide +kernel
theorem dLw_isMerged_335 : decode (mB Lw_isMerged) 335 = .ok (.istore 13, 2) := by decide +kernel
theorem dLw_isMerged_337 : decode (mB Lw_isMerged) 337 = .ok (.iconst 0, 1) := by decide +kernel
theorem dLw_isMerged_338 : decode (mB Lw_isMerged) 338 = .ok (.istore 14, 2) := by decide +kernel
theorem dLw_isMerged_340 : decode (mB Lw_isMerged) 340 = .ok (.iload 14, 2) := by decide +kernel
theorem dLw_isMerged_342 : decode (mB Lw_isMerged) 342 = .ok (.aload 9, 2) := by decide +kernel
theorem dLw_isMerged_344 : decode (mB Lw_isMerged) 344 = .ok (.iconst 0, 1) := by decide +kernel
theorem dLw_isMerged_345 : decode (mB Lw_isMerged) 345 = .ok (.iaload, 1) := by decide +kernel
theorem dLw_isMerged_346 : decode (mB Lw_isMerged) 346 = .ok (.if_icmp .ge 66, 3) := by decide +kernel
theorem dLw_isMerged_349 : decode (mB Lw_isMerged) 349 = .ok (.iload 14, 2) := by decide +kernel
theorem dLw_isMerged_351 : decode (mB Lw_isMerged) 351 = .ok (.bipush 63, 2) := by decide +kernel
theorem dLw_isMerged_353 : decode (mB Lw_isMerged) 353 = .ok (.if_icmp .ge 59, 3) := by decide +kernel
theorem dLw_isMerged_356 : decode (mB Lw_isMerged) 356 = .ok (.iload 13, 2) := by decide +kernel
theorem dLw_isMerged_358 : decode (mB Lw_isMerged) 358 = .ok (.ifCond .eq 54, 3) := by decide +kernel
theorem dLw_isMerged_361 : decode (mB Lw_isMerged) 361 = .ok (.aload_n 0, 1) := by decide +kernel
theorem dLw_isMerged_362 : decode (mB Lw_isMerged) 362 = .ok (.iload 14, 2) := by decide +kernel
theorem dLw_isMerged_364 : decode (mB Lw_isMerged) 364 = .ok (.invokevirtual 70, 3) := by decide +kernel
theorem dLw_isMerged_367 : decode (mB Lw_isMerged) 367 = .ok (.aload 9, 2) := by decide +kernel
theorem dLw_isMerged_369 : decode (mB Lw_isMerged) 369 = .ok (.iload 14, 2) := by decide +kernel
theorem dLw_isMerged_371 : decode (mB Lw_isMerged) 371 = .ok (.iconst 1, 1) := by decide +kernel
theorem dLw_isMerged_372 : decode (mB Lw_isMerged) 372 = .ok (.iadd, 1) := by decide +kernel
theorem dLw_isMerged_373 : decode (mB Lw_isMerged) 373 = .ok (.iaload, 1) := by decide +kernel
theorem dLw_isMerged_374 : decode (mB Lw_isMerged) 374 = .ok (.bipush 8, 2) := by decide +kernel
theorem dLw_isMerged_376 : decode (mB Lw_isMerged) 376 = .ok (.irem, 1) := by decide +kernel
theorem dLw_isMerged_377 : decode (mB Lw_isMerged) 377 = .ok (.if_icmp .ne 26, 3) := by decide +kernel
theorem dLw_isMerged_380 : decode (mB Lw_isMerged) 380 = .ok (.aload_n 0, 1) := by decide +kernel
theorem dLw_isMerged_381 : decode (mB Lw_isMerged) 381 = .ok (.iload 14, 2) := by decide +kernel
theorem dLw_isMerged_383 : decode (mB Lw_isMerged) 383 = .ok (.invokevirtual 73, 3) := by decide +kernel
theorem dLw_isMerged_386 : decode (mB Lw_isMerged) 386 = .ok (.aload 9, 2) := by decide +kernel
theorem dLw_isMerged_388 : decode (mB Lw_isMerged) 388 = .ok (.iload 14, 2) := by decide +kernel
theorem dLw_isMerged_390 : decode (mB Lw_isMerged) 390 = .ok (.iconst 1, 1) := by decide +kernel
theorem dLw_isMerged_391 : decode (mB Lw_isMerged) 391 = .ok (.iadd, 1) := by decide +kernel
theorem dLw_isMerged_392 : decode (mB Lw_isMerged) 392 = .ok (.iaload, 1) := by decide +kernel
theorem dLw_isMerged_393 : decode (mB Lw_isMerged) 393 = .ok (.bipush 8, 2) := by decide +kernel
theorem dLw_isMerged_395 : decode (mB Lw_isMerged) 395 = .ok (.idiv, 1) := by decide +kernel
theorem dLw_isMerged_396 : decode (mB Lw_isMerged) 396 = .ok (.if_icmp .ne 7, 3) := by decide +kernel
theorem dLw_isMerged_399 : decode (mB Lw_isMerged) 399 = .ok (.iconst 1, 1) := by decide +kernel
theorem dLw_isMerged_400 : decode (mB Lw_isMerged) 400 = .ok (.goto 4, 3) := by decide +kernel
theorem dLw_isMerged_403 : decode (mB Lw_isMerged) 403 = .ok (.iconst 0, 1) := by decide +kernel
theorem dLw_isMerged_404 : decode (mB Lw_isMerged) 404 = .ok (.istore 13, 2) := by decide +kernel
theorem dLw_isMerged_406 : decode (mB Lw_isMerged) 406 = .ok (.iinc 14 1, 3) := by decide +kernel
theorem dLw_isMerged_409 : decode (mB Lw_isMerged) 409 = .ok (.goto (-69), 3) := by decide +kernel
theorem dLw_isMerged_412 : decode (mB Lw_isMerged) 412 = .ok (.iload 13, 2) := by decide +kernel
theorem dLw_isMerged_414 : decode (mB Lw_isMerged) 414 = .ok (.ifCond .eq 24, 3) := by decide +kernel
theorem dLw_isMerged_417 : decode (mB Lw_isMerged) 417 = .ok (.aload_n 0, 1) := by decide +kernel
theorem dLw_isMerged_418 : decode (mB Lw_isMerged) 418 = .ok (.bipush 8, 2) := by decide +kernel
theorem dLw_isMerged_420 : decode (mB Lw_isMerged) 420 = .ok (.aload 9, 2) := by decide +kernel
theorem dLw_isMerged_422 : decode (mB Lw_isMerged) 422 = .ok (.iconst 0, 1) := by decide +kernel
theorem dLw_isMerged_423 : decode (mB Lw_isMerged) 423 = .ok (.iaload, 1) := by decide +kernel
theorem dLw_isMerged_424 : decode (mB Lw_isMerged) 424 = .ok (.iconst 0, 1) := by decide +kernel
theorem dLw_isMerged_425 : decode (mB Lw_isMerged) 425 = .ok (.iconst 0, 1) := by decide +kernel
theorem dLw_isMerged_426 : decode (mB Lw_isMerged) 426 = .ok (.invokestatic 135, 3) := by decide +kernel
theorem dLw_isMerged_429 : decode (mB Lw_isMerged) 429 = .ok (.bipush (-11), 2) := by decide +kernel
theorem dLw_isMerged_431 : decode (mB Lw_isMerged) 431 = .ok (.if_icmp .ne 7, 3) := by decide +kernel
theorem dLw_isMerged_434 : decode (mB Lw_isMerged) 434 = .ok (.iconst 1, 1) := by decide +kernel
theorem dLw_isMerged_435 : decode (mB Lw_isMerged) 435 = .ok (.goto 4, 3) := by decide +kernel
theorem dLw_isMerged_438 : decode (mB Lw_isMerged) 438 = .ok (.iconst 0, 1) := by decide +kernel
theorem dLw_isMerged_439 : decode (mB Lw_isMerged) 439 = .ok (.ireturn, 1) := by decide +kernel
def b_Lw_isMerged_251 (R : Int32 → tpH → Prop) (X : String → tpH → Prop) (K291 : (Option Nat) → (Option Nat) → (Option Nat) → (Option Nat) → (Option Nat) → (Option Nat) → (Option Nat) → (Option Nat) → (Option Nat) → (Option Nat) → (Option Nat) → Int32 → Int32 → Int32 → Int32 → tpH → Prop) (Y : (Option Nat) → (Option Nat) → (Option Nat) → (Option Nat) → (Option Nat) → (Option Nat) → (Option Nat) → (Option Nat) → (Option Nat) → (Option Nat) → (Option Nat) → Int32 → Int32 → Int32 → Int32 → Int32 → Int32 → tpH → Prop) (x0 : Option Nat) (x2 : Option Nat) (x3 : Option Nat) (x4 : Option Nat) (x5 : Option Nat) (x6 : Option Nat) (x8 : Option Nat) (x9 : Option Nat) (x10 : Option Nat) (x11 : Option Nat) (x12 : Option Nat) (x13 : Int32) (x14 : Int32) (x15 : Int32) (x16 : Int32) (x17 : Int32) (x18 : Int32) (h : tpH) : Prop :=
  (x17 ≤ x18 → (K291 x0 x2 x3 x4 x5 x6 x8 x9 x10 x11 x12 x13 x14 x15 x16 h)) ∧ (¬ x17 ≤ x18 → ((x13 = 0 → (K291 x0 x2 x3 x4 x5 x6 x8 x9 x10 x11 x12 x13 x14 x15 x16 h)) ∧ (¬ x13 = 0 → (∃ a3, x10 = some a3 ∧ hT h a3 = 15 ∧ (vp_in (x18 + (1 : Int32)) (hL h a3) ∧ (∃ a7, x12 = some a7 ∧ hT h a7 = 15 ∧ (vp_in x18 (hL h a7) ∧ ((¬ (hI h a3 (x18 + (1 : Int32)).toNatClampNeg) = (hI h a7 x18.toNatClampNeg) → (Y x0 x2 x3 x4 x5 x6 x8 x9 x10 x11 x12 (0 : Int32) x14 x15 x16 x17 (x18 + (1 : Int32)) h)) ∧ ((hI h a3 (x18 + (1 : Int32)).toNatClampNeg) = (hI h a7 x18.toNatClampNeg) → (Y x0 x2 x3 x4 x5 x6 x8 x9 x10 x11 x12 (1 : Int32) x14 x15 x16 x17 (x18 + (1 : Int32)) h))))))))))
def w_Lw_isMerged_251 (R : Int32 → tpH → Prop) (X : String → tpH → Prop) (K291 : (Option Nat) → (Option Nat) → (Option Nat) → (Option Nat) → (Option Nat) → (Option Nat) → (Option Nat) → (Option Nat) → (Option Nat) → (Option Nat) → (Option Nat) → Int32 → Int32 → Int32 → Int32 → tpH → Prop) : Nat → (Option Nat) → (Option Nat) → (Option Nat) → (Option Nat) → (Option Nat) → (Option Nat) → (Option Nat) → (Option Nat) → (Option Nat) → (Option Nat) → (Option Nat) → Int32 → Int32 → Int32 → Int32 → Int32 → Int32 → tpH → Prop
  | 0 => fun _ _ _ _ _ _ _ _ _ _ _ _ _ _ _ _ _ _ => False
  | n + 1 => b_Lw_isMerged_251 R X K291 (w_Lw_isMerged_251 R X K291 n)
def w_Lw_isMerged_291 (R : Int32 → tpH → Prop) (X : String → tpH → Prop) (K119 : (Option Nat) → (Option Nat) → (Option Nat) → (Option Nat) → (Option Nat) → (Option Nat) → (Option Nat) → (Option Nat) → (Option Nat) → (Option Nat) → (Option Nat) → Int32 → Int32 → tpH → Prop) (x0 : Option Nat) (x2 : Option Nat) (x3 : Option Nat) (x4 : Option Nat) (x5 : Option Nat) (x6 : Option Nat) (x8 : Option Nat) (x9 : Option Nat) (x10 : Option Nat) (x11 : Option Nat) (x12 : Option Nat) (x13 : Int32) (x14 : Int32) (x15 : Int32) (x16 : Int32) (h : tpH) : Prop :=
  (x16 = 0 → (K119 x0 x2 x3 x4 x5 x6 x8 x9 x10 x11 x12 x13 (x14 + (1 : Int32)) h)) ∧ (¬ x16 = 0 → (w_Lw_adds x9 (((8 : Int32) * x15) + (5 : Int32)) h (fun h2 => K119 x0 x2 x3 x4 x5 x6 x8 x9 x10 x11 x12 x13 (x14 + (1 : Int32)) h2)))
def w_Lw_isMerged_184 (R : Int32 → tpH → Prop) (X : String → tpH → Prop) (K119 : (Option Nat) → (Option Nat) → (Option Nat) → (Option Nat) → (Option Nat) → (Option Nat) → (Option Nat) → (Option Nat) → (Option Nat) → (Option Nat) → (Option Nat) → Int32 → Int32 → tpH → Prop) (x0 : Option Nat) (x2 : Option Nat) (x3 : Option Nat) (x4 : Option Nat) (x5 : Option Nat) (x6 : Option Nat) (x8 : Option Nat) (x9 : Option Nat) (x10 : Option Nat) (x11 : Option Nat) (x12 : Option Nat) (x14 : Int32) (x15 : Int32) (x16 : Int32) (t0 : Int32) (h : tpH) : Prop :=
  w_Lw_children x11 x5 x15 x12 h (fun v2 h1 => ∃ a3, x5 = some a3 ∧ hT h1 a3 = 15 ∧ (vp_in x15 (hL h1 a3) ∧ (((4 : Int32) ≤ (hI h1 a3 x15.toNatClampNeg) → (w_Lw_isMerged_291 R X K119 x0 x2 x3 x4 x5 x6 x8 x9 x10 x11 x12 t0 x14 x15 x16 h1)) ∧ (¬ (4 : Int32) ≤ (hI h1 a3 x15.toNatClampNeg) → ((t0 = 0 → (w_Lw_isMerged_291 R X K119 x0 x2 x3 x4 x5 x6 x8 x9 x10 x11 x12 t0 x14 x15 x16 h1)) ∧ (¬ t0 = 0 → (w_Lw_orders x2 x3 x4 x8 x5 x6 x15 x10 h1 (fun v10 h9 => ∃ a11, x10 = some a11 ∧ hT h9 a11 = 15 ∧ (vp_in (0 : Int32) (hL h9 a11) ∧ ((¬ (hI h9 a11 (0 : Int32).toNatClampNeg) = v2 → (∃ n, w_Lw_isMerged_251 R X (w_Lw_isMerged_291 R X K119) n x0 x2 x3 x4 x5 x6 x8 x9 x10 x11 x12 (0 : Int32) x14 x15 v10 v2 (0 : Int32) h9)) ∧ ((hI h9 a11 (0 : Int32).toNatClampNeg) = v2 → (∃ n, w_Lw_isMerged_251 R X (w_Lw_isMerged_291 R X K119) n x0 x2 x3 x4 x5 x6 x8 x9 x10 x11 x12 (1 : Int32) x14 x15 v10 v2 (0 : Int32) h9))))))))))))
def w_Lw_isMerged_412 (R : Int32 → tpH → Prop) (X : String → tpH → Prop) (x0 : Option Nat) (x9 : Option Nat) (x13 : Int32) (h : tpH) : Prop :=
  (x13 = 0 → (R (0 : Int32) h)) ∧ (¬ x13 = 0 → (∃ a2, x9 = some a2 ∧ hT h a2 = 15 ∧ (vp_in (0 : Int32) (hL h a2) ∧ (w_Lw_does x0 (8 : Int32) (hI h a2 (0 : Int32).toNatClampNeg) (0 : Int32) (0 : Int32) h (fun v7 h6 => (¬ v7 = (-11 : Int32) → (R (0 : Int32) h6)) ∧ (v7 = (-11 : Int32) → (R (1 : Int32) h6)))))))
def b_Lw_isMerged_340 (R : Int32 → tpH → Prop) (X : String → tpH → Prop) (Y : (Option Nat) → (Option Nat) → Int32 → Int32 → tpH → Prop) (x0 : Option Nat) (x9 : Option Nat) (x13 : Int32) (x14 : Int32) (h : tpH) : Prop :=
  ∃ a1, x9 = some a1 ∧ hT h a1 = 15 ∧ (vp_in (0 : Int32) (hL h a1) ∧ (((hI h a1 (0 : Int32).toNatClampNeg) ≤ x14 → (w_Lw_isMerged_412 R X x0 x9 x13 h)) ∧ (¬ (hI h a1 (0 : Int32).toNatClampNeg) ≤ x14 → (((63 : Int32) ≤ x14 → (w_Lw_isMerged_412 R X x0 x9 x13 h)) ∧ (¬ (63 : Int32) ≤ x14 → ((x13 = 0 → (w_Lw_isMerged_412 R X x0 x9 x13 h)) ∧ (¬ x13 = 0 → (∃ a8, x0 = some a8 ∧ hT h a8 = 13 ∧ (w_TP_conflictKind a8 x14 h X (fun v12 h11 => hT h11 a1 = 15 ∧ (vp_in (x14 + (1 : Int32)) (hL h11 a1) ∧ ((¬ v12 = ((hI h11 a1 (x14 + (1 : Int32)).toNatClampNeg) - (hI h11 a1 (x14 + (1 : Int32)).toNatClampNeg) / (8 : Int32) * (8 : Int32)) → (Y x0 x9 (0 : Int32) (x14 + (1 : Int32)) h11)) ∧ (v12 = ((hI h11 a1 (x14 + (1 : Int32)).toNatClampNeg) - (hI h11 a1 (x14 + (1 : Int32)).toNatClampNeg) / (8 : Int32) * (8 : Int32)) → (hT h11 a8 = 13 ∧ (w_TP_conflictMark a8 x14 h11 X (fun v18 h17 => hT h17 a1 = 15 ∧ (vp_in (x14 + (1 : Int32)) (hL h17 a1) ∧ ((¬ v18 = ((hI h17 a1 (x14 + (1 : Int32)).toNatClampNeg) / (8 : Int32)) → (Y x0 x9 (0 : Int32) (x14 + (1 : Int32)) h17)) ∧ (v18 = ((hI h17 a1 (x14 + (1 : Int32)).toNatClampNeg) / (8 : Int32)) → (Y x0 x9 (1 : Int32) (x14 + (1 : Int32)) h17))))))))))))))))))))
def w_Lw_isMerged_340 (R : Int32 → tpH → Prop) (X : String → tpH → Prop) : Nat → (Option Nat) → (Option Nat) → Int32 → Int32 → tpH → Prop
  | 0 => fun _ _ _ _ _ => False
  | n + 1 => b_Lw_isMerged_340 R X (w_Lw_isMerged_340 R X n)
def w_Lw_isMerged_314 (R : Int32 → tpH → Prop) (X : String → tpH → Prop) (x0 : Option Nat) (x9 : Option Nat) (x13 : Int32) (h : tpH) : Prop :=
  (x13 = 0 → (∃ n, w_Lw_isMerged_340 R X n x0 x9 (0 : Int32) (0 : Int32) h)) ∧ (¬ x13 = 0 → (∃ a2, x0 = some a2 ∧ hT h a2 = 13 ∧ (w_TP_conflicts a2 h (fun v6 h5 => ∃ a7, x9 = some a7 ∧ hT h5 a7 = 15 ∧ (vp_in (0 : Int32) (hL h5 a7) ∧ ((¬ v6 = (hI h5 a7 (0 : Int32).toNatClampNeg) → (∃ n, w_Lw_isMerged_340 R X n x0 x9 (0 : Int32) (0 : Int32) h5)) ∧ (v6 = (hI h5 a7 (0 : Int32).toNatClampNeg) → (∃ n, w_Lw_isMerged_340 R X n x0 x9 (1 : Int32) (0 : Int32) h5))))))))
def b_Lw_isMerged_119 (R : Int32 → tpH → Prop) (X : String → tpH → Prop) (Y : (Option Nat) → (Option Nat) → (Option Nat) → (Option Nat) → (Option Nat) → (Option Nat) → (Option Nat) → (Option Nat) → (Option Nat) → (Option Nat) → (Option Nat) → Int32 → Int32 → tpH → Prop) (x0 : Option Nat) (x2 : Option Nat) (x3 : Option Nat) (x4 : Option Nat) (x5 : Option Nat) (x6 : Option Nat) (x8 : Option Nat) (x9 : Option Nat) (x10 : Option Nat) (x11 : Option Nat) (x12 : Option Nat) (x13 : Int32) (x14 : Int32) (h : tpH) : Prop :=
  ∃ a1, x8 = some a1 ∧ hT h a1 = 15 ∧ (vp_in (0 : Int32) (hL h a1) ∧ (((hI h a1 (0 : Int32).toNatClampNeg) ≤ x14 → (w_Lw_isMerged_314 R X x0 x9 x13 h)) ∧ (¬ (hI h a1 (0 : Int32).toNatClampNeg) ≤ x14 → ((x13 = 0 → (w_Lw_isMerged_314 R X x0 x9 x13 h)) ∧ (¬ x13 = 0 → (w_Lw_mark x11 x14 h (fun v8 h7 => w_Lw_parentOf x8 v8 h7 (fun v10 h9 => w_Lw_parent x11 x14 h9 (fun v12 h11 => (¬ v10 = v12 → (w_Lw_isMerged_184 R X Y x0 x2 x3 x4 x5 x6 x8 x9 x10 x11 x12 x14 v8 (0 : Int32) (0 : Int32) h11)) ∧ (v10 = v12 → (w_Lw_valueOf x8 v8 h11 (fun v15 h14 => w_Lw_value x11 x14 h14 (fun v17 h16 => (¬ v15 = v17 → (w_Lw_isMerged_184 R X Y x0 x2 x3 x4 x5 x6 x8 x9 x10 x11 x12 x14 v8 (0 : Int32) (0 : Int32) h16)) ∧ (v15 = v17 → (w_Lw_isMerged_184 R X Y x0 x2 x3 x4 x5 x6 x8 x9 x10 x11 x12 x14 v8 (0 : Int32) (1 : Int32) h16)))))))))))))))
def w_Lw_isMerged_119 (R : Int32 → tpH → Prop) (X : String → tpH → Prop) : Nat → (Option Nat) → (Option Nat) → (Option Nat) → (Option Nat) → (Option Nat) → (Option Nat) → (Option Nat) → (Option Nat) → (Option Nat) → (Option Nat) → (Option Nat) → Int32 → Int32 → tpH → Prop
  | 0 => fun _ _ _ _ _ _ _ _ _ _ _ _ _ _ => False
  | n + 1 => b_Lw_isMerged_119 R X (w_Lw_isMerged_119 R X n)
def w_Lw_isMerged_102 (R : Int32 → tpH → Prop) (X : String → tpH → Prop) (x0 : Option Nat) (x1 : Int32) (x2 : Option Nat) (x3 : Option Nat) (x4 : Option Nat) (x5 : Option Nat) (x6 : Option Nat) (x8 : Option Nat) (x9 : Option Nat) (x10 : Option Nat) (x11 : Option Nat) (x12 : Option Nat) (t0 : Int32) (h : tpH) : Prop :=
  (t0 = 0 → (∃ n, w_Lw_isMerged_119 R X n x0 x2 x3 x4 x5 x6 x8 x9 x10 x11 x12 t0 (0 : Int32) h)) ∧ (¬ t0 = 0 → (w_Lw_reads x0 x1 x11 h X (fun h2 => ∃ n, w_Lw_isMerged_119 R X n x0 x2 x3 x4 x5 x6 x8 x9 x10 x11 x12 t0 (0 : Int32) h2)))
def b_Lw_isMerged_33 (R : Int32 → tpH → Prop) (X : String → tpH → Prop) (Y : (Option Nat) → Int32 → (Option Nat) → (Option Nat) → (Option Nat) → (Option Nat) → (Option Nat) → Int32 → (Option Nat) → (Option Nat) → (Option Nat) → (Option Nat) → (Option Nat) → Int32 → tpH → Prop) (x0 : Option Nat) (x1 : Int32) (x2 : Option Nat) (x3 : Option Nat) (x4 : Option Nat) (x5 : Option Nat) (x6 : Option Nat) (x7 : Int32) (x8 : Option Nat) (x9 : Option Nat) (x10 : Option Nat) (x11 : Option Nat) (x12 : Option Nat) (x13 : Int32) (h : tpH) : Prop :=
  (x7 ≤ x13 → (w_Lw_mends x2 x8 x9 h (fun h2 => ∃ a3, x0 = some a3 ∧ hT h2 a3 = 13 ∧ (w_TP_size a3 x1 h2 X (fun v7 h6 => ∃ a8, x8 = some a8 ∧ hT h6 a8 = 15 ∧ (vp_in (0 : Int32) (hL h6 a8) ∧ ((¬ v7 = (hI h6 a8 (0 : Int32).toNatClampNeg) → (w_Lw_isMerged_102 R X x0 x1 x2 x3 x4 x5 x6 x8 x9 x10 x11 x12 (0 : Int32) h6)) ∧ (v7 = (hI h6 a8 (0 : Int32).toNatClampNeg) → (w_Lw_isMerged_102 R X x0 x1 x2 x3 x4 x5 x6 x8 x9 x10 x11 x12 (1 : Int32) h6))))))))) ∧ (¬ x7 ≤ x13 → (w_Lw_comes x2 x3 x4 x9 x6 x13 h (fun v14 h13 => (v14 < 0 → (Y x0 x1 x2 x3 x4 x5 x6 x7 x8 x9 x10 x11 x12 (x13 + (1 : Int32)) h13)) ∧ (¬ v14 < 0 → (∃ a16, x8 = some a16 ∧ hT h13 a16 = 15 ∧ (vp_in (0 : Int32) (hL h13 a16) ∧ (w_Lw_puts x8 (hI h13 a16 (0 : Int32).toNatClampNeg) v14 h13 (fun h20 => Y x0 x1 x2 x3 x4 x5 x6 x7 x8 x9 x10 x11 x12 (x13 + (1 : Int32)) h20))))))))
def w_Lw_isMerged_33 (R : Int32 → tpH → Prop) (X : String → tpH → Prop) : Nat → (Option Nat) → Int32 → (Option Nat) → (Option Nat) → (Option Nat) → (Option Nat) → (Option Nat) → Int32 → (Option Nat) → (Option Nat) → (Option Nat) → (Option Nat) → (Option Nat) → Int32 → tpH → Prop
  | 0 => fun _ _ _ _ _ _ _ _ _ _ _ _ _ _ _ => False
  | n + 1 => b_Lw_isMerged_33 R X (w_Lw_isMerged_33 R X n)
def w_Lw_isMerged (x0 : Option Nat) (x1 : Int32) (x2 : Option Nat) (x3 : Option Nat) (x4 : Option Nat) (x5 : Option Nat) (x6 : Option Nat) (x7 : Int32) (h : tpH) (X : String → tpH → Prop) (R : Int32 → tpH → Prop) : Prop :=
  ∀ a1 h2, a1 = hZ h → h2 = nC h 15 41 41 → (∀ a5 h6, a5 = hZ h2 → h6 = nC h2 15 64 64 → (∀ a9 h10, a9 = hZ h6 → h10 = nC h6 15 42 42 → (∀ a13 h14, a13 = hZ h10 → h14 = nC h10 15 41 41 → (∀ a17 h18, a17 = hZ h14 → h18 = nC h14 15 40 40 → (∃ n, w_Lw_isMerged_33 R X n x0 x1 x2 x3 x4 x5 x6 x7 (some a1) (some a5) (some a9) (some a13) (some a17) (0 : Int32) h18)))))
theorem s_Lw_isMerged_251 {h0 : tpH} {av : List tpV} {R : Int32 → tpH → Prop} {X : String → tpH → Prop} {K291 : (Option Nat) → (Option Nat) → (Option Nat) → (Option Nat) → (Option Nat) → (Option Nat) → (Option Nat) → (Option Nat) → (Option Nat) → (Option Nat) → (Option Nat) → Int32 → Int32 → Int32 → Int32 → tpH → Prop} (k291 : ∀ (x0 : Option Nat) (x2 : Option Nat) (x3 : Option Nat) (x4 : Option Nat) (x5 : Option Nat) (x6 : Option Nat) (x8 : Option Nat) (x9 : Option Nat) (x10 : Option Nat) (x11 : Option Nat) (x12 : Option Nat) (x13 : Int32) (x14 : Int32) (x15 : Int32) (x16 : Int32) (h : tpH), K291 x0 x2 x3 x4 x5 x6 x8 x9 x10 x11 x12 x13 x14 x15 x16 h → tpR Lw_isMerged 11 h0 av (tpOi R X) 291 [some (vR x0), none, some (vR x2), some (vR x3), some (vR x4), some (vR x5), some (vR x6), none, some (vR x8), some (vR x9), some (vR x10), some (vR x11), some (vR x12), some (vI x13), some (vI x14), some (vI x15), some (vI x16), none, none] [] h) : ∀ (n : Nat) (x0 : Option Nat) (x2 : Option Nat) (x3 : Option Nat) (x4 : Option Nat) (x5 : Option Nat) (x6 : Option Nat) (x8 : Option Nat) (x9 : Option Nat) (x10 : Option Nat) (x11 : Option Nat) (x12 : Option Nat) (x13 : Int32) (x14 : Int32) (x15 : Int32) (x16 : Int32) (x17 : Int32) (x18 : Int32) (h : tpH), w_Lw_isMerged_251 R X K291 n x0 x2 x3 x4 x5 x6 x8 x9 x10 x11 x12 x13 x14 x15 x16 x17 x18 h → tpR Lw_isMerged 11 h0 av (tpOi R X) 251 [some (vR x0), none, some (vR x2), some (vR x3), some (vR x4), some (vR x5), some (vR x6), none, some (vR x8), some (vR x9), some (vR x10), some (vR x11), some (vR x12), some (vI x13), some (vI x14), some (vI x15), some (vI x16), some (vI x17), some (vI x18)] [] h := by
  intro n
  induction n with
  | zero => intro x0 x2 x3 x4 x5 x6 x8 x9 x10 x11 x12 x13 x14 x15 x16 x17 x18 h hw; exact False.elim hw
  | succ n ih =>
    intro x0 x2 x3 x4 x5 x6 x8 x9 x10 x11 x12 x13 x14 x15 x16 x17 x18 h hw
    change b_Lw_isMerged_251 R X K291 (w_Lw_isMerged_251 R X K291 n) x0 x2 x3 x4 x5 x6 x8 x9 x10 x11 x12 x13 x14 x15 x16 x17 x18 h at hw
    unfold b_Lw_isMerged_251 at hw
    refine tq_iload dLw_isMerged_251 rfl ?_
    refine tq_iload dLw_isMerged_253 rfl ?_
    refine tq_icmpge (tgt := 291) dLw_isMerged_255 (by decide) (fun c1 => ?_) (fun c1 => ?_)
    · have hw := hw.1 c1
      refine tpR.fo (ls' := [some (vR x0), none, some (vR x2), some (vR x3), some (vR x4), some (vR x5), some (vR x6), none, some (vR x8), some (vR x9), some (vR x10), some (vR x11), some (vR x12), some (vI x13), some (vI x14), some (vI x15), some (vI x16), none, none]) ?_ (And.intro rfl (And.intro rfl (And.intro rfl (And.intro rfl (And.intro rfl (And.intro rfl (And.intro rfl (And.intro rfl (And.intro rfl (And.intro rfl (And.intro rfl (And.intro rfl (And.intro rfl (And.intro rfl (And.intro rfl trivial)))))))))))))))
      exact k291 _ _ _ _ _ _ _ _ _ _ _ _ _ _ _ _ hw
    · have hw := hw.2 c1
      refine tq_iload dLw_isMerged_258 rfl ?_
      refine tq_ifeq (tgt := 291) dLw_isMerged_260 (by decide) (fun c2 => ?_) (fun c2 => ?_)
      · have hw := hw.1 c2
        refine tpR.fo (ls' := [some (vR x0), none, some (vR x2), some (vR x3), some (vR x4), some (vR x5), some (vR x6), none, some (vR x8), some (vR x9), some (vR x10), some (vR x11), some (vR x12), some (vI x13), some (vI x14), some (vI x15), some (vI x16), none, none]) ?_ (And.intro rfl (And.intro rfl (And.intro rfl (And.intro rfl (And.intro rfl (And.intro rfl (And.intro rfl (And.intro rfl (And.intro rfl (And.intro rfl (And.intro rfl (And.intro rfl (And.intro rfl (And.intro rfl (And.intro rfl trivial)))))))))))))))
        exact k291 _ _ _ _ _ _ _ _ _ _ _ _ _ _ _ _ hw
      · have hw := hw.2 c2
        refine tq_aload dLw_isMerged_263 rfl ?_
        refine tq_iload dLw_isMerged_265 rfl ?_
        refine tq_iconst (v := (1 : Int32)) dLw_isMerged_267 tni_1 ?_
        refine tq_iadd dLw_isMerged_268 ?_
        obtain ⟨a3, e4, f5, hw⟩ := hw
        obtain ⟨f6, hw⟩ := hw
        refine te_iald dLw_isMerged_269 e4 (Or.inl f5) f6 ?_
        refine tq_aload dLw_isMerged_270 rfl ?_
        refine tq_iload dLw_isMerged_272 rfl ?_
        obtain ⟨a7, e8, f9, hw⟩ := hw
        obtain ⟨f10, hw⟩ := hw
        refine te_iald dLw_isMerged_274 e8 (Or.inl f9) f10 ?_
        refine tq_icmpne (tgt := 282) dLw_isMerged_275 (by decide) (fun c11 => ?_) (fun c11 => ?_)
        · have hw := hw.1 c11
          refine tq_iconst (v := (0 : Int32)) dLw_isMerged_282 tni_0 ?_
          refine tq_istore (ls' := [some (vR x0), none, some (vR x2), some (vR x3), some (vR x4), some (vR x5), some (vR x6), none, some (vR x8), some (vR x9), some (vR x10), some (vR x11), some (vR x12), some (vI (0 : Int32)), some (vI x14), some (vI x15), some (vI x16), some (vI x17), some (vI x18)]) dLw_isMerged_283 (Nat.le_of_ble_eq_true rfl) rfl ?_
          refine tq_inc (k := (1 : Int32)) (ls' := [some (vR x0), none, some (vR x2), some (vR x3), some (vR x4), some (vR x5), some (vR x6), none, some (vR x8), some (vR x9), some (vR x10), some (vR x11), some (vR x12), some (vI (0 : Int32)), some (vI x14), some (vI x15), some (vI x16), some (vI x17), some (vI (x18 + (1 : Int32)))]) dLw_isMerged_285 rfl tni_1 (Nat.le_of_ble_eq_true rfl) rfl ?_
          refine tq_goto (tgt := 251) dLw_isMerged_288 (by decide) ?_
          refine tpR.fo (ls' := [some (vR x0), none, some (vR x2), some (vR x3), some (vR x4), some (vR x5), some (vR x6), none, some (vR x8), some (vR x9), some (vR x10), some (vR x11), some (vR x12), some (vI (0 : Int32)), some (vI x14), some (vI x15), some (vI x16), some (vI x17), some (vI (x18 + (1 : Int32)))]) ?_ (And.intro rfl (And.intro rfl (And.intro rfl (And.intro rfl (And.intro rfl (And.intro rfl (And.intro rfl (And.intro rfl (And.intro rfl (And.intro rfl (And.intro rfl (And.intro rfl (And.intro rfl (And.intro rfl (And.intro rfl (And.intro rfl (And.intro rfl trivial)))))))))))))))))
          exact ih _ _ _ _ _ _ _ _ _ _ _ _ _ _ _ _ _ _ hw
        · have hw := hw.2 c11
          refine tq_iconst (v := (1 : Int32)) dLw_isMerged_278 tni_1 ?_
          refine tq_goto (tgt := 283) dLw_isMerged_279 (by decide) ?_
          refine tq_istore (ls' := [some (vR x0), none, some (vR x2), some (vR x3), some (vR x4), some (vR x5), some (vR x6), none, some (vR x8), some (vR x9), some (vR x10), some (vR x11), some (vR x12), some (vI (1 : Int32)), some (vI x14), some (vI x15), some (vI x16), some (vI x17), some (vI x18)]) dLw_isMerged_283 (Nat.le_of_ble_eq_true rfl) rfl ?_
          refine tq_inc (k := (1 : Int32)) (ls' := [some (vR x0), none, some (vR x2), some (vR x3), some (vR x4), some (vR x5), some (vR x6), none, some (vR x8), some (vR x9), some (vR x10), some (vR x11), some (vR x12), some (vI (1 : Int32)), some (vI x14), some (vI x15), some (vI x16), some (vI x17), some (vI (x18 + (1 : Int32)))]) dLw_isMerged_285 rfl tni_1 (Nat.le_of_ble_eq_true rfl) rfl ?_
          refine tq_goto (tgt := 251) dLw_isMerged_288 (by decide) ?_
          refine tpR.fo (ls' := [some (vR x0), none, some (vR x2), some (vR x3), some (vR x4), some (vR x5), some (vR x6), none, some (vR x8), some (vR x9), some (vR x10), some (vR x11), some (vR x12), some (vI (1 : Int32)), some (vI x14), some (vI x15), some (vI x16), some (vI x17), some (vI (x18 + (1 : Int32)))]) ?_ (And.intro rfl (And.intro rfl (And.intro rfl (And.intro rfl (And.intro rfl (And.intro rfl (And.intro rfl (And.intro rfl (And.intro rfl (And.intro rfl (And.intro rfl (And.intro rfl (And.intro rfl (And.intro rfl (And.intro rfl (And.intro rfl (And.intro rfl trivial)))))))))))))))))
          exact ih _ _ _ _ _ _ _ _ _ _ _ _ _ _ _ _ _ _ hw
theorem s_Lw_isMerged_291 {h0 : tpH} {av : List tpV} {R : Int32 → tpH → Prop} {X : String → tpH → Prop} {K119 : (Option Nat) → (Option Nat) → (Option Nat) → (Option Nat) → (Option Nat) → (Option Nat) → (Option Nat) → (Option Nat) → (Option Nat) → (Option Nat) → (Option Nat) → Int32 → Int32 → tpH → Prop} (k119 : ∀ (x0 : Option Nat) (x2 : Option Nat) (x3 : Option Nat) (x4 : Option Nat) (x5 : Option Nat) (x6 : Option Nat) (x8 : Option Nat) (x9 : Option Nat) (x10 : Option Nat) (x11 : Option Nat) (x12 : Option Nat) (x13 : Int32) (x14 : Int32) (h : tpH), K119 x0 x2 x3 x4 x5 x6 x8 x9 x10 x11 x12 x13 x14 h → tpR Lw_isMerged 11 h0 av (tpOi R X) 119 [some (vR x0), none, some (vR x2), some (vR x3), some (vR x4), some (vR x5), some (vR x6), none, some (vR x8), some (vR x9), some (vR x10), some (vR x11), some (vR x12), some (vI x13), some (vI x14), none, none, none, none] [] h) : ∀ (x0 : Option Nat) (x2 : Option Nat) (x3 : Option Nat) (x4 : Option Nat) (x5 : Option Nat) (x6 : Option Nat) (x8 : Option Nat) (x9 : Option Nat) (x10 : Option Nat) (x11 : Option Nat) (x12 : Option Nat) (x13 : Int32) (x14 : Int32) (x15 : Int32) (x16 : Int32) (h : tpH), w_Lw_isMerged_291 R X K119 x0 x2 x3 x4 x5 x6 x8 x9 x10 x11 x12 x13 x14 x15 x16 h → tpR Lw_isMerged 11 h0 av (tpOi R X) 291 [some (vR x0), none, some (vR x2), some (vR x3), some (vR x4), some (vR x5), some (vR x6), none, some (vR x8), some (vR x9), some (vR x10), some (vR x11), some (vR x12), some (vI x13), some (vI x14), some (vI x15), some (vI x16), none, none] [] h := by
  intro x0 x2 x3 x4 x5 x6 x8 x9 x10 x11 x12 x13 x14 x15 x16 h hw
  unfold w_Lw_isMerged_291 at hw
  refine tq_iload dLw_isMerged_291 rfl ?_
  refine tq_ifeq (tgt := 308) dLw_isMerged_293 (by decide) (fun c1 => ?_) (fun c1 => ?_)
  · have hw := hw.1 c1
    refine tq_inc (k := (1 : Int32)) (ls' := [some (vR x0), none, some (vR x2), some (vR x3), some (vR x4), some (vR x5), some (vR x6), none, some (vR x8), some (vR x9), some (vR x10), some (vR x11), some (vR x12), some (vI x13), some (vI (x14 + (1 : Int32))), some (vI x15), some (vI x16), none, none]) dLw_isMerged_308 rfl tni_1 (Nat.le_of_ble_eq_true rfl) rfl ?_
    refine tq_goto (tgt := 119) dLw_isMerged_311 (by decide) ?_
    refine tpR.fo (ls' := [some (vR x0), none, some (vR x2), some (vR x3), some (vR x4), some (vR x5), some (vR x6), none, some (vR x8), some (vR x9), some (vR x10), some (vR x11), some (vR x12), some (vI x13), some (vI (x14 + (1 : Int32))), none, none, none, none]) ?_ (And.intro rfl (And.intro rfl (And.intro rfl (And.intro rfl (And.intro rfl (And.intro rfl (And.intro rfl (And.intro rfl (And.intro rfl (And.intro rfl (And.intro rfl (And.intro rfl (And.intro rfl trivial)))))))))))))
    exact k119 _ _ _ _ _ _ _ _ _ _ _ _ _ _ hw
  · have hw := hw.2 c1
    refine tq_aload dLw_isMerged_296 rfl ?_
    refine tq_bipush (v := (8 : Int32)) dLw_isMerged_298 tnb_8 ?_
    refine tq_iload dLw_isMerged_300 rfl ?_
    refine tq_imul dLw_isMerged_302 ?_
    refine tq_iconst (v := (5 : Int32)) dLw_isMerged_303 tni_5 ?_
    refine tq_iadd dLw_isMerged_304 ?_
    refine tq_callS ms_Lw_adds (dc := 0) (as := [vR x9, vI (((8 : Int32) * x15) + (5 : Int32))]) (rest := []) kLw_89 (Nat.le_of_ble_eq_true rfl) (Nat.le_of_ble_eq_true rfl) rfl rfl (Nat.le_of_ble_eq_true rfl) dLw_isMerged_305 (s_Lw_adds hw) (fun _ _ hx => False.elim hx) (tk_v fun h2 hw => ?_)
    refine tq_inc (k := (1 : Int32)) (ls' := [some (vR x0), none, some (vR x2), some (vR x3), some (vR x4), some (vR x5), some (vR x6), none, some (vR x8), some (vR x9), some (vR x10), some (vR x11), some (vR x12), some (vI x13), some (vI (x14 + (1 : Int32))), some (vI x15), some (vI x16), none, none]) dLw_isMerged_308 rfl tni_1 (Nat.le_of_ble_eq_true rfl) rfl ?_
    refine tq_goto (tgt := 119) dLw_isMerged_311 (by decide) ?_
    refine tpR.fo (ls' := [some (vR x0), none, some (vR x2), some (vR x3), some (vR x4), some (vR x5), some (vR x6), none, some (vR x8), some (vR x9), some (vR x10), some (vR x11), some (vR x12), some (vI x13), some (vI (x14 + (1 : Int32))), none, none, none, none]) ?_ (And.intro rfl (And.intro rfl (And.intro rfl (And.intro rfl (And.intro rfl (And.intro rfl (And.intro rfl (And.intro rfl (And.intro rfl (And.intro rfl (And.intro rfl (And.intro rfl (And.intro rfl trivial)))))))))))))
    exact k119 _ _ _ _ _ _ _ _ _ _ _ _ _ _ hw
theorem s_Lw_isMerged_184 {h0 : tpH} {av : List tpV} {R : Int32 → tpH → Prop} {X : String → tpH → Prop} {K119 : (Option Nat) → (Option Nat) → (Option Nat) → (Option Nat) → (Option Nat) → (Option Nat) → (Option Nat) → (Option Nat) → (Option Nat) → (Option Nat) → (Option Nat) → Int32 → Int32 → tpH → Prop} (k119 : ∀ (x0 : Option Nat) (x2 : Option Nat) (x3 : Option Nat) (x4 : Option Nat) (x5 : Option Nat) (x6 : Option Nat) (x8 : Option Nat) (x9 : Option Nat) (x10 : Option Nat) (x11 : Option Nat) (x12 : Option Nat) (x13 : Int32) (x14 : Int32) (h : tpH), K119 x0 x2 x3 x4 x5 x6 x8 x9 x10 x11 x12 x13 x14 h → tpR Lw_isMerged 11 h0 av (tpOi R X) 119 [some (vR x0), none, some (vR x2), some (vR x3), some (vR x4), some (vR x5), some (vR x6), none, some (vR x8), some (vR x9), some (vR x10), some (vR x11), some (vR x12), some (vI x13), some (vI x14), none, none, none, none] [] h) : ∀ (x0 : Option Nat) (x2 : Option Nat) (x3 : Option Nat) (x4 : Option Nat) (x5 : Option Nat) (x6 : Option Nat) (x8 : Option Nat) (x9 : Option Nat) (x10 : Option Nat) (x11 : Option Nat) (x12 : Option Nat) (x14 : Int32) (x15 : Int32) (x16 : Int32) (t0 : Int32) (h : tpH), w_Lw_isMerged_184 R X K119 x0 x2 x3 x4 x5 x6 x8 x9 x10 x11 x12 x14 x15 x16 t0 h → tpR Lw_isMerged 11 h0 av (tpOi R X) 184 [some (vR x0), none, some (vR x2), some (vR x3), some (vR x4), some (vR x5), some (vR x6), none, some (vR x8), some (vR x9), some (vR x10), some (vR x11), some (vR x12), none, some (vI x14), some (vI x15), some (vI x16), none, none] [vI t0] h := by
  intro x0 x2 x3 x4 x5 x6 x8 x9 x10 x11 x12 x14 x15 x16 t0 h hw
  unfold w_Lw_isMerged_184 at hw
  refine tq_istore (ls' := [some (vR x0), none, some (vR x2), some (vR x3), some (vR x4), some (vR x5), some (vR x6), none, some (vR x8), some (vR x9), some (vR x10), some (vR x11), some (vR x12), some (vI t0), some (vI x14), some (vI x15), some (vI x16), none, none]) dLw_isMerged_184 (Nat.le_of_ble_eq_true rfl) rfl ?_
  refine tq_aload dLw_isMerged_186 rfl ?_
  refine tq_aload dLw_isMerged_188 rfl ?_
  refine tq_iload dLw_isMerged_190 rfl ?_
  refine tq_aload dLw_isMerged_192 rfl ?_
  refine tq_callS ms_Lw_children (dc := 1) (as := [vR x11, vR x5, vI x15, vR x12]) (rest := []) kLw_36 (Nat.le_of_ble_eq_true rfl) (Nat.le_of_ble_eq_true rfl) rfl rfl (Nat.le_of_ble_eq_true rfl) dLw_isMerged_194 (s_Lw_children hw) (fun _ _ hx => False.elim hx) (tk_i fun v2 h1 hw => ?_)
  refine tq_istore (ls' := [some (vR x0), none, some (vR x2), some (vR x3), some (vR x4), some (vR x5), some (vR x6), none, some (vR x8), some (vR x9), some (vR x10), some (vR x11), some (vR x12), some (vI t0), some (vI x14), some (vI x15), some (vI x16), some (vI v2), none]) dLw_isMerged_197 (Nat.le_of_ble_eq_true rfl) rfl ?_
  refine tq_aload dLw_isMerged_199 rfl ?_
  refine tq_iload dLw_isMerged_201 rfl ?_
  obtain ⟨a3, e4, f5, hw⟩ := hw
  obtain ⟨f6, hw⟩ := hw
  refine te_iald dLw_isMerged_203 e4 (Or.inl f5) f6 ?_
  refine tq_iconst (v := (4 : Int32)) dLw_isMerged_204 tni_4 ?_
  refine tq_icmpge (tgt := 291) dLw_isMerged_205 (by decide) (fun c7 => ?_) (fun c7 => ?_)
  · have hw := hw.1 c7
    refine tpR.fo (ls' := [some (vR x0), none, some (vR x2), some (vR x3), some (vR x4), some (vR x5), some (vR x6), none, some (vR x8), some (vR x9), some (vR x10), some (vR x11), some (vR x12), some (vI t0), some (vI x14), some (vI x15), some (vI x16), none, none]) ?_ (And.intro rfl (And.intro rfl (And.intro rfl (And.intro rfl (And.intro rfl (And.intro rfl (And.intro rfl (And.intro rfl (And.intro rfl (And.intro rfl (And.intro rfl (And.intro rfl (And.intro rfl (And.intro rfl (And.intro rfl trivial)))))))))))))))
    exact s_Lw_isMerged_291 k119 _ _ _ _ _ _ _ _ _ _ _ _ _ _ _ _ hw
  · have hw := hw.2 c7
    refine tq_iload dLw_isMerged_208 rfl ?_
    refine tq_ifeq (tgt := 291) dLw_isMerged_210 (by decide) (fun c8 => ?_) (fun c8 => ?_)
    · have hw := hw.1 c8
      refine tpR.fo (ls' := [some (vR x0), none, some (vR x2), some (vR x3), some (vR x4), some (vR x5), some (vR x6), none, some (vR x8), some (vR x9), some (vR x10), some (vR x11), some (vR x12), some (vI t0), some (vI x14), some (vI x15), some (vI x16), none, none]) ?_ (And.intro rfl (And.intro rfl (And.intro rfl (And.intro rfl (And.intro rfl (And.intro rfl (And.intro rfl (And.intro rfl (And.intro rfl (And.intro rfl (And.intro rfl (And.intro rfl (And.intro rfl (And.intro rfl (And.intro rfl trivial)))))))))))))))
      exact s_Lw_isMerged_291 k119 _ _ _ _ _ _ _ _ _ _ _ _ _ _ _ _ hw
    · have hw := hw.2 c8
      refine tq_aload_n dLw_isMerged_213 rfl rfl ?_
      refine tq_aload_n dLw_isMerged_214 rfl rfl ?_
      refine tq_aload dLw_isMerged_215 rfl ?_
      refine tq_aload dLw_isMerged_217 rfl ?_
      refine tq_aload dLw_isMerged_219 rfl ?_
      refine tq_aload dLw_isMerged_221 rfl ?_
      refine tq_iload dLw_isMerged_223 rfl ?_
      refine tq_aload dLw_isMerged_225 rfl ?_
      refine tq_callS ms_Lw_orders (dc := 3) (as := [vR x2, vR x3, vR x4, vR x8, vR x5, vR x6, vI x15, vR x10]) (rest := []) kLw_128 (Nat.le_of_ble_eq_true rfl) (Nat.le_of_ble_eq_true rfl) rfl rfl (Nat.le_of_ble_eq_true rfl) dLw_isMerged_227 (s_Lw_orders hw) (fun _ _ hx => False.elim hx) (tk_i fun v10 h9 hw => ?_)
      refine tq_istore (ls' := [some (vR x0), none, some (vR x2), some (vR x3), some (vR x4), some (vR x5), some (vR x6), none, some (vR x8), some (vR x9), some (vR x10), some (vR x11), some (vR x12), some (vI t0), some (vI x14), some (vI x15), some (vI v10), some (vI v2), none]) dLw_isMerged_230 (Nat.le_of_ble_eq_true rfl) rfl ?_
      refine tq_aload dLw_isMerged_232 rfl ?_
      refine tq_iconst (v := (0 : Int32)) dLw_isMerged_234 tni_0 ?_
      obtain ⟨a11, e12, f13, hw⟩ := hw
      obtain ⟨f14, hw⟩ := hw
      refine te_iald dLw_isMerged_235 e12 (Or.inl f13) f14 ?_
      refine tq_iload dLw_isMerged_236 rfl ?_
      refine tq_icmpne (tgt := 245) dLw_isMerged_238 (by decide) (fun c15 => ?_) (fun c15 => ?_)
      · have hw := hw.1 c15
        refine tq_iconst (v := (0 : Int32)) dLw_isMerged_245 tni_0 ?_
        refine tq_istore (ls' := [some (vR x0), none, some (vR x2), some (vR x3), some (vR x4), some (vR x5), some (vR x6), none, some (vR x8), some (vR x9), some (vR x10), some (vR x11), some (vR x12), some (vI (0 : Int32)), some (vI x14), some (vI x15), some (vI v10), some (vI v2), none]) dLw_isMerged_246 (Nat.le_of_ble_eq_true rfl) rfl ?_
        refine tq_iconst (v := (0 : Int32)) dLw_isMerged_248 tni_0 ?_
        refine tq_istore (ls' := [some (vR x0), none, some (vR x2), some (vR x3), some (vR x4), some (vR x5), some (vR x6), none, some (vR x8), some (vR x9), some (vR x10), some (vR x11), some (vR x12), some (vI (0 : Int32)), some (vI x14), some (vI x15), some (vI v10), some (vI v2), some (vI (0 : Int32))]) dLw_isMerged_249 (Nat.le_of_ble_eq_true rfl) rfl ?_
        refine tpR.fo (ls' := [some (vR x0), none, some (vR x2), some (vR x3), some (vR x4), some (vR x5), some (vR x6), none, some (vR x8), some (vR x9), some (vR x10), some (vR x11), some (vR x12), some (vI (0 : Int32)), some (vI x14), some (vI x15), some (vI v10), some (vI v2), some (vI (0 : Int32))]) ?_ (And.intro rfl (And.intro rfl (And.intro rfl (And.intro rfl (And.intro rfl (And.intro rfl (And.intro rfl (And.intro rfl (And.intro rfl (And.intro rfl (And.intro rfl (And.intro rfl (And.intro rfl (And.intro rfl (And.intro rfl (And.intro rfl (And.intro rfl trivial)))))))))))))))))
        obtain ⟨n, hw⟩ := hw
        exact s_Lw_isMerged_251 (s_Lw_isMerged_291 k119) n _ _ _ _ _ _ _ _ _ _ _ _ _ _ _ _ _ _ hw
      · have hw := hw.2 c15
        refine tq_iconst (v := (1 : Int32)) dLw_isMerged_241 tni_1 ?_
        refine tq_goto (tgt := 246) dLw_isMerged_242 (by decide) ?_
        refine tq_istore (ls' := [some (vR x0), none, some (vR x2), some (vR x3), some (vR x4), some (vR x5), some (vR x6), none, some (vR x8), some (vR x9), some (vR x10), some (vR x11), some (vR x12), some (vI (1 : Int32)), some (vI x14), some (vI x15), some (vI v10), some (vI v2), none]) dLw_isMerged_246 (Nat.le_of_ble_eq_true rfl) rfl ?_
        refine tq_iconst (v := (0 : Int32)) dLw_isMerged_248 tni_0 ?_
        refine tq_istore (ls' := [some (vR x0), none, some (vR x2), some (vR x3), some (vR x4), some (vR x5), some (vR x6), none, some (vR x8), some (vR x9), some (vR x10), some (vR x11), some (vR x12), some (vI (1 : Int32)), some (vI x14), some (vI x15), some (vI v10), some (vI v2), some (vI (0 : Int32))]) dLw_isMerged_249 (Nat.le_of_ble_eq_true rfl) rfl ?_
        refine tpR.fo (ls' := [some (vR x0), none, some (vR x2), some (vR x3), some (vR x4), some (vR x5), some (vR x6), none, some (vR x8), some (vR x9), some (vR x10), some (vR x11), some (vR x12), some (vI (1 : Int32)), some (vI x14), some (vI x15), some (vI v10), some (vI v2), some (vI (0 : Int32))]) ?_ (And.intro rfl (And.intro rfl (And.intro rfl (And.intro rfl (And.intro rfl (And.intro rfl (And.intro rfl (And.intro rfl (And.intro rfl (And.intro rfl (And.intro rfl (And.intro rfl (And.intro rfl (And.intro rfl (And.intro rfl (And.intro rfl (And.intro rfl trivial)))))))))))))))))
        obtain ⟨n, hw⟩ := hw
        exact s_Lw_isMerged_251 (s_Lw_isMerged_291 k119) n _ _ _ _ _ _ _ _ _ _ _ _ _ _ _ _ _ _ hw
theorem s_Lw_isMerged_412 {h0 : tpH} {av : List tpV} {R : Int32 → tpH → Prop} {X : String → tpH → Prop} : ∀ (x0 : Option Nat) (x9 : Option Nat) (x13 : Int32) (h : tpH), w_Lw_isMerged_412 R X x0 x9 x13 h → tpR Lw_isMerged 11 h0 av (tpOi R X) 412 [some (vR x0), none, none, none, none, none, none, none, none, some (vR x9), none, none, none, some (vI x13), none, none, none, none, none] [] h := by
  intro x0 x9 x13 h hw
  unfold w_Lw_isMerged_412 at hw
  refine tq_iload dLw_isMerged_412 rfl ?_
  refine tq_ifeq (tgt := 438) dLw_isMerged_414 (by decide) (fun c1 => ?_) (fun c1 => ?_)
  · have hw := hw.1 c1
    refine tq_iconst (v := (0 : Int32)) dLw_isMerged_438 tni_0 ?_
    exact tq_iret rfl (by decide) dLw_isMerged_439 hw
  · have hw := hw.2 c1
    refine tq_aload_n dLw_isMerged_417 rfl rfl ?_
    refine tq_bipush (v := (8 : Int32)) dLw_isMerged_418 tnb_8 ?_
    refine tq_aload dLw_isMerged_420 rfl ?_
    refine tq_iconst (v := (0 : Int32)) dLw_isMerged_422 tni_0 ?_
    obtain ⟨a2, e3, f4, hw⟩ := hw
    obtain ⟨f5, hw⟩ := hw
    refine te_iald dLw_isMerged_423 e3 (Or.inl f4) f5 ?_
    refine tq_iconst (v := (0 : Int32)) dLw_isMerged_424 tni_0 ?_
    refine tq_iconst (v := (0 : Int32)) dLw_isMerged_425 tni_0 ?_
    refine tq_callSX ms_Lw_does (by intro hz; cases hz) (dc := 10) (as := [vR x0, vI (8 : Int32), vI (hI h a2 (0 : Int32).toNatClampNeg), vI (0 : Int32), vI (0 : Int32)]) (rest := []) kLw_135 (Nat.le_of_ble_eq_true rfl) (Nat.le_of_ble_eq_true rfl) rfl rfl (Nat.le_of_ble_eq_true rfl) dLw_isMerged_426 (s_Lw_does hw) (fun _ _ hx => False.elim hx) (tk_i fun v7 h6 hw => ?_)
    refine tq_bipush (v := (-11 : Int32)) dLw_isMerged_429 tnb_m11 ?_
    refine tq_icmpne (tgt := 438) dLw_isMerged_431 (by decide) (fun c8 => ?_) (fun c8 => ?_)
    · have hw := hw.1 c8
      refine tq_iconst (v := (0 : Int32)) dLw_isMerged_438 tni_0 ?_
      exact tq_iret rfl (by decide) dLw_isMerged_439 hw
    · have hw := hw.2 c8
      refine tq_iconst (v := (1 : Int32)) dLw_isMerged_434 tni_1 ?_
      refine tq_goto (tgt := 439) dLw_isMerged_435 (by decide) ?_
      exact tq_iret rfl (by decide) dLw_isMerged_439 hw
theorem s_Lw_isMerged_340 {h0 : tpH} {av : List tpV} {R : Int32 → tpH → Prop} {X : String → tpH → Prop} : ∀ (n : Nat) (x0 : Option Nat) (x9 : Option Nat) (x13 : Int32) (x14 : Int32) (h : tpH), w_Lw_isMerged_340 R X n x0 x9 x13 x14 h → tpR Lw_isMerged 11 h0 av (tpOi R X) 340 [some (vR x0), none, none, none, none, none, none, none, none, some (vR x9), none, none, none, some (vI x13), some (vI x14), none, none, none, none] [] h := by
  intro n
  induction n with
  | zero => intro x0 x9 x13 x14 h hw; exact False.elim hw
  | succ n ih =>
    intro x0 x9 x13 x14 h hw
    change b_Lw_isMerged_340 R X (w_Lw_isMerged_340 R X n) x0 x9 x13 x14 h at hw
    unfold b_Lw_isMerged_340 at hw
    refine tq_iload dLw_isMerged_340 rfl ?_
    refine tq_aload dLw_isMerged_342 rfl ?_
    refine tq_iconst (v := (0 : Int32)) dLw_isMerged_344 tni_0 ?_
    obtain ⟨a1, e2, f3, hw⟩ := hw
    obtain ⟨f4, hw⟩ := hw
    refine te_iald dLw_isMerged_345 e2 (Or.inl f3) f4 ?_
    refine tq_icmpge (tgt := 412) dLw_isMerged_346 (by decide) (fun c5 => ?_) (fun c5 => ?_)
    · have hw := hw.1 c5
      refine tpR.fo (ls' := [some (vR x0), none, none, none, none, none, none, none, none, some (vR x9), none, none, none, some (vI x13), none, none, none, none, none]) ?_ (And.intro rfl (And.intro rfl (And.intro rfl trivial)))
      exact s_Lw_isMerged_412 _ _ _ _ hw
    · have hw := hw.2 c5
      refine tq_iload dLw_isMerged_349 rfl ?_
      refine tq_bipush (v := (63 : Int32)) dLw_isMerged_351 tnb_63 ?_
      refine tq_icmpge (tgt := 412) dLw_isMerged_353 (by decide) (fun c6 => ?_) (fun c6 => ?_)
      · have hw := hw.1 c6
        refine tpR.fo (ls' := [some (vR x0), none, none, none, none, none, none, none, none, some (vR x9), none, none, none, some (vI x13), none, none, none, none, none]) ?_ (And.intro rfl (And.intro rfl (And.intro rfl trivial)))
        exact s_Lw_isMerged_412 _ _ _ _ hw
      · have hw := hw.2 c6
        refine tq_iload dLw_isMerged_356 rfl ?_
        refine tq_ifeq (tgt := 412) dLw_isMerged_358 (by decide) (fun c7 => ?_) (fun c7 => ?_)
        · have hw := hw.1 c7
          refine tpR.fo (ls' := [some (vR x0), none, none, none, none, none, none, none, none, some (vR x9), none, none, none, some (vI x13), none, none, none, none, none]) ?_ (And.intro rfl (And.intro rfl (And.intro rfl trivial)))
          exact s_Lw_isMerged_412 _ _ _ _ hw
        · have hw := hw.2 c7
          refine tq_aload_n dLw_isMerged_361 rfl rfl ?_
          refine tq_iload dLw_isMerged_362 rfl ?_
          obtain ⟨a8, e9, f10, hw⟩ := hw
          refine te_callV mv_TP_conflictKind (ci := 12) (dc := 7) (as := [vI x14]) (rest := []) kLw_70 rfl (Nat.le_of_ble_eq_true rfl) (Nat.le_of_ble_eq_true rfl) rfl rfl e9 f10 (Nat.le_of_ble_eq_true rfl) dLw_isMerged_364 (s_TP_conflictKind hw) (fun _ _ hx => tpXx.out rfl hx) (tk_i fun v12 h11 hw => ?_)
          refine tq_aload dLw_isMerged_367 rfl ?_
          refine tq_iload dLw_isMerged_369 rfl ?_
          refine tq_iconst (v := (1 : Int32)) dLw_isMerged_371 tni_1 ?_
          refine tq_iadd dLw_isMerged_372 ?_
          obtain ⟨f13, hw⟩ := hw
          obtain ⟨f14, hw⟩ := hw
          refine te_iald dLw_isMerged_373 e2 (Or.inl f13) f14 ?_
          refine tq_bipush (v := (8 : Int32)) dLw_isMerged_374 tnb_8 ?_
          refine tq_irem dLw_isMerged_376 (by decide) ?_
          refine tq_icmpne (tgt := 403) dLw_isMerged_377 (by decide) (fun c15 => ?_) (fun c15 => ?_)
          · have hw := hw.1 c15
            refine tq_iconst (v := (0 : Int32)) dLw_isMerged_403 tni_0 ?_
            refine tq_istore (ls' := [some (vR x0), none, none, none, none, none, none, none, none, some (vR x9), none, none, none, some (vI (0 : Int32)), some (vI x14), none, none, none, none]) dLw_isMerged_404 (Nat.le_of_ble_eq_true rfl) rfl ?_
            refine tq_inc (k := (1 : Int32)) (ls' := [some (vR x0), none, none, none, none, none, none, none, none, some (vR x9), none, none, none, some (vI (0 : Int32)), some (vI (x14 + (1 : Int32))), none, none, none, none]) dLw_isMerged_406 rfl tni_1 (Nat.le_of_ble_eq_true rfl) rfl ?_
            refine tq_goto (tgt := 340) dLw_isMerged_409 (by decide) ?_
            refine tpR.fo (ls' := [some (vR x0), none, none, none, none, none, none, none, none, some (vR x9), none, none, none, some (vI (0 : Int32)), some (vI (x14 + (1 : Int32))), none, none, none, none]) ?_ (And.intro rfl (And.intro rfl (And.intro rfl (And.intro rfl trivial))))
            exact ih _ _ _ _ _ hw
          · have hw := hw.2 c15
            refine tq_aload_n dLw_isMerged_380 rfl rfl ?_
            refine tq_iload dLw_isMerged_381 rfl ?_
            obtain ⟨f16, hw⟩ := hw
            refine te_callV mv_TP_conflictMark (ci := 12) (dc := 7) (as := [vI x14]) (rest := []) kLw_73 rfl (Nat.le_of_ble_eq_true rfl) (Nat.le_of_ble_eq_true rfl) rfl rfl e9 f16 (Nat.le_of_ble_eq_true rfl) dLw_isMerged_383 (s_TP_conflictMark hw) (fun _ _ hx => tpXx.out rfl hx) (tk_i fun v18 h17 hw => ?_)
            refine tq_aload dLw_isMerged_386 rfl ?_
            refine tq_iload dLw_isMerged_388 rfl ?_
            refine tq_iconst (v := (1 : Int32)) dLw_isMerged_390 tni_1 ?_
            refine tq_iadd dLw_isMerged_391 ?_
            obtain ⟨f19, hw⟩ := hw
            obtain ⟨f20, hw⟩ := hw
            refine te_iald dLw_isMerged_392 e2 (Or.inl f19) f20 ?_
            refine tq_bipush (v := (8 : Int32)) dLw_isMerged_393 tnb_8 ?_
            refine tq_idiv dLw_isMerged_395 (by decide) ?_
            refine tq_icmpne (tgt := 403) dLw_isMerged_396 (by decide) (fun c21 => ?_) (fun c21 => ?_)
            · have hw := hw.1 c21
              refine tq_iconst (v := (0 : Int32)) dLw_isMerged_403 tni_0 ?_
              refine tq_istore (ls' := [some (vR x0), none, none, none, none, none, none, none, none, some (vR x9), none, none, none, some (vI (0 : Int32)), some (vI x14), none, none, none, none]) dLw_isMerged_404 (Nat.le_of_ble_eq_true rfl) rfl ?_
              refine tq_inc (k := (1 : Int32)) (ls' := [some (vR x0), none, none, none, none, none, none, none, none, some (vR x9), none, none, none, some (vI (0 : Int32)), some (vI (x14 + (1 : Int32))), none, none, none, none]) dLw_isMerged_406 rfl tni_1 (Nat.le_of_ble_eq_true rfl) rfl ?_
              refine tq_goto (tgt := 340) dLw_isMerged_409 (by decide) ?_
              refine tpR.fo (ls' := [some (vR x0), none, none, none, none, none, none, none, none, some (vR x9), none, none, none, some (vI (0 : Int32)), some (vI (x14 + (1 : Int32))), none, none, none, none]) ?_ (And.intro rfl (And.intro rfl (And.intro rfl (And.intro rfl trivial))))
              exact ih _ _ _ _ _ hw
            · have hw := hw.2 c21
              refine tq_iconst (v := (1 : Int32)) dLw_isMerged_399 tni_1 ?_
              refine tq_goto (tgt := 404) dLw_isMerged_400 (by decide) ?_
              refine tq_istore (ls' := [some (vR x0), none, none, none, none, none, none, none, none, some (vR x9), none, none, none, some (vI (1 : Int32)), some (vI x14), none, none, none, none]) dLw_isMerged_404 (Nat.le_of_ble_eq_true rfl) rfl ?_
              refine tq_inc (k := (1 : Int32)) (ls' := [some (vR x0), none, none, none, none, none, none, none, none, some (vR x9), none, none, none, some (vI (1 : Int32)), some (vI (x14 + (1 : Int32))), none, none, none, none]) dLw_isMerged_406 rfl tni_1 (Nat.le_of_ble_eq_true rfl) rfl ?_
              refine tq_goto (tgt := 340) dLw_isMerged_409 (by decide) ?_
              refine tpR.fo (ls' := [some (vR x0), none, none, none, none, none, none, none, none, some (vR x9), none, none, none, some (vI (1 : Int32)), some (vI (x14 + (1 : Int32))), none, none, none, none]) ?_ (And.intro rfl (And.intro rfl (And.intro rfl (And.intro rfl trivial))))
              exact ih _ _ _ _ _ hw
theorem s_Lw_isMerged_314 {h0 : tpH} {av : List tpV} {R : Int32 → tpH → Prop} {X : String → tpH → Prop} : ∀ (x0 : Option Nat) (x9 : Option Nat) (x13 : Int32) (h : tpH), w_Lw_isMerged_314 R X x0 x9 x13 h → tpR Lw_isMerged 11 h0 av (tpOi R X) 314 [some (vR x0), none, none, none, none, none, none, none, none, some (vR x9), none, none, none, some (vI x13), none, none, none, none, none] [] h := by
  intro x0 x9 x13 h hw
  unfold w_Lw_isMerged_314 at hw
  refine tq_iload dLw_isMerged_314 rfl ?_
  refine tq_ifeq (tgt := 334) dLw_isMerged_316 (by decide) (fun c1 => ?_) (fun c1 => ?_)
  · have hw := hw.1 c1
    refine tq_iconst (v := (0 : Int32)) dLw_isMerged_334 tni_0 ?_
    refine tq_istore (ls' := [some (vR x0), none, none, none, none, none, none, none, none, some (vR x9), none, none, none, some (vI (0 : Int32)), none, none, none, none, none]) dLw_isMerged_335 (Nat.le_of_ble_eq_true rfl) rfl ?_
    refine tq_iconst (v := (0 : Int32)) dLw_isMerged_337 tni_0 ?_
    refine tq_istore (ls' := [some (vR x0), none, none, none, none, none, none, none, none, some (vR x9), none, none, none, some (vI (0 : Int32)), some (vI (0 : Int32)), none, none, none, none]) dLw_isMerged_338 (Nat.le_of_ble_eq_true rfl) rfl ?_
    refine tpR.fo (ls' := [some (vR x0), none, none, none, none, none, none, none, none, some (vR x9), none, none, none, some (vI (0 : Int32)), some (vI (0 : Int32)), none, none, none, none]) ?_ (And.intro rfl (And.intro rfl (And.intro rfl (And.intro rfl trivial))))
    obtain ⟨n, hw⟩ := hw
    exact s_Lw_isMerged_340 n _ _ _ _ _ hw
  · have hw := hw.2 c1
    refine tq_aload_n dLw_isMerged_319 rfl rfl ?_
    obtain ⟨a2, e3, f4, hw⟩ := hw
    refine te_callV mv_TP_conflicts (ci := 12) (dc := 0) (as := []) (rest := []) kLw_132 rfl (Nat.le_of_ble_eq_true rfl) (Nat.le_of_ble_eq_true rfl) rfl rfl e3 f4 (Nat.le_of_ble_eq_true rfl) dLw_isMerged_320 (s_TP_conflicts hw) (fun _ _ hx => False.elim hx) (tk_i fun v6 h5 hw => ?_)
    refine tq_aload dLw_isMerged_323 rfl ?_
    refine tq_iconst (v := (0 : Int32)) dLw_isMerged_325 tni_0 ?_
    obtain ⟨a7, e8, f9, hw⟩ := hw
    obtain ⟨f10, hw⟩ := hw
    refine te_iald dLw_isMerged_326 e8 (Or.inl f9) f10 ?_
    refine tq_icmpne (tgt := 334) dLw_isMerged_327 (by decide) (fun c11 => ?_) (fun c11 => ?_)
    · have hw := hw.1 c11
      refine tq_iconst (v := (0 : Int32)) dLw_isMerged_334 tni_0 ?_
      refine tq_istore (ls' := [some (vR x0), none, none, none, none, none, none, none, none, some (vR x9), none, none, none, some (vI (0 : Int32)), none, none, none, none, none]) dLw_isMerged_335 (Nat.le_of_ble_eq_true rfl) rfl ?_
      refine tq_iconst (v := (0 : Int32)) dLw_isMerged_337 tni_0 ?_
      refine tq_istore (ls' := [some (vR x0), none, none, none, none, none, none, none, none, some (vR x9), none, none, none, some (vI (0 : Int32)), some (vI (0 : Int32)), none, none, none, none]) dLw_isMerged_338 (Nat.le_of_ble_eq_true rfl) rfl ?_
      refine tpR.fo (ls' := [some (vR x0), none, none, none, none, none, none, none, none, some (vR x9), none, none, none, some (vI (0 : Int32)), some (vI (0 : Int32)), none, none, none, none]) ?_ (And.intro rfl (And.intro rfl (And.intro rfl (And.intro rfl trivial))))
      obtain ⟨n, hw⟩ := hw
      exact s_Lw_isMerged_340 n _ _ _ _ _ hw
    · have hw := hw.2 c11
      refine tq_iconst (v := (1 : Int32)) dLw_isMerged_330 tni_1 ?_
      refine tq_goto (tgt := 335) dLw_isMerged_331 (by decide) ?_
      refine tq_istore (ls' := [some (vR x0), none, none, none, none, none, none, none, none, some (vR x9), none, none, none, some (vI (1 : Int32)), none, none, none, none, none]) dLw_isMerged_335 (Nat.le_of_ble_eq_true rfl) rfl ?_
      refine tq_iconst (v := (0 : Int32)) dLw_isMerged_337 tni_0 ?_
      refine tq_istore (ls' := [some (vR x0), none, none, none, none, none, none, none, none, some (vR x9), none, none, none, some (vI (1 : Int32)), some (vI (0 : Int32)), none, none, none, none]) dLw_isMerged_338 (Nat.le_of_ble_eq_true rfl) rfl ?_
      refine tpR.fo (ls' := [some (vR x0), none, none, none, none, none, none, none, none, some (vR x9), none, none, none, some (vI (1 : Int32)), some (vI (0 : Int32)), none, none, none, none]) ?_ (And.intro rfl (And.intro rfl (And.intro rfl (And.intro rfl trivial))))
      obtain ⟨n, hw⟩ := hw
      exact s_Lw_isMerged_340 n _ _ _ _ _ hw
theorem s_Lw_isMerged_119 {h0 : tpH} {av : List tpV} {R : Int32 → tpH → Prop} {X : String → tpH → Prop} : ∀ (n : Nat) (x0 : Option Nat) (x2 : Option Nat) (x3 : Option Nat) (x4 : Option Nat) (x5 : Option Nat) (x6 : Option Nat) (x8 : Option Nat) (x9 : Option Nat) (x10 : Option Nat) (x11 : Option Nat) (x12 : Option Nat) (x13 : Int32) (x14 : Int32) (h : tpH), w_Lw_isMerged_119 R X n x0 x2 x3 x4 x5 x6 x8 x9 x10 x11 x12 x13 x14 h → tpR Lw_isMerged 11 h0 av (tpOi R X) 119 [some (vR x0), none, some (vR x2), some (vR x3), some (vR x4), some (vR x5), some (vR x6), none, some (vR x8), some (vR x9), some (vR x10), some (vR x11), some (vR x12), some (vI x13), some (vI x14), none, none, none, none] [] h := by
  intro n
  induction n with
  | zero => intro x0 x2 x3 x4 x5 x6 x8 x9 x10 x11 x12 x13 x14 h hw; exact False.elim hw
  | succ n ih =>
    intro x0 x2 x3 x4 x5 x6 x8 x9 x10 x11 x12 x13 x14 h hw
    change b_Lw_isMerged_119 R X (w_Lw_isMerged_119 R X n) x0 x2 x3 x4 x5 x6 x8 x9 x10 x11 x12 x13 x14 h at hw
    unfold b_Lw_isMerged_119 at hw
    refine tq_iload dLw_isMerged_119 rfl ?_
    refine tq_aload dLw_isMerged_121 rfl ?_
    refine tq_iconst (v := (0 : Int32)) dLw_isMerged_123 tni_0 ?_
    obtain ⟨a1, e2, f3, hw⟩ := hw
    obtain ⟨f4, hw⟩ := hw
    refine te_iald dLw_isMerged_124 e2 (Or.inl f3) f4 ?_
    refine tq_icmpge (tgt := 314) dLw_isMerged_125 (by decide) (fun c5 => ?_) (fun c5 => ?_)
    · have hw := hw.1 c5
      refine tpR.fo (ls' := [some (vR x0), none, none, none, none, none, none, none, none, some (vR x9), none, none, none, some (vI x13), none, none, none, none, none]) ?_ (And.intro rfl (And.intro rfl (And.intro rfl trivial)))
      exact s_Lw_isMerged_314 _ _ _ _ hw
    · have hw := hw.2 c5
      refine tq_iload dLw_isMerged_128 rfl ?_
      refine tq_ifeq (tgt := 314) dLw_isMerged_130 (by decide) (fun c6 => ?_) (fun c6 => ?_)
      · have hw := hw.1 c6
        refine tpR.fo (ls' := [some (vR x0), none, none, none, none, none, none, none, none, some (vR x9), none, none, none, some (vI x13), none, none, none, none, none]) ?_ (And.intro rfl (And.intro rfl (And.intro rfl trivial)))
        exact s_Lw_isMerged_314 _ _ _ _ hw
      · have hw := hw.2 c6
        refine tq_aload dLw_isMerged_133 rfl ?_
        refine tq_iload dLw_isMerged_135 rfl ?_
        refine tq_callS ms_Lw_mark (dc := 0) (as := [vR x11, vI x14]) (rest := []) kLw_7 (Nat.le_of_ble_eq_true rfl) (Nat.le_of_ble_eq_true rfl) rfl rfl (Nat.le_of_ble_eq_true rfl) dLw_isMerged_137 (s_Lw_mark hw) (fun _ _ hx => False.elim hx) (tk_i fun v8 h7 hw => ?_)
        refine tq_istore (ls' := [some (vR x0), none, some (vR x2), some (vR x3), some (vR x4), some (vR x5), some (vR x6), none, some (vR x8), some (vR x9), some (vR x10), some (vR x11), some (vR x12), some (vI x13), some (vI x14), some (vI v8), none, none, none]) dLw_isMerged_140 (Nat.le_of_ble_eq_true rfl) rfl ?_
        refine tq_iconst (v := (0 : Int32)) dLw_isMerged_142 tni_0 ?_
        refine tq_istore (ls' := [some (vR x0), none, some (vR x2), some (vR x3), some (vR x4), some (vR x5), some (vR x6), none, some (vR x8), some (vR x9), some (vR x10), some (vR x11), some (vR x12), some (vI x13), some (vI x14), some (vI v8), some (vI (0 : Int32)), none, none]) dLw_isMerged_143 (Nat.le_of_ble_eq_true rfl) rfl ?_
        refine tq_aload dLw_isMerged_145 rfl ?_
        refine tq_iload dLw_isMerged_147 rfl ?_
        refine tq_callS ms_Lw_parentOf (dc := 2) (as := [vR x8, vI v8]) (rest := []) kLw_40 (Nat.le_of_ble_eq_true rfl) (Nat.le_of_ble_eq_true rfl) rfl rfl (Nat.le_of_ble_eq_true rfl) dLw_isMerged_149 (s_Lw_parentOf hw) (fun _ _ hx => False.elim hx) (tk_i fun v10 h9 hw => ?_)
        refine tq_aload dLw_isMerged_152 rfl ?_
        refine tq_iload dLw_isMerged_154 rfl ?_
        refine tq_callS ms_Lw_parent (dc := 0) (as := [vR x11, vI x14]) (rest := [vI v10]) kLw_16 (Nat.le_of_ble_eq_true rfl) (Nat.le_of_ble_eq_true rfl) rfl rfl (Nat.le_of_ble_eq_true rfl) dLw_isMerged_156 (s_Lw_parent hw) (fun _ _ hx => False.elim hx) (tk_i fun v12 h11 hw => ?_)
        refine tq_icmpne (tgt := 183) dLw_isMerged_159 (by decide) (fun c13 => ?_) (fun c13 => ?_)
        · have hw := hw.1 c13
          refine tq_iconst (v := (0 : Int32)) dLw_isMerged_183 tni_0 ?_
          refine tpR.fo (ls' := [some (vR x0), none, some (vR x2), some (vR x3), some (vR x4), some (vR x5), some (vR x6), none, some (vR x8), some (vR x9), some (vR x10), some (vR x11), some (vR x12), none, some (vI x14), some (vI v8), some (vI (0 : Int32)), none, none]) ?_ (And.intro rfl (And.intro rfl (And.intro rfl (And.intro rfl (And.intro rfl (And.intro rfl (And.intro rfl (And.intro rfl (And.intro rfl (And.intro rfl (And.intro rfl (And.intro rfl (And.intro rfl (And.intro rfl trivial))))))))))))))
          exact s_Lw_isMerged_184 ih _ _ _ _ _ _ _ _ _ _ _ _ _ _ _ _ hw
        · have hw := hw.2 c13
          refine tq_aload dLw_isMerged_162 rfl ?_
          refine tq_iload dLw_isMerged_164 rfl ?_
          refine tq_callS ms_Lw_valueOf (dc := 2) (as := [vR x8, vI v8]) (rest := []) kLw_86 (Nat.le_of_ble_eq_true rfl) (Nat.le_of_ble_eq_true rfl) rfl rfl (Nat.le_of_ble_eq_true rfl) dLw_isMerged_166 (s_Lw_valueOf hw) (fun _ _ hx => False.elim hx) (tk_i fun v15 h14 hw => ?_)
          refine tq_aload dLw_isMerged_169 rfl ?_
          refine tq_iload dLw_isMerged_171 rfl ?_
          refine tq_callS ms_Lw_value (dc := 0) (as := [vR x11, vI x14]) (rest := [vI v15]) kLw_19 (Nat.le_of_ble_eq_true rfl) (Nat.le_of_ble_eq_true rfl) rfl rfl (Nat.le_of_ble_eq_true rfl) dLw_isMerged_173 (s_Lw_value hw) (fun _ _ hx => False.elim hx) (tk_i fun v17 h16 hw => ?_)
          refine tq_icmpne (tgt := 183) dLw_isMerged_176 (by decide) (fun c18 => ?_) (fun c18 => ?_)
          · have hw := hw.1 c18
            refine tq_iconst (v := (0 : Int32)) dLw_isMerged_183 tni_0 ?_
            refine tpR.fo (ls' := [some (vR x0), none, some (vR x2), some (vR x3), some (vR x4), some (vR x5), some (vR x6), none, some (vR x8), some (vR x9), some (vR x10), some (vR x11), some (vR x12), none, some (vI x14), some (vI v8), some (vI (0 : Int32)), none, none]) ?_ (And.intro rfl (And.intro rfl (And.intro rfl (And.intro rfl (And.intro rfl (And.intro rfl (And.intro rfl (And.intro rfl (And.intro rfl (And.intro rfl (And.intro rfl (And.intro rfl (And.intro rfl (And.intro rfl trivial))))))))))))))
            exact s_Lw_isMerged_184 ih _ _ _ _ _ _ _ _ _ _ _ _ _ _ _ _ hw
          · have hw := hw.2 c18
            refine tq_iconst (v := (1 : Int32)) dLw_isMerged_179 tni_1 ?_
            refine tq_goto (tgt := 184) dLw_isMerged_180 (by decide) ?_
            refine tpR.fo (ls' := [some (vR x0), none, some (vR x2), some (vR x3), some (vR x4), some (vR x5), some (vR x6), none, some (vR x8), some (vR x9), some (vR x10), some (vR x11), some (vR x12), none, some (vI x14), some (vI v8), some (vI (0 : Int32)), none, none]) ?_ (And.intro rfl (And.intro rfl (And.intro rfl (And.intro rfl (And.intro rfl (And.intro rfl (And.intro rfl (And.intro rfl (And.intro rfl (And.intro rfl (And.intro rfl (And.intro rfl (And.intro rfl (And.intro rfl trivial))))))))))))))
            exact s_Lw_isMerged_184 ih _ _ _ _ _ _ _ _ _ _ _ _ _ _ _ _ hw
theorem s_Lw_isMerged_102 {h0 : tpH} {av : List tpV} {R : Int32 → tpH → Prop} {X : String → tpH → Prop} : ∀ (x0 : Option Nat) (x1 : Int32) (x2 : Option Nat) (x3 : Option Nat) (x4 : Option Nat) (x5 : Option Nat) (x6 : Option Nat) (x8 : Option Nat) (x9 : Option Nat) (x10 : Option Nat) (x11 : Option Nat) (x12 : Option Nat) (t0 : Int32) (h : tpH), w_Lw_isMerged_102 R X x0 x1 x2 x3 x4 x5 x6 x8 x9 x10 x11 x12 t0 h → tpR Lw_isMerged 11 h0 av (tpOi R X) 102 [some (vR x0), some (vI x1), some (vR x2), some (vR x3), some (vR x4), some (vR x5), some (vR x6), none, some (vR x8), some (vR x9), some (vR x10), some (vR x11), some (vR x12), none, none, none, none, none, none] [vI t0] h := by
  intro x0 x1 x2 x3 x4 x5 x6 x8 x9 x10 x11 x12 t0 h hw
  unfold w_Lw_isMerged_102 at hw
  refine tq_istore (ls' := [some (vR x0), some (vI x1), some (vR x2), some (vR x3), some (vR x4), some (vR x5), some (vR x6), none, some (vR x8), some (vR x9), some (vR x10), some (vR x11), some (vR x12), some (vI t0), none, none, none, none, none]) dLw_isMerged_102 (Nat.le_of_ble_eq_true rfl) rfl ?_
  refine tq_iload dLw_isMerged_104 rfl ?_
  refine tq_ifeq (tgt := 116) dLw_isMerged_106 (by decide) (fun c1 => ?_) (fun c1 => ?_)
  · have hw := hw.1 c1
    refine tq_iconst (v := (0 : Int32)) dLw_isMerged_116 tni_0 ?_
    refine tq_istore (ls' := [some (vR x0), some (vI x1), some (vR x2), some (vR x3), some (vR x4), some (vR x5), some (vR x6), none, some (vR x8), some (vR x9), some (vR x10), some (vR x11), some (vR x12), some (vI t0), some (vI (0 : Int32)), none, none, none, none]) dLw_isMerged_117 (Nat.le_of_ble_eq_true rfl) rfl ?_
    refine tpR.fo (ls' := [some (vR x0), none, some (vR x2), some (vR x3), some (vR x4), some (vR x5), some (vR x6), none, some (vR x8), some (vR x9), some (vR x10), some (vR x11), some (vR x12), some (vI t0), some (vI (0 : Int32)), none, none, none, none]) ?_ (And.intro rfl (And.intro rfl (And.intro rfl (And.intro rfl (And.intro rfl (And.intro rfl (And.intro rfl (And.intro rfl (And.intro rfl (And.intro rfl (And.intro rfl (And.intro rfl (And.intro rfl trivial)))))))))))))
    obtain ⟨n, hw⟩ := hw
    exact s_Lw_isMerged_119 n _ _ _ _ _ _ _ _ _ _ _ _ _ _ hw
  · have hw := hw.2 c1
    refine tq_aload_n dLw_isMerged_109 rfl rfl ?_
    refine tq_iload_n dLw_isMerged_110 rfl rfl ?_
    refine tq_aload dLw_isMerged_111 rfl ?_
    refine tq_callS ms_Lw_reads (dc := 8) (as := [vR x0, vI x1, vR x11]) (rest := []) kLw_82 (Nat.le_of_ble_eq_true rfl) (Nat.le_of_ble_eq_true rfl) rfl rfl (Nat.le_of_ble_eq_true rfl) dLw_isMerged_113 (s_Lw_reads hw) (fun _ _ hx => tpXx.out rfl hx) (tk_v fun h2 hw => ?_)
    refine tq_iconst (v := (0 : Int32)) dLw_isMerged_116 tni_0 ?_
    refine tq_istore (ls' := [some (vR x0), some (vI x1), some (vR x2), some (vR x3), some (vR x4), some (vR x5), some (vR x6), none, some (vR x8), some (vR x9), some (vR x10), some (vR x11), some (vR x12), some (vI t0), some (vI (0 : Int32)), none, none, none, none]) dLw_isMerged_117 (Nat.le_of_ble_eq_true rfl) rfl ?_
    refine tpR.fo (ls' := [some (vR x0), none, some (vR x2), some (vR x3), some (vR x4), some (vR x5), some (vR x6), none, some (vR x8), some (vR x9), some (vR x10), some (vR x11), some (vR x12), some (vI t0), some (vI (0 : Int32)), none, none, none, none]) ?_ (And.intro rfl (And.intro rfl (And.intro rfl (And.intro rfl (And.intro rfl (And.intro rfl (And.intro rfl (And.intro rfl (And.intro rfl (And.intro rfl (And.intro rfl (And.intro rfl (And.intro rfl trivial)))))))))))))
    obtain ⟨n, hw⟩ := hw
    exact s_Lw_isMerged_119 n _ _ _ _ _ _ _ _ _ _ _ _ _ _ hw
theorem s_Lw_isMerged_33 {h0 : tpH} {av : List tpV} {R : Int32 → tpH → Prop} {X : String → tpH → Prop} : ∀ (n : Nat) (x0 : Option Nat) (x1 : Int32) (x2 : Option Nat) (x3 : Option Nat) (x4 : Option Nat) (x5 : Option Nat) (x6 : Option Nat) (x7 : Int32) (x8 : Option Nat) (x9 : Option Nat) (x10 : Option Nat) (x11 : Option Nat) (x12 : Option Nat) (x13 : Int32) (h : tpH), w_Lw_isMerged_33 R X n x0 x1 x2 x3 x4 x5 x6 x7 x8 x9 x10 x11 x12 x13 h → tpR Lw_isMerged 11 h0 av (tpOi R X) 33 [some (vR x0), some (vI x1), some (vR x2), some (vR x3), some (vR x4), some (vR x5), some (vR x6), some (vI x7), some (vR x8), some (vR x9), some (vR x10), some (vR x11), some (vR x12), some (vI x13), none, none, none, none, none] [] h := by
  intro n
  induction n with
  | zero => intro x0 x1 x2 x3 x4 x5 x6 x7 x8 x9 x10 x11 x12 x13 h hw; exact False.elim hw
  | succ n ih =>
    intro x0 x1 x2 x3 x4 x5 x6 x7 x8 x9 x10 x11 x12 x13 h hw
    change b_Lw_isMerged_33 R X (w_Lw_isMerged_33 R X n) x0 x1 x2 x3 x4 x5 x6 x7 x8 x9 x10 x11 x12 x13 h at hw
    unfold b_Lw_isMerged_33 at hw
    refine tq_iload dLw_isMerged_33 rfl ?_
    refine tq_iload dLw_isMerged_35 rfl ?_
    refine tq_icmpge (tgt := 77) dLw_isMerged_37 (by decide) (fun c1 => ?_) (fun c1 => ?_)
    · have hw := hw.1 c1
      refine tq_aload_n dLw_isMerged_77 rfl rfl ?_
      refine tq_aload dLw_isMerged_78 rfl ?_
      refine tq_aload dLw_isMerged_80 rfl ?_
      refine tq_callS ms_Lw_mends (dc := 3) (as := [vR x2, vR x8, vR x9]) (rest := []) kLw_124 (Nat.le_of_ble_eq_true rfl) (Nat.le_of_ble_eq_true rfl) rfl rfl (Nat.le_of_ble_eq_true rfl) dLw_isMerged_82 (s_Lw_mends hw) (fun _ _ hx => False.elim hx) (tk_v fun h2 hw => ?_)
      refine tq_aload_n dLw_isMerged_85 rfl rfl ?_
      refine tq_iload_n dLw_isMerged_86 rfl rfl ?_
      obtain ⟨a3, e4, f5, hw⟩ := hw
      refine te_callV mv_TP_size (ci := 12) (dc := 7) (as := [vI x1]) (rest := []) kLw_22 rfl (Nat.le_of_ble_eq_true rfl) (Nat.le_of_ble_eq_true rfl) rfl rfl e4 f5 (Nat.le_of_ble_eq_true rfl) dLw_isMerged_87 (s_TP_size hw) (fun _ _ hx => tpXx.out rfl hx) (tk_i fun v7 h6 hw => ?_)
      refine tq_aload dLw_isMerged_90 rfl ?_
      refine tq_iconst (v := (0 : Int32)) dLw_isMerged_92 tni_0 ?_
      obtain ⟨a8, e9, f10, hw⟩ := hw
      obtain ⟨f11, hw⟩ := hw
      refine te_iald dLw_isMerged_93 e9 (Or.inl f10) f11 ?_
      refine tq_icmpne (tgt := 101) dLw_isMerged_94 (by decide) (fun c12 => ?_) (fun c12 => ?_)
      · have hw := hw.1 c12
        refine tq_iconst (v := (0 : Int32)) dLw_isMerged_101 tni_0 ?_
        refine tpR.fo (ls' := [some (vR x0), some (vI x1), some (vR x2), some (vR x3), some (vR x4), some (vR x5), some (vR x6), none, some (vR x8), some (vR x9), some (vR x10), some (vR x11), some (vR x12), none, none, none, none, none, none]) ?_ (And.intro rfl (And.intro rfl (And.intro rfl (And.intro rfl (And.intro rfl (And.intro rfl (And.intro rfl (And.intro rfl (And.intro rfl (And.intro rfl (And.intro rfl (And.intro rfl trivial))))))))))))
        exact s_Lw_isMerged_102 _ _ _ _ _ _ _ _ _ _ _ _ _ _ hw
      · have hw := hw.2 c12
        refine tq_iconst (v := (1 : Int32)) dLw_isMerged_97 tni_1 ?_
        refine tq_goto (tgt := 102) dLw_isMerged_98 (by decide) ?_
        refine tpR.fo (ls' := [some (vR x0), some (vI x1), some (vR x2), some (vR x3), some (vR x4), some (vR x5), some (vR x6), none, some (vR x8), some (vR x9), some (vR x10), some (vR x11), some (vR x12), none, none, none, none, none, none]) ?_ (And.intro rfl (And.intro rfl (And.intro rfl (And.intro rfl (And.intro rfl (And.intro rfl (And.intro rfl (And.intro rfl (And.intro rfl (And.intro rfl (And.intro rfl (And.intro rfl trivial))))))))))))
        exact s_Lw_isMerged_102 _ _ _ _ _ _ _ _ _ _ _ _ _ _ hw
    · have hw := hw.2 c1
      refine tq_aload_n dLw_isMerged_40 rfl rfl ?_
      refine tq_aload_n dLw_isMerged_41 rfl rfl ?_
      refine tq_aload dLw_isMerged_42 rfl ?_
      refine tq_aload dLw_isMerged_44 rfl ?_
      refine tq_aload dLw_isMerged_46 rfl ?_
      refine tq_iload dLw_isMerged_48 rfl ?_
      refine tq_callS ms_Lw_comes (dc := 4) (as := [vR x2, vR x3, vR x4, vR x9, vR x6, vI x13]) (rest := []) kLw_120 (Nat.le_of_ble_eq_true rfl) (Nat.le_of_ble_eq_true rfl) rfl rfl (Nat.le_of_ble_eq_true rfl) dLw_isMerged_50 (s_Lw_comes hw) (fun _ _ hx => False.elim hx) (tk_i fun v14 h13 hw => ?_)
      refine tq_istore (ls' := [some (vR x0), some (vI x1), some (vR x2), some (vR x3), some (vR x4), some (vR x5), some (vR x6), some (vI x7), some (vR x8), some (vR x9), some (vR x10), some (vR x11), some (vR x12), some (vI x13), some (vI v14), none, none, none, none]) dLw_isMerged_53 (Nat.le_of_ble_eq_true rfl) rfl ?_
      refine tq_iload dLw_isMerged_55 rfl ?_
      refine tq_iflt (tgt := 71) dLw_isMerged_57 (by decide) (fun c15 => ?_) (fun c15 => ?_)
      · have hw := hw.1 c15
        refine tq_inc (k := (1 : Int32)) (ls' := [some (vR x0), some (vI x1), some (vR x2), some (vR x3), some (vR x4), some (vR x5), some (vR x6), some (vI x7), some (vR x8), some (vR x9), some (vR x10), some (vR x11), some (vR x12), some (vI (x13 + (1 : Int32))), some (vI v14), none, none, none, none]) dLw_isMerged_71 rfl tni_1 (Nat.le_of_ble_eq_true rfl) rfl ?_
        refine tq_goto (tgt := 33) dLw_isMerged_74 (by decide) ?_
        refine tpR.fo (ls' := [some (vR x0), some (vI x1), some (vR x2), some (vR x3), some (vR x4), some (vR x5), some (vR x6), some (vI x7), some (vR x8), some (vR x9), some (vR x10), some (vR x11), some (vR x12), some (vI (x13 + (1 : Int32))), none, none, none, none, none]) ?_ (And.intro rfl (And.intro rfl (And.intro rfl (And.intro rfl (And.intro rfl (And.intro rfl (And.intro rfl (And.intro rfl (And.intro rfl (And.intro rfl (And.intro rfl (And.intro rfl (And.intro rfl (And.intro rfl trivial))))))))))))))
        exact ih _ _ _ _ _ _ _ _ _ _ _ _ _ _ _ hw
      · have hw := hw.2 c15
        refine tq_aload dLw_isMerged_60 rfl ?_
        refine tq_aload dLw_isMerged_62 rfl ?_
        refine tq_iconst (v := (0 : Int32)) dLw_isMerged_64 tni_0 ?_
        obtain ⟨a16, e17, f18, hw⟩ := hw
        obtain ⟨f19, hw⟩ := hw
        refine te_iald dLw_isMerged_65 e17 (Or.inl f18) f19 ?_
        refine tq_iload dLw_isMerged_66 rfl ?_
        refine tq_callS ms_Lw_puts (dc := 0) (as := [vR x8, vI (hI h13 a16 (0 : Int32).toNatClampNeg), vI v14]) (rest := []) kLw_101 (Nat.le_of_ble_eq_true rfl) (Nat.le_of_ble_eq_true rfl) rfl rfl (Nat.le_of_ble_eq_true rfl) dLw_isMerged_68 (s_Lw_puts hw) (fun _ _ hx => False.elim hx) (tk_v fun h20 hw => ?_)
        refine tq_inc (k := (1 : Int32)) (ls' := [some (vR x0), some (vI x1), some (vR x2), some (vR x3), some (vR x4), some (vR x5), some (vR x6), some (vI x7), some (vR x8), some (vR x9), some (vR x10), some (vR x11), some (vR x12), some (vI (x13 + (1 : Int32))), some (vI v14), none, none, none, none]) dLw_isMerged_71 rfl tni_1 (Nat.le_of_ble_eq_true rfl) rfl ?_
        refine tq_goto (tgt := 33) dLw_isMerged_74 (by decide) ?_
        refine tpR.fo (ls' := [some (vR x0), some (vI x1), some (vR x2), some (vR x3), some (vR x4), some (vR x5), some (vR x6), some (vI x7), some (vR x8), some (vR x9), some (vR x10), some (vR x11), some (vR x12), some (vI (x13 + (1 : Int32))), none, none, none, none, none]) ?_ (And.intro rfl (And.intro rfl (And.intro rfl (And.intro rfl (And.intro rfl (And.intro rfl (And.intro rfl (And.intro rfl (And.intro rfl (And.intro rfl (And.intro rfl (And.intro rfl (And.intro rfl (And.intro rfl trivial))))))))))))))
        exact ih _ _ _ _ _ _ _ _ _ _ _ _ _ _ _ hw
theorem s_Lw_isMerged {x0 : Option Nat} {x1 : Int32} {x2 : Option Nat} {x3 : Option Nat} {x4 : Option Nat} {x5 : Option Nat} {x6 : Option Nat} {x7 : Int32} {h : tpH} {R : Int32 → tpH → Prop} {X : String → tpH → Prop} (hw : w_Lw_isMerged x0 x1 x2 x3 x4 x5 x6 x7 h X R) : tpC Lw_isMerged 11 [vR x0, vI x1, vR x2, vR x3, vR x4, vR x5, vR x6, vI x7] h (tpOi R X) := by
  refine tpC_of ms_Lw_isMerged.2.2.2.1 rfl rfl (Nat.le_of_ble_eq_true rfl) ?_
  show tpR Lw_isMerged 11 h _ _ 0 [some (vR x0), some (vI x1), some (vR x2), some (vR x3), some (vR x4), some (vR x5), some (vR x6), some (vI x7), none, none, none, none, none, none, none, none, none, none, none] [] h
  unfold w_Lw_isMerged at hw
  refine tq_bipush (v := (41 : Int32)) dLw_isMerged_0 tnb_41 ?_
  refine tq_newa tpN_int (N := 41) dLw_isMerged_2 (by decide) (by decide) (Nat.le_of_ble_eq_true rfl) (fun a1 h2 e3 e4 => ?_)
  have hw := hw a1 h2 e3 e4
  refine tq_astore (ls' := [some (vR x0), some (vI x1), some (vR x2), some (vR x3), some (vR x4), some (vR x5), some (vR x6), some (vI x7), some (vR (some a1)), none, none, none, none, none, none, none, none, none, none]) dLw_isMerged_4 (Nat.le_of_ble_eq_true rfl) rfl ?_
  refine tq_bipush (v := (64 : Int32)) dLw_isMerged_6 tnb_64 ?_
  refine tq_newa tpN_int (N := 64) dLw_isMerged_8 (by decide) (by decide) (Nat.le_of_ble_eq_true rfl) (fun a5 h6 e7 e8 => ?_)
  have hw := hw a5 h6 e7 e8
  refine tq_astore (ls' := [some (vR x0), some (vI x1), some (vR x2), some (vR x3), some (vR x4), some (vR x5), some (vR x6), some (vI x7), some (vR (some a1)), some (vR (some a5)), none, none, none, none, none, none, none, none, none]) dLw_isMerged_10 (Nat.le_of_ble_eq_true rfl) rfl ?_
  refine tq_bipush (v := (42 : Int32)) dLw_isMerged_12 tnb_42 ?_
  refine tq_newa tpN_int (N := 42) dLw_isMerged_14 (by decide) (by decide) (Nat.le_of_ble_eq_true rfl) (fun a9 h10 e11 e12 => ?_)
  have hw := hw a9 h10 e11 e12
  refine tq_astore (ls' := [some (vR x0), some (vI x1), some (vR x2), some (vR x3), some (vR x4), some (vR x5), some (vR x6), some (vI x7), some (vR (some a1)), some (vR (some a5)), some (vR (some a9)), none, none, none, none, none, none, none, none]) dLw_isMerged_16 (Nat.le_of_ble_eq_true rfl) rfl ?_
  refine tq_bipush (v := (41 : Int32)) dLw_isMerged_18 tnb_41 ?_
  refine tq_newa tpN_int (N := 41) dLw_isMerged_20 (by decide) (by decide) (Nat.le_of_ble_eq_true rfl) (fun a13 h14 e15 e16 => ?_)
  have hw := hw a13 h14 e15 e16
  refine tq_astore (ls' := [some (vR x0), some (vI x1), some (vR x2), some (vR x3), some (vR x4), some (vR x5), some (vR x6), some (vI x7), some (vR (some a1)), some (vR (some a5)), some (vR (some a9)), some (vR (some a13)), none, none, none, none, none, none, none]) dLw_isMerged_22 (Nat.le_of_ble_eq_true rfl) rfl ?_
  refine tq_bipush (v := (40 : Int32)) dLw_isMerged_24 tnb_40 ?_
  refine tq_newa tpN_int (N := 40) dLw_isMerged_26 (by decide) (by decide) (Nat.le_of_ble_eq_true rfl) (fun a17 h18 e19 e20 => ?_)
  have hw := hw a17 h18 e19 e20
  refine tq_astore (ls' := [some (vR x0), some (vI x1), some (vR x2), some (vR x3), some (vR x4), some (vR x5), some (vR x6), some (vI x7), some (vR (some a1)), some (vR (some a5)), some (vR (some a9)), some (vR (some a13)), some (vR (some a17)), none, none, none, none, none, none]) dLw_isMerged_28 (Nat.le_of_ble_eq_true rfl) rfl ?_
  refine tq_iconst (v := (0 : Int32)) dLw_isMerged_30 tni_0 ?_
  refine tq_istore (ls' := [some (vR x0), some (vI x1), some (vR x2), some (vR x3), some (vR x4), some (vR x5), some (vR x6), some (vI x7), some (vR (some a1)), some (vR (some a5)), some (vR (some a9)), some (vR (some a13)), some (vR (some a17)), some (vI (0 : Int32)), none, none, none, none, none]) dLw_isMerged_31 (Nat.le_of_ble_eq_true rfl) rfl ?_
  refine tpR.fo (ls' := [some (vR x0), some (vI x1), some (vR x2), some (vR x3), some (vR x4), some (vR x5), some (vR x6), some (vI x7), some (vR (some a1)), some (vR (some a5)), some (vR (some a9)), some (vR (some a13)), some (vR (some a17)), some (vI (0 : Int32)), none, none, none, none, none]) ?_ (And.intro rfl (And.intro rfl (And.intro rfl (And.intro rfl (And.intro rfl (And.intro rfl (And.intro rfl (And.intro rfl (And.intro rfl (And.intro rfl (And.intro rfl (And.intro rfl (And.intro rfl (And.intro rfl trivial))))))))))))))
  obtain ⟨n, hw⟩ := hw
  exact s_Lw_isMerged_33 n _ _ _ _ _ _ _ _ _ _ _ _ _ _ _ hw
/-! TLaw.isChanged -/
theorem dLw_isChanged_0 : decode (mB Lw_isChanged) 0 = .ok (.aload_n 1, 1) := by decide +kernel
theorem dLw_isChanged_1 : decode (mB Lw_isChanged) 1 = .ok (.iload 4, 2) := by decide +kernel
theorem dLw_isChanged_3 : decode (mB Lw_isChanged) 3 = .ok (.aload_n 1, 1) := by decide +kernel
theorem dLw_isChanged_4 : decode (mB Lw_isChanged) 4 = .ok (.iconst 0, 1) := by decide +kernel
theorem dLw_isChanged_5 : decode (mB Lw_isChanged) 5 = .ok (.iaload, 1) := by decide +kernel
theorem dLw_isChanged_6 : decode (mB Lw_isChanged) 6 = .ok (.irem, 1) := by decide +kernel
theorem dLw_isChanged_7 : decode (mB Lw_isChanged) 7 = .ok (.invokestatic 7, 3) := by decide +kernel
theorem dLw_isChanged_10 : decode (mB Lw_isChanged) 10 = .ok (.istore 5, 2) := by decide +kernel
theorem dLw_isChanged_12 : decode (mB Lw_isChanged) 12 = .ok (.aload_n 1, 1) := by decide +kernel
theorem dLw_isChanged_13 : decode (mB Lw_isChanged) 13 = .ok (.iload 4, 2) := by decide +kernel
theorem dLw_isChanged_15 : decode (mB Lw_isChanged) 15 = .ok (.bipush 24, 2) := by decide +kernel
theorem dLw_isChanged_17 : decode (mB Lw_isChanged) 17 = .ok (.idiv, 1) := by decide +kernel
theorem dLw_isChanged_18 : decode (mB Lw_isChanged) 18 = .ok (.aload_n 1, 1) := by decide +kernel
theorem dLw_isChanged_19 : decode (mB Lw_isChanged) 19 = .ok (.iconst 0, 1) := by decide +kernel
theorem dLw_isChanged_20 : decode (mB Lw_isChanged) 20 = .ok (.iaload, 1) := by decide +kernel
theorem dLw_isChanged_21 : decode (mB Lw_isChanged) 21 = .ok (.irem, 1) := by decide +kernel
theorem dLw_isChanged_22 : decode (mB Lw_isChanged) 22 = .ok (.invokestatic 7, 3) := by decide +kernel
theorem dLw_isChanged_25 : decode (mB Lw_isChanged) 25 = .ok (.istore 6, 2) := by decide +kernel
theorem dLw_isChanged_27 : decode (mB Lw_isChanged) 27 = .ok (.bipush 40, 2) := by decide +kernel
theorem dLw_isChanged_29 : decode (mB Lw_isChanged) 29 = .ok (.newarray .int, 2) := by decide +kernel
theorem dLw_isChanged_31 : decode (mB Lw_isChanged) 31 = .ok (.astore 7, 2) := by decide +kernel
theorem dLw_isChanged_33 : decode (mB Lw_isChanged) 33 = .ok (.iload 4, 2) := by decide +kernel
theorem dLw_isChanged_35 : decode (mB Lw_isChanged) 35 = .ok (.sipush 576, 3) := by decide +kernel
theorem dLw_isChanged_38 : decode (mB Lw_isChanged) 38 = .ok (.idiv, 1) := by decide +kernel
theorem dLw_isChanged_39 : decode (mB Lw_isChanged) 39 = .ok (.bipush 8, 2) := by decide +kernel
theorem dLw_isChanged_41 : decode (mB Lw_isChanged) 41 = .ok (.irem, 1) := by decide +kernel
theorem dLw_isChanged_42 : decode (mB Lw_isChanged) 42 = .ok (.istore 8, 2) := by decide +kernel
theorem dLw_isChanged_44 : decode (mB Lw_isChanged) 44 = .ok (.iload 8, 2) := by decide +kernel
theorem dLw_isChanged_46 : decode (mB Lw_isChanged) 46 = .ok (.iconst 3, 1) := by decide +kernel
theorem dLw_isChanged_47 : decode (mB Lw_isChanged) 47 = .ok (.if_icmp .ge 152, 3) := by decide +kernel
theorem dLw_isChanged_50 : decode (mB Lw_isChanged) 50 = .ok (.aload_n 3, 1) := by decide +kernel
theorem dLw_isChanged_51 : decode (mB Lw_isChanged) 51 = .ok (.iconst 0, 1) := by decide +kernel
theorem dLw_isChanged_52 : decode (mB Lw_isChanged) 52 = .ok (.iaload, 1) := by decide +kernel
theorem dLw_isChanged_53 : decode (mB Lw_isChanged) 53 = .ok (.bipush 22, 2) := by decide +kernel
theorem dLw_isChanged_55 : decode (mB Lw_isChanged) 55 = .ok (.if_icmp .ge 144, 3) := by decide +kernel
theorem dLw_isChanged_58 : decode (mB Lw_isChanged) 58 = .ok (.aload_n 1, 1) := by decide +kernel
theorem dLw_isChanged_59 : decode (mB Lw_isChanged) 59 = .ok (.iconst 0, 1) := by decide +kernel
theorem dLw_isChanged_60 : decode (mB Lw_isChanged) 60 = .ok (.iaload, 1) := by decide +kernel
theorem dLw_isChanged_61 : decode (mB Lw_isChanged) 61 = .ok (.bipush 20, 2) := by decide +kernel
theorem dLw_isChanged_63 : decode (mB Lw_isChanged) 63 = .ok (.if_icmp .ge 136, 3) := by decide +kernel
theorem dLw_isChanged_66 : decode (mB Lw_isChanged) 66 = .ok (.iload 4, 2) := by decide +kernel
theorem dLw_isChanged_68 : decode (mB Lw_isChanged) 68 = .ok (.sipush 4608, 3) := by decide +kernel
theorem dLw_isChanged_71 : decode (mB Lw_isChanged) 71 = .ok (.idiv, 1) := by decide +kernel
theorem dLw_isChanged_72 : decode (mB Lw_isChanged) 72 = .ok (.bipush 6, 2) := by decide +kernel
theorem dLw_isChanged_74 : decode (mB Lw_isChanged) 74 = .ok (.irem, 1) := by decide +kernel
theorem dLw_isChanged_75 : decode (mB Lw_isChanged) 75 = .ok (.istore 9, 2) := by decide +kernel
theorem dLw_isChanged_77 : decode (mB Lw_isChanged) 77 = .ok (.aload_n 1, 1) := by decide +kernel
theorem dLw_isChanged_78 : decode (mB Lw_isChanged) 78 = .ok (.aload_n 2, 1) := by decide +kernel
theorem dLw_isChanged_79 : decode (mB Lw_isChanged) 79 = .ok (.iload 5, 2) := by decide +kernel
theorem dLw_isChanged_81 : decode (mB Lw_isChanged) 81 = .ok (.aload 7, 2) := by decide +kernel
theorem dLw_isChanged_83 : decode (mB Lw_isChanged) 83 = .ok (.invokestatic 36, 3) := by decide +kernel
theorem dLw_isChanged_86 : decode (mB Lw_isChanged) 86 = .ok (.istore 10, 2) := by decide +kernel
theorem dLw_isChanged_88 : decode (mB Lw_isChanged) 88 = .ok (.iload 4, 2) := by decide +kernel
theorem dLw_isChanged_90 : decode (mB Lw_isChanged) 90 = .ok (.sipush 27648, 3) := by decide +kernel
theorem dLw_isChanged_93 : decode (mB Lw_isChanged) 93 = .ok (.idiv, 1) := by decide +kernel
theorem dLw_isChanged_94 : decode (mB Lw_isChanged) 94 = .ok (.iload 10, 2) := by decide +kernel
theorem dLw_isChanged_96 : decode (mB Lw_isChanged) 96 = .ok (.iconst 1, 1) := by decide +kernel
theorem dLw_isChanged_97 : decode (mB Lw_isChanged) 97 = .ok (.iadd, 1) := by decide +kernel
theorem dLw_isChanged_98 : decode (mB Lw_isChanged) 98 = .ok (.irem, 1) := by decide +kernel
theorem dLw_isChanged_99 : decode (mB Lw_isChanged) 99 = .ok (.istore 11, 2) := by decide +kernel
theorem dLw_isChanged_101 : decode (mB Lw_isChanged) 101 = .ok (.aload_n 1, 1) := by decide +kernel
theorem dLw_isChanged_102 : decode (mB Lw_isChanged) 102 = .ok (.aload_n 2, 1) := by decide +kernel
theorem dLw_isChanged_103 : decode (mB Lw_isChanged) 103 = .ok (.iload 5, 2) := by decide +kernel
theorem dLw_isChanged_105 : decode (mB Lw_isChanged) 105 = .ok (.iload 11, 2) := by decide +kernel
theorem dLw_isChanged_107 : decode (mB Lw_isChanged) 107 = .ok (.invokestatic 139, 3) := by decide +kernel
theorem dLw_isChanged_110 : decode (mB Lw_isChanged) 110 = .ok (.istore 12, 2) := by decide +kernel
theorem dLw_isChanged_112 : decode (mB Lw_isChanged) 112 = .ok (.aload_n 2, 1) := by decide +kernel
theorem dLw_isChanged_113 : decode (mB Lw_isChanged) 113 = .ok (.aload_n 3, 1) := by decide +kernel
theorem dLw_isChanged_114 : decode (mB Lw_isChanged) 114 = .ok (.iconst 0, 1) := by decide +kernel
theorem dLw_isChanged_115 : decode (mB Lw_isChanged) 115 = .ok (.iaload, 1) := by decide +kernel
theorem dLw_isChanged_116 : decode (mB Lw_isChanged) 116 = .ok (.iload 9, 2) := by decide +kernel
theorem dLw_isChanged_118 : decode (mB Lw_isChanged) 118 = .ok (.iastore, 1) := by decide +kernel
theorem dLw_isChanged_119 : decode (mB Lw_isChanged) 119 = .ok (.aload_n 1, 1) := by decide +kernel
theorem dLw_isChanged_120 : decode (mB Lw_isChanged) 120 = .ok (.iload 12, 2) := by decide +kernel
theorem dLw_isChanged_122 : decode (mB Lw_isChanged) 122 = .ok (.aload_n 3, 1) := by decide +kernel
theorem dLw_isChanged_123 : decode (mB Lw_isChanged) 123 = .ok (.iconst 0, 1) := by decide +kernel
theorem dLw_isChanged_124 : decode (mB Lw_isChanged) 124 = .ok (.iaload, 1) := by decide +kernel
theorem dLw_isChanged_125 : decode (mB Lw_isChanged) 125 = .ok (.bipush 64, 2) := by decide +kernel
theorem dLw_isChanged_127 : decode (mB Lw_isChanged) 127 = .ok (.iload 4, 2) := by decide +kernel
theorem dLw_isChanged_129 : decode (mB Lw_isChanged) 129 = .ok (.bipush 9, 2) := by decide +kernel
theorem dLw_isChanged_131 : decode (mB Lw_isChanged) 131 = .ok (.irem, 1) := by decide +kernel
theorem dLw_isChanged_132 : decode (mB Lw_isChanged) 132 = .ok (.imul, 1) := by decide +kernel
theorem dLw_isChanged_133 : decode (mB Lw_isChanged) 133 = .ok (.iadd, 1) := by decide +kernel
theorem dLw_isChanged_134 : decode (mB Lw_isChanged) 134 = .ok (.sipush 8192, 3) := by decide +kernel
theorem dLw_isChanged_137 : decode (mB Lw_isChanged) 137 = .ok (.iload 5, 2) := by decide +kernel
theorem dLw_isChanged_139 : decode (mB Lw_isChanged) 139 = .ok (.iconst 1, 1) := by decide +kernel
theorem dLw_isChanged_140 : decode (mB Lw_isChanged) 140 = .ok (.iadd, 1) := by decide +kernel
theorem dLw_isChanged_141 : decode (mB Lw_isChanged) 141 = .ok (.imul, 1) := by decide +kernel
theorem dLw_isChanged_142 : decode (mB Lw_isChanged) 142 = .ok (.iadd, 1) := by decide +kernel
theorem dLw_isChanged_143 : decode (mB Lw_isChanged) 143 = .ok (.invokestatic 101, 3) := by decide +kernel
theorem dLw_isChanged_146 : decode (mB Lw_isChanged) 146 = .ok (.aload_n 3, 1) := by decide +kernel
theorem dLw_isChanged_147 : decode (mB Lw_isChanged) 147 = .ok (.iconst 0, 1) := by decide +kernel
theorem dLw_isChanged_148 : decode (mB Lw_isChanged) 148 = .ok (.dup2, 1) := by decide +kernel
theorem dLw_isChanged_149 : decode (mB Lw_isChanged) 149 = .ok (.iaload, 1) := by decide +kernel
theorem dLw_isChanged_150 : decode (mB Lw_isChanged) 150 = .ok (.iconst 1, 1) := by decide +kernel
theorem dLw_isChanged_151 : decode (mB Lw_isChanged) 151 = .ok (.iadd, 1) := by decide +kernel
theorem dLw_isChanged_152 : decode (mB Lw_isChanged) 152 = .ok (.iastore, 1) := by decide +kernel
theorem dLw_isChanged_153 : decode (mB Lw_isChanged) 153 = .ok (.aload_n 0, 1) := by decide +kernel
theorem dLw_isChanged_154 : decode (mB Lw_isChanged) 154 = .ok (.iconst 2, 1) := by decide +kernel
theorem dLw_isChanged_155 : decode (mB Lw_isChanged) 155 = .ok (.iload 5, 2) := by decide +kernel
theorem dLw_isChanged_157 : decode (mB Lw_isChanged) 157 = .ok (.iload 11, 2) := by decide +kernel
theorem dLw_isChanged_159 : decode (mB Lw_isChanged) 159 = .ok (.iload 9, 2) := by decide +kernel
theorem dLw_isChanged_161 : decode (mB Lw_isChanged) 161 = .ok (.bipush 10, 2) := by decide +kernel
theorem dLw_isChanged_163 : decode (mB Lw_isChanged) 163 = .ok (.iload 4, 2) := by decide +kernel
theorem dLw_isChanged_165 : decode (mB Lw_isChanged) 165 = .ok (.bipush 9, 2) := by decide +kernel
theorem dLw_isChanged_167 : decode (mB Lw_isChanged) 167 = .ok (.irem, 1) := by decide +kernel
theorem dLw_isChanged_168 : decode (mB Lw_isChanged) 168 = .ok (.imul, 1) := by decide +kernel
theorem dLw_isChanged_169 : decode (mB Lw_isChanged) 169 = .ok (.iadd, 1) := by decide +kernel
theorem dLw_isChanged_170 : decode (mB Lw_isChanged) 170 = .ok (.sipush 1000, 3) := by decide +kernel
theorem dLw_isChanged_173 : decode (mB Lw_isChanged) 173 = .ok (.iload 4, 2) := by decide +kernel
theorem dLw_isChanged_175 : decode (mB Lw_isChanged) 175 = .ok (.bipush 7, 2) := by decide +kernel
theorem dLw_isChanged_177 : decode (mB Lw_isChanged) 177 = .ok (.idiv, 1) := by decide +kernel
theorem dLw_isChanged_178 : decode (mB Lw_isChanged) 178 = .ok (.iconst 4, 1) := by decide +kernel
theorem dLw_isChanged_179 : decode (mB Lw_isChanged) 179 = .ok (.irem, 1) := by decide +kernel
theorem dLw_isChanged_180 : decode (mB Lw_isChanged) 180 = .ok (.imul, 1) := by decide +kernel
theorem dLw_isChanged_181 : decode (mB Lw_isChanged) 181 = .ok (.iadd, 1) := by decide +kernel
theorem dLw_isChanged_182 : decode (mB Lw_isChanged) 182 = .ok (.invokestatic 135, 3) := by decide +kernel
theorem dLw_isChanged_185 : decode (mB Lw_isChanged) 185 = .ok (.aload_n 3, 1) := by decide +kernel
theorem dLw_isChanged_186 : decode (mB Lw_isChanged) 186 = .ok (.iconst 0, 1) := by decide +kernel
theorem dLw_isChanged_187 : decode (mB Lw_isChanged) 187 = .ok (.iaload, 1) := by decide +kernel
theorem dLw_isChanged_188 : decode (mB Lw_isChanged) 188 = .ok (.iconst 1, 1) := by decide +kernel
theorem dLw_isChanged_189 : decode (mB Lw_isChanged) 189 = .ok (.isub, 1) := by decide +kernel
theorem dLw_isChanged_190 : decode (mB Lw_isChanged) 190 = .ok (.if_icmp .ne 7, 3) := by decide +kernel
theorem dLw_isChanged_193 : decode (mB Lw_isChanged) 193 = .ok (.iconst 1, 1) := by decide +kernel
theorem dLw_isChanged_194 : decode (mB Lw_isChanged) 194 = .ok (.goto 4, 3) := by decide +kernel
theorem dLw_isChanged_197 : decode (mB Lw_isChanged) 197 = .ok (.iconst 0, 1) := by decide +kernel
theorem dLw_isChanged_198 : decode (mB Lw_isChanged) 198 = .ok (.ireturn, 1) := by decide +kernel
theorem dLw_isChanged_199 : decode (mB Lw_isChanged) 199 = .ok (.iload 8, 2) := by decide +kernel
theorem dLw_isChanged_201 : decode (mB Lw_isChanged) 201 = .ok (.iconst 5, 1) := by decide +kernel
theorem dLw_isChanged_202 : decode (mB Lw_isChanged) 202 = .ok (.if_icmp .ge 71, 3) := by decide +kernel
theorem dLw_isChanged_205 : decode (mB Lw_isChanged) 205 = .ok (.aload_n 1, 1) := by decide +kernel
theorem dLw_isChanged_206 : decode (mB Lw_isChanged) 206 = .ok (.iload 5, 2) := by decide +kernel
theorem dLw_isChanged_208 : decode (mB Lw_isChanged) 208 = .ok (.invokestatic 86, 3) := by decide +kernel
theorem dLw_isChanged_211 : decode (mB Lw_isChanged) 211 = .ok (.istore 9, 2) := by decide +kernel
theorem dLw_isChanged_213 : decode (mB Lw_isChanged) 213 = .ok (.aload_n 1, 1) := by decide +kernel
theorem dLw_isChanged_214 : decode (mB Lw_isChanged) 214 = .ok (.iload 5, 2) := by decide +kernel
theorem dLw_isChanged_216 : decode (mB Lw_isChanged) 216 = .ok (.invokestatic 13, 3) := by decide +kernel
theorem dLw_isChanged_219 : decode (mB Lw_isChanged) 219 = .ok (.istore 10, 2) := by decide +kernel
theorem dLw_isChanged_221 : decode (mB Lw_isChanged) 221 = .ok (.aload_n 1, 1) := by decide +kernel
theorem dLw_isChanged_222 : decode (mB Lw_isChanged) 222 = .ok (.iconst 1, 1) := by decide +kernel
theorem dLw_isChanged_223 : decode (mB Lw_isChanged) 223 = .ok (.iload 10, 2) := by decide +kernel
theorem dLw_isChanged_225 : decode (mB Lw_isChanged) 225 = .ok (.iadd, 1) := by decide +kernel
theorem dLw_isChanged_226 : decode (mB Lw_isChanged) 226 = .ok (.dup2, 1) := by decide +kernel
theorem dLw_isChanged_227 : decode (mB Lw_isChanged) 227 = .ok (.iaload, 1) := by decide +kernel
theorem dLw_isChanged_228 : decode (mB Lw_isChanged) 228 = .ok (.bipush 64, 2) := by decide +kernel
theorem dLw_isChanged_230 : decode (mB Lw_isChanged) 230 = .ok (.iload 4, 2) := by decide +kernel
theorem dLw_isChanged_232 : decode (mB Lw_isChanged) 232 = .ok (.sipush 4608, 3) := by decide +kernel
theorem dLw_isChanged_235 : decode (mB Lw_isChanged) 235 = .ok (.idiv, 1) := by decide +kernel
theorem dLw_isChanged_236 : decode (mB Lw_isChanged) 236 = .ok (.bipush 9, 2) := by decide +kernel
theorem dLw_isChanged_238 : decode (mB Lw_isChanged) 238 = .ok (.irem, 1) := by decide +kernel
theorem dLw_isChanged_239 : decode (mB Lw_isChanged) 239 = .ok (.iload 9, 2) := by decide +kernel
theorem dLw_isChanged_241 : decode (mB Lw_isChanged) 241 = .ok (.isub, 1) := by decide +kernel
theorem dLw_isChanged_242 : decode (mB Lw_isChanged) 242 = .ok (.imul, 1) := by decide +kernel
theorem dLw_isChanged_243 : decode (mB Lw_isChanged) 243 = .ok (.iadd, 1) := by decide +kernel
theorem dLw_isChanged_244 : decode (mB Lw_isChanged) 244 = .ok (.iastore, 1) := by decide +kernel
theorem dLw_isChanged_245 : decode (mB Lw_isChanged) 245 = .ok (.aload_n 0, 1) := by decide +kernel
theorem dLw_isChanged_246 : decode (mB Lw_isChanged) 246 = .ok (.iconst 3, 1) := by decide +kernel
theorem dLw_isChanged_247 : decode (mB Lw_isChanged) 247 = .ok (.iload 5, 2) := by decide +kernel
theorem dLw_isChanged_249 : decode (mB Lw_isChanged) 249 = .ok (.iload 4, 2) := by decide +kernel
theorem dLw_isChanged_251 : decode (mB Lw_isChanged) 251 = .ok (.sipush 4608, 3) := by decide +kernel
theorem dLw_isChanged_254 : decode (mB Lw_isChanged) 254 = .ok (.idiv, 1) := by decide +kernel
theorem dLw_isChanged_255 : decode (mB Lw_isChanged) 255 = .ok (.bipush 9, 2) := by decide +kernel
theorem dLw_isChanged_257 : decode (mB Lw_isChanged) 257 = .ok (.irem, 1) := by decide +kernel
theorem dLw_isChanged_258 : decode (mB Lw_isChanged) 258 = .ok (.iconst 0, 1) := by decide +kernel
theorem dLw_isChanged_259 : decode (mB Lw_isChanged) 259 = .ok (.invokestatic 135, 3) := by decide +kernel
theorem dLw_isChanged_262 : decode (mB Lw_isChanged) 262 = .ok (.iload 9, 2) := by decide +kernel
theorem dLw_isChanged_264 : decode (mB Lw_isChanged) 264 = .ok (.if_icmp .ne 7, 3) := by decide +kernel
theorem dLw_isChanged_267 : decode (mB Lw_isChanged) 267 = .ok (.iconst 1, 1) := by decide +kernel
theorem dLw_isChanged_268 : decode (mB Lw_isChanged) 268 = .ok (.goto 4, 3) := by decide +kernel
theorem dLw_isChanged_271 : decode (mB Lw_isChanged) 271 = .ok (.iconst 0, 1) := by decide +kernel
theorem dLw_isChanged_272 : decode (mB Lw_isChanged) 272 = .ok (.ireturn, 1) := by decide +kernel
theorem dLw_isChanged_273 : decode (mB Lw_isChanged) 273 = .ok (.iload 8, 2) := by decide +kernel
theorem dLw_isChanged_275 : decode (mB Lw_isChanged) 275 = .ok (.bipush 7, 2) := by decide +kernel
theorem dLw_isChanged_277 : decode (mB Lw_isChanged) 277 = .ok (.if_icmp .ne 212, 3) := by decide +kernel
theorem dLw_isChanged_280 : decode (mB Lw_isChanged) 280 = .ok (.aload_n 1, 1) := by decide +kernel
theorem dLw_isChanged_281 : decode (mB Lw_isChanged) 281 = .ok (.iload 5, 2) := by decide +kernel
theorem dLw_isChanged_283 : decode (mB Lw_isChanged) 283 = .ok (.invokestatic 40, 3) := by decide +kernel
theorem dLw_isChanged_286 : decode (mB Lw_isChanged) 286 = .ok (.ifCond .lt 18, 3) := by decide +kernel
theorem dLw_isChanged_289 : decode (mB Lw_isChanged) 289 = .ok (.iload 4, 2) := by decide +kernel
theorem dLw_isChanged_291 : decode (mB Lw_isChanged) 291 = .ok (.sipush 4608, 3) := by decide +kernel
theorem dLw_isChanged_294 : decode (mB Lw_isChanged) 294 = .ok (.idiv, 1) := by decide +kernel
theorem dLw_isChanged_295 : decode (mB Lw_isChanged) 295 = .ok (.iconst 2, 1) := by decide +kernel
theorem dLw_isChanged_296 : decode (mB Lw_isChanged) 296 = .ok (.irem, 1) := by decide +kernel
theorem dLw_isChanged_297 : decode (mB Lw_isChanged) 297 = .ok (.ifCond .ne 7, 3) := by decide +kernel
theorem dLw_isChanged_300 : decode (mB Lw_isChanged) 300 = .ok (.iconst 1, 1) := by decide +kernel
theorem dLw_isChanged_301 : decode (mB Lw_isChanged) 301 = .ok (.goto 4, 3) := by decide +kernel
theorem dLw_isChanged_304 : decode (mB Lw_isChanged) 304 = .ok (.iconst 0, 1) := by decide +kernel
theorem dLw_isChanged_305 : decode (mB Lw_isChanged) 305 = .ok (.istore 9, 2) := by decide +kernel
theorem dLw_isChanged_307 : decode (mB Lw_isChanged) 307 = .ok (.iconst 0, 1) := by decide +kernel
theorem dLw_isChanged_308 : decode (mB Lw_isChanged) 308 = .ok (.istore 10, 2) := by decide +kernel
theorem dLw_isChanged_310 : decode (mB Lw_isChanged) 310 = .ok (.aload_n 1, 1) := by decide +kernel
theorem dLw_isChanged_311 : decode (mB Lw_isChanged) 311 = .ok (.iconst 0, 1) := by decide +kernel
theorem dLw_isChanged_312 : decode (mB Lw_isChanged) 312 = .ok (.iaload, 1) := by decide +kernel
theorem dLw_isChanged_313 : decode (mB Lw_isChanged) 313 = .ok (.istore 11, 2) := by decide +kernel
theorem dLw_isChanged_315 : decode (mB Lw_isChanged) 315 = .ok (.iconst 0, 1) := by decide +kernel
theorem dLw_isChanged_316 : decode (mB Lw_isChanged) 316 = .ok (.istore 12, 2) := by decide +kernel
theorem dLw_isChanged_318 : decode (mB Lw_isChanged) 318 = .ok (.iload 12, 2) := by decide +kernel
theorem dLw_isChanged_320 : decode (mB Lw_isChanged) 320 = .ok (.iload 11, 2) := by decide +kernel
theorem dLw_isChanged_322 : decode (mB Lw_isChanged) 322 = .ok (.if_icmp .ge 123, 3) := by decide +kernel
theorem dLw_isChanged_325 : decode (mB Lw_isChanged) 325 = .ok (.iload 9, 2) := by decide +kernel
theorem dLw_isChanged_327 : decode (mB Lw_isChanged) 327 = .ok (.ifCond .eq 118, 3) := by decide +kernel
theorem dLw_isChanged_330 : decode (mB Lw_isChanged) 330 = .ok (.aload_n 1, 1) := by decide +kernel
theorem dLw_isChanged_331 : decode (mB Lw_isChanged) 331 = .ok (.iconst 0, 1) := by decide +kernel
theorem dLw_isChanged_332 : decode (mB Lw_isChanged) 332 = .ok (.iaload, 1) := by decide +kernel
theorem dLw_isChanged_333 : decode (mB Lw_isChanged) 333 = .ok (.iconst 1, 1) := by decide +kernel
theorem dLw_isChanged_334 : decode (mB Lw_isChanged) 334 = .ok (.isub, 1) := by decide +kernel
theorem dLw_isChanged_335 : decode (mB Lw_isChanged) 335 = .ok (.istore 13, 2) := by decide +kernel
theorem dLw_isChanged_337 : decode (mB Lw_isChanged) 337 = .ok (.iload 13, 2) := by decide +kernel
theorem dLw_isChanged_339 : decode (mB Lw_isChanged) 339 = .ok (.ifCond .lt 100, 3) := by decide +kernel
theorem dLw_isChanged_342 : decode (mB Lw_isChanged) 342 = .ok (.aload_n 1, 1) := by decide +kernel
theorem dLw_isChanged_343 : decode (mB Lw_isChanged) 343 = .ok (.iload 13, 2) := by decide +kernel
theorem dLw_isChanged_345 : decode (mB Lw_isChanged) 345 = .ok (.invokestatic 7, 3) := by decide +kernel
theorem dLw_isChanged_348 : decode (mB Lw_isChanged) 348 = .ok (.iload 5, 2) := by decide +kernel
theorem dLw_isChanged_350 : decode (mB Lw_isChanged) 350 = .ok (.if_icmp .ne 20, 3) := by decide +kernel
theorem dLw_isChanged_353 : decode (mB Lw_isChanged) 353 = .ok (.iload 12, 2) := by decide +kernel
theorem dLw_isChanged_355 : decode (mB Lw_isChanged) 355 = .ok (.iload 11, 2) := by decide +kernel
theorem dLw_isChanged_357 : decode (mB Lw_isChanged) 357 = .ok (.iconst 1, 1) := by decide +kernel
theorem dLw_isChanged_358 : decode (mB Lw_isChanged) 358 = .ok (.isub, 1) := by decide +kernel
theorem dLw_isChanged_359 : decode (mB Lw_isChanged) 359 = .ok (.if_icmp .ne 7, 3) := by decide +kernel
theorem dLw_isChanged_362 : decode (mB Lw_isChanged) 362 = .ok (.iconst 1, 1) := by decide +kernel
theorem dLw_isChanged_363 : decode (mB Lw_isChanged) 363 = .ok (.goto 54, 3) := by decide +kernel
theorem dLw_isChanged_366 : decode (mB Lw_isChanged) 366 = .ok (.iconst 0, 1) := by decide +kernel
theorem dLw_isChanged_367 : decode (mB Lw_isChanged) 367 = .ok (.goto 50, 3) := by decide +kernel
theorem dLw_isChanged_370 : decode (mB Lw_isChanged) 370 = .ok (.aload_n 1, 1) := by decide +kernel
theorem dLw_isChanged_371 : decode (mB Lw_isChanged) 371 = .ok (.iload 13, 2) := by decide +kernel
theorem dLw_isChanged_373 : decode (mB Lw_isChanged) 373 = .ok (.invokestatic 7, 3) := by decide +kernel
theorem dLw_isChanged_376 : decode (mB Lw_isChanged) 376 = .ok (.iload 5, 2) := by decide +kernel
theorem dLw_isChanged_378 : decode (mB Lw_isChanged) 378 = .ok (.if_icmp .eq 38, 3) := by decide +kernel
theorem dLw_isChanged_381 : decode (mB Lw_isChanged) 381 = .ok (.aload_n 1, 1) := by decide +kernel
theorem dLw_isChanged_382 : decode (mB Lw_isChanged) 382 = .ok (.aload_n 1, 1) := by decide +kernel
theorem dLw_isChanged_383 : decode (mB Lw_isChanged) 383 = .ok (.iload 13, 2) := by decide +kernel
theorem dLw_isChanged_385 : decode (mB Lw_isChanged) 385 = .ok (.invokestatic 7, 3) := by decide +kernel
theorem dLw_isChanged_388 : decode (mB Lw_isChanged) 388 = .ok (.iload 5, 2) := by decide +kernel
theorem dLw_isChanged_390 : decode (mB Lw_isChanged) 390 = .ok (.invokestatic 143, 3) := by decide +kernel
theorem dLw_isChanged_393 : decode (mB Lw_isChanged) 393 = .ok (.ifCond .eq 23, 3) := by decide +kernel
theorem dLw_isChanged_396 : decode (mB Lw_isChanged) 396 = .ok (.aload_n 1, 1) := by decide +kernel
theorem dLw_isChanged_397 : decode (mB Lw_isChanged) 397 = .ok (.aload_n 2, 1) := by decide +kernel
theorem dLw_isChanged_398 : decode (mB Lw_isChanged) 398 = .ok (.aload_n 1, 1) := by decide +kernel
theorem dLw_isChanged_399 : decode (mB Lw_isChanged) 399 = .ok (.iload 13, 2) := by decide +kernel
theorem dLw_isChanged_401 : decode (mB Lw_isChanged) 401 = .ok (.invokestatic 7, 3) := by decide +kernel
theorem dLw_isChanged_404 : decode (mB Lw_isChanged) 404 = .ok (.aload 7, 2) := by decide +kernel
theorem dLw_isChanged_406 : decode (mB Lw_isChanged) 406 = .ok (.invokestatic 36, 3) := by decide +kernel
theorem dLw_isChanged_409 : decode (mB Lw_isChanged) 409 = .ok (.ifCond .ne 7, 3) := by decide +kernel
theorem dLw_isChanged_412 : decode (mB Lw_isChanged) 412 = .ok (.iconst 1, 1) := by decide +kernel
theorem dLw_isChanged_413 : decode (mB Lw_isChanged) 413 = .ok (.goto 4, 3) := by decide +kernel
theorem dLw_isChanged_416 : decode (mB Lw_isChanged) 416 = .ok (.iconst 0, 1) := by decide +kernel
theorem dLw_isChanged_417 : decode (mB Lw_isChanged) 417 = .ok (.istore 14, 2) := by decide +kernel
theorem dLw_isChanged_419 : decode (mB Lw_isChanged) 419 = .ok (.iload 14, 2) := by decide +kernel
theorem dLw_isChanged_421 : decode (mB Lw_isChanged) 421 = .ok (.ifCond .eq 12, 3) := by decide +kernel
theorem dLw_isChanged_424 : decode (mB Lw_isChanged) 424 = .ok (.aload_n 1, 1) := by decide +kernel
theorem dLw_isChanged_425 : decode (mB Lw_isChanged) 425 = .ok (.iload 13, 2) := by decide +kernel
theorem dLw_isChanged_427 : decode (mB Lw_isChanged) 427 = .ok (.invokestatic 147, 3) := by decide +kernel
theorem dLw_isChanged_430 : decode (mB Lw_isChanged) 430 = .ok (.iinc 10 1, 3) := by decide +kernel
theorem dLw_isChanged_433 : decode (mB Lw_isChanged) 433 = .ok (.iinc 13 (-1), 3) := by decide +kernel
theorem dLw_isChanged_436 : decode (mB Lw_isChanged) 436 = .ok (.goto (-99), 3) := by decide +kernel
theorem dLw_isChanged_439 : decode (mB Lw_isChanged) 439 = .ok (.iinc 12 1, 3) := by decide +kernel
theorem dLw_isChanged_442 : decode (mB Lw_isChanged) 442 = .ok (.goto (-124), 3) := by decide +kernel
theorem dLw_isChanged_445 : decode (mB Lw_isChanged) 445 = .ok (.iload 9, 2) := by decide +kernel
theorem dLw_isChanged_447 : decode (mB Lw_isChanged) 447 = .ok (.ifCond .ne 12, 3) := by decide +kernel
theorem dLw_isChanged_450 : decode (mB Lw_isChanged) 450 = .ok (.aload_n 1, 1) := by decide +kernel
theorem dLw_isChanged_451 : decode (mB Lw_isChanged) 451 = .ok (.iload 5, 2) := by decide +kernel
theorem dLw_isChanged_453 : decode (mB Lw_isChanged) 453 = .ok (.invokestatic 40, 3) := by decide +kernel
theorem dLw_isChanged_456 : decode (mB Lw_isChanged) 456 = .ok (.ifCond .ge 27, 3) := by decide +kernel
theorem dLw_isChanged_459 : decode (mB Lw_isChanged) 459 = .ok (.aload_n 0, 1) := by decide +kernel
theorem dLw_isChanged_460 : decode (mB Lw_isChanged) 460 = .ok (.iconst 5, 1) := by decide +kernel
theorem dLw_isChanged_461 : decode (mB Lw_isChanged) 461 = .ok (.iload 5, 2) := by decide +kernel
theorem dLw_isChanged_463 : decode (mB Lw_isChanged) 463 = .ok (.iconst 0, 1) := by decide +kernel
theorem dLw_isChanged_464 : decode (mB Lw_isChanged) 464 = .ok (.iconst 0, 1) := by decide +kernel
theorem dLw_isChanged_465 : decode (mB Lw_isChanged) 465 = .ok (.invokestatic 135, 3) := by decide +kernel
theorem dLw_isChanged_468 : decode (mB Lw_isChanged) 468 = .ok (.iload 9, 2) := by decide +kernel
theorem dLw_isChanged_470 : decode (mB Lw_isChanged) 470 = .ok (.ifCond .eq 8, 3) := by decide +kernel
theorem dLw_isChanged_473 : decode (mB Lw_isChanged) 473 = .ok (.iload 10, 2) := by decide +kernel
theorem dLw_isChanged_475 : decode (mB Lw_isChanged) 475 = .ok (.goto 5, 3) := by decide +kernel
theorem dLw_isChanged_478 : decode (mB Lw_isChanged) 478 = .ok (.bipush (-13), 2) := by decide +kernel
theorem dLw_isChanged_480 : decode (mB Lw_isChanged) 480 = .ok (.if_icmp .ne 7, 3) := by decide +kernel
theorem dLw_isChanged_483 : decode (mB Lw_isChanged) 483 = .ok (.iconst 1, 1) := by decide +kernel
theorem dLw_isChanged_484 : decode (mB Lw_isChanged) 484 = .ok (.goto 4, 3) := by decide +kernel
theorem dLw_isChanged_487 : decode (mB Lw_isChanged) 487 = .ok (.iconst 0, 1) := by decide +kernel
theorem dLw_isChanged_488 : decode (mB Lw_isChanged) 488 = .ok (.ireturn, 1) := by decide +kernel
theorem dLw_isChanged_489 : decode (mB Lw_isChanged) 489 = .ok (.aload_n 1, 1) := by decide +kernel
theorem dLw_isChanged_490 : decode (mB Lw_isChanged) 490 = .ok (.iload 5, 2) := by decide +kernel
theorem dLw_isChanged_492 : decode (mB Lw_isChanged) 492 = .ok (.invokestatic 40, 3) := by decide +kernel
theorem dLw_isChanged_495 : decode (mB Lw_isChanged) 495 = .ok (.istore 9, 2) := by decide +kernel
theorem dLw_isChanged_497 : decode (mB Lw_isChanged) 497 = .ok (.aload_n 1, 1) := by decide +kernel
theorem dLw_isChanged_498 : decode (mB Lw_isChanged) 498 = .ok (.aload_n 2, 1) := by decide +kernel
theorem dLw_isChanged_499 : decode (mB Lw_isChanged) 499 = .ok (.iload 6, 2) := by decide +kernel
theorem dLw_isChanged_501 : decode (mB Lw_isChanged) 501 = .ok (.aload 7, 2) := by decide +kernel
theorem dLw_isChanged_503 : decode (mB Lw_isChanged) 503 = .ok (.invokestatic 36, 3) := by decide +kernel
theorem dLw_isChanged_506 : decode (mB Lw_isChanged) 506 = .ok (.iload 9, 2) := by decide +kernel
theorem dLw_isChanged_508 : decode (mB Lw_isChanged) 508 = .ok (.iload 6, 2) := by decide +kernel
theorem dLw_isChanged_510 : decode (mB Lw_isChanged) 510 = .ok (.if_icmp .ne 7, 3) := by decide +kernel
theorem dLw_isChanged_513 : decode (mB Lw_isChanged) 513 = .ok (.iconst 1, 1) := by decide +kernel
theorem dLw_isChanged_514 : decode (mB Lw_isChanged) 514 = .ok (.goto 4, 3) := by decide +kernel
theorem dLw_isChanged_517 : decode (mB Lw_isChanged) 517 = .ok (.iconst 0, 1) := by decide +kernel
theorem dLw_isChanged_518 : decode (mB Lw_isChanged) 518 = .ok (.isub, 1) := by decide +kernel
theorem dLw_isChanged_519 : decode (mB Lw_isChanged) 519 = .ok (.istore 10, 2) := by decide +kernel
theorem dLw_isChanged_521 : decode (mB Lw_isChanged) 521 = .ok (.iload 4, 2) := by decide +kernel
theorem dLw_isChanged_523 : decode (mB Lw_isChanged) 523 = .ok (.sipush 4608, 3) := by decide +kernel
theorem dLw_isChanged_526 : decode (mB Lw_isChanged) 526 = .ok (.idiv, 1) := by decide +kernel
theorem dLw_isChanged_527 : decode (mB Lw_isChanged) 527 = .ok (.iload 10, 2) := by decide +kernel
theorem dLw_isChanged_529 : decode (mB Lw_isChanged) 529 = .ok (.iconst 1, 1) := by decide +kernel
theorem dLw_isChanged_530 : decode (mB Lw_isChanged) 530 = .ok (.iadd, 1) := by decide +kernel
theorem dLw_isChanged_531 : decode (mB Lw_isChanged) 531 = .ok (.irem, 1) := by decide +kernel
theorem dLw_isChanged_532 : decode (mB Lw_isChanged) 532 = .ok (.istore 11, 2) := by decide +kernel
theorem dLw_isChanged_534 : decode (mB Lw_isChanged) 534 = .ok (.iload 9, 2) := by decide +kernel
theorem dLw_isChanged_536 : decode (mB Lw_isChanged) 536 = .ok (.ifCond .lt 18, 3) := by decide +kernel
theorem dLw_isChanged_539 : decode (mB Lw_isChanged) 539 = .ok (.aload_n 1, 1) := by decide +kernel
theorem dLw_isChanged_540 : decode (mB Lw_isChanged) 540 = .ok (.iload 6, 2) := by decide +kernel
theorem dLw_isChanged_542 : decode (mB Lw_isChanged) 542 = .ok (.iload 5, 2) := by decide +kernel
theorem dLw_isChanged_544 : decode (mB Lw_isChanged) 544 = .ok (.invokestatic 143, 3) := by decide +kernel
theorem dLw_isChanged_547 : decode (mB Lw_isChanged) 547 = .ok (.ifCond .ne 7, 3) := by decide +kernel
theorem dLw_isChanged_550 : decode (mB Lw_isChanged) 550 = .ok (.iconst 1, 1) := by decide +kernel
theorem dLw_isChanged_551 : decode (mB Lw_isChanged) 551 = .ok (.goto 4, 3) := by decide +kernel
theorem dLw_isChanged_554 : decode (mB Lw_isChanged) 554 = .ok (.iconst 0, 1) := by decide +kernel
theorem dLw_isChanged_555 : decode (mB Lw_isChanged) 555 = .ok (.istore 12, 2) := by decide +kernel
theorem dLw_isChanged_557 : decode (mB Lw_isChanged) 557 = .ok (.iload 12, 2) := by decide +kernel
theorem dLw_isChanged_559 : decode (mB Lw_isChanged) 559 = .ok (.ifCond .eq 53, 3) := by decide +kernel
theorem dLw_isChanged_562 : decode (mB Lw_isChanged) 562 = .ok (.aload_n 1, 1) := by decide +kernel
theorem dLw_isChanged_563 : decode (mB Lw_isChanged) 563 = .ok (.iconst 1, 1) := by decide +kernel
theorem dLw_isChanged_564 : decode (mB Lw_isChanged) 564 = .ok (.aload_n 1, 1) := by decide +kernel
theorem dLw_isChanged_565 : decode (mB Lw_isChanged) 565 = .ok (.iload 5, 2) := by decide +kernel
theorem dLw_isChanged_567 : decode (mB Lw_isChanged) 567 = .ok (.invokestatic 13, 3) := by decide +kernel
theorem dLw_isChanged_570 : decode (mB Lw_isChanged) 570 = .ok (.iadd, 1) := by decide +kernel
theorem dLw_isChanged_571 : decode (mB Lw_isChanged) 571 = .ok (.iaload, 1) := by decide +kernel
theorem dLw_isChanged_572 : decode (mB Lw_isChanged) 572 = .ok (.sipush 8192, 3) := by decide +kernel
theorem dLw_isChanged_575 : decode (mB Lw_isChanged) 575 = .ok (.irem, 1) := by decide +kernel
theorem dLw_isChanged_576 : decode (mB Lw_isChanged) 576 = .ok (.istore 13, 2) := by decide +kernel
theorem dLw_isChanged_578 : decode (mB Lw_isChanged) 578 = .ok (.aload_n 1, 1) := by decide +kernel
theorem dLw_isChanged_579 : decode (mB Lw_isChanged) 579 = .ok (.aload_n 1, 1) := by decide +kernel
theorem dLw_isChanged_580 : decode (mB Lw_isChanged) 580 = .ok (.iload 5, 2) := by decide +kernel
theorem dLw_isChanged_582 : decode (mB Lw_isChanged) 582 = .ok (.invokestatic 13, 3) := by decide +kernel
theorem dLw_isChanged_585 : decode (mB Lw_isChanged) 585 = .ok (.invokestatic 147, 3) := by decide +kernel
theorem dLw_isChanged_588 : decode (mB Lw_isChanged) 588 = .ok (.aload_n 1, 1) := by decide +kernel
theorem dLw_isChanged_589 : decode (mB Lw_isChanged) 589 = .ok (.aload_n 1, 1) := by decide +kernel
theorem dLw_isChanged_590 : decode (mB Lw_isChanged) 590 = .ok (.aload_n 2, 1) := by decide +kernel
theorem dLw_isChanged_591 : decode (mB Lw_isChanged) 591 = .ok (.iload 6, 2) := by decide +kernel
theorem dLw_isChanged_593 : decode (mB Lw_isChanged) 593 = .ok (.iload 11, 2) := by decide +kernel
theorem dLw_isChanged_595 : decode (mB Lw_isChanged) 595 = .ok (.invokestatic 139, 3) := by decide +kernel
theorem dLw_isChanged_598 : decode (mB Lw_isChanged) 598 = .ok (.iload 13, 2) := by decide +kernel
theorem dLw_isChanged_600 : decode (mB Lw_isChanged) 600 = .ok (.sipush 8192, 3) := by decide +kernel
theorem dLw_isChanged_603 : decode (mB Lw_isChanged) 603 = .ok (.iload 6, 2) := by decide +kernel
theorem dLw_isChanged_605 : decode (mB Lw_isChanged) 605 = .ok (.iconst 1, 1) := by decide +kernel
theorem dLw_isChanged_606 : decode (mB Lw_isChanged) 606 = .ok (.iadd, 1) := by decide +kernel
theorem dLw_isChanged_607 : decode (mB Lw_isChanged) 607 = .ok (.imul, 1) := by decide +kernel
theorem dLw_isChanged_608 : decode (mB Lw_isChanged) 608 = .ok (.iadd, 1) := by decide +kernel
theorem dLw_isChanged_609 : decode (mB Lw_isChanged) 609 = .ok (.invokestatic 101, 3) := by decide +kernel
theorem dLw_isChanged_612 : decode (mB Lw_isChanged) 612 = .ok (.aload_n 0, 1) := by decide +kernel
theorem dLw_isChanged_613 : decode (mB Lw_isChanged) 613 = .ok (.iconst 4, 1) := by decide +kernel
theorem dLw_isChanged_614 : decode (mB Lw_isChanged) 614 = .ok (.iload 5, 2) := by decide +kernel
theorem dLw_isChanged_616 : decode (mB Lw_isChanged) 616 = .ok (.iload 6, 2) := by decide +kernel
theorem dLw_isChanged_618 : decode (mB Lw_isChanged) 618 = .ok (.iload 11, 2) := by decide +kernel
theorem dLw_isChanged_620 : decode (mB Lw_isChanged) 620 = .ok (.invokestatic 135, 3) := by decide +kernel
theorem dLw_isChanged_623 : decode (mB Lw_isChanged) 623 = .ok (.iload 12, 2) := by decide +kernel
theorem dLw_isChanged_625 : decode (mB Lw_isChanged) 625 = .ok (.ifCond .eq 8, 3) := by decide +kernel
theorem dLw_isChanged_628 : decode (mB Lw_isChanged) 628 = .ok (.iload 9, 2) := by decide +kernel
theorem dLw_isChanged_630 : decode (mB Lw_isChanged) 630 = .ok (.goto 5, 3) := by decide +kernel
theorem dLw_isChanged_633 : decode (mB Lw_isChanged) 633 = .ok (.bipush (-13), 2) := by decide +kernel
theorem dLw_isChanged_635 : decode (mB Lw_isChanged) 635 = .ok (.if_icmp .ne 7, 3) := by decide +kernel
theorem dLw_isChanged_638 : decode (mB Lw_isChanged) 638 = .ok (.iconst 1, 1) := by decide +kernel
theorem dLw_isChanged_639 : decode (mB Lw_isChanged) 639 = .ok (.goto 4, 3) := by decide +kernel
theorem dLw_isChanged_642 : decode (mB Lw_isChanged) 642 = .ok (.iconst 0, 1) := by decide +kernel
theorem dLw_isChanged_643 : decode (mB Lw_isChanged) 643 = .ok (.ireturn, 1) := by decide +kernel
def w_Lw_isChanged_417 (R : Int32 → tpH → Prop) (K337 : (Option Nat) → (Option Nat) → (Option Nat) → Int32 → (Option Nat) → Int32 → Int32 → Int32 → Int32 → Int32 → tpH → Prop) (x0 : Option Nat) (x1 : Option Nat) (x2 : Option Nat) (x5 : Int32) (x7 : Option Nat) (x9 : Int32) (x10 : Int32) (x11 : Int32) (x12 : Int32) (x13 : Int32) (t0 : Int32) (h : tpH) : Prop :=
  (t0 = 0 → (K337 x0 x1 x2 x5 x7 x9 x10 x11 x12 (x13 + (-1 : Int32)) h)) ∧ (¬ t0 = 0 → (w_Lw_takes x1 x13 h (fun h2 => K337 x0 x1 x2 x5 x7 x9 (x10 + (1 : Int32)) x11 x12 (x13 + (-1 : Int32)) h2)))
def b_Lw_isChanged_337 (R : Int32 → tpH → Prop) (K318 : (Option Nat) → (Option Nat) → (Option Nat) → Int32 → (Option Nat) → Int32 → Int32 → Int32 → Int32 → tpH → Prop) (Y : (Option Nat) → (Option Nat) → (Option Nat) → Int32 → (Option Nat) → Int32 → Int32 → Int32 → Int32 → Int32 → tpH → Prop) (x0 : Option Nat) (x1 : Option Nat) (x2 : Option Nat) (x5 : Int32) (x7 : Option Nat) (x9 : Int32) (x10 : Int32) (x11 : Int32) (x12 : Int32) (x13 : Int32) (h : tpH) : Prop :=
  (x13 < 0 → (K318 x0 x1 x2 x5 x7 x9 x10 x11 (x12 + (1 : Int32)) h)) ∧ (¬ x13 < 0 → (w_Lw_mark x1 x13 h (fun v3 h2 => (¬ v3 = x5 → (w_Lw_mark x1 x13 h2 (fun v6 h5 => (v6 = x5 → (w_Lw_isChanged_417 R Y x0 x1 x2 x5 x7 x9 x10 x11 x12 x13 (0 : Int32) h5)) ∧ (¬ v6 = x5 → (w_Lw_mark x1 x13 h5 (fun v9 h8 => w_Lw_isBelow x1 v9 x5 h8 (fun v11 h10 => (v11 = 0 → (w_Lw_isChanged_417 R Y x0 x1 x2 x5 x7 x9 x10 x11 x12 x13 (0 : Int32) h10)) ∧ (¬ v11 = 0 → (w_Lw_mark x1 x13 h10 (fun v14 h13 => w_Lw_children x1 x2 v14 x7 h13 (fun v16 h15 => (¬ v16 = 0 → (w_Lw_isChanged_417 R Y x0 x1 x2 x5 x7 x9 x10 x11 x12 x13 (0 : Int32) h15)) ∧ (v16 = 0 → (w_Lw_isChanged_417 R Y x0 x1 x2 x5 x7 x9 x10 x11 x12 x13 (1 : Int32) h15))))))))))))) ∧ (v3 = x5 → ((¬ x12 = (x11 - (1 : Int32)) → (w_Lw_isChanged_417 R Y x0 x1 x2 x5 x7 x9 x10 x11 x12 x13 (0 : Int32) h2)) ∧ (x12 = (x11 - (1 : Int32)) → (w_Lw_isChanged_417 R Y x0 x1 x2 x5 x7 x9 x10 x11 x12 x13 (1 : Int32) h2)))))))
def w_Lw_isChanged_337 (R : Int32 → tpH → Prop) (K318 : (Option Nat) → (Option Nat) → (Option Nat) → Int32 → (Option Nat) → Int32 → Int32 → Int32 → Int32 → tpH → Prop) : Nat → (Option Nat) → (Option Nat) → (Option Nat) → Int32 → (Option Nat) → Int32 → Int32 → Int32 → Int32 → Int32 → tpH → Prop
  | 0 => fun _ _ _ _ _ _ _ _ _ _ _ => False
  | n + 1 => b_Lw_isChanged_337 R K318 (w_Lw_isChanged_337 R K318 n)
def w_Lw_isChanged_480 (R : Int32 → tpH → Prop) (t0 : Int32) (t1 : Int32) (h : tpH) : Prop :=
  (¬ t1 = t0 → (R (0 : Int32) h)) ∧ (t1 = t0 → (R (1 : Int32) h))
def w_Lw_isChanged_459 (R : Int32 → tpH → Prop) (x0 : Option Nat) (x5 : Int32) (x9 : Int32) (x10 : Int32) (h : tpH) : Prop :=
  w_Lw_does x0 (5 : Int32) x5 (0 : Int32) (0 : Int32) h (fun v2 h1 => (x9 = 0 → (w_Lw_isChanged_480 R (-13 : Int32) v2 h1)) ∧ (¬ x9 = 0 → (w_Lw_isChanged_480 R x10 v2 h1)))
def w_Lw_isChanged_445 (R : Int32 → tpH → Prop) (x0 : Option Nat) (x1 : Option Nat) (x5 : Int32) (x9 : Int32) (x10 : Int32) (h : tpH) : Prop :=
  (¬ x9 = 0 → (w_Lw_isChanged_459 R x0 x5 x9 x10 h)) ∧ (x9 = 0 → (w_Lw_parentOf x1 x5 h (fun v3 h2 => (0 ≤ v3 → (R (1 : Int32) h2)) ∧ (¬ 0 ≤ v3 → (w_Lw_isChanged_459 R x0 x5 x9 x10 h2)))))
def b_Lw_isChanged_318 (R : Int32 → tpH → Prop) (Y : (Option Nat) → (Option Nat) → (Option Nat) → Int32 → (Option Nat) → Int32 → Int32 → Int32 → Int32 → tpH → Prop) (x0 : Option Nat) (x1 : Option Nat) (x2 : Option Nat) (x5 : Int32) (x7 : Option Nat) (x9 : Int32) (x10 : Int32) (x11 : Int32) (x12 : Int32) (h : tpH) : Prop :=
  (x11 ≤ x12 → (w_Lw_isChanged_445 R x0 x1 x5 x9 x10 h)) ∧ (¬ x11 ≤ x12 → ((x9 = 0 → (w_Lw_isChanged_445 R x0 x1 x5 x9 x10 h)) ∧ (¬ x9 = 0 → (∃ a3, x1 = some a3 ∧ hT h a3 = 15 ∧ (vp_in (0 : Int32) (hL h a3) ∧ (∃ n, w_Lw_isChanged_337 R Y n x0 x1 x2 x5 x7 x9 x10 x11 x12 ((hI h a3 (0 : Int32).toNatClampNeg) - (1 : Int32)) h))))))
def w_Lw_isChanged_318 (R : Int32 → tpH → Prop) : Nat → (Option Nat) → (Option Nat) → (Option Nat) → Int32 → (Option Nat) → Int32 → Int32 → Int32 → Int32 → tpH → Prop
  | 0 => fun _ _ _ _ _ _ _ _ _ _ => False
  | n + 1 => b_Lw_isChanged_318 R (w_Lw_isChanged_318 R n)
def w_Lw_isChanged_305 (R : Int32 → tpH → Prop) (x0 : Option Nat) (x1 : Option Nat) (x2 : Option Nat) (x5 : Int32) (x7 : Option Nat) (t0 : Int32) (h : tpH) : Prop :=
  ∃ a1, x1 = some a1 ∧ hT h a1 = 15 ∧ (vp_in (0 : Int32) (hL h a1) ∧ (∃ n, w_Lw_isChanged_318 R n x0 x1 x2 x5 x7 t0 (0 : Int32) (hI h a1 (0 : Int32).toNatClampNeg) (0 : Int32) h))
def w_Lw_isChanged_635 (R : Int32 → tpH → Prop) (t0 : Int32) (t1 : Int32) (h : tpH) : Prop :=
  (¬ t1 = t0 → (R (0 : Int32) h)) ∧ (t1 = t0 → (R (1 : Int32) h))
def w_Lw_isChanged_612 (R : Int32 → tpH → Prop) (x0 : Option Nat) (x5 : Int32) (x6 : Int32) (x9 : Int32) (x11 : Int32) (x12 : Int32) (h : tpH) : Prop :=
  w_Lw_does x0 (4 : Int32) x5 x6 x11 h (fun v2 h1 => (x12 = 0 → (w_Lw_isChanged_635 R (-13 : Int32) v2 h1)) ∧ (¬ x12 = 0 → (w_Lw_isChanged_635 R x9 v2 h1)))
def w_Lw_isChanged_555 (R : Int32 → tpH → Prop) (x0 : Option Nat) (x1 : Option Nat) (x2 : Option Nat) (x5 : Int32) (x6 : Int32) (x9 : Int32) (x11 : Int32) (t0 : Int32) (h : tpH) : Prop :=
  (t0 = 0 → (w_Lw_isChanged_612 R x0 x5 x6 x9 x11 t0 h)) ∧ (¬ t0 = 0 → (w_Lw_place x1 x5 h (fun v3 h2 => ∃ a4, x1 = some a4 ∧ hT h2 a4 = 15 ∧ (vp_in ((1 : Int32) + v3) (hL h2 a4) ∧ (w_Lw_place x1 x5 h2 (fun v9 h8 => w_Lw_takes x1 v9 h8 (fun h10 => w_Lw_spot x1 x2 x6 x11 h10 (fun v12 h11 => w_Lw_puts x1 v12 (((hI h2 a4 ((1 : Int32) + v3).toNatClampNeg) - (hI h2 a4 ((1 : Int32) + v3).toNatClampNeg) / (8192 : Int32) * (8192 : Int32)) + ((8192 : Int32) * (x6 + (1 : Int32)))) h11 (fun h13 => w_Lw_isChanged_612 R x0 x5 x6 x9 x11 t0 h13)))))))))
def w_Lw_isChanged_518 (R : Int32 → tpH → Prop) (x0 : Option Nat) (x1 : Option Nat) (x2 : Option Nat) (x4 : Int32) (x5 : Int32) (x6 : Int32) (x9 : Int32) (t0 : Int32) (t1 : Int32) (h : tpH) : Prop :=
  ¬ ((t1 - t0) + (1 : Int32)) = 0 ∧ ((x9 < 0 → (w_Lw_isChanged_555 R x0 x1 x2 x5 x6 x9 ((x4 / (4608 : Int32)) - (x4 / (4608 : Int32)) / ((t1 - t0) + (1 : Int32)) * ((t1 - t0) + (1 : Int32))) (0 : Int32) h)) ∧ (¬ x9 < 0 → (w_Lw_isBelow x1 x6 x5 h (fun v4 h3 => (¬ v4 = 0 → (w_Lw_isChanged_555 R x0 x1 x2 x5 x6 x9 ((x4 / (4608 : Int32)) - (x4 / (4608 : Int32)) / ((t1 - t0) + (1 : Int32)) * ((t1 - t0) + (1 : Int32))) (0 : Int32) h3)) ∧ (v4 = 0 → (w_Lw_isChanged_555 R x0 x1 x2 x5 x6 x9 ((x4 / (4608 : Int32)) - (x4 / (4608 : Int32)) / ((t1 - t0) + (1 : Int32)) * ((t1 - t0) + (1 : Int32))) (1 : Int32) h3))))))
def w_Lw_isChanged_199 (R : Int32 → tpH → Prop) (x0 : Option Nat) (x1 : Option Nat) (x2 : Option Nat) (x4 : Int32) (x5 : Int32) (x6 : Int32) (x7 : Option Nat) (x8 : Int32) (h : tpH) : Prop :=
  ((5 : Int32) ≤ x8 → ((¬ x8 = (7 : Int32) → (w_Lw_parentOf x1 x5 h (fun v4 h3 => w_Lw_children x1 x2 x6 x7 h3 (fun v6 h5 => (¬ v4 = x6 → (w_Lw_isChanged_518 R x0 x1 x2 x4 x5 x6 v4 (0 : Int32) v6 h5)) ∧ (v4 = x6 → (w_Lw_isChanged_518 R x0 x1 x2 x4 x5 x6 v4 (1 : Int32) v6 h5)))))) ∧ (x8 = (7 : Int32) → (w_Lw_parentOf x1 x5 h (fun v9 h8 => (v9 < 0 → (w_Lw_isChanged_305 R x0 x1 x2 x5 x7 (0 : Int32) h8)) ∧ (¬ v9 < 0 → ((¬ ((x4 / (4608 : Int32)) - (x4 / (4608 : Int32)) / (2 : Int32) * (2 : Int32)) = 0 → (w_Lw_isChanged_305 R x0 x1 x2 x5 x7 (0 : Int32) h8)) ∧ (((x4 / (4608 : Int32)) - (x4 / (4608 : Int32)) / (2 : Int32) * (2 : Int32)) = 0 → (w_Lw_isChanged_305 R x0 x1 x2 x5 x7 (1 : Int32) h8))))))))) ∧ (¬ (5 : Int32) ≤ x8 → (w_Lw_valueOf x1 x5 h (fun v13 h12 => w_Lw_place x1 x5 h12 (fun v15 h14 => ∃ a16, x1 = some a16 ∧ hT h14 a16 = 15 ∧ (vp_in ((1 : Int32) + v15) (hL h14 a16) ∧ (vp_in ((1 : Int32) + v15) (hL h14 a16) ∧ (∀ h21, h21 = sI h14 a16 ((1 : Int32) + v15).toNatClampNeg ((hI h14 a16 ((1 : Int32) + v15).toNatClampNeg) + ((64 : Int32) * (((x4 / (4608 : Int32)) - (x4 / (4608 : Int32)) / (9 : Int32) * (9 : Int32)) - v13))) → (w_Lw_does x0 (3 : Int32) x5 ((x4 / (4608 : Int32)) - (x4 / (4608 : Int32)) / (9 : Int32) * (9 : Int32)) (0 : Int32) h21 (fun v24 h23 => (¬ v24 = v13 → (R (0 : Int32) h23)) ∧ (v24 = v13 → (R (1 : Int32) h23)))))))))))
def w_Lw_isChanged (x0 : Option Nat) (x1 : Option Nat) (x2 : Option Nat) (x3 : Option Nat) (x4 : Int32) (h : tpH) (R : Int32 → tpH → Prop) : Prop :=
  ∃ a1, x1 = some a1 ∧ hT h a1 = 15 ∧ (vp_in (0 : Int32) (hL h a1) ∧ (¬ (hI h a1 (0 : Int32).toNatClampNeg) = 0 ∧ (w_Lw_mark x1 (x4 - x4 / (hI h a1 (0 : Int32).toNatClampNeg) * (hI h a1 (0 : Int32).toNatClampNeg)) h (fun v7 h6 => hT h6 a1 = 15 ∧ (vp_in (0 : Int32) (hL h6 a1) ∧ (¬ (hI h6 a1 (0 : Int32).toNatClampNeg) = 0 ∧ (w_Lw_mark x1 ((x4 / (24 : Int32)) - (x4 / (24 : Int32)) / (hI h6 a1 (0 : Int32).toNatClampNeg) * (hI h6 a1 (0 : Int32).toNatClampNeg)) h6 (fun v12 h11 => ∀ a13 h14, a13 = hZ h11 → h14 = nC h11 15 40 40 → (((3 : Int32) ≤ ((x4 / (576 : Int32)) - (x4 / (576 : Int32)) / (8 : Int32) * (8 : Int32)) → (w_Lw_isChanged_199 R x0 x1 x2 x4 v7 v12 (some a13) ((x4 / (576 : Int32)) - (x4 / (576 : Int32)) / (8 : Int32) * (8 : Int32)) h14)) ∧ (¬ (3 : Int32) ≤ ((x4 / (576 : Int32)) - (x4 / (576 : Int32)) / (8 : Int32) * (8 : Int32)) → (∃ a18, x3 = some a18 ∧ hT h14 a18 = 15 ∧ (vp_in (0 : Int32) (hL h14 a18) ∧ (((22 : Int32) ≤ (hI h14 a18 (0 : Int32).toNatClampNeg) → (w_Lw_isChanged_199 R x0 x1 x2 x4 v7 v12 (some a13) ((x4 / (576 : Int32)) - (x4 / (576 : Int32)) / (8 : Int32) * (8 : Int32)) h14)) ∧ (¬ (22 : Int32) ≤ (hI h14 a18 (0 : Int32).toNatClampNeg) → (hT h14 a1 = 15 ∧ (vp_in (0 : Int32) (hL h14 a1) ∧ (((20 : Int32) ≤ (hI h14 a1 (0 : Int32).toNatClampNeg) → (w_Lw_isChanged_199 R x0 x1 x2 x4 v7 v12 (some a13) ((x4 / (576 : Int32)) - (x4 / (576 : Int32)) / (8 : Int32) * (8 : Int32)) h14)) ∧ (¬ (20 : Int32) ≤ (hI h14 a1 (0 : Int32).toNatClampNeg) → (w_Lw_children x1 x2 v7 (some a13) h14 (fun v27 h26 => ¬ (v27 + (1 : Int32)) = 0 ∧ (w_Lw_spot x1 x2 v7 ((x4 / (27648 : Int32)) - (x4 / (27648 : Int32)) / (v27 + (1 : Int32)) * (v27 + (1 : Int32))) h26 (fun v30 h29 => hT h29 a18 = 15 ∧ (vp_in (0 : Int32) (hL h29 a18) ∧ (∃ a33, x2 = some a33 ∧ hT h29 a33 = 15 ∧ (vp_in (hI h29 a18 (0 : Int32).toNatClampNeg) (hL h29 a33) ∧ (∀ h37, h37 = sI h29 a33 (hI h29 a18 (0 : Int32).toNatClampNeg).toNatClampNeg ((x4 / (4608 : Int32)) - (x4 / (4608 : Int32)) / (6 : Int32) * (6 : Int32)) → (vp_in (0 : Int32) (hL h37 a18) ∧ (w_Lw_puts x1 v30 (((hI h37 a18 (0 : Int32).toNatClampNeg) + ((64 : Int32) * (x4 - x4 / (9 : Int32) * (9 : Int32)))) + ((8192 : Int32) * (v7 + (1 : Int32)))) h37 (fun h40 => hT h40 a18 = 15 ∧ (vp_in (0 : Int32) (hL h40 a18) ∧ (vp_in (0 : Int32) (hL h40 a18) ∧ (∀ h44, h44 = sI h40 a18 (0 : Int32).toNatClampNeg ((hI h40 a18 (0 : Int32).toNatClampNeg) + (1 : Int32)) → (w_Lw_does x0 (2 : Int32) v7 ((x4 / (27648 : Int32)) - (x4 / (27648 : Int32)) / (v27 + (1 : Int32)) * (v27 + (1 : Int32))) ((((x4 / (4608 : Int32)) - (x4 / (4608 : Int32)) / (6 : Int32) * (6 : Int32)) + ((10 : Int32) * (x4 - x4 / (9 : Int32) * (9 : Int32)))) + ((1000 : Int32) * ((x4 / (7 : Int32)) - (x4 / (7 : Int32)) / (4 : Int32) * (4 : Int32)))) h44 (fun v47 h46 => hT h46 a18 = 15 ∧ (vp_in (0 : Int32) (hL h46 a18) ∧ ((¬ v47 = ((hI h46 a18 (0 : Int32).toNatClampNeg) - (1 : Int32)) → (R (0 : Int32) h46)) ∧ (v47 = ((hI h46 a18 (0 : Int32).toNatClampNeg) - (1 : Int32)) → (R (1 : Int32) h46))))))))))))))))))))))))))))))))))))))
theorem s_Lw_isChanged_417 {h0 : tpH} {av : List tpV} {R : Int32 → tpH → Prop} {K337 : (Option Nat) → (Option Nat) → (Option Nat) → Int32 → (Option Nat) → Int32 → Int32 → Int32 → Int32 → Int32 → tpH → Prop} (k337 : ∀ (x0 : Option Nat) (x1 : Option Nat) (x2 : Option Nat) (x5 : Int32) (x7 : Option Nat) (x9 : Int32) (x10 : Int32) (x11 : Int32) (x12 : Int32) (x13 : Int32) (h : tpH), K337 x0 x1 x2 x5 x7 x9 x10 x11 x12 x13 h → tpR Lw_isChanged 11 h0 av (tpOi R (fun _ _ => False)) 337 [some (vR x0), some (vR x1), some (vR x2), none, none, some (vI x5), none, some (vR x7), none, some (vI x9), some (vI x10), some (vI x11), some (vI x12), some (vI x13), none] [] h) : ∀ (x0 : Option Nat) (x1 : Option Nat) (x2 : Option Nat) (x5 : Int32) (x7 : Option Nat) (x9 : Int32) (x10 : Int32) (x11 : Int32) (x12 : Int32) (x13 : Int32) (t0 : Int32) (h : tpH), w_Lw_isChanged_417 R K337 x0 x1 x2 x5 x7 x9 x10 x11 x12 x13 t0 h → tpR Lw_isChanged 11 h0 av (tpOi R (fun _ _ => False)) 417 [some (vR x0), some (vR x1), some (vR x2), none, none, some (vI x5), none, some (vR x7), none, some (vI x9), some (vI x10), some (vI x11), some (vI x12), some (vI x13), none] [vI t0] h := by
  intro x0 x1 x2 x5 x7 x9 x10 x11 x12 x13 t0 h hw
  unfold w_Lw_isChanged_417 at hw
  refine tq_istore (ls' := [some (vR x0), some (vR x1), some (vR x2), none, none, some (vI x5), none, some (vR x7), none, some (vI x9), some (vI x10), some (vI x11), some (vI x12), some (vI x13), some (vI t0)]) dLw_isChanged_417 (Nat.le_of_ble_eq_true rfl) rfl ?_
  refine tq_iload dLw_isChanged_419 rfl ?_
  refine tq_ifeq (tgt := 433) dLw_isChanged_421 (by decide) (fun c1 => ?_) (fun c1 => ?_)
  · have hw := hw.1 c1
    refine tq_inc (k := (-1 : Int32)) (ls' := [some (vR x0), some (vR x1), some (vR x2), none, none, some (vI x5), none, some (vR x7), none, some (vI x9), some (vI x10), some (vI x11), some (vI x12), some (vI (x13 + (-1 : Int32))), some (vI t0)]) dLw_isChanged_433 rfl tni_m1 (Nat.le_of_ble_eq_true rfl) rfl ?_
    refine tq_goto (tgt := 337) dLw_isChanged_436 (by decide) ?_
    refine tpR.fo (ls' := [some (vR x0), some (vR x1), some (vR x2), none, none, some (vI x5), none, some (vR x7), none, some (vI x9), some (vI x10), some (vI x11), some (vI x12), some (vI (x13 + (-1 : Int32))), none]) ?_ (And.intro rfl (And.intro rfl (And.intro rfl (And.intro rfl (And.intro rfl (And.intro rfl (And.intro rfl (And.intro rfl (And.intro rfl (And.intro rfl trivial))))))))))
    exact k337 _ _ _ _ _ _ _ _ _ _ _ hw
  · have hw := hw.2 c1
    refine tq_aload_n dLw_isChanged_424 rfl rfl ?_
    refine tq_iload dLw_isChanged_425 rfl ?_
    refine tq_callS ms_Lw_takes (dc := 0) (as := [vR x1, vI x13]) (rest := []) kLw_147 (Nat.le_of_ble_eq_true rfl) (Nat.le_of_ble_eq_true rfl) rfl rfl (Nat.le_of_ble_eq_true rfl) dLw_isChanged_427 (s_Lw_takes hw) (fun _ _ hx => False.elim hx) (tk_v fun h2 hw => ?_)
    refine tq_inc (k := (1 : Int32)) (ls' := [some (vR x0), some (vR x1), some (vR x2), none, none, some (vI x5), none, some (vR x7), none, some (vI x9), some (vI (x10 + (1 : Int32))), some (vI x11), some (vI x12), some (vI x13), some (vI t0)]) dLw_isChanged_430 rfl tni_1 (Nat.le_of_ble_eq_true rfl) rfl ?_
    refine tq_inc (k := (-1 : Int32)) (ls' := [some (vR x0), some (vR x1), some (vR x2), none, none, some (vI x5), none, some (vR x7), none, some (vI x9), some (vI (x10 + (1 : Int32))), some (vI x11), some (vI x12), some (vI (x13 + (-1 : Int32))), some (vI t0)]) dLw_isChanged_433 rfl tni_m1 (Nat.le_of_ble_eq_true rfl) rfl ?_
    refine tq_goto (tgt := 337) dLw_isChanged_436 (by decide) ?_
    refine tpR.fo (ls' := [some (vR x0), some (vR x1), some (vR x2), none, none, some (vI x5), none, some (vR x7), none, some (vI x9), some (vI (x10 + (1 : Int32))), some (vI x11), some (vI x12), some (vI (x13 + (-1 : Int32))), none]) ?_ (And.intro rfl (And.intro rfl (And.intro rfl (And.intro rfl (And.intro rfl (And.intro rfl (And.intro rfl (And.intro rfl (And.intro rfl (And.intro rfl trivial))))))))))
    exact k337 _ _ _ _ _ _ _ _ _ _ _ hw
theorem s_Lw_isChanged_337 {h0 : tpH} {av : List tpV} {R : Int32 → tpH → Prop} {K318 : (Option Nat) → (Option Nat) → (Option Nat) → Int32 → (Option Nat) → Int32 → Int32 → Int32 → Int32 → tpH → Prop} (k318 : ∀ (x0 : Option Nat) (x1 : Option Nat) (x2 : Option Nat) (x5 : Int32) (x7 : Option Nat) (x9 : Int32) (x10 : Int32) (x11 : Int32) (x12 : Int32) (h : tpH), K318 x0 x1 x2 x5 x7 x9 x10 x11 x12 h → tpR Lw_isChanged 11 h0 av (tpOi R (fun _ _ => False)) 318 [some (vR x0), some (vR x1), some (vR x2), none, none, some (vI x5), none, some (vR x7), none, some (vI x9), some (vI x10), some (vI x11), some (vI x12), none, none] [] h) : ∀ (n : Nat) (x0 : Option Nat) (x1 : Option Nat) (x2 : Option Nat) (x5 : Int32) (x7 : Option Nat) (x9 : Int32) (x10 : Int32) (x11 : Int32) (x12 : Int32) (x13 : Int32) (h : tpH), w_Lw_isChanged_337 R K318 n x0 x1 x2 x5 x7 x9 x10 x11 x12 x13 h → tpR Lw_isChanged 11 h0 av (tpOi R (fun _ _ => False)) 337 [some (vR x0), some (vR x1), some (vR x2), none, none, some (vI x5), none, some (vR x7), none, some (vI x9), some (vI x10), some (vI x11), some (vI x12), some (vI x13), none] [] h := by
  intro n
  induction n with
  | zero => intro x0 x1 x2 x5 x7 x9 x10 x11 x12 x13 h hw; exact False.elim hw
  | succ n ih =>
    intro x0 x1 x2 x5 x7 x9 x10 x11 x12 x13 h hw
    change b_Lw_isChanged_337 R K318 (w_Lw_isChanged_337 R K318 n) x0 x1 x2 x5 x7 x9 x10 x11 x12 x13 h at hw
    unfold b_Lw_isChanged_337 at hw
    refine tq_iload dLw_isChanged_337 rfl ?_
    refine tq_iflt (tgt := 439) dLw_isChanged_339 (by decide) (fun c1 => ?_) (fun c1 => ?_)
    · have hw := hw.1 c1
      refine tq_inc (k := (1 : Int32)) (ls' := [some (vR x0), some (vR x1), some (vR x2), none, none, some (vI x5), none, some (vR x7), none, some (vI x9), some (vI x10), some (vI x11), some (vI (x12 + (1 : Int32))), some (vI x13), none]) dLw_isChanged_439 rfl tni_1 (Nat.le_of_ble_eq_true rfl) rfl ?_
      refine tq_goto (tgt := 318) dLw_isChanged_442 (by decide) ?_
      refine tpR.fo (ls' := [some (vR x0), some (vR x1), some (vR x2), none, none, some (vI x5), none, some (vR x7), none, some (vI x9), some (vI x10), some (vI x11), some (vI (x12 + (1 : Int32))), none, none]) ?_ (And.intro rfl (And.intro rfl (And.intro rfl (And.intro rfl (And.intro rfl (And.intro rfl (And.intro rfl (And.intro rfl (And.intro rfl trivial)))))))))
      exact k318 _ _ _ _ _ _ _ _ _ _ hw
    · have hw := hw.2 c1
      refine tq_aload_n dLw_isChanged_342 rfl rfl ?_
      refine tq_iload dLw_isChanged_343 rfl ?_
      refine tq_callS ms_Lw_mark (dc := 0) (as := [vR x1, vI x13]) (rest := []) kLw_7 (Nat.le_of_ble_eq_true rfl) (Nat.le_of_ble_eq_true rfl) rfl rfl (Nat.le_of_ble_eq_true rfl) dLw_isChanged_345 (s_Lw_mark hw) (fun _ _ hx => False.elim hx) (tk_i fun v3 h2 hw => ?_)
      refine tq_iload dLw_isChanged_348 rfl ?_
      refine tq_icmpne (tgt := 370) dLw_isChanged_350 (by decide) (fun c4 => ?_) (fun c4 => ?_)
      · have hw := hw.1 c4
        refine tq_aload_n dLw_isChanged_370 rfl rfl ?_
        refine tq_iload dLw_isChanged_371 rfl ?_
        refine tq_callS ms_Lw_mark (dc := 0) (as := [vR x1, vI x13]) (rest := []) kLw_7 (Nat.le_of_ble_eq_true rfl) (Nat.le_of_ble_eq_true rfl) rfl rfl (Nat.le_of_ble_eq_true rfl) dLw_isChanged_373 (s_Lw_mark hw) (fun _ _ hx => False.elim hx) (tk_i fun v6 h5 hw => ?_)
        refine tq_iload dLw_isChanged_376 rfl ?_
        refine tq_icmpeq (tgt := 416) dLw_isChanged_378 (by decide) (fun c7 => ?_) (fun c7 => ?_)
        · have hw := hw.1 c7
          refine tq_iconst (v := (0 : Int32)) dLw_isChanged_416 tni_0 ?_
          refine tpR.fo (ls' := [some (vR x0), some (vR x1), some (vR x2), none, none, some (vI x5), none, some (vR x7), none, some (vI x9), some (vI x10), some (vI x11), some (vI x12), some (vI x13), none]) ?_ (And.intro rfl (And.intro rfl (And.intro rfl (And.intro rfl (And.intro rfl (And.intro rfl (And.intro rfl (And.intro rfl (And.intro rfl (And.intro rfl trivial))))))))))
          exact s_Lw_isChanged_417 ih _ _ _ _ _ _ _ _ _ _ _ _ hw
        · have hw := hw.2 c7
          refine tq_aload_n dLw_isChanged_381 rfl rfl ?_
          refine tq_aload_n dLw_isChanged_382 rfl rfl ?_
          refine tq_iload dLw_isChanged_383 rfl ?_
          refine tq_callS ms_Lw_mark (dc := 0) (as := [vR x1, vI x13]) (rest := [vR x1]) kLw_7 (Nat.le_of_ble_eq_true rfl) (Nat.le_of_ble_eq_true rfl) rfl rfl (Nat.le_of_ble_eq_true rfl) dLw_isChanged_385 (s_Lw_mark hw) (fun _ _ hx => False.elim hx) (tk_i fun v9 h8 hw => ?_)
          refine tq_iload dLw_isChanged_388 rfl ?_
          refine tq_callS ms_Lw_isBelow (dc := 3) (as := [vR x1, vI v9, vI x5]) (rest := []) kLw_143 (Nat.le_of_ble_eq_true rfl) (Nat.le_of_ble_eq_true rfl) rfl rfl (Nat.le_of_ble_eq_true rfl) dLw_isChanged_390 (s_Lw_isBelow hw) (fun _ _ hx => False.elim hx) (tk_i fun v11 h10 hw => ?_)
          refine tq_ifeq (tgt := 416) dLw_isChanged_393 (by decide) (fun c12 => ?_) (fun c12 => ?_)
          · have hw := hw.1 c12
            refine tq_iconst (v := (0 : Int32)) dLw_isChanged_416 tni_0 ?_
            refine tpR.fo (ls' := [some (vR x0), some (vR x1), some (vR x2), none, none, some (vI x5), none, some (vR x7), none, some (vI x9), some (vI x10), some (vI x11), some (vI x12), some (vI x13), none]) ?_ (And.intro rfl (And.intro rfl (And.intro rfl (And.intro rfl (And.intro rfl (And.intro rfl (And.intro rfl (And.intro rfl (And.intro rfl (And.intro rfl trivial))))))))))
            exact s_Lw_isChanged_417 ih _ _ _ _ _ _ _ _ _ _ _ _ hw
          · have hw := hw.2 c12
            refine tq_aload_n dLw_isChanged_396 rfl rfl ?_
            refine tq_aload_n dLw_isChanged_397 rfl rfl ?_
            refine tq_aload_n dLw_isChanged_398 rfl rfl ?_
            refine tq_iload dLw_isChanged_399 rfl ?_
            refine tq_callS ms_Lw_mark (dc := 0) (as := [vR x1, vI x13]) (rest := [vR x2, vR x1]) kLw_7 (Nat.le_of_ble_eq_true rfl) (Nat.le_of_ble_eq_true rfl) rfl rfl (Nat.le_of_ble_eq_true rfl) dLw_isChanged_401 (s_Lw_mark hw) (fun _ _ hx => False.elim hx) (tk_i fun v14 h13 hw => ?_)
            refine tq_aload dLw_isChanged_404 rfl ?_
            refine tq_callS ms_Lw_children (dc := 1) (as := [vR x1, vR x2, vI v14, vR x7]) (rest := []) kLw_36 (Nat.le_of_ble_eq_true rfl) (Nat.le_of_ble_eq_true rfl) rfl rfl (Nat.le_of_ble_eq_true rfl) dLw_isChanged_406 (s_Lw_children hw) (fun _ _ hx => False.elim hx) (tk_i fun v16 h15 hw => ?_)
            refine tq_ifne (tgt := 416) dLw_isChanged_409 (by decide) (fun c17 => ?_) (fun c17 => ?_)
            · have hw := hw.1 c17
              refine tq_iconst (v := (0 : Int32)) dLw_isChanged_416 tni_0 ?_
              refine tpR.fo (ls' := [some (vR x0), some (vR x1), some (vR x2), none, none, some (vI x5), none, some (vR x7), none, some (vI x9), some (vI x10), some (vI x11), some (vI x12), some (vI x13), none]) ?_ (And.intro rfl (And.intro rfl (And.intro rfl (And.intro rfl (And.intro rfl (And.intro rfl (And.intro rfl (And.intro rfl (And.intro rfl (And.intro rfl trivial))))))))))
              exact s_Lw_isChanged_417 ih _ _ _ _ _ _ _ _ _ _ _ _ hw
            · have hw := hw.2 c17
              refine tq_iconst (v := (1 : Int32)) dLw_isChanged_412 tni_1 ?_
              refine tq_goto (tgt := 417) dLw_isChanged_413 (by decide) ?_
              refine tpR.fo (ls' := [some (vR x0), some (vR x1), some (vR x2), none, none, some (vI x5), none, some (vR x7), none, some (vI x9), some (vI x10), some (vI x11), some (vI x12), some (vI x13), none]) ?_ (And.intro rfl (And.intro rfl (And.intro rfl (And.intro rfl (And.intro rfl (And.intro rfl (And.intro rfl (And.intro rfl (And.intro rfl (And.intro rfl trivial))))))))))
              exact s_Lw_isChanged_417 ih _ _ _ _ _ _ _ _ _ _ _ _ hw
      · have hw := hw.2 c4
        refine tq_iload dLw_isChanged_353 rfl ?_
        refine tq_iload dLw_isChanged_355 rfl ?_
        refine tq_iconst (v := (1 : Int32)) dLw_isChanged_357 tni_1 ?_
        refine tq_isub dLw_isChanged_358 ?_
        refine tq_icmpne (tgt := 366) dLw_isChanged_359 (by decide) (fun c18 => ?_) (fun c18 => ?_)
        · have hw := hw.1 c18
          refine tq_iconst (v := (0 : Int32)) dLw_isChanged_366 tni_0 ?_
          refine tq_goto (tgt := 417) dLw_isChanged_367 (by decide) ?_
          refine tpR.fo (ls' := [some (vR x0), some (vR x1), some (vR x2), none, none, some (vI x5), none, some (vR x7), none, some (vI x9), some (vI x10), some (vI x11), some (vI x12), some (vI x13), none]) ?_ (And.intro rfl (And.intro rfl (And.intro rfl (And.intro rfl (And.intro rfl (And.intro rfl (And.intro rfl (And.intro rfl (And.intro rfl (And.intro rfl trivial))))))))))
          exact s_Lw_isChanged_417 ih _ _ _ _ _ _ _ _ _ _ _ _ hw
        · have hw := hw.2 c18
          refine tq_iconst (v := (1 : Int32)) dLw_isChanged_362 tni_1 ?_
          refine tq_goto (tgt := 417) dLw_isChanged_363 (by decide) ?_
          refine tpR.fo (ls' := [some (vR x0), some (vR x1), some (vR x2), none, none, some (vI x5), none, some (vR x7), none, some (vI x9), some (vI x10), some (vI x11), some (vI x12), some (vI x13), none]) ?_ (And.intro rfl (And.intro rfl (And.intro rfl (And.intro rfl (And.intro rfl (And.intro rfl (And.intro rfl (And.intro rfl (And.intro rfl (And.intro rfl trivial))))))))))
          exact s_Lw_isChanged_417 ih _ _ _ _ _ _ _ _ _ _ _ _ hw
theorem s_Lw_isChanged_480 {h0 : tpH} {av : List tpV} {R : Int32 → tpH → Prop} : ∀ (t0 : Int32) (t1 : Int32) (h : tpH), w_Lw_isChanged_480 R t0 t1 h → tpR Lw_isChanged 11 h0 av (tpOi R (fun _ _ => False)) 480 [none, none, none, none, none, none, none, none, none, none, none, none, none, none, none] [vI t0, vI t1] h := by
  intro t0 t1 h hw
  unfold w_Lw_isChanged_480 at hw
  refine tq_icmpne (tgt := 487) dLw_isChanged_480 (by decide) (fun c1 => ?_) (fun c1 => ?_)
  · have hw := hw.1 c1
    refine tq_iconst (v := (0 : Int32)) dLw_isChanged_487 tni_0 ?_
    exact tq_iret rfl (by decide) dLw_isChanged_488 hw
  · have hw := hw.2 c1
    refine tq_iconst (v := (1 : Int32)) dLw_isChanged_483 tni_1 ?_
    refine tq_goto (tgt := 488) dLw_isChanged_484 (by decide) ?_
    exact tq_iret rfl (by decide) dLw_isChanged_488 hw
theorem s_Lw_isChanged_459 {h0 : tpH} {av : List tpV} {R : Int32 → tpH → Prop} : ∀ (x0 : Option Nat) (x5 : Int32) (x9 : Int32) (x10 : Int32) (h : tpH), w_Lw_isChanged_459 R x0 x5 x9 x10 h → tpR Lw_isChanged 11 h0 av (tpOi R (fun _ _ => False)) 459 [some (vR x0), none, none, none, none, some (vI x5), none, none, none, some (vI x9), some (vI x10), none, none, none, none] [] h := by
  intro x0 x5 x9 x10 h hw
  unfold w_Lw_isChanged_459 at hw
  refine tq_aload_n dLw_isChanged_459 rfl rfl ?_
  refine tq_iconst (v := (5 : Int32)) dLw_isChanged_460 tni_5 ?_
  refine tq_iload dLw_isChanged_461 rfl ?_
  refine tq_iconst (v := (0 : Int32)) dLw_isChanged_463 tni_0 ?_
  refine tq_iconst (v := (0 : Int32)) dLw_isChanged_464 tni_0 ?_
  refine tq_callSX ms_Lw_does (by intro hz; cases hz) (dc := 10) (as := [vR x0, vI (5 : Int32), vI x5, vI (0 : Int32), vI (0 : Int32)]) (rest := []) kLw_135 (Nat.le_of_ble_eq_true rfl) (Nat.le_of_ble_eq_true rfl) rfl rfl (Nat.le_of_ble_eq_true rfl) dLw_isChanged_465 (s_Lw_does hw) (fun _ _ hx => False.elim hx) (tk_i fun v2 h1 hw => ?_)
  refine tq_iload dLw_isChanged_468 rfl ?_
  refine tq_ifeq (tgt := 478) dLw_isChanged_470 (by decide) (fun c3 => ?_) (fun c3 => ?_)
  · have hw := hw.1 c3
    refine tq_bipush (v := (-13 : Int32)) dLw_isChanged_478 tnb_m13 ?_
    refine tpR.fo (ls' := [none, none, none, none, none, none, none, none, none, none, none, none, none, none, none]) ?_ (trivial)
    exact s_Lw_isChanged_480 _ _ _ hw
  · have hw := hw.2 c3
    refine tq_iload dLw_isChanged_473 rfl ?_
    refine tq_goto (tgt := 480) dLw_isChanged_475 (by decide) ?_
    refine tpR.fo (ls' := [none, none, none, none, none, none, none, none, none, none, none, none, none, none, none]) ?_ (trivial)
    exact s_Lw_isChanged_480 _ _ _ hw
theorem s_Lw_isChanged_445 {h0 : tpH} {av : List tpV} {R : Int32 → tpH → Prop} : ∀ (x0 : Option Nat) (x1 : Option Nat) (x5 : Int32) (x9 : Int32) (x10 : Int32) (h : tpH), w_Lw_isChanged_445 R x0 x1 x5 x9 x10 h → tpR Lw_isChanged 11 h0 av (tpOi R (fun _ _ => False)) 445 [some (vR x0), some (vR x1), none, none, none, some (vI x5), none, none, none, some (vI x9), some (vI x10), none, none, none, none] [] h := by
  intro x0 x1 x5 x9 x10 h hw
  unfold w_Lw_isChanged_445 at hw
  refine tq_iload dLw_isChanged_445 rfl ?_
  refine tq_ifne (tgt := 459) dLw_isChanged_447 (by decide) (fun c1 => ?_) (fun c1 => ?_)
  · have hw := hw.1 c1
    refine tpR.fo (ls' := [some (vR x0), none, none, none, none, some (vI x5), none, none, none, some (vI x9), some (vI x10), none, none, none, none]) ?_ (And.intro rfl (And.intro rfl (And.intro rfl (And.intro rfl trivial))))
    exact s_Lw_isChanged_459 _ _ _ _ _ hw
  · have hw := hw.2 c1
    refine tq_aload_n dLw_isChanged_450 rfl rfl ?_
    refine tq_iload dLw_isChanged_451 rfl ?_
    refine tq_callS ms_Lw_parentOf (dc := 2) (as := [vR x1, vI x5]) (rest := []) kLw_40 (Nat.le_of_ble_eq_true rfl) (Nat.le_of_ble_eq_true rfl) rfl rfl (Nat.le_of_ble_eq_true rfl) dLw_isChanged_453 (s_Lw_parentOf hw) (fun _ _ hx => False.elim hx) (tk_i fun v3 h2 hw => ?_)
    refine tq_ifge (tgt := 483) dLw_isChanged_456 (by decide) (fun c4 => ?_) (fun c4 => ?_)
    · have hw := hw.1 c4
      refine tq_iconst (v := (1 : Int32)) dLw_isChanged_483 tni_1 ?_
      refine tq_goto (tgt := 488) dLw_isChanged_484 (by decide) ?_
      exact tq_iret rfl (by decide) dLw_isChanged_488 hw
    · have hw := hw.2 c4
      refine tpR.fo (ls' := [some (vR x0), none, none, none, none, some (vI x5), none, none, none, some (vI x9), some (vI x10), none, none, none, none]) ?_ (And.intro rfl (And.intro rfl (And.intro rfl (And.intro rfl trivial))))
      exact s_Lw_isChanged_459 _ _ _ _ _ hw
theorem s_Lw_isChanged_318 {h0 : tpH} {av : List tpV} {R : Int32 → tpH → Prop} : ∀ (n : Nat) (x0 : Option Nat) (x1 : Option Nat) (x2 : Option Nat) (x5 : Int32) (x7 : Option Nat) (x9 : Int32) (x10 : Int32) (x11 : Int32) (x12 : Int32) (h : tpH), w_Lw_isChanged_318 R n x0 x1 x2 x5 x7 x9 x10 x11 x12 h → tpR Lw_isChanged 11 h0 av (tpOi R (fun _ _ => False)) 318 [some (vR x0), some (vR x1), some (vR x2), none, none, some (vI x5), none, some (vR x7), none, some (vI x9), some (vI x10), some (vI x11), some (vI x12), none, none] [] h := by
  intro n
  induction n with
  | zero => intro x0 x1 x2 x5 x7 x9 x10 x11 x12 h hw; exact False.elim hw
  | succ n ih =>
    intro x0 x1 x2 x5 x7 x9 x10 x11 x12 h hw
    change b_Lw_isChanged_318 R (w_Lw_isChanged_318 R n) x0 x1 x2 x5 x7 x9 x10 x11 x12 h at hw
    unfold b_Lw_isChanged_318 at hw
    refine tq_iload dLw_isChanged_318 rfl ?_
    refine tq_iload dLw_isChanged_320 rfl ?_
    refine tq_icmpge (tgt := 445) dLw_isChanged_322 (by decide) (fun c1 => ?_) (fun c1 => ?_)
    · have hw := hw.1 c1
      refine tpR.fo (ls' := [some (vR x0), some (vR x1), none, none, none, some (vI x5), none, none, none, some (vI x9), some (vI x10), none, none, none, none]) ?_ (And.intro rfl (And.intro rfl (And.intro rfl (And.intro rfl (And.intro rfl trivial)))))
      exact s_Lw_isChanged_445 _ _ _ _ _ _ hw
    · have hw := hw.2 c1
      refine tq_iload dLw_isChanged_325 rfl ?_
      refine tq_ifeq (tgt := 445) dLw_isChanged_327 (by decide) (fun c2 => ?_) (fun c2 => ?_)
      · have hw := hw.1 c2
        refine tpR.fo (ls' := [some (vR x0), some (vR x1), none, none, none, some (vI x5), none, none, none, some (vI x9), some (vI x10), none, none, none, none]) ?_ (And.intro rfl (And.intro rfl (And.intro rfl (And.intro rfl (And.intro rfl trivial)))))
        exact s_Lw_isChanged_445 _ _ _ _ _ _ hw
      · have hw := hw.2 c2
        refine tq_aload_n dLw_isChanged_330 rfl rfl ?_
        refine tq_iconst (v := (0 : Int32)) dLw_isChanged_331 tni_0 ?_
        obtain ⟨a3, e4, f5, hw⟩ := hw
        obtain ⟨f6, hw⟩ := hw
        refine te_iald dLw_isChanged_332 e4 (Or.inl f5) f6 ?_
        refine tq_iconst (v := (1 : Int32)) dLw_isChanged_333 tni_1 ?_
        refine tq_isub dLw_isChanged_334 ?_
        refine tq_istore (ls' := [some (vR x0), some (vR x1), some (vR x2), none, none, some (vI x5), none, some (vR x7), none, some (vI x9), some (vI x10), some (vI x11), some (vI x12), some (vI ((hI h a3 (0 : Int32).toNatClampNeg) - (1 : Int32))), none]) dLw_isChanged_335 (Nat.le_of_ble_eq_true rfl) rfl ?_
        refine tpR.fo (ls' := [some (vR x0), some (vR x1), some (vR x2), none, none, some (vI x5), none, some (vR x7), none, some (vI x9), some (vI x10), some (vI x11), some (vI x12), some (vI ((hI h a3 (0 : Int32).toNatClampNeg) - (1 : Int32))), none]) ?_ (And.intro rfl (And.intro rfl (And.intro rfl (And.intro rfl (And.intro rfl (And.intro rfl (And.intro rfl (And.intro rfl (And.intro rfl (And.intro rfl trivial))))))))))
        obtain ⟨n, hw⟩ := hw
        exact s_Lw_isChanged_337 ih n _ _ _ _ _ _ _ _ _ _ _ hw
theorem s_Lw_isChanged_305 {h0 : tpH} {av : List tpV} {R : Int32 → tpH → Prop} : ∀ (x0 : Option Nat) (x1 : Option Nat) (x2 : Option Nat) (x5 : Int32) (x7 : Option Nat) (t0 : Int32) (h : tpH), w_Lw_isChanged_305 R x0 x1 x2 x5 x7 t0 h → tpR Lw_isChanged 11 h0 av (tpOi R (fun _ _ => False)) 305 [some (vR x0), some (vR x1), some (vR x2), none, none, some (vI x5), none, some (vR x7), none, none, none, none, none, none, none] [vI t0] h := by
  intro x0 x1 x2 x5 x7 t0 h hw
  unfold w_Lw_isChanged_305 at hw
  refine tq_istore (ls' := [some (vR x0), some (vR x1), some (vR x2), none, none, some (vI x5), none, some (vR x7), none, some (vI t0), none, none, none, none, none]) dLw_isChanged_305 (Nat.le_of_ble_eq_true rfl) rfl ?_
  refine tq_iconst (v := (0 : Int32)) dLw_isChanged_307 tni_0 ?_
  refine tq_istore (ls' := [some (vR x0), some (vR x1), some (vR x2), none, none, some (vI x5), none, some (vR x7), none, some (vI t0), some (vI (0 : Int32)), none, none, none, none]) dLw_isChanged_308 (Nat.le_of_ble_eq_true rfl) rfl ?_
  refine tq_aload_n dLw_isChanged_310 rfl rfl ?_
  refine tq_iconst (v := (0 : Int32)) dLw_isChanged_311 tni_0 ?_
  obtain ⟨a1, e2, f3, hw⟩ := hw
  obtain ⟨f4, hw⟩ := hw
  refine te_iald dLw_isChanged_312 e2 (Or.inl f3) f4 ?_
  refine tq_istore (ls' := [some (vR x0), some (vR x1), some (vR x2), none, none, some (vI x5), none, some (vR x7), none, some (vI t0), some (vI (0 : Int32)), some (vI (hI h a1 (0 : Int32).toNatClampNeg)), none, none, none]) dLw_isChanged_313 (Nat.le_of_ble_eq_true rfl) rfl ?_
  refine tq_iconst (v := (0 : Int32)) dLw_isChanged_315 tni_0 ?_
  refine tq_istore (ls' := [some (vR x0), some (vR x1), some (vR x2), none, none, some (vI x5), none, some (vR x7), none, some (vI t0), some (vI (0 : Int32)), some (vI (hI h a1 (0 : Int32).toNatClampNeg)), some (vI (0 : Int32)), none, none]) dLw_isChanged_316 (Nat.le_of_ble_eq_true rfl) rfl ?_
  refine tpR.fo (ls' := [some (vR x0), some (vR x1), some (vR x2), none, none, some (vI x5), none, some (vR x7), none, some (vI t0), some (vI (0 : Int32)), some (vI (hI h a1 (0 : Int32).toNatClampNeg)), some (vI (0 : Int32)), none, none]) ?_ (And.intro rfl (And.intro rfl (And.intro rfl (And.intro rfl (And.intro rfl (And.intro rfl (And.intro rfl (And.intro rfl (And.intro rfl trivial)))))))))
  obtain ⟨n, hw⟩ := hw
  exact s_Lw_isChanged_318 n _ _ _ _ _ _ _ _ _ _ hw
theorem s_Lw_isChanged_635 {h0 : tpH} {av : List tpV} {R : Int32 → tpH → Prop} : ∀ (t0 : Int32) (t1 : Int32) (h : tpH), w_Lw_isChanged_635 R t0 t1 h → tpR Lw_isChanged 11 h0 av (tpOi R (fun _ _ => False)) 635 [none, none, none, none, none, none, none, none, none, none, none, none, none, none, none] [vI t0, vI t1] h := by
  intro t0 t1 h hw
  unfold w_Lw_isChanged_635 at hw
  refine tq_icmpne (tgt := 642) dLw_isChanged_635 (by decide) (fun c1 => ?_) (fun c1 => ?_)
  · have hw := hw.1 c1
    refine tq_iconst (v := (0 : Int32)) dLw_isChanged_642 tni_0 ?_
    exact tq_iret rfl (by decide) dLw_isChanged_643 hw
  · have hw := hw.2 c1
    refine tq_iconst (v := (1 : Int32)) dLw_isChanged_638 tni_1 ?_
    refine tq_goto (tgt := 643) dLw_isChanged_639 (by decide) ?_
    exact tq_iret rfl (by decide) dLw_isChanged_643 hw
theorem s_Lw_isChanged_612 {h0 : tpH} {av : List tpV} {R : Int32 → tpH → Prop} : ∀ (x0 : Option Nat) (x5 : Int32) (x6 : Int32) (x9 : Int32) (x11 : Int32) (x12 : Int32) (h : tpH), w_Lw_isChanged_612 R x0 x5 x6 x9 x11 x12 h → tpR Lw_isChanged 11 h0 av (tpOi R (fun _ _ => False)) 612 [some (vR x0), none, none, none, none, some (vI x5), some (vI x6), none, none, some (vI x9), none, some (vI x11), some (vI x12), none, none] [] h := by
  intro x0 x5 x6 x9 x11 x12 h hw
  unfold w_Lw_isChanged_612 at hw
  refine tq_aload_n dLw_isChanged_612 rfl rfl ?_
  refine tq_iconst (v := (4 : Int32)) dLw_isChanged_613 tni_4 ?_
  refine tq_iload dLw_isChanged_614 rfl ?_
  refine tq_iload dLw_isChanged_616 rfl ?_
  refine tq_iload dLw_isChanged_618 rfl ?_
  refine tq_callSX ms_Lw_does (by intro hz; cases hz) (dc := 10) (as := [vR x0, vI (4 : Int32), vI x5, vI x6, vI x11]) (rest := []) kLw_135 (Nat.le_of_ble_eq_true rfl) (Nat.le_of_ble_eq_true rfl) rfl rfl (Nat.le_of_ble_eq_true rfl) dLw_isChanged_620 (s_Lw_does hw) (fun _ _ hx => False.elim hx) (tk_i fun v2 h1 hw => ?_)
  refine tq_iload dLw_isChanged_623 rfl ?_
  refine tq_ifeq (tgt := 633) dLw_isChanged_625 (by decide) (fun c3 => ?_) (fun c3 => ?_)
  · have hw := hw.1 c3
    refine tq_bipush (v := (-13 : Int32)) dLw_isChanged_633 tnb_m13 ?_
    refine tpR.fo (ls' := [none, none, none, none, none, none, none, none, none, none, none, none, none, none, none]) ?_ (trivial)
    exact s_Lw_isChanged_635 _ _ _ hw
  · have hw := hw.2 c3
    refine tq_iload dLw_isChanged_628 rfl ?_
    refine tq_goto (tgt := 635) dLw_isChanged_630 (by decide) ?_
    refine tpR.fo (ls' := [none, none, none, none, none, none, none, none, none, none, none, none, none, none, none]) ?_ (trivial)
    exact s_Lw_isChanged_635 _ _ _ hw
theorem s_Lw_isChanged_555 {h0 : tpH} {av : List tpV} {R : Int32 → tpH → Prop} : ∀ (x0 : Option Nat) (x1 : Option Nat) (x2 : Option Nat) (x5 : Int32) (x6 : Int32) (x9 : Int32) (x11 : Int32) (t0 : Int32) (h : tpH), w_Lw_isChanged_555 R x0 x1 x2 x5 x6 x9 x11 t0 h → tpR Lw_isChanged 11 h0 av (tpOi R (fun _ _ => False)) 555 [some (vR x0), some (vR x1), some (vR x2), none, none, some (vI x5), some (vI x6), none, none, some (vI x9), none, some (vI x11), none, none, none] [vI t0] h := by
  intro x0 x1 x2 x5 x6 x9 x11 t0 h hw
  unfold w_Lw_isChanged_555 at hw
  refine tq_istore (ls' := [some (vR x0), some (vR x1), some (vR x2), none, none, some (vI x5), some (vI x6), none, none, some (vI x9), none, some (vI x11), some (vI t0), none, none]) dLw_isChanged_555 (Nat.le_of_ble_eq_true rfl) rfl ?_
  refine tq_iload dLw_isChanged_557 rfl ?_
  refine tq_ifeq (tgt := 612) dLw_isChanged_559 (by decide) (fun c1 => ?_) (fun c1 => ?_)
  · have hw := hw.1 c1
    refine tpR.fo (ls' := [some (vR x0), none, none, none, none, some (vI x5), some (vI x6), none, none, some (vI x9), none, some (vI x11), some (vI t0), none, none]) ?_ (And.intro rfl (And.intro rfl (And.intro rfl (And.intro rfl (And.intro rfl (And.intro rfl trivial))))))
    exact s_Lw_isChanged_612 _ _ _ _ _ _ _ hw
  · have hw := hw.2 c1
    refine tq_aload_n dLw_isChanged_562 rfl rfl ?_
    refine tq_iconst (v := (1 : Int32)) dLw_isChanged_563 tni_1 ?_
    refine tq_aload_n dLw_isChanged_564 rfl rfl ?_
    refine tq_iload dLw_isChanged_565 rfl ?_
    refine tq_callS ms_Lw_place (dc := 1) (as := [vR x1, vI x5]) (rest := [vI (1 : Int32), vR x1]) kLw_13 (Nat.le_of_ble_eq_true rfl) (Nat.le_of_ble_eq_true rfl) rfl rfl (Nat.le_of_ble_eq_true rfl) dLw_isChanged_567 (s_Lw_place hw) (fun _ _ hx => False.elim hx) (tk_i fun v3 h2 hw => ?_)
    refine tq_iadd dLw_isChanged_570 ?_
    obtain ⟨a4, e5, f6, hw⟩ := hw
    obtain ⟨f7, hw⟩ := hw
    refine te_iald dLw_isChanged_571 e5 (Or.inl f6) f7 ?_
    refine tq_sipush (v := (8192 : Int32)) dLw_isChanged_572 tns_8192 ?_
    refine tq_irem dLw_isChanged_575 (by decide) ?_
    refine tq_istore (ls' := [some (vR x0), some (vR x1), some (vR x2), none, none, some (vI x5), some (vI x6), none, none, some (vI x9), none, some (vI x11), some (vI t0), some (vI ((hI h2 a4 ((1 : Int32) + v3).toNatClampNeg) - (hI h2 a4 ((1 : Int32) + v3).toNatClampNeg) / (8192 : Int32) * (8192 : Int32))), none]) dLw_isChanged_576 (Nat.le_of_ble_eq_true rfl) rfl ?_
    refine tq_aload_n dLw_isChanged_578 rfl rfl ?_
    refine tq_aload_n dLw_isChanged_579 rfl rfl ?_
    refine tq_iload dLw_isChanged_580 rfl ?_
    refine tq_callS ms_Lw_place (dc := 1) (as := [vR x1, vI x5]) (rest := [vR x1]) kLw_13 (Nat.le_of_ble_eq_true rfl) (Nat.le_of_ble_eq_true rfl) rfl rfl (Nat.le_of_ble_eq_true rfl) dLw_isChanged_582 (s_Lw_place hw) (fun _ _ hx => False.elim hx) (tk_i fun v9 h8 hw => ?_)
    refine tq_callS ms_Lw_takes (dc := 0) (as := [vR x1, vI v9]) (rest := []) kLw_147 (Nat.le_of_ble_eq_true rfl) (Nat.le_of_ble_eq_true rfl) rfl rfl (Nat.le_of_ble_eq_true rfl) dLw_isChanged_585 (s_Lw_takes hw) (fun _ _ hx => False.elim hx) (tk_v fun h10 hw => ?_)
    refine tq_aload_n dLw_isChanged_588 rfl rfl ?_
    refine tq_aload_n dLw_isChanged_589 rfl rfl ?_
    refine tq_aload_n dLw_isChanged_590 rfl rfl ?_
    refine tq_iload dLw_isChanged_591 rfl ?_
    refine tq_iload dLw_isChanged_593 rfl ?_
    refine tq_callS ms_Lw_spot (dc := 2) (as := [vR x1, vR x2, vI x6, vI x11]) (rest := [vR x1]) kLw_139 (Nat.le_of_ble_eq_true rfl) (Nat.le_of_ble_eq_true rfl) rfl rfl (Nat.le_of_ble_eq_true rfl) dLw_isChanged_595 (s_Lw_spot hw) (fun _ _ hx => False.elim hx) (tk_i fun v12 h11 hw => ?_)
    refine tq_iload dLw_isChanged_598 rfl ?_
    refine tq_sipush (v := (8192 : Int32)) dLw_isChanged_600 tns_8192 ?_
    refine tq_iload dLw_isChanged_603 rfl ?_
    refine tq_iconst (v := (1 : Int32)) dLw_isChanged_605 tni_1 ?_
    refine tq_iadd dLw_isChanged_606 ?_
    refine tq_imul dLw_isChanged_607 ?_
    refine tq_iadd dLw_isChanged_608 ?_
    refine tq_callS ms_Lw_puts (dc := 0) (as := [vR x1, vI v12, vI (((hI h2 a4 ((1 : Int32) + v3).toNatClampNeg) - (hI h2 a4 ((1 : Int32) + v3).toNatClampNeg) / (8192 : Int32) * (8192 : Int32)) + ((8192 : Int32) * (x6 + (1 : Int32))))]) (rest := []) kLw_101 (Nat.le_of_ble_eq_true rfl) (Nat.le_of_ble_eq_true rfl) rfl rfl (Nat.le_of_ble_eq_true rfl) dLw_isChanged_609 (s_Lw_puts hw) (fun _ _ hx => False.elim hx) (tk_v fun h13 hw => ?_)
    refine tpR.fo (ls' := [some (vR x0), none, none, none, none, some (vI x5), some (vI x6), none, none, some (vI x9), none, some (vI x11), some (vI t0), none, none]) ?_ (And.intro rfl (And.intro rfl (And.intro rfl (And.intro rfl (And.intro rfl (And.intro rfl trivial))))))
    exact s_Lw_isChanged_612 _ _ _ _ _ _ _ hw
theorem s_Lw_isChanged_518 {h0 : tpH} {av : List tpV} {R : Int32 → tpH → Prop} : ∀ (x0 : Option Nat) (x1 : Option Nat) (x2 : Option Nat) (x4 : Int32) (x5 : Int32) (x6 : Int32) (x9 : Int32) (t0 : Int32) (t1 : Int32) (h : tpH), w_Lw_isChanged_518 R x0 x1 x2 x4 x5 x6 x9 t0 t1 h → tpR Lw_isChanged 11 h0 av (tpOi R (fun _ _ => False)) 518 [some (vR x0), some (vR x1), some (vR x2), none, some (vI x4), some (vI x5), some (vI x6), none, none, some (vI x9), none, none, none, none, none] [vI t0, vI t1] h := by
  intro x0 x1 x2 x4 x5 x6 x9 t0 t1 h hw
  unfold w_Lw_isChanged_518 at hw
  refine tq_isub dLw_isChanged_518 ?_
  refine tq_istore (ls' := [some (vR x0), some (vR x1), some (vR x2), none, some (vI x4), some (vI x5), some (vI x6), none, none, some (vI x9), some (vI (t1 - t0)), none, none, none, none]) dLw_isChanged_519 (Nat.le_of_ble_eq_true rfl) rfl ?_
  refine tq_iload dLw_isChanged_521 rfl ?_
  refine tq_sipush (v := (4608 : Int32)) dLw_isChanged_523 tns_4608 ?_
  refine tq_idiv dLw_isChanged_526 (by decide) ?_
  refine tq_iload dLw_isChanged_527 rfl ?_
  refine tq_iconst (v := (1 : Int32)) dLw_isChanged_529 tni_1 ?_
  refine tq_iadd dLw_isChanged_530 ?_
  obtain ⟨f1, hw⟩ := hw
  refine tq_irem dLw_isChanged_531 f1 ?_
  refine tq_istore (ls' := [some (vR x0), some (vR x1), some (vR x2), none, some (vI x4), some (vI x5), some (vI x6), none, none, some (vI x9), some (vI (t1 - t0)), some (vI ((x4 / (4608 : Int32)) - (x4 / (4608 : Int32)) / ((t1 - t0) + (1 : Int32)) * ((t1 - t0) + (1 : Int32)))), none, none, none]) dLw_isChanged_532 (Nat.le_of_ble_eq_true rfl) rfl ?_
  refine tq_iload dLw_isChanged_534 rfl ?_
  refine tq_iflt (tgt := 554) dLw_isChanged_536 (by decide) (fun c2 => ?_) (fun c2 => ?_)
  · have hw := hw.1 c2
    refine tq_iconst (v := (0 : Int32)) dLw_isChanged_554 tni_0 ?_
    refine tpR.fo (ls' := [some (vR x0), some (vR x1), some (vR x2), none, none, some (vI x5), some (vI x6), none, none, some (vI x9), none, some (vI ((x4 / (4608 : Int32)) - (x4 / (4608 : Int32)) / ((t1 - t0) + (1 : Int32)) * ((t1 - t0) + (1 : Int32)))), none, none, none]) ?_ (And.intro rfl (And.intro rfl (And.intro rfl (And.intro rfl (And.intro rfl (And.intro rfl (And.intro rfl trivial)))))))
    exact s_Lw_isChanged_555 _ _ _ _ _ _ _ _ _ hw
  · have hw := hw.2 c2
    refine tq_aload_n dLw_isChanged_539 rfl rfl ?_
    refine tq_iload dLw_isChanged_540 rfl ?_
    refine tq_iload dLw_isChanged_542 rfl ?_
    refine tq_callS ms_Lw_isBelow (dc := 3) (as := [vR x1, vI x6, vI x5]) (rest := []) kLw_143 (Nat.le_of_ble_eq_true rfl) (Nat.le_of_ble_eq_true rfl) rfl rfl (Nat.le_of_ble_eq_true rfl) dLw_isChanged_544 (s_Lw_isBelow hw) (fun _ _ hx => False.elim hx) (tk_i fun v4 h3 hw => ?_)
    refine tq_ifne (tgt := 554) dLw_isChanged_547 (by decide) (fun c5 => ?_) (fun c5 => ?_)
    · have hw := hw.1 c5
      refine tq_iconst (v := (0 : Int32)) dLw_isChanged_554 tni_0 ?_
      refine tpR.fo (ls' := [some (vR x0), some (vR x1), some (vR x2), none, none, some (vI x5), some (vI x6), none, none, some (vI x9), none, some (vI ((x4 / (4608 : Int32)) - (x4 / (4608 : Int32)) / ((t1 - t0) + (1 : Int32)) * ((t1 - t0) + (1 : Int32)))), none, none, none]) ?_ (And.intro rfl (And.intro rfl (And.intro rfl (And.intro rfl (And.intro rfl (And.intro rfl (And.intro rfl trivial)))))))
      exact s_Lw_isChanged_555 _ _ _ _ _ _ _ _ _ hw
    · have hw := hw.2 c5
      refine tq_iconst (v := (1 : Int32)) dLw_isChanged_550 tni_1 ?_
      refine tq_goto (tgt := 555) dLw_isChanged_551 (by decide) ?_
      refine tpR.fo (ls' := [some (vR x0), some (vR x1), some (vR x2), none, none, some (vI x5), some (vI x6), none, none, some (vI x9), none, some (vI ((x4 / (4608 : Int32)) - (x4 / (4608 : Int32)) / ((t1 - t0) + (1 : Int32)) * ((t1 - t0) + (1 : Int32)))), none, none, none]) ?_ (And.intro rfl (And.intro rfl (And.intro rfl (And.intro rfl (And.intro rfl (And.intro rfl (And.intro rfl trivial)))))))
      exact s_Lw_isChanged_555 _ _ _ _ _ _ _ _ _ hw
theorem s_Lw_isChanged_199 {h0 : tpH} {av : List tpV} {R : Int32 → tpH → Prop} : ∀ (x0 : Option Nat) (x1 : Option Nat) (x2 : Option Nat) (x4 : Int32) (x5 : Int32) (x6 : Int32) (x7 : Option Nat) (x8 : Int32) (h : tpH), w_Lw_isChanged_199 R x0 x1 x2 x4 x5 x6 x7 x8 h → tpR Lw_isChanged 11 h0 av (tpOi R (fun _ _ => False)) 199 [some (vR x0), some (vR x1), some (vR x2), none, some (vI x4), some (vI x5), some (vI x6), some (vR x7), some (vI x8), none, none, none, none, none, none] [] h := by
  intro x0 x1 x2 x4 x5 x6 x7 x8 h hw
  unfold w_Lw_isChanged_199 at hw
  refine tq_iload dLw_isChanged_199 rfl ?_
  refine tq_iconst (v := (5 : Int32)) dLw_isChanged_201 tni_5 ?_
  refine tq_icmpge (tgt := 273) dLw_isChanged_202 (by decide) (fun c1 => ?_) (fun c1 => ?_)
  · have hw := hw.1 c1
    refine tq_iload dLw_isChanged_273 rfl ?_
    refine tq_bipush (v := (7 : Int32)) dLw_isChanged_275 tnb_7 ?_
    refine tq_icmpne (tgt := 489) dLw_isChanged_277 (by decide) (fun c2 => ?_) (fun c2 => ?_)
    · have hw := hw.1 c2
      refine tq_aload_n dLw_isChanged_489 rfl rfl ?_
      refine tq_iload dLw_isChanged_490 rfl ?_
      refine tq_callS ms_Lw_parentOf (dc := 2) (as := [vR x1, vI x5]) (rest := []) kLw_40 (Nat.le_of_ble_eq_true rfl) (Nat.le_of_ble_eq_true rfl) rfl rfl (Nat.le_of_ble_eq_true rfl) dLw_isChanged_492 (s_Lw_parentOf hw) (fun _ _ hx => False.elim hx) (tk_i fun v4 h3 hw => ?_)
      refine tq_istore (ls' := [some (vR x0), some (vR x1), some (vR x2), none, some (vI x4), some (vI x5), some (vI x6), some (vR x7), some (vI x8), some (vI v4), none, none, none, none, none]) dLw_isChanged_495 (Nat.le_of_ble_eq_true rfl) rfl ?_
      refine tq_aload_n dLw_isChanged_497 rfl rfl ?_
      refine tq_aload_n dLw_isChanged_498 rfl rfl ?_
      refine tq_iload dLw_isChanged_499 rfl ?_
      refine tq_aload dLw_isChanged_501 rfl ?_
      refine tq_callS ms_Lw_children (dc := 1) (as := [vR x1, vR x2, vI x6, vR x7]) (rest := []) kLw_36 (Nat.le_of_ble_eq_true rfl) (Nat.le_of_ble_eq_true rfl) rfl rfl (Nat.le_of_ble_eq_true rfl) dLw_isChanged_503 (s_Lw_children hw) (fun _ _ hx => False.elim hx) (tk_i fun v6 h5 hw => ?_)
      refine tq_iload dLw_isChanged_506 rfl ?_
      refine tq_iload dLw_isChanged_508 rfl ?_
      refine tq_icmpne (tgt := 517) dLw_isChanged_510 (by decide) (fun c7 => ?_) (fun c7 => ?_)
      · have hw := hw.1 c7
        refine tq_iconst (v := (0 : Int32)) dLw_isChanged_517 tni_0 ?_
        refine tpR.fo (ls' := [some (vR x0), some (vR x1), some (vR x2), none, some (vI x4), some (vI x5), some (vI x6), none, none, some (vI v4), none, none, none, none, none]) ?_ (And.intro rfl (And.intro rfl (And.intro rfl (And.intro rfl (And.intro rfl (And.intro rfl (And.intro rfl trivial)))))))
        exact s_Lw_isChanged_518 _ _ _ _ _ _ _ _ _ _ hw
      · have hw := hw.2 c7
        refine tq_iconst (v := (1 : Int32)) dLw_isChanged_513 tni_1 ?_
        refine tq_goto (tgt := 518) dLw_isChanged_514 (by decide) ?_
        refine tpR.fo (ls' := [some (vR x0), some (vR x1), some (vR x2), none, some (vI x4), some (vI x5), some (vI x6), none, none, some (vI v4), none, none, none, none, none]) ?_ (And.intro rfl (And.intro rfl (And.intro rfl (And.intro rfl (And.intro rfl (And.intro rfl (And.intro rfl trivial)))))))
        exact s_Lw_isChanged_518 _ _ _ _ _ _ _ _ _ _ hw
    · have hw := hw.2 c2
      refine tq_aload_n dLw_isChanged_280 rfl rfl ?_
      refine tq_iload dLw_isChanged_281 rfl ?_
      refine tq_callS ms_Lw_parentOf (dc := 2) (as := [vR x1, vI x5]) (rest := []) kLw_40 (Nat.le_of_ble_eq_true rfl) (Nat.le_of_ble_eq_true rfl) rfl rfl (Nat.le_of_ble_eq_true rfl) dLw_isChanged_283 (s_Lw_parentOf hw) (fun _ _ hx => False.elim hx) (tk_i fun v9 h8 hw => ?_)
      refine tq_iflt (tgt := 304) dLw_isChanged_286 (by decide) (fun c10 => ?_) (fun c10 => ?_)
      · have hw := hw.1 c10
        refine tq_iconst (v := (0 : Int32)) dLw_isChanged_304 tni_0 ?_
        refine tpR.fo (ls' := [some (vR x0), some (vR x1), some (vR x2), none, none, some (vI x5), none, some (vR x7), none, none, none, none, none, none, none]) ?_ (And.intro rfl (And.intro rfl (And.intro rfl (And.intro rfl (And.intro rfl trivial)))))
        exact s_Lw_isChanged_305 _ _ _ _ _ _ _ hw
      · have hw := hw.2 c10
        refine tq_iload dLw_isChanged_289 rfl ?_
        refine tq_sipush (v := (4608 : Int32)) dLw_isChanged_291 tns_4608 ?_
        refine tq_idiv dLw_isChanged_294 (by decide) ?_
        refine tq_iconst (v := (2 : Int32)) dLw_isChanged_295 tni_2 ?_
        refine tq_irem dLw_isChanged_296 (by decide) ?_
        refine tq_ifne (tgt := 304) dLw_isChanged_297 (by decide) (fun c11 => ?_) (fun c11 => ?_)
        · have hw := hw.1 c11
          refine tq_iconst (v := (0 : Int32)) dLw_isChanged_304 tni_0 ?_
          refine tpR.fo (ls' := [some (vR x0), some (vR x1), some (vR x2), none, none, some (vI x5), none, some (vR x7), none, none, none, none, none, none, none]) ?_ (And.intro rfl (And.intro rfl (And.intro rfl (And.intro rfl (And.intro rfl trivial)))))
          exact s_Lw_isChanged_305 _ _ _ _ _ _ _ hw
        · have hw := hw.2 c11
          refine tq_iconst (v := (1 : Int32)) dLw_isChanged_300 tni_1 ?_
          refine tq_goto (tgt := 305) dLw_isChanged_301 (by decide) ?_
          refine tpR.fo (ls' := [some (vR x0), some (vR x1), some (vR x2), none, none, some (vI x5), none, some (vR x7), none, none, none, none, none, none, none]) ?_ (And.intro rfl (And.intro rfl (And.intro rfl (And.intro rfl (And.intro rfl trivial)))))
          exact s_Lw_isChanged_305 _ _ _ _ _ _ _ hw
  · have hw := hw.2 c1
    refine tq_aload_n dLw_isChanged_205 rfl rfl ?_
    refine tq_iload dLw_isChanged_206 rfl ?_
    refine tq_callS ms_Lw_valueOf (dc := 2) (as := [vR x1, vI x5]) (rest := []) kLw_86 (Nat.le_of_ble_eq_true rfl) (Nat.le_of_ble_eq_true rfl) rfl rfl (Nat.le_of_ble_eq_true rfl) dLw_isChanged_208 (s_Lw_valueOf hw) (fun _ _ hx => False.elim hx) (tk_i fun v13 h12 hw => ?_)
    refine tq_istore (ls' := [some (vR x0), some (vR x1), some (vR x2), none, some (vI x4), some (vI x5), some (vI x6), some (vR x7), some (vI x8), some (vI v13), none, none, none, none, none]) dLw_isChanged_211 (Nat.le_of_ble_eq_true rfl) rfl ?_
    refine tq_aload_n dLw_isChanged_213 rfl rfl ?_
    refine tq_iload dLw_isChanged_214 rfl ?_
    refine tq_callS ms_Lw_place (dc := 1) (as := [vR x1, vI x5]) (rest := []) kLw_13 (Nat.le_of_ble_eq_true rfl) (Nat.le_of_ble_eq_true rfl) rfl rfl (Nat.le_of_ble_eq_true rfl) dLw_isChanged_216 (s_Lw_place hw) (fun _ _ hx => False.elim hx) (tk_i fun v15 h14 hw => ?_)
    refine tq_istore (ls' := [some (vR x0), some (vR x1), some (vR x2), none, some (vI x4), some (vI x5), some (vI x6), some (vR x7), some (vI x8), some (vI v13), some (vI v15), none, none, none, none]) dLw_isChanged_219 (Nat.le_of_ble_eq_true rfl) rfl ?_
    refine tq_aload_n dLw_isChanged_221 rfl rfl ?_
    refine tq_iconst (v := (1 : Int32)) dLw_isChanged_222 tni_1 ?_
    refine tq_iload dLw_isChanged_223 rfl ?_
    refine tq_iadd dLw_isChanged_225 ?_
    refine tq_dup2 dLw_isChanged_226 rfl rfl ?_
    obtain ⟨a16, e17, f18, hw⟩ := hw
    obtain ⟨f19, hw⟩ := hw
    refine te_iald dLw_isChanged_227 e17 (Or.inl f18) f19 ?_
    refine tq_bipush (v := (64 : Int32)) dLw_isChanged_228 tnb_64 ?_
    refine tq_iload dLw_isChanged_230 rfl ?_
    refine tq_sipush (v := (4608 : Int32)) dLw_isChanged_232 tns_4608 ?_
    refine tq_idiv dLw_isChanged_235 (by decide) ?_
    refine tq_bipush (v := (9 : Int32)) dLw_isChanged_236 tnb_9 ?_
    refine tq_irem dLw_isChanged_238 (by decide) ?_
    refine tq_iload dLw_isChanged_239 rfl ?_
    refine tq_isub dLw_isChanged_241 ?_
    refine tq_imul dLw_isChanged_242 ?_
    refine tq_iadd dLw_isChanged_243 ?_
    obtain ⟨f20, hw⟩ := hw
    refine te_iast dLw_isChanged_244 e17 f18 f20 (fun h21 e22 => ?_)
    have hw := hw h21 e22
    refine tq_aload_n dLw_isChanged_245 rfl rfl ?_
    refine tq_iconst (v := (3 : Int32)) dLw_isChanged_246 tni_3 ?_
    refine tq_iload dLw_isChanged_247 rfl ?_
    refine tq_iload dLw_isChanged_249 rfl ?_
    refine tq_sipush (v := (4608 : Int32)) dLw_isChanged_251 tns_4608 ?_
    refine tq_idiv dLw_isChanged_254 (by decide) ?_
    refine tq_bipush (v := (9 : Int32)) dLw_isChanged_255 tnb_9 ?_
    refine tq_irem dLw_isChanged_257 (by decide) ?_
    refine tq_iconst (v := (0 : Int32)) dLw_isChanged_258 tni_0 ?_
    refine tq_callSX ms_Lw_does (by intro hz; cases hz) (dc := 10) (as := [vR x0, vI (3 : Int32), vI x5, vI ((x4 / (4608 : Int32)) - (x4 / (4608 : Int32)) / (9 : Int32) * (9 : Int32)), vI (0 : Int32)]) (rest := []) kLw_135 (Nat.le_of_ble_eq_true rfl) (Nat.le_of_ble_eq_true rfl) rfl rfl (Nat.le_of_ble_eq_true rfl) dLw_isChanged_259 (s_Lw_does hw) (fun _ _ hx => False.elim hx) (tk_i fun v24 h23 hw => ?_)
    refine tq_iload dLw_isChanged_262 rfl ?_
    refine tq_icmpne (tgt := 271) dLw_isChanged_264 (by decide) (fun c25 => ?_) (fun c25 => ?_)
    · have hw := hw.1 c25
      refine tq_iconst (v := (0 : Int32)) dLw_isChanged_271 tni_0 ?_
      exact tq_iret rfl (by decide) dLw_isChanged_272 hw
    · have hw := hw.2 c25
      refine tq_iconst (v := (1 : Int32)) dLw_isChanged_267 tni_1 ?_
      refine tq_goto (tgt := 272) dLw_isChanged_268 (by decide) ?_
      exact tq_iret rfl (by decide) dLw_isChanged_272 hw
theorem s_Lw_isChanged {x0 : Option Nat} {x1 : Option Nat} {x2 : Option Nat} {x3 : Option Nat} {x4 : Int32} {h : tpH} {R : Int32 → tpH → Prop} (hw : w_Lw_isChanged x0 x1 x2 x3 x4 h R) : tpC Lw_isChanged 11 [vR x0, vR x1, vR x2, vR x3, vI x4] h (tpOi R (fun _ _ => False)) := by
  refine tpC_of ms_Lw_isChanged.2.2.2.1 rfl rfl (Nat.le_of_ble_eq_true rfl) ?_
  show tpR Lw_isChanged 11 h _ _ 0 [some (vR x0), some (vR x1), some (vR x2), some (vR x3), some (vI x4), none, none, none, none, none, none, none, none, none, none] [] h
  unfold w_Lw_isChanged at hw
  refine tq_aload_n dLw_isChanged_0 rfl rfl ?_
  refine tq_iload dLw_isChanged_1 rfl ?_
  refine tq_aload_n dLw_isChanged_3 rfl rfl ?_
  refine tq_iconst (v := (0 : Int32)) dLw_isChanged_4 tni_0 ?_
  obtain ⟨a1, e2, f3, hw⟩ := hw
  obtain ⟨f4, hw⟩ := hw
  refine te_iald dLw_isChanged_5 e2 (Or.inl f3) f4 ?_
  obtain ⟨f5, hw⟩ := hw
  refine tq_irem dLw_isChanged_6 f5 ?_
  refine tq_callS ms_Lw_mark (dc := 0) (as := [vR x1, vI (x4 - x4 / (hI h a1 (0 : Int32).toNatClampNeg) * (hI h a1 (0 : Int32).toNatClampNeg))]) (rest := []) kLw_7 (Nat.le_of_ble_eq_true rfl) (Nat.le_of_ble_eq_true rfl) rfl rfl (Nat.le_of_ble_eq_true rfl) dLw_isChanged_7 (s_Lw_mark hw) (fun _ _ hx => False.elim hx) (tk_i fun v7 h6 hw => ?_)
  refine tq_istore (ls' := [some (vR x0), some (vR x1), some (vR x2), some (vR x3), some (vI x4), some (vI v7), none, none, none, none, none, none, none, none, none]) dLw_isChanged_10 (Nat.le_of_ble_eq_true rfl) rfl ?_
  refine tq_aload_n dLw_isChanged_12 rfl rfl ?_
  refine tq_iload dLw_isChanged_13 rfl ?_
  refine tq_bipush (v := (24 : Int32)) dLw_isChanged_15 tnb_24 ?_
  refine tq_idiv dLw_isChanged_17 (by decide) ?_
  refine tq_aload_n dLw_isChanged_18 rfl rfl ?_
  refine tq_iconst (v := (0 : Int32)) dLw_isChanged_19 tni_0 ?_
  obtain ⟨f8, hw⟩ := hw
  obtain ⟨f9, hw⟩ := hw
  refine te_iald dLw_isChanged_20 e2 (Or.inl f8) f9 ?_
  obtain ⟨f10, hw⟩ := hw
  refine tq_irem dLw_isChanged_21 f10 ?_
  refine tq_callS ms_Lw_mark (dc := 0) (as := [vR x1, vI ((x4 / (24 : Int32)) - (x4 / (24 : Int32)) / (hI h6 a1 (0 : Int32).toNatClampNeg) * (hI h6 a1 (0 : Int32).toNatClampNeg))]) (rest := []) kLw_7 (Nat.le_of_ble_eq_true rfl) (Nat.le_of_ble_eq_true rfl) rfl rfl (Nat.le_of_ble_eq_true rfl) dLw_isChanged_22 (s_Lw_mark hw) (fun _ _ hx => False.elim hx) (tk_i fun v12 h11 hw => ?_)
  refine tq_istore (ls' := [some (vR x0), some (vR x1), some (vR x2), some (vR x3), some (vI x4), some (vI v7), some (vI v12), none, none, none, none, none, none, none, none]) dLw_isChanged_25 (Nat.le_of_ble_eq_true rfl) rfl ?_
  refine tq_bipush (v := (40 : Int32)) dLw_isChanged_27 tnb_40 ?_
  refine tq_newa tpN_int (N := 40) dLw_isChanged_29 (by decide) (by decide) (Nat.le_of_ble_eq_true rfl) (fun a13 h14 e15 e16 => ?_)
  have hw := hw a13 h14 e15 e16
  refine tq_astore (ls' := [some (vR x0), some (vR x1), some (vR x2), some (vR x3), some (vI x4), some (vI v7), some (vI v12), some (vR (some a13)), none, none, none, none, none, none, none]) dLw_isChanged_31 (Nat.le_of_ble_eq_true rfl) rfl ?_
  refine tq_iload dLw_isChanged_33 rfl ?_
  refine tq_sipush (v := (576 : Int32)) dLw_isChanged_35 tns_576 ?_
  refine tq_idiv dLw_isChanged_38 (by decide) ?_
  refine tq_bipush (v := (8 : Int32)) dLw_isChanged_39 tnb_8 ?_
  refine tq_irem dLw_isChanged_41 (by decide) ?_
  refine tq_istore (ls' := [some (vR x0), some (vR x1), some (vR x2), some (vR x3), some (vI x4), some (vI v7), some (vI v12), some (vR (some a13)), some (vI ((x4 / (576 : Int32)) - (x4 / (576 : Int32)) / (8 : Int32) * (8 : Int32))), none, none, none, none, none, none]) dLw_isChanged_42 (Nat.le_of_ble_eq_true rfl) rfl ?_
  refine tq_iload dLw_isChanged_44 rfl ?_
  refine tq_iconst (v := (3 : Int32)) dLw_isChanged_46 tni_3 ?_
  refine tq_icmpge (tgt := 199) dLw_isChanged_47 (by decide) (fun c17 => ?_) (fun c17 => ?_)
  · have hw := hw.1 c17
    refine tpR.fo (ls' := [some (vR x0), some (vR x1), some (vR x2), none, some (vI x4), some (vI v7), some (vI v12), some (vR (some a13)), some (vI ((x4 / (576 : Int32)) - (x4 / (576 : Int32)) / (8 : Int32) * (8 : Int32))), none, none, none, none, none, none]) ?_ (And.intro rfl (And.intro rfl (And.intro rfl (And.intro rfl (And.intro rfl (And.intro rfl (And.intro rfl (And.intro rfl trivial))))))))
    exact s_Lw_isChanged_199 _ _ _ _ _ _ _ _ _ hw
  · have hw := hw.2 c17
    refine tq_aload_n dLw_isChanged_50 rfl rfl ?_
    refine tq_iconst (v := (0 : Int32)) dLw_isChanged_51 tni_0 ?_
    obtain ⟨a18, e19, f20, hw⟩ := hw
    obtain ⟨f21, hw⟩ := hw
    refine te_iald dLw_isChanged_52 e19 (Or.inl f20) f21 ?_
    refine tq_bipush (v := (22 : Int32)) dLw_isChanged_53 tnb_22 ?_
    refine tq_icmpge (tgt := 199) dLw_isChanged_55 (by decide) (fun c22 => ?_) (fun c22 => ?_)
    · have hw := hw.1 c22
      refine tpR.fo (ls' := [some (vR x0), some (vR x1), some (vR x2), none, some (vI x4), some (vI v7), some (vI v12), some (vR (some a13)), some (vI ((x4 / (576 : Int32)) - (x4 / (576 : Int32)) / (8 : Int32) * (8 : Int32))), none, none, none, none, none, none]) ?_ (And.intro rfl (And.intro rfl (And.intro rfl (And.intro rfl (And.intro rfl (And.intro rfl (And.intro rfl (And.intro rfl trivial))))))))
      exact s_Lw_isChanged_199 _ _ _ _ _ _ _ _ _ hw
    · have hw := hw.2 c22
      refine tq_aload_n dLw_isChanged_58 rfl rfl ?_
      refine tq_iconst (v := (0 : Int32)) dLw_isChanged_59 tni_0 ?_
      obtain ⟨f23, hw⟩ := hw
      obtain ⟨f24, hw⟩ := hw
      refine te_iald dLw_isChanged_60 e2 (Or.inl f23) f24 ?_
      refine tq_bipush (v := (20 : Int32)) dLw_isChanged_61 tnb_20 ?_
      refine tq_icmpge (tgt := 199) dLw_isChanged_63 (by decide) (fun c25 => ?_) (fun c25 => ?_)
      · have hw := hw.1 c25
        refine tpR.fo (ls' := [some (vR x0), some (vR x1), some (vR x2), none, some (vI x4), some (vI v7), some (vI v12), some (vR (some a13)), some (vI ((x4 / (576 : Int32)) - (x4 / (576 : Int32)) / (8 : Int32) * (8 : Int32))), none, none, none, none, none, none]) ?_ (And.intro rfl (And.intro rfl (And.intro rfl (And.intro rfl (And.intro rfl (And.intro rfl (And.intro rfl (And.intro rfl trivial))))))))
        exact s_Lw_isChanged_199 _ _ _ _ _ _ _ _ _ hw
      · have hw := hw.2 c25
        refine tq_iload dLw_isChanged_66 rfl ?_
        refine tq_sipush (v := (4608 : Int32)) dLw_isChanged_68 tns_4608 ?_
        refine tq_idiv dLw_isChanged_71 (by decide) ?_
        refine tq_bipush (v := (6 : Int32)) dLw_isChanged_72 tnb_6 ?_
        refine tq_irem dLw_isChanged_74 (by decide) ?_
        refine tq_istore (ls' := [some (vR x0), some (vR x1), some (vR x2), some (vR x3), some (vI x4), some (vI v7), some (vI v12), some (vR (some a13)), some (vI ((x4 / (576 : Int32)) - (x4 / (576 : Int32)) / (8 : Int32) * (8 : Int32))), some (vI ((x4 / (4608 : Int32)) - (x4 / (4608 : Int32)) / (6 : Int32) * (6 : Int32))), none, none, none, none, none]) dLw_isChanged_75 (Nat.le_of_ble_eq_true rfl) rfl ?_
        refine tq_aload_n dLw_isChanged_77 rfl rfl ?_
        refine tq_aload_n dLw_isChanged_78 rfl rfl ?_
        refine tq_iload dLw_isChanged_79 rfl ?_
        refine tq_aload dLw_isChanged_81 rfl ?_
        refine tq_callS ms_Lw_children (dc := 1) (as := [vR x1, vR x2, vI v7, vR (some a13)]) (rest := []) kLw_36 (Nat.le_of_ble_eq_true rfl) (Nat.le_of_ble_eq_true rfl) rfl rfl (Nat.le_of_ble_eq_true rfl) dLw_isChanged_83 (s_Lw_children hw) (fun _ _ hx => False.elim hx) (tk_i fun v27 h26 hw => ?_)
        refine tq_istore (ls' := [some (vR x0), some (vR x1), some (vR x2), some (vR x3), some (vI x4), some (vI v7), some (vI v12), some (vR (some a13)), some (vI ((x4 / (576 : Int32)) - (x4 / (576 : Int32)) / (8 : Int32) * (8 : Int32))), some (vI ((x4 / (4608 : Int32)) - (x4 / (4608 : Int32)) / (6 : Int32) * (6 : Int32))), some (vI v27), none, none, none, none]) dLw_isChanged_86 (Nat.le_of_ble_eq_true rfl) rfl ?_
        refine tq_iload dLw_isChanged_88 rfl ?_
        refine tq_sipush (v := (27648 : Int32)) dLw_isChanged_90 tns_27648 ?_
        refine tq_idiv dLw_isChanged_93 (by decide) ?_
        refine tq_iload dLw_isChanged_94 rfl ?_
        refine tq_iconst (v := (1 : Int32)) dLw_isChanged_96 tni_1 ?_
        refine tq_iadd dLw_isChanged_97 ?_
        obtain ⟨f28, hw⟩ := hw
        refine tq_irem dLw_isChanged_98 f28 ?_
        refine tq_istore (ls' := [some (vR x0), some (vR x1), some (vR x2), some (vR x3), some (vI x4), some (vI v7), some (vI v12), some (vR (some a13)), some (vI ((x4 / (576 : Int32)) - (x4 / (576 : Int32)) / (8 : Int32) * (8 : Int32))), some (vI ((x4 / (4608 : Int32)) - (x4 / (4608 : Int32)) / (6 : Int32) * (6 : Int32))), some (vI v27), some (vI ((x4 / (27648 : Int32)) - (x4 / (27648 : Int32)) / (v27 + (1 : Int32)) * (v27 + (1 : Int32)))), none, none, none]) dLw_isChanged_99 (Nat.le_of_ble_eq_true rfl) rfl ?_
        refine tq_aload_n dLw_isChanged_101 rfl rfl ?_
        refine tq_aload_n dLw_isChanged_102 rfl rfl ?_
        refine tq_iload dLw_isChanged_103 rfl ?_
        refine tq_iload dLw_isChanged_105 rfl ?_
        refine tq_callS ms_Lw_spot (dc := 2) (as := [vR x1, vR x2, vI v7, vI ((x4 / (27648 : Int32)) - (x4 / (27648 : Int32)) / (v27 + (1 : Int32)) * (v27 + (1 : Int32)))]) (rest := []) kLw_139 (Nat.le_of_ble_eq_true rfl) (Nat.le_of_ble_eq_true rfl) rfl rfl (Nat.le_of_ble_eq_true rfl) dLw_isChanged_107 (s_Lw_spot hw) (fun _ _ hx => False.elim hx) (tk_i fun v30 h29 hw => ?_)
        refine tq_istore (ls' := [some (vR x0), some (vR x1), some (vR x2), some (vR x3), some (vI x4), some (vI v7), some (vI v12), some (vR (some a13)), some (vI ((x4 / (576 : Int32)) - (x4 / (576 : Int32)) / (8 : Int32) * (8 : Int32))), some (vI ((x4 / (4608 : Int32)) - (x4 / (4608 : Int32)) / (6 : Int32) * (6 : Int32))), some (vI v27), some (vI ((x4 / (27648 : Int32)) - (x4 / (27648 : Int32)) / (v27 + (1 : Int32)) * (v27 + (1 : Int32)))), some (vI v30), none, none]) dLw_isChanged_110 (Nat.le_of_ble_eq_true rfl) rfl ?_
        refine tq_aload_n dLw_isChanged_112 rfl rfl ?_
        refine tq_aload_n dLw_isChanged_113 rfl rfl ?_
        refine tq_iconst (v := (0 : Int32)) dLw_isChanged_114 tni_0 ?_
        obtain ⟨f31, hw⟩ := hw
        obtain ⟨f32, hw⟩ := hw
        refine te_iald dLw_isChanged_115 e19 (Or.inl f31) f32 ?_
        refine tq_iload dLw_isChanged_116 rfl ?_
        obtain ⟨a33, e34, f35, hw⟩ := hw
        obtain ⟨f36, hw⟩ := hw
        refine te_iast dLw_isChanged_118 e34 f35 f36 (fun h37 e38 => ?_)
        have hw := hw h37 e38
        refine tq_aload_n dLw_isChanged_119 rfl rfl ?_
        refine tq_iload dLw_isChanged_120 rfl ?_
        refine tq_aload_n dLw_isChanged_122 rfl rfl ?_
        refine tq_iconst (v := (0 : Int32)) dLw_isChanged_123 tni_0 ?_
        obtain ⟨f39, hw⟩ := hw
        refine te_iald dLw_isChanged_124 e19 (Or.inl (by rw [e38]; exact f31)) f39 ?_
        refine tq_bipush (v := (64 : Int32)) dLw_isChanged_125 tnb_64 ?_
        refine tq_iload dLw_isChanged_127 rfl ?_
        refine tq_bipush (v := (9 : Int32)) dLw_isChanged_129 tnb_9 ?_
        refine tq_irem dLw_isChanged_131 (by decide) ?_
        refine tq_imul dLw_isChanged_132 ?_
        refine tq_iadd dLw_isChanged_133 ?_
        refine tq_sipush (v := (8192 : Int32)) dLw_isChanged_134 tns_8192 ?_
        refine tq_iload dLw_isChanged_137 rfl ?_
        refine tq_iconst (v := (1 : Int32)) dLw_isChanged_139 tni_1 ?_
        refine tq_iadd dLw_isChanged_140 ?_
        refine tq_imul dLw_isChanged_141 ?_
        refine tq_iadd dLw_isChanged_142 ?_
        refine tq_callS ms_Lw_puts (dc := 0) (as := [vR x1, vI v30, vI (((hI h37 a18 (0 : Int32).toNatClampNeg) + ((64 : Int32) * (x4 - x4 / (9 : Int32) * (9 : Int32)))) + ((8192 : Int32) * (v7 + (1 : Int32))))]) (rest := []) kLw_101 (Nat.le_of_ble_eq_true rfl) (Nat.le_of_ble_eq_true rfl) rfl rfl (Nat.le_of_ble_eq_true rfl) dLw_isChanged_143 (s_Lw_puts hw) (fun _ _ hx => False.elim hx) (tk_v fun h40 hw => ?_)
        refine tq_aload_n dLw_isChanged_146 rfl rfl ?_
        refine tq_iconst (v := (0 : Int32)) dLw_isChanged_147 tni_0 ?_
        refine tq_dup2 dLw_isChanged_148 rfl rfl ?_
        obtain ⟨f41, hw⟩ := hw
        obtain ⟨f42, hw⟩ := hw
        refine te_iald dLw_isChanged_149 e19 (Or.inl f41) f42 ?_
        refine tq_iconst (v := (1 : Int32)) dLw_isChanged_150 tni_1 ?_
        refine tq_iadd dLw_isChanged_151 ?_
        obtain ⟨f43, hw⟩ := hw
        refine te_iast dLw_isChanged_152 e19 f41 f43 (fun h44 e45 => ?_)
        have hw := hw h44 e45
        refine tq_aload_n dLw_isChanged_153 rfl rfl ?_
        refine tq_iconst (v := (2 : Int32)) dLw_isChanged_154 tni_2 ?_
        refine tq_iload dLw_isChanged_155 rfl ?_
        refine tq_iload dLw_isChanged_157 rfl ?_
        refine tq_iload dLw_isChanged_159 rfl ?_
        refine tq_bipush (v := (10 : Int32)) dLw_isChanged_161 tnb_10 ?_
        refine tq_iload dLw_isChanged_163 rfl ?_
        refine tq_bipush (v := (9 : Int32)) dLw_isChanged_165 tnb_9 ?_
        refine tq_irem dLw_isChanged_167 (by decide) ?_
        refine tq_imul dLw_isChanged_168 ?_
        refine tq_iadd dLw_isChanged_169 ?_
        refine tq_sipush (v := (1000 : Int32)) dLw_isChanged_170 tns_1000 ?_
        refine tq_iload dLw_isChanged_173 rfl ?_
        refine tq_bipush (v := (7 : Int32)) dLw_isChanged_175 tnb_7 ?_
        refine tq_idiv dLw_isChanged_177 (by decide) ?_
        refine tq_iconst (v := (4 : Int32)) dLw_isChanged_178 tni_4 ?_
        refine tq_irem dLw_isChanged_179 (by decide) ?_
        refine tq_imul dLw_isChanged_180 ?_
        refine tq_iadd dLw_isChanged_181 ?_
        refine tq_callSX ms_Lw_does (by intro hz; cases hz) (dc := 10) (as := [vR x0, vI (2 : Int32), vI v7, vI ((x4 / (27648 : Int32)) - (x4 / (27648 : Int32)) / (v27 + (1 : Int32)) * (v27 + (1 : Int32))), vI ((((x4 / (4608 : Int32)) - (x4 / (4608 : Int32)) / (6 : Int32) * (6 : Int32)) + ((10 : Int32) * (x4 - x4 / (9 : Int32) * (9 : Int32)))) + ((1000 : Int32) * ((x4 / (7 : Int32)) - (x4 / (7 : Int32)) / (4 : Int32) * (4 : Int32))))]) (rest := []) kLw_135 (Nat.le_of_ble_eq_true rfl) (Nat.le_of_ble_eq_true rfl) rfl rfl (Nat.le_of_ble_eq_true rfl) dLw_isChanged_182 (s_Lw_does hw) (fun _ _ hx => False.elim hx) (tk_i fun v47 h46 hw => ?_)
        refine tq_aload_n dLw_isChanged_185 rfl rfl ?_
        refine tq_iconst (v := (0 : Int32)) dLw_isChanged_186 tni_0 ?_
        obtain ⟨f48, hw⟩ := hw
        obtain ⟨f49, hw⟩ := hw
        refine te_iald dLw_isChanged_187 e19 (Or.inl f48) f49 ?_
        refine tq_iconst (v := (1 : Int32)) dLw_isChanged_188 tni_1 ?_
        refine tq_isub dLw_isChanged_189 ?_
        refine tq_icmpne (tgt := 197) dLw_isChanged_190 (by decide) (fun c50 => ?_) (fun c50 => ?_)
        · have hw := hw.1 c50
          refine tq_iconst (v := (0 : Int32)) dLw_isChanged_197 tni_0 ?_
          exact tq_iret rfl (by decide) dLw_isChanged_198 hw
        · have hw := hw.2 c50
          refine tq_iconst (v := (1 : Int32)) dLw_isChanged_193 tni_1 ?_
          refine tq_goto (tgt := 198) dLw_isChanged_194 (by decide) ?_
          exact tq_iret rfl (by decide) dLw_isChanged_198 hw
