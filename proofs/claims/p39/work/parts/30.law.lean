/-! TLaw.mark -/
theorem dLw_mark_0 : decode (mB Lw_mark) 0 = .ok (.aload_n 0, 1) := by decide +kernel
theorem dLw_mark_1 : decode (mB Lw_mark) 1 = .ok (.iconst 1, 1) := by decide +kernel
theorem dLw_mark_2 : decode (mB Lw_mark) 2 = .ok (.iload_n 1, 1) := by decide +kernel
theorem dLw_mark_3 : decode (mB Lw_mark) 3 = .ok (.iadd, 1) := by decide +kernel
theorem dLw_mark_4 : decode (mB Lw_mark) 4 = .ok (.iaload, 1) := by decide +kernel
theorem dLw_mark_5 : decode (mB Lw_mark) 5 = .ok (.bipush 64, 2) := by decide +kernel
theorem dLw_mark_7 : decode (mB Lw_mark) 7 = .ok (.irem, 1) := by decide +kernel
theorem dLw_mark_8 : decode (mB Lw_mark) 8 = .ok (.ireturn, 1) := by decide +kernel
def w_Lw_mark (x0 : Option Nat) (x1 : Int32) (h : tpH) (R : Int32 → tpH → Prop) : Prop :=
  ∃ a1, x0 = some a1 ∧ hT h a1 = 15 ∧ (vp_in ((1 : Int32) + x1) (hL h a1) ∧ (R ((hI h a1 ((1 : Int32) + x1).toNatClampNeg) - (hI h a1 ((1 : Int32) + x1).toNatClampNeg) / (64 : Int32) * (64 : Int32)) h))
theorem s_Lw_mark {x0 : Option Nat} {x1 : Int32} {h : tpH} {R : Int32 → tpH → Prop} (hw : w_Lw_mark x0 x1 h R) : tpC Lw_mark 0 [vR x0, vI x1] h (tpOi R (fun _ _ => False)) := by
  refine tpC_of ms_Lw_mark.2.2.2.1 rfl rfl (Nat.le_of_ble_eq_true rfl) ?_
  show tpR Lw_mark 0 h _ _ 0 [some (vR x0), some (vI x1)] [] h
  unfold w_Lw_mark at hw
  refine tq_aload_n dLw_mark_0 rfl rfl ?_
  refine tq_iconst (v := (1 : Int32)) dLw_mark_1 tni_1 ?_
  refine tq_iload_n dLw_mark_2 rfl rfl ?_
  refine tq_iadd dLw_mark_3 ?_
  obtain ⟨a1, e2, f3, hw⟩ := hw
  obtain ⟨f4, hw⟩ := hw
  refine te_iald dLw_mark_4 e2 (Or.inl f3) f4 ?_
  refine tq_bipush (v := (64 : Int32)) dLw_mark_5 tnb_64 ?_
  refine tq_irem dLw_mark_7 (by decide) ?_
  exact tq_iret rfl rfl dLw_mark_8 hw
/-! TLaw.parent -/
theorem dLw_parent_0 : decode (mB Lw_parent) 0 = .ok (.aload_n 0, 1) := by decide +kernel
theorem dLw_parent_1 : decode (mB Lw_parent) 1 = .ok (.iconst 1, 1) := by decide +kernel
theorem dLw_parent_2 : decode (mB Lw_parent) 2 = .ok (.iload_n 1, 1) := by decide +kernel
theorem dLw_parent_3 : decode (mB Lw_parent) 3 = .ok (.iadd, 1) := by decide +kernel
theorem dLw_parent_4 : decode (mB Lw_parent) 4 = .ok (.iaload, 1) := by decide +kernel
theorem dLw_parent_5 : decode (mB Lw_parent) 5 = .ok (.sipush 8192, 3) := by decide +kernel
theorem dLw_parent_8 : decode (mB Lw_parent) 8 = .ok (.idiv, 1) := by decide +kernel
theorem dLw_parent_9 : decode (mB Lw_parent) 9 = .ok (.iconst 1, 1) := by decide +kernel
theorem dLw_parent_10 : decode (mB Lw_parent) 10 = .ok (.isub, 1) := by decide +kernel
theorem dLw_parent_11 : decode (mB Lw_parent) 11 = .ok (.ireturn, 1) := by decide +kernel
def w_Lw_parent (x0 : Option Nat) (x1 : Int32) (h : tpH) (R : Int32 → tpH → Prop) : Prop :=
  ∃ a1, x0 = some a1 ∧ hT h a1 = 15 ∧ (vp_in ((1 : Int32) + x1) (hL h a1) ∧ (R (((hI h a1 ((1 : Int32) + x1).toNatClampNeg) / (8192 : Int32)) - (1 : Int32)) h))
theorem s_Lw_parent {x0 : Option Nat} {x1 : Int32} {h : tpH} {R : Int32 → tpH → Prop} (hw : w_Lw_parent x0 x1 h R) : tpC Lw_parent 0 [vR x0, vI x1] h (tpOi R (fun _ _ => False)) := by
  refine tpC_of ms_Lw_parent.2.2.2.1 rfl rfl (Nat.le_of_ble_eq_true rfl) ?_
  show tpR Lw_parent 0 h _ _ 0 [some (vR x0), some (vI x1)] [] h
  unfold w_Lw_parent at hw
  refine tq_aload_n dLw_parent_0 rfl rfl ?_
  refine tq_iconst (v := (1 : Int32)) dLw_parent_1 tni_1 ?_
  refine tq_iload_n dLw_parent_2 rfl rfl ?_
  refine tq_iadd dLw_parent_3 ?_
  obtain ⟨a1, e2, f3, hw⟩ := hw
  obtain ⟨f4, hw⟩ := hw
  refine te_iald dLw_parent_4 e2 (Or.inl f3) f4 ?_
  refine tq_sipush (v := (8192 : Int32)) dLw_parent_5 tns_8192 ?_
  refine tq_idiv dLw_parent_8 (by decide) ?_
  refine tq_iconst (v := (1 : Int32)) dLw_parent_9 tni_1 ?_
  refine tq_isub dLw_parent_10 ?_
  exact tq_iret rfl rfl dLw_parent_11 hw
/-! TLaw.value -/
theorem dLw_value_0 : decode (mB Lw_value) 0 = .ok (.aload_n 0, 1) := by decide +kernel
theorem dLw_value_1 : decode (mB Lw_value) 1 = .ok (.iconst 1, 1) := by decide +kernel
theorem dLw_value_2 : decode (mB Lw_value) 2 = .ok (.iload_n 1, 1) := by decide +kernel
theorem dLw_value_3 : decode (mB Lw_value) 3 = .ok (.iadd, 1) := by decide +kernel
theorem dLw_value_4 : decode (mB Lw_value) 4 = .ok (.iaload, 1) := by decide +kernel
theorem dLw_value_5 : decode (mB Lw_value) 5 = .ok (.bipush 64, 2) := by decide +kernel
theorem dLw_value_7 : decode (mB Lw_value) 7 = .ok (.idiv, 1) := by decide +kernel
theorem dLw_value_8 : decode (mB Lw_value) 8 = .ok (.sipush 128, 3) := by decide +kernel
theorem dLw_value_11 : decode (mB Lw_value) 11 = .ok (.irem, 1) := by decide +kernel
theorem dLw_value_12 : decode (mB Lw_value) 12 = .ok (.ireturn, 1) := by decide +kernel
def w_Lw_value (x0 : Option Nat) (x1 : Int32) (h : tpH) (R : Int32 → tpH → Prop) : Prop :=
  ∃ a1, x0 = some a1 ∧ hT h a1 = 15 ∧ (vp_in ((1 : Int32) + x1) (hL h a1) ∧ (R (((hI h a1 ((1 : Int32) + x1).toNatClampNeg) / (64 : Int32)) - ((hI h a1 ((1 : Int32) + x1).toNatClampNeg) / (64 : Int32)) / (128 : Int32) * (128 : Int32)) h))
theorem s_Lw_value {x0 : Option Nat} {x1 : Int32} {h : tpH} {R : Int32 → tpH → Prop} (hw : w_Lw_value x0 x1 h R) : tpC Lw_value 0 [vR x0, vI x1] h (tpOi R (fun _ _ => False)) := by
  refine tpC_of ms_Lw_value.2.2.2.1 rfl rfl (Nat.le_of_ble_eq_true rfl) ?_
  show tpR Lw_value 0 h _ _ 0 [some (vR x0), some (vI x1)] [] h
  unfold w_Lw_value at hw
  refine tq_aload_n dLw_value_0 rfl rfl ?_
  refine tq_iconst (v := (1 : Int32)) dLw_value_1 tni_1 ?_
  refine tq_iload_n dLw_value_2 rfl rfl ?_
  refine tq_iadd dLw_value_3 ?_
  obtain ⟨a1, e2, f3, hw⟩ := hw
  obtain ⟨f4, hw⟩ := hw
  refine te_iald dLw_value_4 e2 (Or.inl f3) f4 ?_
  refine tq_bipush (v := (64 : Int32)) dLw_value_5 tnb_64 ?_
  refine tq_idiv dLw_value_7 (by decide) ?_
  refine tq_sipush (v := (128 : Int32)) dLw_value_8 tns_128 ?_
  refine tq_irem dLw_value_11 (by decide) ?_
  exact tq_iret rfl rfl dLw_value_12 hw
/-! TLaw.place -/
theorem dLw_place_0 : decode (mB Lw_place) 0 = .ok (.iconst (-1), 1) := by decide +kernel
theorem dLw_place_1 : decode (mB Lw_place) 1 = .ok (.istore_n 2, 1) := by decide +kernel
theorem dLw_place_2 : decode (mB Lw_place) 2 = .ok (.iconst 0, 1) := by decide +kernel
theorem dLw_place_3 : decode (mB Lw_place) 3 = .ok (.istore_n 3, 1) := by decide +kernel
theorem dLw_place_4 : decode (mB Lw_place) 4 = .ok (.iload_n 3, 1) := by decide +kernel
theorem dLw_place_5 : decode (mB Lw_place) 5 = .ok (.aload_n 0, 1) := by decide +kernel
theorem dLw_place_6 : decode (mB Lw_place) 6 = .ok (.iconst 0, 1) := by decide +kernel
theorem dLw_place_7 : decode (mB Lw_place) 7 = .ok (.iaload, 1) := by decide +kernel
theorem dLw_place_8 : decode (mB Lw_place) 8 = .ok (.if_icmp .ge 24, 3) := by decide +kernel
theorem dLw_place_11 : decode (mB Lw_place) 11 = .ok (.aload_n 0, 1) := by decide +kernel
theorem dLw_place_12 : decode (mB Lw_place) 12 = .ok (.iload_n 3, 1) := by decide +kernel
theorem dLw_place_13 : decode (mB Lw_place) 13 = .ok (.invokestatic 7, 3) := by decide +kernel
theorem dLw_place_16 : decode (mB Lw_place) 16 = .ok (.iload_n 1, 1) := by decide +kernel
theorem dLw_place_17 : decode (mB Lw_place) 17 = .ok (.if_icmp .ne 7, 3) := by decide +kernel
theorem dLw_place_20 : decode (mB Lw_place) 20 = .ok (.iload_n 3, 1) := by decide +kernel
theorem dLw_place_21 : decode (mB Lw_place) 21 = .ok (.goto 4, 3) := by decide +kernel
theorem dLw_place_24 : decode (mB Lw_place) 24 = .ok (.iload_n 2, 1) := by decide +kernel
theorem dLw_place_25 : decode (mB Lw_place) 25 = .ok (.istore_n 2, 1) := by decide +kernel
theorem dLw_place_26 : decode (mB Lw_place) 26 = .ok (.iinc 3 1, 3) := by decide +kernel
theorem dLw_place_29 : decode (mB Lw_place) 29 = .ok (.goto (-25), 3) := by decide +kernel
theorem dLw_place_32 : decode (mB Lw_place) 32 = .ok (.iload_n 2, 1) := by decide +kernel
theorem dLw_place_33 : decode (mB Lw_place) 33 = .ok (.ireturn, 1) := by decide +kernel
def b_Lw_place_4 (R : Int32 → tpH → Prop) (Y : (Option Nat) → Int32 → Int32 → Int32 → tpH → Prop) (x0 : Option Nat) (x1 : Int32) (x2 : Int32) (x3 : Int32) (h : tpH) : Prop :=
  ∃ a1, x0 = some a1 ∧ hT h a1 = 15 ∧ (vp_in (0 : Int32) (hL h a1) ∧ (((hI h a1 (0 : Int32).toNatClampNeg) ≤ x3 → (R x2 h)) ∧ (¬ (hI h a1 (0 : Int32).toNatClampNeg) ≤ x3 → (w_Lw_mark x0 x3 h (fun v7 h6 => (¬ v7 = x1 → (Y x0 x1 x2 (x3 + (1 : Int32)) h6)) ∧ (v7 = x1 → (Y x0 x1 x3 (x3 + (1 : Int32)) h6)))))))
def w_Lw_place_4 (R : Int32 → tpH → Prop) : Nat → (Option Nat) → Int32 → Int32 → Int32 → tpH → Prop
  | 0 => fun _ _ _ _ _ => False
  | n + 1 => b_Lw_place_4 R (w_Lw_place_4 R n)
def w_Lw_place (x0 : Option Nat) (x1 : Int32) (h : tpH) (R : Int32 → tpH → Prop) : Prop :=
  ∃ n, w_Lw_place_4 R n x0 x1 (-1 : Int32) (0 : Int32) h
theorem s_Lw_place_4 {h0 : tpH} {av : List tpV} {R : Int32 → tpH → Prop} : ∀ (n : Nat) (x0 : Option Nat) (x1 : Int32) (x2 : Int32) (x3 : Int32) (h : tpH), w_Lw_place_4 R n x0 x1 x2 x3 h → tpR Lw_place 1 h0 av (tpOi R (fun _ _ => False)) 4 [some (vR x0), some (vI x1), some (vI x2), some (vI x3)] [] h := by
  intro n
  induction n with
  | zero => intro x0 x1 x2 x3 h hw; exact False.elim hw
  | succ n ih =>
    intro x0 x1 x2 x3 h hw
    change b_Lw_place_4 R (w_Lw_place_4 R n) x0 x1 x2 x3 h at hw
    unfold b_Lw_place_4 at hw
    refine tq_iload_n dLw_place_4 rfl rfl ?_
    refine tq_aload_n dLw_place_5 rfl rfl ?_
    refine tq_iconst (v := (0 : Int32)) dLw_place_6 tni_0 ?_
    obtain ⟨a1, e2, f3, hw⟩ := hw
    obtain ⟨f4, hw⟩ := hw
    refine te_iald dLw_place_7 e2 (Or.inl f3) f4 ?_
    refine tq_icmpge (tgt := 32) dLw_place_8 (by decide) (fun c5 => ?_) (fun c5 => ?_)
    · have hw := hw.1 c5
      refine tq_iload_n dLw_place_32 rfl rfl ?_
      exact tq_iret rfl rfl dLw_place_33 hw
    · have hw := hw.2 c5
      refine tq_aload_n dLw_place_11 rfl rfl ?_
      refine tq_iload_n dLw_place_12 rfl rfl ?_
      refine tq_callS ms_Lw_mark (dc := 0) (as := [vR x0, vI x3]) (rest := []) kLw_7 (Nat.le_of_ble_eq_true rfl) (Nat.le_of_ble_eq_true rfl) rfl rfl (Nat.le_of_ble_eq_true rfl) dLw_place_13 (s_Lw_mark hw) (fun _ _ hx => False.elim hx) (tk_i fun v7 h6 hw => ?_)
      refine tq_iload_n dLw_place_16 rfl rfl ?_
      refine tq_icmpne (tgt := 24) dLw_place_17 (by decide) (fun c8 => ?_) (fun c8 => ?_)
      · have hw := hw.1 c8
        refine tq_iload_n dLw_place_24 rfl rfl ?_
        refine tq_istore_n (ls' := [some (vR x0), some (vI x1), some (vI x2), some (vI x3)]) dLw_place_25 rfl (Nat.le_of_ble_eq_true rfl) rfl ?_
        refine tq_inc (k := (1 : Int32)) (ls' := [some (vR x0), some (vI x1), some (vI x2), some (vI (x3 + (1 : Int32)))]) dLw_place_26 rfl tni_1 (Nat.le_of_ble_eq_true rfl) rfl ?_
        refine tq_goto (tgt := 4) dLw_place_29 (by decide) ?_
        refine tpR.fo (ls' := [some (vR x0), some (vI x1), some (vI x2), some (vI (x3 + (1 : Int32)))]) ?_ (And.intro rfl (And.intro rfl (And.intro rfl (And.intro rfl trivial))))
        exact ih _ _ _ _ _ hw
      · have hw := hw.2 c8
        refine tq_iload_n dLw_place_20 rfl rfl ?_
        refine tq_goto (tgt := 25) dLw_place_21 (by decide) ?_
        refine tq_istore_n (ls' := [some (vR x0), some (vI x1), some (vI x3), some (vI x3)]) dLw_place_25 rfl (Nat.le_of_ble_eq_true rfl) rfl ?_
        refine tq_inc (k := (1 : Int32)) (ls' := [some (vR x0), some (vI x1), some (vI x3), some (vI (x3 + (1 : Int32)))]) dLw_place_26 rfl tni_1 (Nat.le_of_ble_eq_true rfl) rfl ?_
        refine tq_goto (tgt := 4) dLw_place_29 (by decide) ?_
        refine tpR.fo (ls' := [some (vR x0), some (vI x1), some (vI x3), some (vI (x3 + (1 : Int32)))]) ?_ (And.intro rfl (And.intro rfl (And.intro rfl (And.intro rfl trivial))))
        exact ih _ _ _ _ _ hw
theorem s_Lw_place {x0 : Option Nat} {x1 : Int32} {h : tpH} {R : Int32 → tpH → Prop} (hw : w_Lw_place x0 x1 h R) : tpC Lw_place 1 [vR x0, vI x1] h (tpOi R (fun _ _ => False)) := by
  refine tpC_of ms_Lw_place.2.2.2.1 rfl rfl (Nat.le_of_ble_eq_true rfl) ?_
  show tpR Lw_place 1 h _ _ 0 [some (vR x0), some (vI x1), none, none] [] h
  unfold w_Lw_place at hw
  refine tq_iconst (v := (-1 : Int32)) dLw_place_0 tni_m1 ?_
  refine tq_istore_n (ls' := [some (vR x0), some (vI x1), some (vI (-1 : Int32)), none]) dLw_place_1 rfl (Nat.le_of_ble_eq_true rfl) rfl ?_
  refine tq_iconst (v := (0 : Int32)) dLw_place_2 tni_0 ?_
  refine tq_istore_n (ls' := [some (vR x0), some (vI x1), some (vI (-1 : Int32)), some (vI (0 : Int32))]) dLw_place_3 rfl (Nat.le_of_ble_eq_true rfl) rfl ?_
  refine tpR.fo (ls' := [some (vR x0), some (vI x1), some (vI (-1 : Int32)), some (vI (0 : Int32))]) ?_ (And.intro rfl (And.intro rfl (And.intro rfl (And.intro rfl trivial))))
  obtain ⟨n, hw⟩ := hw
  exact s_Lw_place_4 n _ _ _ _ _ hw
/-! TLaw.parentOf -/
theorem dLw_parentOf_0 : decode (mB Lw_parentOf) 0 = .ok (.aload_n 0, 1) := by decide +kernel
theorem dLw_parentOf_1 : decode (mB Lw_parentOf) 1 = .ok (.iload_n 1, 1) := by decide +kernel
theorem dLw_parentOf_2 : decode (mB Lw_parentOf) 2 = .ok (.invokestatic 13, 3) := by decide +kernel
theorem dLw_parentOf_5 : decode (mB Lw_parentOf) 5 = .ok (.istore_n 2, 1) := by decide +kernel
theorem dLw_parentOf_6 : decode (mB Lw_parentOf) 6 = .ok (.iload_n 2, 1) := by decide +kernel
theorem dLw_parentOf_7 : decode (mB Lw_parentOf) 7 = .ok (.ifCond .ge 8, 3) := by decide +kernel
theorem dLw_parentOf_10 : decode (mB Lw_parentOf) 10 = .ok (.bipush (-2), 2) := by decide +kernel
theorem dLw_parentOf_12 : decode (mB Lw_parentOf) 12 = .ok (.goto 8, 3) := by decide +kernel
theorem dLw_parentOf_15 : decode (mB Lw_parentOf) 15 = .ok (.aload_n 0, 1) := by decide +kernel
theorem dLw_parentOf_16 : decode (mB Lw_parentOf) 16 = .ok (.iload_n 2, 1) := by decide +kernel
theorem dLw_parentOf_17 : decode (mB Lw_parentOf) 17 = .ok (.invokestatic 16, 3) := by decide +kernel
theorem dLw_parentOf_20 : decode (mB Lw_parentOf) 20 = .ok (.ireturn, 1) := by decide +kernel
def w_Lw_parentOf (x0 : Option Nat) (x1 : Int32) (h : tpH) (R : Int32 → tpH → Prop) : Prop :=
  w_Lw_place x0 x1 h (fun v2 h1 => (0 ≤ v2 → (w_Lw_parent x0 v2 h1 (fun v5 h4 => R v5 h4))) ∧ (¬ 0 ≤ v2 → (R (-2 : Int32) h1)))
theorem s_Lw_parentOf {x0 : Option Nat} {x1 : Int32} {h : tpH} {R : Int32 → tpH → Prop} (hw : w_Lw_parentOf x0 x1 h R) : tpC Lw_parentOf 2 [vR x0, vI x1] h (tpOi R (fun _ _ => False)) := by
  refine tpC_of ms_Lw_parentOf.2.2.2.1 rfl rfl (Nat.le_of_ble_eq_true rfl) ?_
  show tpR Lw_parentOf 2 h _ _ 0 [some (vR x0), some (vI x1), none] [] h
  unfold w_Lw_parentOf at hw
  refine tq_aload_n dLw_parentOf_0 rfl rfl ?_
  refine tq_iload_n dLw_parentOf_1 rfl rfl ?_
  refine tq_callS ms_Lw_place (dc := 1) (as := [vR x0, vI x1]) (rest := []) kLw_13 (Nat.le_of_ble_eq_true rfl) (Nat.le_of_ble_eq_true rfl) rfl rfl (Nat.le_of_ble_eq_true rfl) dLw_parentOf_2 (s_Lw_place hw) (fun _ _ hx => False.elim hx) (tk_i fun v2 h1 hw => ?_)
  refine tq_istore_n (ls' := [some (vR x0), some (vI x1), some (vI v2)]) dLw_parentOf_5 rfl (Nat.le_of_ble_eq_true rfl) rfl ?_
  refine tq_iload_n dLw_parentOf_6 rfl rfl ?_
  refine tq_ifge (tgt := 15) dLw_parentOf_7 (by decide) (fun c3 => ?_) (fun c3 => ?_)
  · have hw := hw.1 c3
    refine tq_aload_n dLw_parentOf_15 rfl rfl ?_
    refine tq_iload_n dLw_parentOf_16 rfl rfl ?_
    refine tq_callS ms_Lw_parent (dc := 0) (as := [vR x0, vI v2]) (rest := []) kLw_16 (Nat.le_of_ble_eq_true rfl) (Nat.le_of_ble_eq_true rfl) rfl rfl (Nat.le_of_ble_eq_true rfl) dLw_parentOf_17 (s_Lw_parent hw) (fun _ _ hx => False.elim hx) (tk_i fun v5 h4 hw => ?_)
    exact tq_iret rfl rfl dLw_parentOf_20 hw
  · have hw := hw.2 c3
    refine tq_bipush (v := (-2 : Int32)) dLw_parentOf_10 tnb_m2 ?_
    refine tq_goto (tgt := 20) dLw_parentOf_12 (by decide) ?_
    exact tq_iret rfl rfl dLw_parentOf_20 hw
/-! TLaw.valueOf -/
theorem dLw_valueOf_0 : decode (mB Lw_valueOf) 0 = .ok (.aload_n 0, 1) := by decide +kernel
theorem dLw_valueOf_1 : decode (mB Lw_valueOf) 1 = .ok (.iload_n 1, 1) := by decide +kernel
theorem dLw_valueOf_2 : decode (mB Lw_valueOf) 2 = .ok (.invokestatic 13, 3) := by decide +kernel
theorem dLw_valueOf_5 : decode (mB Lw_valueOf) 5 = .ok (.istore_n 2, 1) := by decide +kernel
theorem dLw_valueOf_6 : decode (mB Lw_valueOf) 6 = .ok (.iload_n 2, 1) := by decide +kernel
theorem dLw_valueOf_7 : decode (mB Lw_valueOf) 7 = .ok (.ifCond .ge 7, 3) := by decide +kernel
theorem dLw_valueOf_10 : decode (mB Lw_valueOf) 10 = .ok (.iconst (-1), 1) := by decide +kernel
theorem dLw_valueOf_11 : decode (mB Lw_valueOf) 11 = .ok (.goto 8, 3) := by decide +kernel
theorem dLw_valueOf_14 : decode (mB Lw_valueOf) 14 = .ok (.aload_n 0, 1) := by decide +kernel
theorem dLw_valueOf_15 : decode (mB Lw_valueOf) 15 = .ok (.iload_n 2, 1) := by decide +kernel
theorem dLw_valueOf_16 : decode (mB Lw_valueOf) 16 = .ok (.invokestatic 19, 3) := by decide +kernel
theorem dLw_valueOf_19 : decode (mB Lw_valueOf) 19 = .ok (.ireturn, 1) := by decide +kernel
def w_Lw_valueOf (x0 : Option Nat) (x1 : Int32) (h : tpH) (R : Int32 → tpH → Prop) : Prop :=
  w_Lw_place x0 x1 h (fun v2 h1 => (0 ≤ v2 → (w_Lw_value x0 v2 h1 (fun v5 h4 => R v5 h4))) ∧ (¬ 0 ≤ v2 → (R (-1 : Int32) h1)))
theorem s_Lw_valueOf {x0 : Option Nat} {x1 : Int32} {h : tpH} {R : Int32 → tpH → Prop} (hw : w_Lw_valueOf x0 x1 h R) : tpC Lw_valueOf 2 [vR x0, vI x1] h (tpOi R (fun _ _ => False)) := by
  refine tpC_of ms_Lw_valueOf.2.2.2.1 rfl rfl (Nat.le_of_ble_eq_true rfl) ?_
  show tpR Lw_valueOf 2 h _ _ 0 [some (vR x0), some (vI x1), none] [] h
  unfold w_Lw_valueOf at hw
  refine tq_aload_n dLw_valueOf_0 rfl rfl ?_
  refine tq_iload_n dLw_valueOf_1 rfl rfl ?_
  refine tq_callS ms_Lw_place (dc := 1) (as := [vR x0, vI x1]) (rest := []) kLw_13 (Nat.le_of_ble_eq_true rfl) (Nat.le_of_ble_eq_true rfl) rfl rfl (Nat.le_of_ble_eq_true rfl) dLw_valueOf_2 (s_Lw_place hw) (fun _ _ hx => False.elim hx) (tk_i fun v2 h1 hw => ?_)
  refine tq_istore_n (ls' := [some (vR x0), some (vI x1), some (vI v2)]) dLw_valueOf_5 rfl (Nat.le_of_ble_eq_true rfl) rfl ?_
  refine tq_iload_n dLw_valueOf_6 rfl rfl ?_
  refine tq_ifge (tgt := 14) dLw_valueOf_7 (by decide) (fun c3 => ?_) (fun c3 => ?_)
  · have hw := hw.1 c3
    refine tq_aload_n dLw_valueOf_14 rfl rfl ?_
    refine tq_iload_n dLw_valueOf_15 rfl rfl ?_
    refine tq_callS ms_Lw_value (dc := 0) (as := [vR x0, vI v2]) (rest := []) kLw_19 (Nat.le_of_ble_eq_true rfl) (Nat.le_of_ble_eq_true rfl) rfl rfl (Nat.le_of_ble_eq_true rfl) dLw_valueOf_16 (s_Lw_value hw) (fun _ _ hx => False.elim hx) (tk_i fun v5 h4 hw => ?_)
    exact tq_iret rfl rfl dLw_valueOf_19 hw
  · have hw := hw.2 c3
    refine tq_iconst (v := (-1 : Int32)) dLw_valueOf_10 tni_m1 ?_
    refine tq_goto (tgt := 19) dLw_valueOf_11 (by decide) ?_
    exact tq_iret rfl rfl dLw_valueOf_19 hw
/-! TLaw.reads -/
theorem dLw_reads_0 : decode (mB Lw_reads) 0 = .ok (.aload_n 2, 1) := by decide +kernel
theorem dLw_reads_1 : decode (mB Lw_reads) 1 = .ok (.iconst 0, 1) := by decide +kernel
theorem dLw_reads_2 : decode (mB Lw_reads) 2 = .ok (.aload_n 0, 1) := by decide +kernel
theorem dLw_reads_3 : decode (mB Lw_reads) 3 = .ok (.iload_n 1, 1) := by decide +kernel
theorem dLw_reads_4 : decode (mB Lw_reads) 4 = .ok (.invokevirtual 22, 3) := by decide +kernel
theorem dLw_reads_7 : decode (mB Lw_reads) 7 = .ok (.iastore, 1) := by decide +kernel
theorem dLw_reads_8 : decode (mB Lw_reads) 8 = .ok (.iconst 0, 1) := by decide +kernel
theorem dLw_reads_9 : decode (mB Lw_reads) 9 = .ok (.istore_n 3, 1) := by decide +kernel
theorem dLw_reads_10 : decode (mB Lw_reads) 10 = .ok (.iload_n 3, 1) := by decide +kernel
theorem dLw_reads_11 : decode (mB Lw_reads) 11 = .ok (.aload_n 2, 1) := by decide +kernel
theorem dLw_reads_12 : decode (mB Lw_reads) 12 = .ok (.iconst 0, 1) := by decide +kernel
theorem dLw_reads_13 : decode (mB Lw_reads) 13 = .ok (.iaload, 1) := by decide +kernel
theorem dLw_reads_14 : decode (mB Lw_reads) 14 = .ok (.if_icmp .ge 55, 3) := by decide +kernel
theorem dLw_reads_17 : decode (mB Lw_reads) 17 = .ok (.iload_n 3, 1) := by decide +kernel
theorem dLw_reads_18 : decode (mB Lw_reads) 18 = .ok (.bipush 40, 2) := by decide +kernel
theorem dLw_reads_20 : decode (mB Lw_reads) 20 = .ok (.if_icmp .ge 49, 3) := by decide +kernel
theorem dLw_reads_23 : decode (mB Lw_reads) 23 = .ok (.aload_n 0, 1) := by decide +kernel
theorem dLw_reads_24 : decode (mB Lw_reads) 24 = .ok (.iload_n 1, 1) := by decide +kernel
theorem dLw_reads_25 : decode (mB Lw_reads) 25 = .ok (.iload_n 3, 1) := by decide +kernel
theorem dLw_reads_26 : decode (mB Lw_reads) 26 = .ok (.invokevirtual 28, 3) := by decide +kernel
theorem dLw_reads_29 : decode (mB Lw_reads) 29 = .ok (.istore 4, 2) := by decide +kernel
theorem dLw_reads_31 : decode (mB Lw_reads) 31 = .ok (.aload_n 2, 1) := by decide +kernel
theorem dLw_reads_32 : decode (mB Lw_reads) 32 = .ok (.iconst 1, 1) := by decide +kernel
theorem dLw_reads_33 : decode (mB Lw_reads) 33 = .ok (.iload_n 3, 1) := by decide +kernel
theorem dLw_reads_34 : decode (mB Lw_reads) 34 = .ok (.iadd, 1) := by decide +kernel
theorem dLw_reads_35 : decode (mB Lw_reads) 35 = .ok (.iload 4, 2) := by decide +kernel
theorem dLw_reads_37 : decode (mB Lw_reads) 37 = .ok (.bipush 64, 2) := by decide +kernel
theorem dLw_reads_39 : decode (mB Lw_reads) 39 = .ok (.aload_n 0, 1) := by decide +kernel
theorem dLw_reads_40 : decode (mB Lw_reads) 40 = .ok (.iload_n 1, 1) := by decide +kernel
theorem dLw_reads_41 : decode (mB Lw_reads) 41 = .ok (.iload 4, 2) := by decide +kernel
theorem dLw_reads_43 : decode (mB Lw_reads) 43 = .ok (.invokevirtual 32, 3) := by decide +kernel
theorem dLw_reads_46 : decode (mB Lw_reads) 46 = .ok (.imul, 1) := by decide +kernel
theorem dLw_reads_47 : decode (mB Lw_reads) 47 = .ok (.iadd, 1) := by decide +kernel
theorem dLw_reads_48 : decode (mB Lw_reads) 48 = .ok (.sipush 8192, 3) := by decide +kernel
theorem dLw_reads_51 : decode (mB Lw_reads) 51 = .ok (.aload_n 0, 1) := by decide +kernel
theorem dLw_reads_52 : decode (mB Lw_reads) 52 = .ok (.iload_n 1, 1) := by decide +kernel
theorem dLw_reads_53 : decode (mB Lw_reads) 53 = .ok (.iload 4, 2) := by decide +kernel
theorem dLw_reads_55 : decode (mB Lw_reads) 55 = .ok (.invokevirtual 34, 3) := by decide +kernel
theorem dLw_reads_58 : decode (mB Lw_reads) 58 = .ok (.iconst 1, 1) := by decide +kernel
theorem dLw_reads_59 : decode (mB Lw_reads) 59 = .ok (.iadd, 1) := by decide +kernel
theorem dLw_reads_60 : decode (mB Lw_reads) 60 = .ok (.imul, 1) := by decide +kernel
theorem dLw_reads_61 : decode (mB Lw_reads) 61 = .ok (.iadd, 1) := by decide +kernel
theorem dLw_reads_62 : decode (mB Lw_reads) 62 = .ok (.iastore, 1) := by decide +kernel
theorem dLw_reads_63 : decode (mB Lw_reads) 63 = .ok (.iinc 3 1, 3) := by decide +kernel
theorem dLw_reads_66 : decode (mB Lw_reads) 66 = .ok (.goto (-56), 3) := by decide +kernel
theorem dLw_reads_69 : decode (mB Lw_reads) 69 = .ok (.return_, 1) := by decide +kernel
def b_Lw_reads_10 (R : tpH → Prop) (X : String → tpH → Prop) (Y : (Option Nat) → Int32 → (Option Nat) → Int32 → tpH → Prop) (x0 : Option Nat) (x1 : Int32) (x2 : Option Nat) (x3 : Int32) (h : tpH) : Prop :=
  ∃ a1, x2 = some a1 ∧ hT h a1 = 15 ∧ (vp_in (0 : Int32) (hL h a1) ∧ (((hI h a1 (0 : Int32).toNatClampNeg) ≤ x3 → (R h)) ∧ (¬ (hI h a1 (0 : Int32).toNatClampNeg) ≤ x3 → (((40 : Int32) ≤ x3 → (R h)) ∧ (¬ (40 : Int32) ≤ x3 → (∃ a7, x0 = some a7 ∧ hT h a7 = 13 ∧ (w_TP_markAt a7 x1 x3 h X (fun v11 h10 => hT h10 a7 = 13 ∧ (w_TP_value a7 x1 v11 h10 X (fun v14 h13 => hT h13 a7 = 13 ∧ (w_TP_parent a7 x1 v11 h13 X (fun v17 h16 => hT h16 a1 = 15 ∧ (vp_in ((1 : Int32) + x3) (hL h16 a1) ∧ (∀ h20, h20 = sI h16 a1 ((1 : Int32) + x3).toNatClampNeg ((v11 + ((64 : Int32) * v14)) + ((8192 : Int32) * (v17 + (1 : Int32)))) → (Y x0 x1 x2 (x3 + (1 : Int32)) h20)))))))))))))))
def w_Lw_reads_10 (R : tpH → Prop) (X : String → tpH → Prop) : Nat → (Option Nat) → Int32 → (Option Nat) → Int32 → tpH → Prop
  | 0 => fun _ _ _ _ _ => False
  | n + 1 => b_Lw_reads_10 R X (w_Lw_reads_10 R X n)
def w_Lw_reads (x0 : Option Nat) (x1 : Int32) (x2 : Option Nat) (h : tpH) (X : String → tpH → Prop) (R : tpH → Prop) : Prop :=
  ∃ a1, x0 = some a1 ∧ hT h a1 = 13 ∧ (w_TP_size a1 x1 h X (fun v5 h4 => ∃ a6, x2 = some a6 ∧ hT h4 a6 = 15 ∧ (vp_in (0 : Int32) (hL h4 a6) ∧ (∀ h10, h10 = sI h4 a6 (0 : Int32).toNatClampNeg v5 → (∃ n, w_Lw_reads_10 R X n x0 x1 x2 (0 : Int32) h10)))))
theorem s_Lw_reads_10 {h0 : tpH} {av : List tpV} {R : tpH → Prop} {X : String → tpH → Prop} : ∀ (n : Nat) (x0 : Option Nat) (x1 : Int32) (x2 : Option Nat) (x3 : Int32) (h : tpH), w_Lw_reads_10 R X n x0 x1 x2 x3 h → tpR Lw_reads 8 h0 av (tpOv R X) 10 [some (vR x0), some (vI x1), some (vR x2), some (vI x3), none] [] h := by
  intro n
  induction n with
  | zero => intro x0 x1 x2 x3 h hw; exact False.elim hw
  | succ n ih =>
    intro x0 x1 x2 x3 h hw
    change b_Lw_reads_10 R X (w_Lw_reads_10 R X n) x0 x1 x2 x3 h at hw
    unfold b_Lw_reads_10 at hw
    refine tq_iload_n dLw_reads_10 rfl rfl ?_
    refine tq_aload_n dLw_reads_11 rfl rfl ?_
    refine tq_iconst (v := (0 : Int32)) dLw_reads_12 tni_0 ?_
    obtain ⟨a1, e2, f3, hw⟩ := hw
    obtain ⟨f4, hw⟩ := hw
    refine te_iald dLw_reads_13 e2 (Or.inl f3) f4 ?_
    refine tq_icmpge (tgt := 69) dLw_reads_14 (by decide) (fun c5 => ?_) (fun c5 => ?_)
    · have hw := hw.1 c5
      exact tq_vret rfl dLw_reads_69 hw
    · have hw := hw.2 c5
      refine tq_iload_n dLw_reads_17 rfl rfl ?_
      refine tq_bipush (v := (40 : Int32)) dLw_reads_18 tnb_40 ?_
      refine tq_icmpge (tgt := 69) dLw_reads_20 (by decide) (fun c6 => ?_) (fun c6 => ?_)
      · have hw := hw.1 c6
        exact tq_vret rfl dLw_reads_69 hw
      · have hw := hw.2 c6
        refine tq_aload_n dLw_reads_23 rfl rfl ?_
        refine tq_iload_n dLw_reads_24 rfl rfl ?_
        refine tq_iload_n dLw_reads_25 rfl rfl ?_
        obtain ⟨a7, e8, f9, hw⟩ := hw
        refine te_callV mv_TP_markAt (ci := 12) (dc := 7) (as := [vI x1, vI x3]) (rest := []) kLw_28 rfl (Nat.le_of_ble_eq_true rfl) (Nat.le_of_ble_eq_true rfl) rfl rfl e8 f9 (Nat.le_of_ble_eq_true rfl) dLw_reads_26 (s_TP_markAt hw) (fun _ _ hx => tpXx.out rfl hx) (tk_i fun v11 h10 hw => ?_)
        refine tq_istore (ls' := [some (vR x0), some (vI x1), some (vR x2), some (vI x3), some (vI v11)]) dLw_reads_29 (Nat.le_of_ble_eq_true rfl) rfl ?_
        refine tq_aload_n dLw_reads_31 rfl rfl ?_
        refine tq_iconst (v := (1 : Int32)) dLw_reads_32 tni_1 ?_
        refine tq_iload_n dLw_reads_33 rfl rfl ?_
        refine tq_iadd dLw_reads_34 ?_
        refine tq_iload dLw_reads_35 rfl ?_
        refine tq_bipush (v := (64 : Int32)) dLw_reads_37 tnb_64 ?_
        refine tq_aload_n dLw_reads_39 rfl rfl ?_
        refine tq_iload_n dLw_reads_40 rfl rfl ?_
        refine tq_iload dLw_reads_41 rfl ?_
        obtain ⟨f12, hw⟩ := hw
        refine te_callV mv_TP_value (ci := 12) (dc := 7) (as := [vI x1, vI v11]) (rest := [vI (64 : Int32), vI v11, vI ((1 : Int32) + x3), vR x2]) kLw_32 rfl (Nat.le_of_ble_eq_true rfl) (Nat.le_of_ble_eq_true rfl) rfl rfl e8 f12 (Nat.le_of_ble_eq_true rfl) dLw_reads_43 (s_TP_value hw) (fun _ _ hx => tpXx.out rfl hx) (tk_i fun v14 h13 hw => ?_)
        refine tq_imul dLw_reads_46 ?_
        refine tq_iadd dLw_reads_47 ?_
        refine tq_sipush (v := (8192 : Int32)) dLw_reads_48 tns_8192 ?_
        refine tq_aload_n dLw_reads_51 rfl rfl ?_
        refine tq_iload_n dLw_reads_52 rfl rfl ?_
        refine tq_iload dLw_reads_53 rfl ?_
        obtain ⟨f15, hw⟩ := hw
        refine te_callV mv_TP_parent (ci := 12) (dc := 7) (as := [vI x1, vI v11]) (rest := [vI (8192 : Int32), vI (v11 + ((64 : Int32) * v14)), vI ((1 : Int32) + x3), vR x2]) kLw_34 rfl (Nat.le_of_ble_eq_true rfl) (Nat.le_of_ble_eq_true rfl) rfl rfl e8 f15 (Nat.le_of_ble_eq_true rfl) dLw_reads_55 (s_TP_parent hw) (fun _ _ hx => tpXx.out rfl hx) (tk_i fun v17 h16 hw => ?_)
        refine tq_iconst (v := (1 : Int32)) dLw_reads_58 tni_1 ?_
        refine tq_iadd dLw_reads_59 ?_
        refine tq_imul dLw_reads_60 ?_
        refine tq_iadd dLw_reads_61 ?_
        obtain ⟨f18, hw⟩ := hw
        obtain ⟨f19, hw⟩ := hw
        refine te_iast dLw_reads_62 e2 f18 f19 (fun h20 e21 => ?_)
        have hw := hw h20 e21
        refine tq_inc (k := (1 : Int32)) (ls' := [some (vR x0), some (vI x1), some (vR x2), some (vI (x3 + (1 : Int32))), some (vI v11)]) dLw_reads_63 rfl tni_1 (Nat.le_of_ble_eq_true rfl) rfl ?_
        refine tq_goto (tgt := 10) dLw_reads_66 (by decide) ?_
        refine tpR.fo (ls' := [some (vR x0), some (vI x1), some (vR x2), some (vI (x3 + (1 : Int32))), none]) ?_ (And.intro rfl (And.intro rfl (And.intro rfl (And.intro rfl trivial))))
        exact ih _ _ _ _ _ hw
theorem s_Lw_reads {x0 : Option Nat} {x1 : Int32} {x2 : Option Nat} {h : tpH} {R : tpH → Prop} {X : String → tpH → Prop} (hw : w_Lw_reads x0 x1 x2 h X R) : tpC Lw_reads 8 [vR x0, vI x1, vR x2] h (tpOv R X) := by
  refine tpC_of ms_Lw_reads.2.2.2.1 rfl rfl (Nat.le_of_ble_eq_true rfl) ?_
  show tpR Lw_reads 8 h _ _ 0 [some (vR x0), some (vI x1), some (vR x2), none, none] [] h
  unfold w_Lw_reads at hw
  refine tq_aload_n dLw_reads_0 rfl rfl ?_
  refine tq_iconst (v := (0 : Int32)) dLw_reads_1 tni_0 ?_
  refine tq_aload_n dLw_reads_2 rfl rfl ?_
  refine tq_iload_n dLw_reads_3 rfl rfl ?_
  obtain ⟨a1, e2, f3, hw⟩ := hw
  refine te_callV mv_TP_size (ci := 12) (dc := 7) (as := [vI x1]) (rest := [vI (0 : Int32), vR x2]) kLw_22 rfl (Nat.le_of_ble_eq_true rfl) (Nat.le_of_ble_eq_true rfl) rfl rfl e2 f3 (Nat.le_of_ble_eq_true rfl) dLw_reads_4 (s_TP_size hw) (fun _ _ hx => tpXx.out rfl hx) (tk_i fun v5 h4 hw => ?_)
  obtain ⟨a6, e7, f8, hw⟩ := hw
  obtain ⟨f9, hw⟩ := hw
  refine te_iast dLw_reads_7 e7 f8 f9 (fun h10 e11 => ?_)
  have hw := hw h10 e11
  refine tq_iconst (v := (0 : Int32)) dLw_reads_8 tni_0 ?_
  refine tq_istore_n (ls' := [some (vR x0), some (vI x1), some (vR x2), some (vI (0 : Int32)), none]) dLw_reads_9 rfl (Nat.le_of_ble_eq_true rfl) rfl ?_
  refine tpR.fo (ls' := [some (vR x0), some (vI x1), some (vR x2), some (vI (0 : Int32)), none]) ?_ (And.intro rfl (And.intro rfl (And.intro rfl (And.intro rfl trivial))))
  obtain ⟨n, hw⟩ := hw
  exact s_Lw_reads_10 n _ _ _ _ _ hw
/-! TLaw.children -/
theorem dLw_children_0 : decode (mB Lw_children) 0 = .ok (.iconst 0, 1) := by decide +kernel
theorem dLw_children_1 : decode (mB Lw_children) 1 = .ok (.istore 4, 2) := by decide +kernel
theorem dLw_children_3 : decode (mB Lw_children) 3 = .ok (.iconst 0, 1) := by decide +kernel
theorem dLw_children_4 : decode (mB Lw_children) 4 = .ok (.istore 5, 2) := by decide +kernel
theorem dLw_children_6 : decode (mB Lw_children) 6 = .ok (.iload 5, 2) := by decide +kernel
theorem dLw_children_8 : decode (mB Lw_children) 8 = .ok (.aload_n 0, 1) := by decide +kernel
theorem dLw_children_9 : decode (mB Lw_children) 9 = .ok (.iconst 0, 1) := by decide +kernel
theorem dLw_children_10 : decode (mB Lw_children) 10 = .ok (.iaload, 1) := by decide +kernel
theorem dLw_children_11 : decode (mB Lw_children) 11 = .ok (.if_icmp .ge 89, 3) := by decide +kernel
theorem dLw_children_14 : decode (mB Lw_children) 14 = .ok (.aload_n 0, 1) := by decide +kernel
theorem dLw_children_15 : decode (mB Lw_children) 15 = .ok (.iload 5, 2) := by decide +kernel
theorem dLw_children_17 : decode (mB Lw_children) 17 = .ok (.invokestatic 16, 3) := by decide +kernel
theorem dLw_children_20 : decode (mB Lw_children) 20 = .ok (.iload_n 2, 1) := by decide +kernel
theorem dLw_children_21 : decode (mB Lw_children) 21 = .ok (.if_icmp .ne 73, 3) := by decide +kernel
theorem dLw_children_24 : decode (mB Lw_children) 24 = .ok (.aload_n 0, 1) := by decide +kernel
theorem dLw_children_25 : decode (mB Lw_children) 25 = .ok (.iload 5, 2) := by decide +kernel
theorem dLw_children_27 : decode (mB Lw_children) 27 = .ok (.invokestatic 7, 3) := by decide +kernel
theorem dLw_children_30 : decode (mB Lw_children) 30 = .ok (.iload_n 2, 1) := by decide +kernel
theorem dLw_children_31 : decode (mB Lw_children) 31 = .ok (.if_icmp .eq 63, 3) := by decide +kernel
theorem dLw_children_34 : decode (mB Lw_children) 34 = .ok (.iload 4, 2) := by decide +kernel
theorem dLw_children_36 : decode (mB Lw_children) 36 = .ok (.istore 6, 2) := by decide +kernel
theorem dLw_children_38 : decode (mB Lw_children) 38 = .ok (.iload 6, 2) := by decide +kernel
theorem dLw_children_40 : decode (mB Lw_children) 40 = .ok (.ifCond .le 41, 3) := by decide +kernel
theorem dLw_children_43 : decode (mB Lw_children) 43 = .ok (.aload_n 1, 1) := by decide +kernel
theorem dLw_children_44 : decode (mB Lw_children) 44 = .ok (.iload_n 2, 1) := by decide +kernel
theorem dLw_children_45 : decode (mB Lw_children) 45 = .ok (.iaload, 1) := by decide +kernel
theorem dLw_children_46 : decode (mB Lw_children) 46 = .ok (.iconst 3, 1) := by decide +kernel
theorem dLw_children_47 : decode (mB Lw_children) 47 = .ok (.if_icmp .le 34, 3) := by decide +kernel
theorem dLw_children_50 : decode (mB Lw_children) 50 = .ok (.aload_n 3, 1) := by decide +kernel
theorem dLw_children_51 : decode (mB Lw_children) 51 = .ok (.iload 6, 2) := by decide +kernel
theorem dLw_children_53 : decode (mB Lw_children) 53 = .ok (.iconst 1, 1) := by decide +kernel
theorem dLw_children_54 : decode (mB Lw_children) 54 = .ok (.isub, 1) := by decide +kernel
theorem dLw_children_55 : decode (mB Lw_children) 55 = .ok (.iaload, 1) := by decide +kernel
theorem dLw_children_56 : decode (mB Lw_children) 56 = .ok (.aload_n 0, 1) := by decide +kernel
theorem dLw_children_57 : decode (mB Lw_children) 57 = .ok (.iload 5, 2) := by decide +kernel
theorem dLw_children_59 : decode (mB Lw_children) 59 = .ok (.invokestatic 7, 3) := by decide +kernel
theorem dLw_children_62 : decode (mB Lw_children) 62 = .ok (.if_icmp .le 19, 3) := by decide +kernel
theorem dLw_children_65 : decode (mB Lw_children) 65 = .ok (.aload_n 3, 1) := by decide +kernel
theorem dLw_children_66 : decode (mB Lw_children) 66 = .ok (.iload 6, 2) := by decide +kernel
theorem dLw_children_68 : decode (mB Lw_children) 68 = .ok (.aload_n 3, 1) := by decide +kernel
theorem dLw_children_69 : decode (mB Lw_children) 69 = .ok (.iload 6, 2) := by decide +kernel
theorem dLw_children_71 : decode (mB Lw_children) 71 = .ok (.iconst 1, 1) := by decide +kernel
theorem dLw_children_72 : decode (mB Lw_children) 72 = .ok (.isub, 1) := by decide +kernel
theorem dLw_children_73 : decode (mB Lw_children) 73 = .ok (.iaload, 1) := by decide +kernel
theorem dLw_children_74 : decode (mB Lw_children) 74 = .ok (.iastore, 1) := by decide +kernel
theorem dLw_children_75 : decode (mB Lw_children) 75 = .ok (.iinc 6 (-1), 3) := by decide +kernel
theorem dLw_children_78 : decode (mB Lw_children) 78 = .ok (.goto (-40), 3) := by decide +kernel
theorem dLw_children_81 : decode (mB Lw_children) 81 = .ok (.aload_n 3, 1) := by decide +kernel
theorem dLw_children_82 : decode (mB Lw_children) 82 = .ok (.iload 6, 2) := by decide +kernel
theorem dLw_children_84 : decode (mB Lw_children) 84 = .ok (.aload_n 0, 1) := by decide +kernel
theorem dLw_children_85 : decode (mB Lw_children) 85 = .ok (.iload 5, 2) := by decide +kernel
theorem dLw_children_87 : decode (mB Lw_children) 87 = .ok (.invokestatic 7, 3) := by decide +kernel
theorem dLw_children_90 : decode (mB Lw_children) 90 = .ok (.iastore, 1) := by decide +kernel
theorem dLw_children_91 : decode (mB Lw_children) 91 = .ok (.iinc 4 1, 3) := by decide +kernel
theorem dLw_children_94 : decode (mB Lw_children) 94 = .ok (.iinc 5 1, 3) := by decide +kernel
theorem dLw_children_97 : decode (mB Lw_children) 97 = .ok (.goto (-91), 3) := by decide +kernel
theorem dLw_children_100 : decode (mB Lw_children) 100 = .ok (.iload 4, 2) := by decide +kernel
theorem dLw_children_102 : decode (mB Lw_children) 102 = .ok (.ireturn, 1) := by decide +kernel
def w_Lw_children_81 (R : Int32 → tpH → Prop) (K6 : (Option Nat) → (Option Nat) → Int32 → (Option Nat) → Int32 → Int32 → tpH → Prop) (x0 : Option Nat) (x1 : Option Nat) (x2 : Int32) (x3 : Option Nat) (x4 : Int32) (x5 : Int32) (x6 : Int32) (h : tpH) : Prop :=
  w_Lw_mark x0 x5 h (fun v2 h1 => ∃ a3, x3 = some a3 ∧ hT h1 a3 = 15 ∧ (vp_in x6 (hL h1 a3) ∧ (∀ h7, h7 = sI h1 a3 x6.toNatClampNeg v2 → (K6 x0 x1 x2 x3 (x4 + (1 : Int32)) (x5 + (1 : Int32)) h7))))
def b_Lw_children_38 (R : Int32 → tpH → Prop) (K6 : (Option Nat) → (Option Nat) → Int32 → (Option Nat) → Int32 → Int32 → tpH → Prop) (Y : (Option Nat) → (Option Nat) → Int32 → (Option Nat) → Int32 → Int32 → Int32 → tpH → Prop) (x0 : Option Nat) (x1 : Option Nat) (x2 : Int32) (x3 : Option Nat) (x4 : Int32) (x5 : Int32) (x6 : Int32) (h : tpH) : Prop :=
  (x6 ≤ 0 → (w_Lw_children_81 R K6 x0 x1 x2 x3 x4 x5 x6 h)) ∧ (¬ x6 ≤ 0 → (∃ a2, x1 = some a2 ∧ hT h a2 = 15 ∧ (vp_in x2 (hL h a2) ∧ (((hI h a2 x2.toNatClampNeg) ≤ (3 : Int32) → (w_Lw_children_81 R K6 x0 x1 x2 x3 x4 x5 x6 h)) ∧ (¬ (hI h a2 x2.toNatClampNeg) ≤ (3 : Int32) → (∃ a7, x3 = some a7 ∧ hT h a7 = 15 ∧ (vp_in (x6 - (1 : Int32)) (hL h a7) ∧ (w_Lw_mark x0 x5 h (fun v12 h11 => ((hI h a7 (x6 - (1 : Int32)).toNatClampNeg) ≤ v12 → (w_Lw_children_81 R K6 x0 x1 x2 x3 x4 x5 x6 h11)) ∧ (¬ (hI h a7 (x6 - (1 : Int32)).toNatClampNeg) ≤ v12 → (hT h11 a7 = 15 ∧ (vp_in (x6 - (1 : Int32)) (hL h11 a7) ∧ (vp_in x6 (hL h11 a7) ∧ (∀ h17, h17 = sI h11 a7 x6.toNatClampNeg (hI h11 a7 (x6 - (1 : Int32)).toNatClampNeg) → (Y x0 x1 x2 x3 x4 x5 (x6 + (-1 : Int32)) h17)))))))))))))))
def w_Lw_children_38 (R : Int32 → tpH → Prop) (K6 : (Option Nat) → (Option Nat) → Int32 → (Option Nat) → Int32 → Int32 → tpH → Prop) : Nat → (Option Nat) → (Option Nat) → Int32 → (Option Nat) → Int32 → Int32 → Int32 → tpH → Prop
  | 0 => fun _ _ _ _ _ _ _ _ => False
  | n + 1 => b_Lw_children_38 R K6 (w_Lw_children_38 R K6 n)
def b_Lw_children_6 (R : Int32 → tpH → Prop) (Y : (Option Nat) → (Option Nat) → Int32 → (Option Nat) → Int32 → Int32 → tpH → Prop) (x0 : Option Nat) (x1 : Option Nat) (x2 : Int32) (x3 : Option Nat) (x4 : Int32) (x5 : Int32) (h : tpH) : Prop :=
  ∃ a1, x0 = some a1 ∧ hT h a1 = 15 ∧ (vp_in (0 : Int32) (hL h a1) ∧ (((hI h a1 (0 : Int32).toNatClampNeg) ≤ x5 → (R x4 h)) ∧ (¬ (hI h a1 (0 : Int32).toNatClampNeg) ≤ x5 → (w_Lw_parent x0 x5 h (fun v7 h6 => (¬ v7 = x2 → (Y x0 x1 x2 x3 x4 (x5 + (1 : Int32)) h6)) ∧ (v7 = x2 → (w_Lw_mark x0 x5 h6 (fun v10 h9 => (v10 = x2 → (Y x0 x1 x2 x3 x4 (x5 + (1 : Int32)) h9)) ∧ (¬ v10 = x2 → (∃ n, w_Lw_children_38 R Y n x0 x1 x2 x3 x4 x5 x4 h9))))))))))
def w_Lw_children_6 (R : Int32 → tpH → Prop) : Nat → (Option Nat) → (Option Nat) → Int32 → (Option Nat) → Int32 → Int32 → tpH → Prop
  | 0 => fun _ _ _ _ _ _ _ => False
  | n + 1 => b_Lw_children_6 R (w_Lw_children_6 R n)
def w_Lw_children (x0 : Option Nat) (x1 : Option Nat) (x2 : Int32) (x3 : Option Nat) (h : tpH) (R : Int32 → tpH → Prop) : Prop :=
  ∃ n, w_Lw_children_6 R n x0 x1 x2 x3 (0 : Int32) (0 : Int32) h
theorem s_Lw_children_81 {h0 : tpH} {av : List tpV} {R : Int32 → tpH → Prop} {K6 : (Option Nat) → (Option Nat) → Int32 → (Option Nat) → Int32 → Int32 → tpH → Prop} (k6 : ∀ (x0 : Option Nat) (x1 : Option Nat) (x2 : Int32) (x3 : Option Nat) (x4 : Int32) (x5 : Int32) (h : tpH), K6 x0 x1 x2 x3 x4 x5 h → tpR Lw_children 1 h0 av (tpOi R (fun _ _ => False)) 6 [some (vR x0), some (vR x1), some (vI x2), some (vR x3), some (vI x4), some (vI x5), none] [] h) : ∀ (x0 : Option Nat) (x1 : Option Nat) (x2 : Int32) (x3 : Option Nat) (x4 : Int32) (x5 : Int32) (x6 : Int32) (h : tpH), w_Lw_children_81 R K6 x0 x1 x2 x3 x4 x5 x6 h → tpR Lw_children 1 h0 av (tpOi R (fun _ _ => False)) 81 [some (vR x0), some (vR x1), some (vI x2), some (vR x3), some (vI x4), some (vI x5), some (vI x6)] [] h := by
  intro x0 x1 x2 x3 x4 x5 x6 h hw
  unfold w_Lw_children_81 at hw
  refine tq_aload_n dLw_children_81 rfl rfl ?_
  refine tq_iload dLw_children_82 rfl ?_
  refine tq_aload_n dLw_children_84 rfl rfl ?_
  refine tq_iload dLw_children_85 rfl ?_
  refine tq_callS ms_Lw_mark (dc := 0) (as := [vR x0, vI x5]) (rest := [vI x6, vR x3]) kLw_7 (Nat.le_of_ble_eq_true rfl) (Nat.le_of_ble_eq_true rfl) rfl rfl (Nat.le_of_ble_eq_true rfl) dLw_children_87 (s_Lw_mark hw) (fun _ _ hx => False.elim hx) (tk_i fun v2 h1 hw => ?_)
  obtain ⟨a3, e4, f5, hw⟩ := hw
  obtain ⟨f6, hw⟩ := hw
  refine te_iast dLw_children_90 e4 f5 f6 (fun h7 e8 => ?_)
  have hw := hw h7 e8
  refine tq_inc (k := (1 : Int32)) (ls' := [some (vR x0), some (vR x1), some (vI x2), some (vR x3), some (vI (x4 + (1 : Int32))), some (vI x5), some (vI x6)]) dLw_children_91 rfl tni_1 (Nat.le_of_ble_eq_true rfl) rfl ?_
  refine tq_inc (k := (1 : Int32)) (ls' := [some (vR x0), some (vR x1), some (vI x2), some (vR x3), some (vI (x4 + (1 : Int32))), some (vI (x5 + (1 : Int32))), some (vI x6)]) dLw_children_94 rfl tni_1 (Nat.le_of_ble_eq_true rfl) rfl ?_
  refine tq_goto (tgt := 6) dLw_children_97 (by decide) ?_
  refine tpR.fo (ls' := [some (vR x0), some (vR x1), some (vI x2), some (vR x3), some (vI (x4 + (1 : Int32))), some (vI (x5 + (1 : Int32))), none]) ?_ (And.intro rfl (And.intro rfl (And.intro rfl (And.intro rfl (And.intro rfl (And.intro rfl trivial))))))
  exact k6 _ _ _ _ _ _ _ hw
theorem s_Lw_children_38 {h0 : tpH} {av : List tpV} {R : Int32 → tpH → Prop} {K6 : (Option Nat) → (Option Nat) → Int32 → (Option Nat) → Int32 → Int32 → tpH → Prop} (k6 : ∀ (x0 : Option Nat) (x1 : Option Nat) (x2 : Int32) (x3 : Option Nat) (x4 : Int32) (x5 : Int32) (h : tpH), K6 x0 x1 x2 x3 x4 x5 h → tpR Lw_children 1 h0 av (tpOi R (fun _ _ => False)) 6 [some (vR x0), some (vR x1), some (vI x2), some (vR x3), some (vI x4), some (vI x5), none] [] h) : ∀ (n : Nat) (x0 : Option Nat) (x1 : Option Nat) (x2 : Int32) (x3 : Option Nat) (x4 : Int32) (x5 : Int32) (x6 : Int32) (h : tpH), w_Lw_children_38 R K6 n x0 x1 x2 x3 x4 x5 x6 h → tpR Lw_children 1 h0 av (tpOi R (fun _ _ => False)) 38 [some (vR x0), some (vR x1), some (vI x2), some (vR x3), some (vI x4), some (vI x5), some (vI x6)] [] h := by
  intro n
  induction n with
  | zero => intro x0 x1 x2 x3 x4 x5 x6 h hw; exact False.elim hw
  | succ n ih =>
    intro x0 x1 x2 x3 x4 x5 x6 h hw
    change b_Lw_children_38 R K6 (w_Lw_children_38 R K6 n) x0 x1 x2 x3 x4 x5 x6 h at hw
    unfold b_Lw_children_38 at hw
    refine tq_iload dLw_children_38 rfl ?_
    refine tq_ifle (tgt := 81) dLw_children_40 (by decide) (fun c1 => ?_) (fun c1 => ?_)
    · have hw := hw.1 c1
      refine tpR.fo (ls' := [some (vR x0), some (vR x1), some (vI x2), some (vR x3), some (vI x4), some (vI x5), some (vI x6)]) ?_ (And.intro rfl (And.intro rfl (And.intro rfl (And.intro rfl (And.intro rfl (And.intro rfl (And.intro rfl trivial)))))))
      exact s_Lw_children_81 k6 _ _ _ _ _ _ _ _ hw
    · have hw := hw.2 c1
      refine tq_aload_n dLw_children_43 rfl rfl ?_
      refine tq_iload_n dLw_children_44 rfl rfl ?_
      obtain ⟨a2, e3, f4, hw⟩ := hw
      obtain ⟨f5, hw⟩ := hw
      refine te_iald dLw_children_45 e3 (Or.inl f4) f5 ?_
      refine tq_iconst (v := (3 : Int32)) dLw_children_46 tni_3 ?_
      refine tq_icmple (tgt := 81) dLw_children_47 (by decide) (fun c6 => ?_) (fun c6 => ?_)
      · have hw := hw.1 c6
        refine tpR.fo (ls' := [some (vR x0), some (vR x1), some (vI x2), some (vR x3), some (vI x4), some (vI x5), some (vI x6)]) ?_ (And.intro rfl (And.intro rfl (And.intro rfl (And.intro rfl (And.intro rfl (And.intro rfl (And.intro rfl trivial)))))))
        exact s_Lw_children_81 k6 _ _ _ _ _ _ _ _ hw
      · have hw := hw.2 c6
        refine tq_aload_n dLw_children_50 rfl rfl ?_
        refine tq_iload dLw_children_51 rfl ?_
        refine tq_iconst (v := (1 : Int32)) dLw_children_53 tni_1 ?_
        refine tq_isub dLw_children_54 ?_
        obtain ⟨a7, e8, f9, hw⟩ := hw
        obtain ⟨f10, hw⟩ := hw
        refine te_iald dLw_children_55 e8 (Or.inl f9) f10 ?_
        refine tq_aload_n dLw_children_56 rfl rfl ?_
        refine tq_iload dLw_children_57 rfl ?_
        refine tq_callS ms_Lw_mark (dc := 0) (as := [vR x0, vI x5]) (rest := [vI (hI h a7 (x6 - (1 : Int32)).toNatClampNeg)]) kLw_7 (Nat.le_of_ble_eq_true rfl) (Nat.le_of_ble_eq_true rfl) rfl rfl (Nat.le_of_ble_eq_true rfl) dLw_children_59 (s_Lw_mark hw) (fun _ _ hx => False.elim hx) (tk_i fun v12 h11 hw => ?_)
        refine tq_icmple (tgt := 81) dLw_children_62 (by decide) (fun c13 => ?_) (fun c13 => ?_)
        · have hw := hw.1 c13
          refine tpR.fo (ls' := [some (vR x0), some (vR x1), some (vI x2), some (vR x3), some (vI x4), some (vI x5), some (vI x6)]) ?_ (And.intro rfl (And.intro rfl (And.intro rfl (And.intro rfl (And.intro rfl (And.intro rfl (And.intro rfl trivial)))))))
          exact s_Lw_children_81 k6 _ _ _ _ _ _ _ _ hw
        · have hw := hw.2 c13
          refine tq_aload_n dLw_children_65 rfl rfl ?_
          refine tq_iload dLw_children_66 rfl ?_
          refine tq_aload_n dLw_children_68 rfl rfl ?_
          refine tq_iload dLw_children_69 rfl ?_
          refine tq_iconst (v := (1 : Int32)) dLw_children_71 tni_1 ?_
          refine tq_isub dLw_children_72 ?_
          obtain ⟨f14, hw⟩ := hw
          obtain ⟨f15, hw⟩ := hw
          refine te_iald dLw_children_73 e8 (Or.inl f14) f15 ?_
          obtain ⟨f16, hw⟩ := hw
          refine te_iast dLw_children_74 e8 f14 f16 (fun h17 e18 => ?_)
          have hw := hw h17 e18
          refine tq_inc (k := (-1 : Int32)) (ls' := [some (vR x0), some (vR x1), some (vI x2), some (vR x3), some (vI x4), some (vI x5), some (vI (x6 + (-1 : Int32)))]) dLw_children_75 rfl tni_m1 (Nat.le_of_ble_eq_true rfl) rfl ?_
          refine tq_goto (tgt := 38) dLw_children_78 (by decide) ?_
          refine tpR.fo (ls' := [some (vR x0), some (vR x1), some (vI x2), some (vR x3), some (vI x4), some (vI x5), some (vI (x6 + (-1 : Int32)))]) ?_ (And.intro rfl (And.intro rfl (And.intro rfl (And.intro rfl (And.intro rfl (And.intro rfl (And.intro rfl trivial)))))))
          exact ih _ _ _ _ _ _ _ _ hw
theorem s_Lw_children_6 {h0 : tpH} {av : List tpV} {R : Int32 → tpH → Prop} : ∀ (n : Nat) (x0 : Option Nat) (x1 : Option Nat) (x2 : Int32) (x3 : Option Nat) (x4 : Int32) (x5 : Int32) (h : tpH), w_Lw_children_6 R n x0 x1 x2 x3 x4 x5 h → tpR Lw_children 1 h0 av (tpOi R (fun _ _ => False)) 6 [some (vR x0), some (vR x1), some (vI x2), some (vR x3), some (vI x4), some (vI x5), none] [] h := by
  intro n
  induction n with
  | zero => intro x0 x1 x2 x3 x4 x5 h hw; exact False.elim hw
  | succ n ih =>
    intro x0 x1 x2 x3 x4 x5 h hw
    change b_Lw_children_6 R (w_Lw_children_6 R n) x0 x1 x2 x3 x4 x5 h at hw
    unfold b_Lw_children_6 at hw
    refine tq_iload dLw_children_6 rfl ?_
    refine tq_aload_n dLw_children_8 rfl rfl ?_
    refine tq_iconst (v := (0 : Int32)) dLw_children_9 tni_0 ?_
    obtain ⟨a1, e2, f3, hw⟩ := hw
    obtain ⟨f4, hw⟩ := hw
    refine te_iald dLw_children_10 e2 (Or.inl f3) f4 ?_
    refine tq_icmpge (tgt := 100) dLw_children_11 (by decide) (fun c5 => ?_) (fun c5 => ?_)
    · have hw := hw.1 c5
      refine tq_iload dLw_children_100 rfl ?_
      exact tq_iret rfl rfl dLw_children_102 hw
    · have hw := hw.2 c5
      refine tq_aload_n dLw_children_14 rfl rfl ?_
      refine tq_iload dLw_children_15 rfl ?_
      refine tq_callS ms_Lw_parent (dc := 0) (as := [vR x0, vI x5]) (rest := []) kLw_16 (Nat.le_of_ble_eq_true rfl) (Nat.le_of_ble_eq_true rfl) rfl rfl (Nat.le_of_ble_eq_true rfl) dLw_children_17 (s_Lw_parent hw) (fun _ _ hx => False.elim hx) (tk_i fun v7 h6 hw => ?_)
      refine tq_iload_n dLw_children_20 rfl rfl ?_
      refine tq_icmpne (tgt := 94) dLw_children_21 (by decide) (fun c8 => ?_) (fun c8 => ?_)
      · have hw := hw.1 c8
        refine tq_inc (k := (1 : Int32)) (ls' := [some (vR x0), some (vR x1), some (vI x2), some (vR x3), some (vI x4), some (vI (x5 + (1 : Int32))), none]) dLw_children_94 rfl tni_1 (Nat.le_of_ble_eq_true rfl) rfl ?_
        refine tq_goto (tgt := 6) dLw_children_97 (by decide) ?_
        refine tpR.fo (ls' := [some (vR x0), some (vR x1), some (vI x2), some (vR x3), some (vI x4), some (vI (x5 + (1 : Int32))), none]) ?_ (And.intro rfl (And.intro rfl (And.intro rfl (And.intro rfl (And.intro rfl (And.intro rfl trivial))))))
        exact ih _ _ _ _ _ _ _ hw
      · have hw := hw.2 c8
        refine tq_aload_n dLw_children_24 rfl rfl ?_
        refine tq_iload dLw_children_25 rfl ?_
        refine tq_callS ms_Lw_mark (dc := 0) (as := [vR x0, vI x5]) (rest := []) kLw_7 (Nat.le_of_ble_eq_true rfl) (Nat.le_of_ble_eq_true rfl) rfl rfl (Nat.le_of_ble_eq_true rfl) dLw_children_27 (s_Lw_mark hw) (fun _ _ hx => False.elim hx) (tk_i fun v10 h9 hw => ?_)
        refine tq_iload_n dLw_children_30 rfl rfl ?_
        refine tq_icmpeq (tgt := 94) dLw_children_31 (by decide) (fun c11 => ?_) (fun c11 => ?_)
        · have hw := hw.1 c11
          refine tq_inc (k := (1 : Int32)) (ls' := [some (vR x0), some (vR x1), some (vI x2), some (vR x3), some (vI x4), some (vI (x5 + (1 : Int32))), none]) dLw_children_94 rfl tni_1 (Nat.le_of_ble_eq_true rfl) rfl ?_
          refine tq_goto (tgt := 6) dLw_children_97 (by decide) ?_
          refine tpR.fo (ls' := [some (vR x0), some (vR x1), some (vI x2), some (vR x3), some (vI x4), some (vI (x5 + (1 : Int32))), none]) ?_ (And.intro rfl (And.intro rfl (And.intro rfl (And.intro rfl (And.intro rfl (And.intro rfl trivial))))))
          exact ih _ _ _ _ _ _ _ hw
        · have hw := hw.2 c11
          refine tq_iload dLw_children_34 rfl ?_
          refine tq_istore (ls' := [some (vR x0), some (vR x1), some (vI x2), some (vR x3), some (vI x4), some (vI x5), some (vI x4)]) dLw_children_36 (Nat.le_of_ble_eq_true rfl) rfl ?_
          refine tpR.fo (ls' := [some (vR x0), some (vR x1), some (vI x2), some (vR x3), some (vI x4), some (vI x5), some (vI x4)]) ?_ (And.intro rfl (And.intro rfl (And.intro rfl (And.intro rfl (And.intro rfl (And.intro rfl (And.intro rfl trivial)))))))
          obtain ⟨n, hw⟩ := hw
          exact s_Lw_children_38 ih n _ _ _ _ _ _ _ _ hw
theorem s_Lw_children {x0 : Option Nat} {x1 : Option Nat} {x2 : Int32} {x3 : Option Nat} {h : tpH} {R : Int32 → tpH → Prop} (hw : w_Lw_children x0 x1 x2 x3 h R) : tpC Lw_children 1 [vR x0, vR x1, vI x2, vR x3] h (tpOi R (fun _ _ => False)) := by
  refine tpC_of ms_Lw_children.2.2.2.1 rfl rfl (Nat.le_of_ble_eq_true rfl) ?_
  show tpR Lw_children 1 h _ _ 0 [some (vR x0), some (vR x1), some (vI x2), some (vR x3), none, none, none] [] h
  unfold w_Lw_children at hw
  refine tq_iconst (v := (0 : Int32)) dLw_children_0 tni_0 ?_
  refine tq_istore (ls' := [some (vR x0), some (vR x1), some (vI x2), some (vR x3), some (vI (0 : Int32)), none, none]) dLw_children_1 (Nat.le_of_ble_eq_true rfl) rfl ?_
  refine tq_iconst (v := (0 : Int32)) dLw_children_3 tni_0 ?_
  refine tq_istore (ls' := [some (vR x0), some (vR x1), some (vI x2), some (vR x3), some (vI (0 : Int32)), some (vI (0 : Int32)), none]) dLw_children_4 (Nat.le_of_ble_eq_true rfl) rfl ?_
  refine tpR.fo (ls' := [some (vR x0), some (vR x1), some (vI x2), some (vR x3), some (vI (0 : Int32)), some (vI (0 : Int32)), none]) ?_ (And.intro rfl (And.intro rfl (And.intro rfl (And.intro rfl (And.intro rfl (And.intro rfl trivial))))))
  obtain ⟨n, hw⟩ := hw
  exact s_Lw_children_6 n _ _ _ _ _ _ _ hw
/-! TLaw.puts -/
theorem dLw_puts_0 : decode (mB Lw_puts) 0 = .ok (.aload_n 0, 1) := by decide +kernel
theorem dLw_puts_1 : decode (mB Lw_puts) 1 = .ok (.iconst 0, 1) := by decide +kernel
theorem dLw_puts_2 : decode (mB Lw_puts) 2 = .ok (.iaload, 1) := by decide +kernel
theorem dLw_puts_3 : decode (mB Lw_puts) 3 = .ok (.istore_n 3, 1) := by decide +kernel
theorem dLw_puts_4 : decode (mB Lw_puts) 4 = .ok (.iload_n 3, 1) := by decide +kernel
theorem dLw_puts_5 : decode (mB Lw_puts) 5 = .ok (.iload_n 1, 1) := by decide +kernel
theorem dLw_puts_6 : decode (mB Lw_puts) 6 = .ok (.if_icmp .le 17, 3) := by decide +kernel
theorem dLw_puts_9 : decode (mB Lw_puts) 9 = .ok (.aload_n 0, 1) := by decide +kernel
theorem dLw_puts_10 : decode (mB Lw_puts) 10 = .ok (.iconst 1, 1) := by decide +kernel
theorem dLw_puts_11 : decode (mB Lw_puts) 11 = .ok (.iload_n 3, 1) := by decide +kernel
theorem dLw_puts_12 : decode (mB Lw_puts) 12 = .ok (.iadd, 1) := by decide +kernel
theorem dLw_puts_13 : decode (mB Lw_puts) 13 = .ok (.aload_n 0, 1) := by decide +kernel
theorem dLw_puts_14 : decode (mB Lw_puts) 14 = .ok (.iload_n 3, 1) := by decide +kernel
theorem dLw_puts_15 : decode (mB Lw_puts) 15 = .ok (.iaload, 1) := by decide +kernel
theorem dLw_puts_16 : decode (mB Lw_puts) 16 = .ok (.iastore, 1) := by decide +kernel
theorem dLw_puts_17 : decode (mB Lw_puts) 17 = .ok (.iinc 3 (-1), 3) := by decide +kernel
theorem dLw_puts_20 : decode (mB Lw_puts) 20 = .ok (.goto (-16), 3) := by decide +kernel
theorem dLw_puts_23 : decode (mB Lw_puts) 23 = .ok (.aload_n 0, 1) := by decide +kernel
theorem dLw_puts_24 : decode (mB Lw_puts) 24 = .ok (.iconst 1, 1) := by decide +kernel
theorem dLw_puts_25 : decode (mB Lw_puts) 25 = .ok (.iload_n 1, 1) := by decide +kernel
theorem dLw_puts_26 : decode (mB Lw_puts) 26 = .ok (.iadd, 1) := by decide +kernel
theorem dLw_puts_27 : decode (mB Lw_puts) 27 = .ok (.iload_n 2, 1) := by decide +kernel
theorem dLw_puts_28 : decode (mB Lw_puts) 28 = .ok (.iastore, 1) := by decide +kernel
theorem dLw_puts_29 : decode (mB Lw_puts) 29 = .ok (.aload_n 0, 1) := by decide +kernel
theorem dLw_puts_30 : decode (mB Lw_puts) 30 = .ok (.iconst 0, 1) := by decide +kernel
theorem dLw_puts_31 : decode (mB Lw_puts) 31 = .ok (.dup2, 1) := by decide +kernel
theorem dLw_puts_32 : decode (mB Lw_puts) 32 = .ok (.iaload, 1) := by decide +kernel
theorem dLw_puts_33 : decode (mB Lw_puts) 33 = .ok (.iconst 1, 1) := by decide +kernel
theorem dLw_puts_34 : decode (mB Lw_puts) 34 = .ok (.iadd, 1) := by decide +kernel
theorem dLw_puts_35 : decode (mB Lw_puts) 35 = .ok (.iastore, 1) := by decide +kernel
theorem dLw_puts_36 : decode (mB Lw_puts) 36 = .ok (.return_, 1) := by decide +kernel
def b_Lw_puts_4 (R : tpH → Prop) (Y : (Option Nat) → Int32 → Int32 → Int32 → tpH → Prop) (x0 : Option Nat) (x1 : Int32) (x2 : Int32) (x3 : Int32) (h : tpH) : Prop :=
  (x3 ≤ x1 → (∃ a2, x0 = some a2 ∧ hT h a2 = 15 ∧ (vp_in ((1 : Int32) + x1) (hL h a2) ∧ (∀ h6, h6 = sI h a2 ((1 : Int32) + x1).toNatClampNeg x2 → (vp_in (0 : Int32) (hL h6 a2) ∧ (vp_in (0 : Int32) (hL h6 a2) ∧ (∀ h10, h10 = sI h6 a2 (0 : Int32).toNatClampNeg ((hI h6 a2 (0 : Int32).toNatClampNeg) + (1 : Int32)) → (R h10)))))))) ∧ (¬ x3 ≤ x1 → (∃ a12, x0 = some a12 ∧ hT h a12 = 15 ∧ (vp_in x3 (hL h a12) ∧ (vp_in ((1 : Int32) + x3) (hL h a12) ∧ (∀ h17, h17 = sI h a12 ((1 : Int32) + x3).toNatClampNeg (hI h a12 x3.toNatClampNeg) → (Y x0 x1 x2 (x3 + (-1 : Int32)) h17))))))
def w_Lw_puts_4 (R : tpH → Prop) : Nat → (Option Nat) → Int32 → Int32 → Int32 → tpH → Prop
  | 0 => fun _ _ _ _ _ => False
  | n + 1 => b_Lw_puts_4 R (w_Lw_puts_4 R n)
def w_Lw_puts (x0 : Option Nat) (x1 : Int32) (x2 : Int32) (h : tpH) (R : tpH → Prop) : Prop :=
  ∃ a1, x0 = some a1 ∧ hT h a1 = 15 ∧ (vp_in (0 : Int32) (hL h a1) ∧ (∃ n, w_Lw_puts_4 R n x0 x1 x2 (hI h a1 (0 : Int32).toNatClampNeg) h))
theorem s_Lw_puts_4 {h0 : tpH} {av : List tpV} {R : tpH → Prop} : ∀ (n : Nat) (x0 : Option Nat) (x1 : Int32) (x2 : Int32) (x3 : Int32) (h : tpH), w_Lw_puts_4 R n x0 x1 x2 x3 h → tpR Lw_puts 0 h0 av (tpOv R (fun _ _ => False)) 4 [some (vR x0), some (vI x1), some (vI x2), some (vI x3)] [] h := by
  intro n
  induction n with
  | zero => intro x0 x1 x2 x3 h hw; exact False.elim hw
  | succ n ih =>
    intro x0 x1 x2 x3 h hw
    change b_Lw_puts_4 R (w_Lw_puts_4 R n) x0 x1 x2 x3 h at hw
    unfold b_Lw_puts_4 at hw
    refine tq_iload_n dLw_puts_4 rfl rfl ?_
    refine tq_iload_n dLw_puts_5 rfl rfl ?_
    refine tq_icmple (tgt := 23) dLw_puts_6 (by decide) (fun c1 => ?_) (fun c1 => ?_)
    · have hw := hw.1 c1
      refine tq_aload_n dLw_puts_23 rfl rfl ?_
      refine tq_iconst (v := (1 : Int32)) dLw_puts_24 tni_1 ?_
      refine tq_iload_n dLw_puts_25 rfl rfl ?_
      refine tq_iadd dLw_puts_26 ?_
      refine tq_iload_n dLw_puts_27 rfl rfl ?_
      obtain ⟨a2, e3, f4, hw⟩ := hw
      obtain ⟨f5, hw⟩ := hw
      refine te_iast dLw_puts_28 e3 f4 f5 (fun h6 e7 => ?_)
      have hw := hw h6 e7
      refine tq_aload_n dLw_puts_29 rfl rfl ?_
      refine tq_iconst (v := (0 : Int32)) dLw_puts_30 tni_0 ?_
      refine tq_dup2 dLw_puts_31 rfl rfl ?_
      obtain ⟨f8, hw⟩ := hw
      refine te_iald dLw_puts_32 e3 (Or.inl (by rw [e7]; exact f4)) f8 ?_
      refine tq_iconst (v := (1 : Int32)) dLw_puts_33 tni_1 ?_
      refine tq_iadd dLw_puts_34 ?_
      obtain ⟨f9, hw⟩ := hw
      refine te_iast dLw_puts_35 e3 (by rw [e7]; exact f4) f9 (fun h10 e11 => ?_)
      have hw := hw h10 e11
      exact tq_vret rfl dLw_puts_36 hw
    · have hw := hw.2 c1
      refine tq_aload_n dLw_puts_9 rfl rfl ?_
      refine tq_iconst (v := (1 : Int32)) dLw_puts_10 tni_1 ?_
      refine tq_iload_n dLw_puts_11 rfl rfl ?_
      refine tq_iadd dLw_puts_12 ?_
      refine tq_aload_n dLw_puts_13 rfl rfl ?_
      refine tq_iload_n dLw_puts_14 rfl rfl ?_
      obtain ⟨a12, e13, f14, hw⟩ := hw
      obtain ⟨f15, hw⟩ := hw
      refine te_iald dLw_puts_15 e13 (Or.inl f14) f15 ?_
      obtain ⟨f16, hw⟩ := hw
      refine te_iast dLw_puts_16 e13 f14 f16 (fun h17 e18 => ?_)
      have hw := hw h17 e18
      refine tq_inc (k := (-1 : Int32)) (ls' := [some (vR x0), some (vI x1), some (vI x2), some (vI (x3 + (-1 : Int32)))]) dLw_puts_17 rfl tni_m1 (Nat.le_of_ble_eq_true rfl) rfl ?_
      refine tq_goto (tgt := 4) dLw_puts_20 (by decide) ?_
      refine tpR.fo (ls' := [some (vR x0), some (vI x1), some (vI x2), some (vI (x3 + (-1 : Int32)))]) ?_ (And.intro rfl (And.intro rfl (And.intro rfl (And.intro rfl trivial))))
      exact ih _ _ _ _ _ hw
theorem s_Lw_puts {x0 : Option Nat} {x1 : Int32} {x2 : Int32} {h : tpH} {R : tpH → Prop} (hw : w_Lw_puts x0 x1 x2 h R) : tpC Lw_puts 0 [vR x0, vI x1, vI x2] h (tpOv R (fun _ _ => False)) := by
  refine tpC_of ms_Lw_puts.2.2.2.1 rfl rfl (Nat.le_of_ble_eq_true rfl) ?_
  show tpR Lw_puts 0 h _ _ 0 [some (vR x0), some (vI x1), some (vI x2), none] [] h
  unfold w_Lw_puts at hw
  refine tq_aload_n dLw_puts_0 rfl rfl ?_
  refine tq_iconst (v := (0 : Int32)) dLw_puts_1 tni_0 ?_
  obtain ⟨a1, e2, f3, hw⟩ := hw
  obtain ⟨f4, hw⟩ := hw
  refine te_iald dLw_puts_2 e2 (Or.inl f3) f4 ?_
  refine tq_istore_n (ls' := [some (vR x0), some (vI x1), some (vI x2), some (vI (hI h a1 (0 : Int32).toNatClampNeg))]) dLw_puts_3 rfl (Nat.le_of_ble_eq_true rfl) rfl ?_
  refine tpR.fo (ls' := [some (vR x0), some (vI x1), some (vI x2), some (vI (hI h a1 (0 : Int32).toNatClampNeg))]) ?_ (And.intro rfl (And.intro rfl (And.intro rfl (And.intro rfl trivial))))
  obtain ⟨n, hw⟩ := hw
  exact s_Lw_puts_4 n _ _ _ _ _ hw
/-! TLaw.takes -/
theorem dLw_takes_0 : decode (mB Lw_takes) 0 = .ok (.iload_n 1, 1) := by decide +kernel
theorem dLw_takes_1 : decode (mB Lw_takes) 1 = .ok (.istore_n 2, 1) := by decide +kernel
theorem dLw_takes_2 : decode (mB Lw_takes) 2 = .ok (.iload_n 2, 1) := by decide +kernel
theorem dLw_takes_3 : decode (mB Lw_takes) 3 = .ok (.aload_n 0, 1) := by decide +kernel
theorem dLw_takes_4 : decode (mB Lw_takes) 4 = .ok (.iconst 0, 1) := by decide +kernel
theorem dLw_takes_5 : decode (mB Lw_takes) 5 = .ok (.iaload, 1) := by decide +kernel
theorem dLw_takes_6 : decode (mB Lw_takes) 6 = .ok (.iconst 1, 1) := by decide +kernel
theorem dLw_takes_7 : decode (mB Lw_takes) 7 = .ok (.isub, 1) := by decide +kernel
theorem dLw_takes_8 : decode (mB Lw_takes) 8 = .ok (.if_icmp .ge 19, 3) := by decide +kernel
theorem dLw_takes_11 : decode (mB Lw_takes) 11 = .ok (.aload_n 0, 1) := by decide +kernel
theorem dLw_takes_12 : decode (mB Lw_takes) 12 = .ok (.iconst 1, 1) := by decide +kernel
theorem dLw_takes_13 : decode (mB Lw_takes) 13 = .ok (.iload_n 2, 1) := by decide +kernel
theorem dLw_takes_14 : decode (mB Lw_takes) 14 = .ok (.iadd, 1) := by decide +kernel
theorem dLw_takes_15 : decode (mB Lw_takes) 15 = .ok (.aload_n 0, 1) := by decide +kernel
theorem dLw_takes_16 : decode (mB Lw_takes) 16 = .ok (.iconst 2, 1) := by decide +kernel
theorem dLw_takes_17 : decode (mB Lw_takes) 17 = .ok (.iload_n 2, 1) := by decide +kernel
theorem dLw_takes_18 : decode (mB Lw_takes) 18 = .ok (.iadd, 1) := by decide +kernel
theorem dLw_takes_19 : decode (mB Lw_takes) 19 = .ok (.iaload, 1) := by decide +kernel
theorem dLw_takes_20 : decode (mB Lw_takes) 20 = .ok (.iastore, 1) := by decide +kernel
theorem dLw_takes_21 : decode (mB Lw_takes) 21 = .ok (.iinc 2 1, 3) := by decide +kernel
theorem dLw_takes_24 : decode (mB Lw_takes) 24 = .ok (.goto (-22), 3) := by decide +kernel
theorem dLw_takes_27 : decode (mB Lw_takes) 27 = .ok (.aload_n 0, 1) := by decide +kernel
theorem dLw_takes_28 : decode (mB Lw_takes) 28 = .ok (.iconst 0, 1) := by decide +kernel
theorem dLw_takes_29 : decode (mB Lw_takes) 29 = .ok (.dup2, 1) := by decide +kernel
theorem dLw_takes_30 : decode (mB Lw_takes) 30 = .ok (.iaload, 1) := by decide +kernel
theorem dLw_takes_31 : decode (mB Lw_takes) 31 = .ok (.iconst 1, 1) := by decide +kernel
theorem dLw_takes_32 : decode (mB Lw_takes) 32 = .ok (.isub, 1) := by decide +kernel
theorem dLw_takes_33 : decode (mB Lw_takes) 33 = .ok (.iastore, 1) := by decide +kernel
theorem dLw_takes_34 : decode (mB Lw_takes) 34 = .ok (.return_, 1) := by decide +kernel
def b_Lw_takes_2 (R : tpH → Prop) (Y : (Option Nat) → Int32 → tpH → Prop) (x0 : Option Nat) (x2 : Int32) (h : tpH) : Prop :=
  ∃ a1, x0 = some a1 ∧ hT h a1 = 15 ∧ (vp_in (0 : Int32) (hL h a1) ∧ ((((hI h a1 (0 : Int32).toNatClampNeg) - (1 : Int32)) ≤ x2 → (vp_in (0 : Int32) (hL h a1) ∧ (vp_in (0 : Int32) (hL h a1) ∧ (∀ h8, h8 = sI h a1 (0 : Int32).toNatClampNeg ((hI h a1 (0 : Int32).toNatClampNeg) - (1 : Int32)) → (R h8))))) ∧ (¬ ((hI h a1 (0 : Int32).toNatClampNeg) - (1 : Int32)) ≤ x2 → (vp_in ((2 : Int32) + x2) (hL h a1) ∧ (vp_in ((1 : Int32) + x2) (hL h a1) ∧ (∀ h12, h12 = sI h a1 ((1 : Int32) + x2).toNatClampNeg (hI h a1 ((2 : Int32) + x2).toNatClampNeg) → (Y x0 (x2 + (1 : Int32)) h12)))))))
def w_Lw_takes_2 (R : tpH → Prop) : Nat → (Option Nat) → Int32 → tpH → Prop
  | 0 => fun _ _ _ => False
  | n + 1 => b_Lw_takes_2 R (w_Lw_takes_2 R n)
def w_Lw_takes (x0 : Option Nat) (x1 : Int32) (h : tpH) (R : tpH → Prop) : Prop :=
  ∃ n, w_Lw_takes_2 R n x0 x1 h
theorem s_Lw_takes_2 {h0 : tpH} {av : List tpV} {R : tpH → Prop} : ∀ (n : Nat) (x0 : Option Nat) (x2 : Int32) (h : tpH), w_Lw_takes_2 R n x0 x2 h → tpR Lw_takes 0 h0 av (tpOv R (fun _ _ => False)) 2 [some (vR x0), none, some (vI x2)] [] h := by
  intro n
  induction n with
  | zero => intro x0 x2 h hw; exact False.elim hw
  | succ n ih =>
    intro x0 x2 h hw
    change b_Lw_takes_2 R (w_Lw_takes_2 R n) x0 x2 h at hw
    unfold b_Lw_takes_2 at hw
    refine tq_iload_n dLw_takes_2 rfl rfl ?_
    refine tq_aload_n dLw_takes_3 rfl rfl ?_
    refine tq_iconst (v := (0 : Int32)) dLw_takes_4 tni_0 ?_
    obtain ⟨a1, e2, f3, hw⟩ := hw
    obtain ⟨f4, hw⟩ := hw
    refine te_iald dLw_takes_5 e2 (Or.inl f3) f4 ?_
    refine tq_iconst (v := (1 : Int32)) dLw_takes_6 tni_1 ?_
    refine tq_isub dLw_takes_7 ?_
    refine tq_icmpge (tgt := 27) dLw_takes_8 (by decide) (fun c5 => ?_) (fun c5 => ?_)
    · have hw := hw.1 c5
      refine tq_aload_n dLw_takes_27 rfl rfl ?_
      refine tq_iconst (v := (0 : Int32)) dLw_takes_28 tni_0 ?_
      refine tq_dup2 dLw_takes_29 rfl rfl ?_
      obtain ⟨f6, hw⟩ := hw
      refine te_iald dLw_takes_30 e2 (Or.inl f3) f6 ?_
      refine tq_iconst (v := (1 : Int32)) dLw_takes_31 tni_1 ?_
      refine tq_isub dLw_takes_32 ?_
      obtain ⟨f7, hw⟩ := hw
      refine te_iast dLw_takes_33 e2 f3 f7 (fun h8 e9 => ?_)
      have hw := hw h8 e9
      exact tq_vret rfl dLw_takes_34 hw
    · have hw := hw.2 c5
      refine tq_aload_n dLw_takes_11 rfl rfl ?_
      refine tq_iconst (v := (1 : Int32)) dLw_takes_12 tni_1 ?_
      refine tq_iload_n dLw_takes_13 rfl rfl ?_
      refine tq_iadd dLw_takes_14 ?_
      refine tq_aload_n dLw_takes_15 rfl rfl ?_
      refine tq_iconst (v := (2 : Int32)) dLw_takes_16 tni_2 ?_
      refine tq_iload_n dLw_takes_17 rfl rfl ?_
      refine tq_iadd dLw_takes_18 ?_
      obtain ⟨f10, hw⟩ := hw
      refine te_iald dLw_takes_19 e2 (Or.inl f3) f10 ?_
      obtain ⟨f11, hw⟩ := hw
      refine te_iast dLw_takes_20 e2 f3 f11 (fun h12 e13 => ?_)
      have hw := hw h12 e13
      refine tq_inc (k := (1 : Int32)) (ls' := [some (vR x0), none, some (vI (x2 + (1 : Int32)))]) dLw_takes_21 rfl tni_1 (Nat.le_of_ble_eq_true rfl) rfl ?_
      refine tq_goto (tgt := 2) dLw_takes_24 (by decide) ?_
      refine tpR.fo (ls' := [some (vR x0), none, some (vI (x2 + (1 : Int32)))]) ?_ (And.intro rfl (And.intro rfl trivial))
      exact ih _ _ _ hw
theorem s_Lw_takes {x0 : Option Nat} {x1 : Int32} {h : tpH} {R : tpH → Prop} (hw : w_Lw_takes x0 x1 h R) : tpC Lw_takes 0 [vR x0, vI x1] h (tpOv R (fun _ _ => False)) := by
  refine tpC_of ms_Lw_takes.2.2.2.1 rfl rfl (Nat.le_of_ble_eq_true rfl) ?_
  show tpR Lw_takes 0 h _ _ 0 [some (vR x0), some (vI x1), none] [] h
  unfold w_Lw_takes at hw
  refine tq_iload_n dLw_takes_0 rfl rfl ?_
  refine tq_istore_n (ls' := [some (vR x0), some (vI x1), some (vI x1)]) dLw_takes_1 rfl (Nat.le_of_ble_eq_true rfl) rfl ?_
  refine tpR.fo (ls' := [some (vR x0), none, some (vI x1)]) ?_ (And.intro rfl (And.intro rfl trivial))
  obtain ⟨n, hw⟩ := hw
  exact s_Lw_takes_2 n _ _ _ hw
/-! TLaw.spot -/
theorem dLw_spot_0 : decode (mB Lw_spot) 0 = .ok (.bipush 40, 2) := by decide +kernel
theorem dLw_spot_2 : decode (mB Lw_spot) 2 = .ok (.newarray .int, 2) := by decide +kernel
theorem dLw_spot_4 : decode (mB Lw_spot) 4 = .ok (.astore 4, 2) := by decide +kernel
theorem dLw_spot_6 : decode (mB Lw_spot) 6 = .ok (.aload_n 0, 1) := by decide +kernel
theorem dLw_spot_7 : decode (mB Lw_spot) 7 = .ok (.aload_n 1, 1) := by decide +kernel
theorem dLw_spot_8 : decode (mB Lw_spot) 8 = .ok (.iload_n 2, 1) := by decide +kernel
theorem dLw_spot_9 : decode (mB Lw_spot) 9 = .ok (.aload 4, 2) := by decide +kernel
theorem dLw_spot_11 : decode (mB Lw_spot) 11 = .ok (.invokestatic 36, 3) := by decide +kernel
theorem dLw_spot_14 : decode (mB Lw_spot) 14 = .ok (.istore 5, 2) := by decide +kernel
theorem dLw_spot_16 : decode (mB Lw_spot) 16 = .ok (.iload_n 3, 1) := by decide +kernel
theorem dLw_spot_17 : decode (mB Lw_spot) 17 = .ok (.iload 5, 2) := by decide +kernel
theorem dLw_spot_19 : decode (mB Lw_spot) 19 = .ok (.if_icmp .ge 21, 3) := by decide +kernel
theorem dLw_spot_22 : decode (mB Lw_spot) 22 = .ok (.aload_n 1, 1) := by decide +kernel
theorem dLw_spot_23 : decode (mB Lw_spot) 23 = .ok (.iload_n 2, 1) := by decide +kernel
theorem dLw_spot_24 : decode (mB Lw_spot) 24 = .ok (.iaload, 1) := by decide +kernel
theorem dLw_spot_25 : decode (mB Lw_spot) 25 = .ok (.iconst 4, 1) := by decide +kernel
theorem dLw_spot_26 : decode (mB Lw_spot) 26 = .ok (.if_icmp .ge 14, 3) := by decide +kernel
theorem dLw_spot_29 : decode (mB Lw_spot) 29 = .ok (.aload_n 0, 1) := by decide +kernel
theorem dLw_spot_30 : decode (mB Lw_spot) 30 = .ok (.aload 4, 2) := by decide +kernel
theorem dLw_spot_32 : decode (mB Lw_spot) 32 = .ok (.iload_n 3, 1) := by decide +kernel
theorem dLw_spot_33 : decode (mB Lw_spot) 33 = .ok (.iaload, 1) := by decide +kernel
theorem dLw_spot_34 : decode (mB Lw_spot) 34 = .ok (.invokestatic 13, 3) := by decide +kernel
theorem dLw_spot_37 : decode (mB Lw_spot) 37 = .ok (.goto 6, 3) := by decide +kernel
theorem dLw_spot_40 : decode (mB Lw_spot) 40 = .ok (.aload_n 0, 1) := by decide +kernel
theorem dLw_spot_41 : decode (mB Lw_spot) 41 = .ok (.iconst 0, 1) := by decide +kernel
theorem dLw_spot_42 : decode (mB Lw_spot) 42 = .ok (.iaload, 1) := by decide +kernel
theorem dLw_spot_43 : decode (mB Lw_spot) 43 = .ok (.ireturn, 1) := by decide +kernel
def w_Lw_spot (x0 : Option Nat) (x1 : Option Nat) (x2 : Int32) (x3 : Int32) (h : tpH) (R : Int32 → tpH → Prop) : Prop :=
  ∀ a1 h2, a1 = hZ h → h2 = nC h 15 40 40 → (w_Lw_children x0 x1 x2 (some a1) h2 (fun v6 h5 => (v6 ≤ x3 → (∃ a8, x0 = some a8 ∧ hT h5 a8 = 15 ∧ (vp_in (0 : Int32) (hL h5 a8) ∧ (R (hI h5 a8 (0 : Int32).toNatClampNeg) h5)))) ∧ (¬ v6 ≤ x3 → (∃ a12, x1 = some a12 ∧ hT h5 a12 = 15 ∧ (vp_in x2 (hL h5 a12) ∧ (((4 : Int32) ≤ (hI h5 a12 x2.toNatClampNeg) → (∃ a17, x0 = some a17 ∧ hT h5 a17 = 15 ∧ (vp_in (0 : Int32) (hL h5 a17) ∧ (R (hI h5 a17 (0 : Int32).toNatClampNeg) h5)))) ∧ (¬ (4 : Int32) ≤ (hI h5 a12 x2.toNatClampNeg) → (hT h5 a1 = 15 ∧ (vp_in x3 (hL h5 a1) ∧ (w_Lw_place x0 (hI h5 a1 x3.toNatClampNeg) h5 (fun v24 h23 => R v24 h23)))))))))))
theorem s_Lw_spot {x0 : Option Nat} {x1 : Option Nat} {x2 : Int32} {x3 : Int32} {h : tpH} {R : Int32 → tpH → Prop} (hw : w_Lw_spot x0 x1 x2 x3 h R) : tpC Lw_spot 2 [vR x0, vR x1, vI x2, vI x3] h (tpOi R (fun _ _ => False)) := by
  refine tpC_of ms_Lw_spot.2.2.2.1 rfl rfl (Nat.le_of_ble_eq_true rfl) ?_
  show tpR Lw_spot 2 h _ _ 0 [some (vR x0), some (vR x1), some (vI x2), some (vI x3), none, none] [] h
  unfold w_Lw_spot at hw
  refine tq_bipush (v := (40 : Int32)) dLw_spot_0 tnb_40 ?_
  refine tq_newa tpN_int (N := 40) dLw_spot_2 (by decide) (by decide) (Nat.le_of_ble_eq_true rfl) (fun a1 h2 e3 e4 => ?_)
  have hw := hw a1 h2 e3 e4
  refine tq_astore (ls' := [some (vR x0), some (vR x1), some (vI x2), some (vI x3), some (vR (some a1)), none]) dLw_spot_4 (Nat.le_of_ble_eq_true rfl) rfl ?_
  refine tq_aload_n dLw_spot_6 rfl rfl ?_
  refine tq_aload_n dLw_spot_7 rfl rfl ?_
  refine tq_iload_n dLw_spot_8 rfl rfl ?_
  refine tq_aload dLw_spot_9 rfl ?_
  refine tq_callS ms_Lw_children (dc := 1) (as := [vR x0, vR x1, vI x2, vR (some a1)]) (rest := []) kLw_36 (Nat.le_of_ble_eq_true rfl) (Nat.le_of_ble_eq_true rfl) rfl rfl (Nat.le_of_ble_eq_true rfl) dLw_spot_11 (s_Lw_children hw) (fun _ _ hx => False.elim hx) (tk_i fun v6 h5 hw => ?_)
  refine tq_istore (ls' := [some (vR x0), some (vR x1), some (vI x2), some (vI x3), some (vR (some a1)), some (vI v6)]) dLw_spot_14 (Nat.le_of_ble_eq_true rfl) rfl ?_
  refine tq_iload_n dLw_spot_16 rfl rfl ?_
  refine tq_iload dLw_spot_17 rfl ?_
  refine tq_icmpge (tgt := 40) dLw_spot_19 (by decide) (fun c7 => ?_) (fun c7 => ?_)
  · have hw := hw.1 c7
    refine tq_aload_n dLw_spot_40 rfl rfl ?_
    refine tq_iconst (v := (0 : Int32)) dLw_spot_41 tni_0 ?_
    obtain ⟨a8, e9, f10, hw⟩ := hw
    obtain ⟨f11, hw⟩ := hw
    refine te_iald dLw_spot_42 e9 (Or.inl f10) f11 ?_
    exact tq_iret rfl rfl dLw_spot_43 hw
  · have hw := hw.2 c7
    refine tq_aload_n dLw_spot_22 rfl rfl ?_
    refine tq_iload_n dLw_spot_23 rfl rfl ?_
    obtain ⟨a12, e13, f14, hw⟩ := hw
    obtain ⟨f15, hw⟩ := hw
    refine te_iald dLw_spot_24 e13 (Or.inl f14) f15 ?_
    refine tq_iconst (v := (4 : Int32)) dLw_spot_25 tni_4 ?_
    refine tq_icmpge (tgt := 40) dLw_spot_26 (by decide) (fun c16 => ?_) (fun c16 => ?_)
    · have hw := hw.1 c16
      refine tq_aload_n dLw_spot_40 rfl rfl ?_
      refine tq_iconst (v := (0 : Int32)) dLw_spot_41 tni_0 ?_
      obtain ⟨a17, e18, f19, hw⟩ := hw
      obtain ⟨f20, hw⟩ := hw
      refine te_iald dLw_spot_42 e18 (Or.inl f19) f20 ?_
      exact tq_iret rfl rfl dLw_spot_43 hw
    · have hw := hw.2 c16
      refine tq_aload_n dLw_spot_29 rfl rfl ?_
      refine tq_aload dLw_spot_30 rfl ?_
      refine tq_iload_n dLw_spot_32 rfl rfl ?_
      obtain ⟨f21, hw⟩ := hw
      obtain ⟨f22, hw⟩ := hw
      refine te_iald dLw_spot_33 rfl (Or.inl f21) f22 ?_
      refine tq_callS ms_Lw_place (dc := 1) (as := [vR x0, vI (hI h5 a1 x3.toNatClampNeg)]) (rest := []) kLw_13 (Nat.le_of_ble_eq_true rfl) (Nat.le_of_ble_eq_true rfl) rfl rfl (Nat.le_of_ble_eq_true rfl) dLw_spot_34 (s_Lw_place hw) (fun _ _ hx => False.elim hx) (tk_i fun v24 h23 hw => ?_)
      refine tq_goto (tgt := 43) dLw_spot_37 (by decide) ?_
      exact tq_iret rfl rfl dLw_spot_43 hw
/-! TLaw.isBelow -/
theorem dLw_isBelow_0 : decode (mB Lw_isBelow) 0 = .ok (.iload_n 1, 1) := by decide +kernel
theorem dLw_isBelow_1 : decode (mB Lw_isBelow) 1 = .ok (.istore_n 3, 1) := by decide +kernel
theorem dLw_isBelow_2 : decode (mB Lw_isBelow) 2 = .ok (.iload_n 3, 1) := by decide +kernel
theorem dLw_isBelow_3 : decode (mB Lw_isBelow) 3 = .ok (.ifCond .lt 17, 3) := by decide +kernel
theorem dLw_isBelow_6 : decode (mB Lw_isBelow) 6 = .ok (.iload_n 3, 1) := by decide +kernel
theorem dLw_isBelow_7 : decode (mB Lw_isBelow) 7 = .ok (.iload_n 2, 1) := by decide +kernel
theorem dLw_isBelow_8 : decode (mB Lw_isBelow) 8 = .ok (.if_icmp .eq 12, 3) := by decide +kernel
theorem dLw_isBelow_11 : decode (mB Lw_isBelow) 11 = .ok (.aload_n 0, 1) := by decide +kernel
theorem dLw_isBelow_12 : decode (mB Lw_isBelow) 12 = .ok (.iload_n 3, 1) := by decide +kernel
theorem dLw_isBelow_13 : decode (mB Lw_isBelow) 13 = .ok (.invokestatic 40, 3) := by decide +kernel
theorem dLw_isBelow_16 : decode (mB Lw_isBelow) 16 = .ok (.istore_n 3, 1) := by decide +kernel
theorem dLw_isBelow_17 : decode (mB Lw_isBelow) 17 = .ok (.goto (-15), 3) := by decide +kernel
theorem dLw_isBelow_20 : decode (mB Lw_isBelow) 20 = .ok (.iload_n 3, 1) := by decide +kernel
theorem dLw_isBelow_21 : decode (mB Lw_isBelow) 21 = .ok (.iload_n 2, 1) := by decide +kernel
theorem dLw_isBelow_22 : decode (mB Lw_isBelow) 22 = .ok (.if_icmp .ne 7, 3) := by decide +kernel
theorem dLw_isBelow_25 : decode (mB Lw_isBelow) 25 = .ok (.iconst 1, 1) := by decide +kernel
theorem dLw_isBelow_26 : decode (mB Lw_isBelow) 26 = .ok (.goto 4, 3) := by decide +kernel
theorem dLw_isBelow_29 : decode (mB Lw_isBelow) 29 = .ok (.iconst 0, 1) := by decide +kernel
theorem dLw_isBelow_30 : decode (mB Lw_isBelow) 30 = .ok (.ireturn, 1) := by decide +kernel
def w_Lw_isBelow_20 (R : Int32 → tpH → Prop) (x2 : Int32) (x3 : Int32) (h : tpH) : Prop :=
  (¬ x3 = x2 → (R (0 : Int32) h)) ∧ (x3 = x2 → (R (1 : Int32) h))
def b_Lw_isBelow_2 (R : Int32 → tpH → Prop) (Y : (Option Nat) → Int32 → Int32 → tpH → Prop) (x0 : Option Nat) (x2 : Int32) (x3 : Int32) (h : tpH) : Prop :=
  (x3 < 0 → (w_Lw_isBelow_20 R x2 x3 h)) ∧ (¬ x3 < 0 → ((x3 = x2 → (w_Lw_isBelow_20 R x2 x3 h)) ∧ (¬ x3 = x2 → (w_Lw_parentOf x0 x3 h (fun v4 h3 => Y x0 x2 v4 h3)))))
def w_Lw_isBelow_2 (R : Int32 → tpH → Prop) : Nat → (Option Nat) → Int32 → Int32 → tpH → Prop
  | 0 => fun _ _ _ _ => False
  | n + 1 => b_Lw_isBelow_2 R (w_Lw_isBelow_2 R n)
def w_Lw_isBelow (x0 : Option Nat) (x1 : Int32) (x2 : Int32) (h : tpH) (R : Int32 → tpH → Prop) : Prop :=
  ∃ n, w_Lw_isBelow_2 R n x0 x2 x1 h
theorem s_Lw_isBelow_20 {h0 : tpH} {av : List tpV} {R : Int32 → tpH → Prop} : ∀ (x2 : Int32) (x3 : Int32) (h : tpH), w_Lw_isBelow_20 R x2 x3 h → tpR Lw_isBelow 3 h0 av (tpOi R (fun _ _ => False)) 20 [none, none, some (vI x2), some (vI x3)] [] h := by
  intro x2 x3 h hw
  unfold w_Lw_isBelow_20 at hw
  refine tq_iload_n dLw_isBelow_20 rfl rfl ?_
  refine tq_iload_n dLw_isBelow_21 rfl rfl ?_
  refine tq_icmpne (tgt := 29) dLw_isBelow_22 (by decide) (fun c1 => ?_) (fun c1 => ?_)
  · have hw := hw.1 c1
    refine tq_iconst (v := (0 : Int32)) dLw_isBelow_29 tni_0 ?_
    exact tq_iret rfl (by decide) dLw_isBelow_30 hw
  · have hw := hw.2 c1
    refine tq_iconst (v := (1 : Int32)) dLw_isBelow_25 tni_1 ?_
    refine tq_goto (tgt := 30) dLw_isBelow_26 (by decide) ?_
    exact tq_iret rfl (by decide) dLw_isBelow_30 hw
theorem s_Lw_isBelow_2 {h0 : tpH} {av : List tpV} {R : Int32 → tpH → Prop} : ∀ (n : Nat) (x0 : Option Nat) (x2 : Int32) (x3 : Int32) (h : tpH), w_Lw_isBelow_2 R n x0 x2 x3 h → tpR Lw_isBelow 3 h0 av (tpOi R (fun _ _ => False)) 2 [some (vR x0), none, some (vI x2), some (vI x3)] [] h := by
  intro n
  induction n with
  | zero => intro x0 x2 x3 h hw; exact False.elim hw
  | succ n ih =>
    intro x0 x2 x3 h hw
    change b_Lw_isBelow_2 R (w_Lw_isBelow_2 R n) x0 x2 x3 h at hw
    unfold b_Lw_isBelow_2 at hw
    refine tq_iload_n dLw_isBelow_2 rfl rfl ?_
    refine tq_iflt (tgt := 20) dLw_isBelow_3 (by decide) (fun c1 => ?_) (fun c1 => ?_)
    · have hw := hw.1 c1
      refine tpR.fo (ls' := [none, none, some (vI x2), some (vI x3)]) ?_ (And.intro rfl (And.intro rfl trivial))
      exact s_Lw_isBelow_20 _ _ _ hw
    · have hw := hw.2 c1
      refine tq_iload_n dLw_isBelow_6 rfl rfl ?_
      refine tq_iload_n dLw_isBelow_7 rfl rfl ?_
      refine tq_icmpeq (tgt := 20) dLw_isBelow_8 (by decide) (fun c2 => ?_) (fun c2 => ?_)
      · have hw := hw.1 c2
        refine tpR.fo (ls' := [none, none, some (vI x2), some (vI x3)]) ?_ (And.intro rfl (And.intro rfl trivial))
        exact s_Lw_isBelow_20 _ _ _ hw
      · have hw := hw.2 c2
        refine tq_aload_n dLw_isBelow_11 rfl rfl ?_
        refine tq_iload_n dLw_isBelow_12 rfl rfl ?_
        refine tq_callS ms_Lw_parentOf (dc := 2) (as := [vR x0, vI x3]) (rest := []) kLw_40 (Nat.le_of_ble_eq_true rfl) (Nat.le_of_ble_eq_true rfl) rfl rfl (Nat.le_of_ble_eq_true rfl) dLw_isBelow_13 (s_Lw_parentOf hw) (fun _ _ hx => False.elim hx) (tk_i fun v4 h3 hw => ?_)
        refine tq_istore_n (ls' := [some (vR x0), none, some (vI x2), some (vI v4)]) dLw_isBelow_16 rfl (Nat.le_of_ble_eq_true rfl) rfl ?_
        refine tq_goto (tgt := 2) dLw_isBelow_17 (by decide) ?_
        refine tpR.fo (ls' := [some (vR x0), none, some (vI x2), some (vI v4)]) ?_ (And.intro rfl (And.intro rfl (And.intro rfl trivial)))
        exact ih _ _ _ _ hw
theorem s_Lw_isBelow {x0 : Option Nat} {x1 : Int32} {x2 : Int32} {h : tpH} {R : Int32 → tpH → Prop} (hw : w_Lw_isBelow x0 x1 x2 h R) : tpC Lw_isBelow 3 [vR x0, vI x1, vI x2] h (tpOi R (fun _ _ => False)) := by
  refine tpC_of ms_Lw_isBelow.2.2.2.1 rfl rfl (Nat.le_of_ble_eq_true rfl) ?_
  show tpR Lw_isBelow 3 h _ _ 0 [some (vR x0), some (vI x1), some (vI x2), none] [] h
  unfold w_Lw_isBelow at hw
  refine tq_iload_n dLw_isBelow_0 rfl rfl ?_
  refine tq_istore_n (ls' := [some (vR x0), some (vI x1), some (vI x2), some (vI x1)]) dLw_isBelow_1 rfl (Nat.le_of_ble_eq_true rfl) rfl ?_
  refine tpR.fo (ls' := [some (vR x0), none, some (vI x2), some (vI x1)]) ?_ (And.intro rfl (And.intro rfl (And.intro rfl trivial)))
  obtain ⟨n, hw⟩ := hw
  exact s_Lw_isBelow_2 n _ _ _ _ hw
/-! TLaw.does -/
theorem dLw_does_0 : decode (mB Lw_does) 0 = .ok (.iload_n 1, 1) := by decide +kernel
theorem dLw_does_1 : decode (mB Lw_does) 1 = .ok (.ifCond .ne 14, 3) := by decide +kernel
theorem dLw_does_4 : decode (mB Lw_does) 4 = .ok (.aload_n 0, 1) := by decide +kernel
theorem dLw_does_5 : decode (mB Lw_does) 5 = .ok (.iload_n 2, 1) := by decide +kernel
theorem dLw_does_6 : decode (mB Lw_does) 6 = .ok (.iload_n 3, 1) := by decide +kernel
theorem dLw_does_7 : decode (mB Lw_does) 7 = .ok (.iload 4, 2) := by decide +kernel
theorem dLw_does_9 : decode (mB Lw_does) 9 = .ok (.invokevirtual 43, 3) := by decide +kernel
theorem dLw_does_12 : decode (mB Lw_does) 12 = .ok (.goto 143, 3) := by decide +kernel
theorem dLw_does_15 : decode (mB Lw_does) 15 = .ok (.iload_n 1, 1) := by decide +kernel
theorem dLw_does_16 : decode (mB Lw_does) 16 = .ok (.iconst 1, 1) := by decide +kernel
theorem dLw_does_17 : decode (mB Lw_does) 17 = .ok (.if_icmp .ne 11, 3) := by decide +kernel
theorem dLw_does_20 : decode (mB Lw_does) 20 = .ok (.aload_n 0, 1) := by decide +kernel
theorem dLw_does_21 : decode (mB Lw_does) 21 = .ok (.iload_n 2, 1) := by decide +kernel
theorem dLw_does_22 : decode (mB Lw_does) 22 = .ok (.invokevirtual 47, 3) := by decide +kernel
theorem dLw_does_25 : decode (mB Lw_does) 25 = .ok (.goto 130, 3) := by decide +kernel
theorem dLw_does_28 : decode (mB Lw_does) 28 = .ok (.iload_n 1, 1) := by decide +kernel
theorem dLw_does_29 : decode (mB Lw_does) 29 = .ok (.iconst 2, 1) := by decide +kernel
theorem dLw_does_30 : decode (mB Lw_does) 30 = .ok (.if_icmp .ne 33, 3) := by decide +kernel
theorem dLw_does_33 : decode (mB Lw_does) 33 = .ok (.aload_n 0, 1) := by decide +kernel
theorem dLw_does_34 : decode (mB Lw_does) 34 = .ok (.iload_n 2, 1) := by decide +kernel
theorem dLw_does_35 : decode (mB Lw_does) 35 = .ok (.iload_n 3, 1) := by decide +kernel
theorem dLw_does_36 : decode (mB Lw_does) 36 = .ok (.iload 4, 2) := by decide +kernel
theorem dLw_does_38 : decode (mB Lw_does) 38 = .ok (.bipush 10, 2) := by decide +kernel
theorem dLw_does_40 : decode (mB Lw_does) 40 = .ok (.irem, 1) := by decide +kernel
theorem dLw_does_41 : decode (mB Lw_does) 41 = .ok (.iload 4, 2) := by decide +kernel
theorem dLw_does_43 : decode (mB Lw_does) 43 = .ok (.bipush 10, 2) := by decide +kernel
theorem dLw_does_45 : decode (mB Lw_does) 45 = .ok (.idiv, 1) := by decide +kernel
theorem dLw_does_46 : decode (mB Lw_does) 46 = .ok (.bipush 100, 2) := by decide +kernel
theorem dLw_does_48 : decode (mB Lw_does) 48 = .ok (.irem, 1) := by decide +kernel
theorem dLw_does_49 : decode (mB Lw_does) 49 = .ok (.iload 4, 2) := by decide +kernel
theorem dLw_does_51 : decode (mB Lw_does) 51 = .ok (.sipush 1000, 3) := by decide +kernel
theorem dLw_does_54 : decode (mB Lw_does) 54 = .ok (.idiv, 1) := by decide +kernel
theorem dLw_does_55 : decode (mB Lw_does) 55 = .ok (.iconst 1, 1) := by decide +kernel
theorem dLw_does_56 : decode (mB Lw_does) 56 = .ok (.isub, 1) := by decide +kernel
theorem dLw_does_57 : decode (mB Lw_does) 57 = .ok (.invokevirtual 50, 3) := by decide +kernel
theorem dLw_does_60 : decode (mB Lw_does) 60 = .ok (.goto 95, 3) := by decide +kernel
theorem dLw_does_63 : decode (mB Lw_does) 63 = .ok (.iload_n 1, 1) := by decide +kernel
theorem dLw_does_64 : decode (mB Lw_does) 64 = .ok (.iconst 3, 1) := by decide +kernel
theorem dLw_does_65 : decode (mB Lw_does) 65 = .ok (.if_icmp .ne 12, 3) := by decide +kernel
theorem dLw_does_68 : decode (mB Lw_does) 68 = .ok (.aload_n 0, 1) := by decide +kernel
theorem dLw_does_69 : decode (mB Lw_does) 69 = .ok (.iload_n 2, 1) := by decide +kernel
theorem dLw_does_70 : decode (mB Lw_does) 70 = .ok (.iload_n 3, 1) := by decide +kernel
theorem dLw_does_71 : decode (mB Lw_does) 71 = .ok (.invokevirtual 54, 3) := by decide +kernel
theorem dLw_does_74 : decode (mB Lw_does) 74 = .ok (.goto 81, 3) := by decide +kernel
theorem dLw_does_77 : decode (mB Lw_does) 77 = .ok (.iload_n 1, 1) := by decide +kernel
theorem dLw_does_78 : decode (mB Lw_does) 78 = .ok (.iconst 4, 1) := by decide +kernel
theorem dLw_does_79 : decode (mB Lw_does) 79 = .ok (.if_icmp .ne 14, 3) := by decide +kernel
theorem dLw_does_82 : decode (mB Lw_does) 82 = .ok (.aload_n 0, 1) := by decide +kernel
theorem dLw_does_83 : decode (mB Lw_does) 83 = .ok (.iload_n 2, 1) := by decide +kernel
theorem dLw_does_84 : decode (mB Lw_does) 84 = .ok (.iload_n 3, 1) := by decide +kernel
theorem dLw_does_85 : decode (mB Lw_does) 85 = .ok (.iload 4, 2) := by decide +kernel
theorem dLw_does_87 : decode (mB Lw_does) 87 = .ok (.invokevirtual 57, 3) := by decide +kernel
theorem dLw_does_90 : decode (mB Lw_does) 90 = .ok (.goto 65, 3) := by decide +kernel
theorem dLw_does_93 : decode (mB Lw_does) 93 = .ok (.iload_n 1, 1) := by decide +kernel
theorem dLw_does_94 : decode (mB Lw_does) 94 = .ok (.iconst 5, 1) := by decide +kernel
theorem dLw_does_95 : decode (mB Lw_does) 95 = .ok (.if_icmp .ne 11, 3) := by decide +kernel
theorem dLw_does_98 : decode (mB Lw_does) 98 = .ok (.aload_n 0, 1) := by decide +kernel
theorem dLw_does_99 : decode (mB Lw_does) 99 = .ok (.iload_n 2, 1) := by decide +kernel
theorem dLw_does_100 : decode (mB Lw_does) 100 = .ok (.invokevirtual 60, 3) := by decide +kernel
theorem dLw_does_103 : decode (mB Lw_does) 103 = .ok (.goto 52, 3) := by decide +kernel
theorem dLw_does_106 : decode (mB Lw_does) 106 = .ok (.iload_n 1, 1) := by decide +kernel
theorem dLw_does_107 : decode (mB Lw_does) 107 = .ok (.bipush 6, 2) := by decide +kernel
theorem dLw_does_109 : decode (mB Lw_does) 109 = .ok (.if_icmp .ne 10, 3) := by decide +kernel
theorem dLw_does_112 : decode (mB Lw_does) 112 = .ok (.aload_n 0, 1) := by decide +kernel
theorem dLw_does_113 : decode (mB Lw_does) 113 = .ok (.invokevirtual 63, 3) := by decide +kernel
theorem dLw_does_116 : decode (mB Lw_does) 116 = .ok (.goto 39, 3) := by decide +kernel
theorem dLw_does_119 : decode (mB Lw_does) 119 = .ok (.iload_n 1, 1) := by decide +kernel
theorem dLw_does_120 : decode (mB Lw_does) 120 = .ok (.bipush 7, 2) := by decide +kernel
theorem dLw_does_122 : decode (mB Lw_does) 122 = .ok (.if_icmp .ne 14, 3) := by decide +kernel
theorem dLw_does_125 : decode (mB Lw_does) 125 = .ok (.aload_n 0, 1) := by decide +kernel
theorem dLw_does_126 : decode (mB Lw_does) 126 = .ok (.iload_n 2, 1) := by decide +kernel
theorem dLw_does_127 : decode (mB Lw_does) 127 = .ok (.iload_n 3, 1) := by decide +kernel
theorem dLw_does_128 : decode (mB Lw_does) 128 = .ok (.iload 4, 2) := by decide +kernel
theorem dLw_does_130 : decode (mB Lw_does) 130 = .ok (.invokevirtual 67, 3) := by decide +kernel
theorem dLw_does_133 : decode (mB Lw_does) 133 = .ok (.goto 22, 3) := by decide +kernel
theorem dLw_does_136 : decode (mB Lw_does) 136 = .ok (.iload_n 1, 1) := by decide +kernel
theorem dLw_does_137 : decode (mB Lw_does) 137 = .ok (.bipush 8, 2) := by decide +kernel
theorem dLw_does_139 : decode (mB Lw_does) 139 = .ok (.if_icmp .ne 11, 3) := by decide +kernel
theorem dLw_does_142 : decode (mB Lw_does) 142 = .ok (.aload_n 0, 1) := by decide +kernel
theorem dLw_does_143 : decode (mB Lw_does) 143 = .ok (.iload_n 2, 1) := by decide +kernel
theorem dLw_does_144 : decode (mB Lw_does) 144 = .ok (.invokevirtual 70, 3) := by decide +kernel
theorem dLw_does_147 : decode (mB Lw_does) 147 = .ok (.goto 8, 3) := by decide +kernel
theorem dLw_does_150 : decode (mB Lw_does) 150 = .ok (.aload_n 0, 1) := by decide +kernel
theorem dLw_does_151 : decode (mB Lw_does) 151 = .ok (.iload_n 2, 1) := by decide +kernel
theorem dLw_does_152 : decode (mB Lw_does) 152 = .ok (.invokevirtual 73, 3) := by decide +kernel
theorem dLw_does_155 : decode (mB Lw_does) 155 = .ok (.ireturn, 1) := by decide +kernel
theorem dLw_does_156 : decode (mB Lw_does) 156 = .ok (.astore 5, 2) := by decide +kernel
theorem dLw_does_158 : decode (mB Lw_does) 158 = .ok (.bipush (-11), 2) := by decide +kernel
theorem dLw_does_160 : decode (mB Lw_does) 160 = .ok (.ireturn, 1) := by decide +kernel
theorem dLw_does_161 : decode (mB Lw_does) 161 = .ok (.astore 5, 2) := by decide +kernel
theorem dLw_does_163 : decode (mB Lw_does) 163 = .ok (.bipush (-12), 2) := by decide +kernel
theorem dLw_does_165 : decode (mB Lw_does) 165 = .ok (.ireturn, 1) := by decide +kernel
theorem dLw_does_166 : decode (mB Lw_does) 166 = .ok (.astore 5, 2) := by decide +kernel
theorem dLw_does_168 : decode (mB Lw_does) 168 = .ok (.bipush (-13), 2) := by decide +kernel
theorem dLw_does_170 : decode (mB Lw_does) 170 = .ok (.ireturn, 1) := by decide +kernel
def w_Lw_does (x0 : Option Nat) (x1 : Int32) (x2 : Int32) (x3 : Int32) (x4 : Int32) (h : tpH) (R : Int32 → tpH → Prop) : Prop :=
  (¬ x1 = 0 → ((¬ x1 = (1 : Int32) → ((¬ x1 = (2 : Int32) → ((¬ x1 = (3 : Int32) → ((¬ x1 = (4 : Int32) → ((¬ x1 = (5 : Int32) → ((¬ x1 = (6 : Int32) → ((¬ x1 = (7 : Int32) → ((¬ x1 = (8 : Int32) → (∃ a10, x0 = some a10 ∧ hT h a10 = 13 ∧ (w_TP_conflictMark a10 x2 h (fun E h15 => (E = "java/lang/IndexOutOfBoundsException" ∧ (R (-11 : Int32) h15)) ∨ (E = "java/lang/IllegalArgumentException" ∧ (R (-12 : Int32) h15)) ∨ (E = "java/lang/IllegalStateException" ∧ (R (-13 : Int32) h15))) (fun v14 h13 => R v14 h13)))) ∧ (x1 = (8 : Int32) → (∃ a16, x0 = some a16 ∧ hT h a16 = 13 ∧ (w_TP_conflictKind a16 x2 h (fun E h21 => (E = "java/lang/IndexOutOfBoundsException" ∧ (R (-11 : Int32) h21)) ∨ (E = "java/lang/IllegalArgumentException" ∧ (R (-12 : Int32) h21)) ∨ (E = "java/lang/IllegalStateException" ∧ (R (-13 : Int32) h21))) (fun v20 h19 => R v20 h19)))))) ∧ (x1 = (7 : Int32) → (∃ a22, x0 = some a22 ∧ hT h a22 = 13 ∧ (w_TP_merge a22 x2 x3 x4 h (fun E h27 => (E = "java/lang/IndexOutOfBoundsException" ∧ (R (-11 : Int32) h27)) ∨ (E = "java/lang/IllegalArgumentException" ∧ (R (-12 : Int32) h27)) ∨ (E = "java/lang/IllegalStateException" ∧ (R (-13 : Int32) h27))) (fun v26 h25 => R v26 h25)))))) ∧ (x1 = (6 : Int32) → (∃ a28, x0 = some a28 ∧ hT h a28 = 13 ∧ (w_TP_seal a28 h (fun E h33 => (E = "java/lang/IndexOutOfBoundsException" ∧ (R (-11 : Int32) h33)) ∨ (E = "java/lang/IllegalArgumentException" ∧ (R (-12 : Int32) h33)) ∨ (E = "java/lang/IllegalStateException" ∧ (R (-13 : Int32) h33))) (fun v32 h31 => R v32 h31)))))) ∧ (x1 = (5 : Int32) → (∃ a34, x0 = some a34 ∧ hT h a34 = 13 ∧ (w_TP_drop a34 x2 h (fun E h39 => (E = "java/lang/IndexOutOfBoundsException" ∧ (R (-11 : Int32) h39)) ∨ (E = "java/lang/IllegalArgumentException" ∧ (R (-12 : Int32) h39)) ∨ (E = "java/lang/IllegalStateException" ∧ (R (-13 : Int32) h39))) (fun v38 h37 => R v38 h37)))))) ∧ (x1 = (4 : Int32) → (∃ a40, x0 = some a40 ∧ hT h a40 = 13 ∧ (w_TP_move a40 x2 x3 x4 h (fun E h45 => (E = "java/lang/IndexOutOfBoundsException" ∧ (R (-11 : Int32) h45)) ∨ (E = "java/lang/IllegalArgumentException" ∧ (R (-12 : Int32) h45)) ∨ (E = "java/lang/IllegalStateException" ∧ (R (-13 : Int32) h45))) (fun v44 h43 => R v44 h43)))))) ∧ (x1 = (3 : Int32) → (∃ a46, x0 = some a46 ∧ hT h a46 = 13 ∧ (w_TP_set a46 x2 x3 h (fun E h51 => (E = "java/lang/IndexOutOfBoundsException" ∧ (R (-11 : Int32) h51)) ∨ (E = "java/lang/IllegalArgumentException" ∧ (R (-12 : Int32) h51)) ∨ (E = "java/lang/IllegalStateException" ∧ (R (-13 : Int32) h51))) (fun v50 h49 => R v50 h49)))))) ∧ (x1 = (2 : Int32) → (∃ a52, x0 = some a52 ∧ hT h a52 = 13 ∧ (w_TP_node a52 x2 x3 (x4 - x4 / (10 : Int32) * (10 : Int32)) ((x4 / (10 : Int32)) - (x4 / (10 : Int32)) / (100 : Int32) * (100 : Int32)) ((x4 / (1000 : Int32)) - (1 : Int32)) h (fun E h57 => (E = "java/lang/IndexOutOfBoundsException" ∧ (R (-11 : Int32) h57)) ∨ (E = "java/lang/IllegalArgumentException" ∧ (R (-12 : Int32) h57)) ∨ (E = "java/lang/IllegalStateException" ∧ (R (-13 : Int32) h57))) (fun v56 h55 => R v56 h55)))))) ∧ (x1 = (1 : Int32) → (∃ a58, x0 = some a58 ∧ hT h a58 = 13 ∧ (w_TP_copy a58 x2 h (fun E h63 => (E = "java/lang/IndexOutOfBoundsException" ∧ (R (-11 : Int32) h63)) ∨ (E = "java/lang/IllegalArgumentException" ∧ (R (-12 : Int32) h63)) ∨ (E = "java/lang/IllegalStateException" ∧ (R (-13 : Int32) h63))) (fun v62 h61 => R v62 h61)))))) ∧ (x1 = 0 → (∃ a64, x0 = some a64 ∧ hT h a64 = 13 ∧ (w_TP_begin a64 x2 x3 x4 h (fun E h69 => (E = "java/lang/IndexOutOfBoundsException" ∧ (R (-11 : Int32) h69)) ∨ (E = "java/lang/IllegalArgumentException" ∧ (R (-12 : Int32) h69)) ∨ (E = "java/lang/IllegalStateException" ∧ (R (-13 : Int32) h69))) (fun v68 h67 => R v68 h67))))
theorem s_Lw_does {x0 : Option Nat} {x1 : Int32} {x2 : Int32} {x3 : Int32} {x4 : Int32} {h : tpH} {R : Int32 → tpH → Prop} (hw : w_Lw_does x0 x1 x2 x3 x4 h R) : tpC Lw_does 10 [vR x0, vI x1, vI x2, vI x3, vI x4] h (tpOi R (fun _ _ => False)) := by
  refine tpC_ofH ms_Lw_does.2.2.2 (by intro hz; cases hz) rfl (Nat.le_of_ble_eq_true rfl) ?_
  show tpR Lw_does 10 h _ _ 0 [some (vR x0), some (vI x1), some (vI x2), some (vI x3), some (vI x4), none] [] h
  unfold w_Lw_does at hw
  refine tq_iload_n dLw_does_0 rfl rfl ?_
  refine tq_ifne (tgt := 15) dLw_does_1 (by decide) (fun c1 => ?_) (fun c1 => ?_)
  · have hw := hw.1 c1
    refine tq_iload_n dLw_does_15 rfl rfl ?_
    refine tq_iconst (v := (1 : Int32)) dLw_does_16 tni_1 ?_
    refine tq_icmpne (tgt := 28) dLw_does_17 (by decide) (fun c2 => ?_) (fun c2 => ?_)
    · have hw := hw.1 c2
      refine tq_iload_n dLw_does_28 rfl rfl ?_
      refine tq_iconst (v := (2 : Int32)) dLw_does_29 tni_2 ?_
      refine tq_icmpne (tgt := 63) dLw_does_30 (by decide) (fun c3 => ?_) (fun c3 => ?_)
      · have hw := hw.1 c3
        refine tq_iload_n dLw_does_63 rfl rfl ?_
        refine tq_iconst (v := (3 : Int32)) dLw_does_64 tni_3 ?_
        refine tq_icmpne (tgt := 77) dLw_does_65 (by decide) (fun c4 => ?_) (fun c4 => ?_)
        · have hw := hw.1 c4
          refine tq_iload_n dLw_does_77 rfl rfl ?_
          refine tq_iconst (v := (4 : Int32)) dLw_does_78 tni_4 ?_
          refine tq_icmpne (tgt := 93) dLw_does_79 (by decide) (fun c5 => ?_) (fun c5 => ?_)
          · have hw := hw.1 c5
            refine tq_iload_n dLw_does_93 rfl rfl ?_
            refine tq_iconst (v := (5 : Int32)) dLw_does_94 tni_5 ?_
            refine tq_icmpne (tgt := 106) dLw_does_95 (by decide) (fun c6 => ?_) (fun c6 => ?_)
            · have hw := hw.1 c6
              refine tq_iload_n dLw_does_106 rfl rfl ?_
              refine tq_bipush (v := (6 : Int32)) dLw_does_107 tnb_6 ?_
              refine tq_icmpne (tgt := 119) dLw_does_109 (by decide) (fun c7 => ?_) (fun c7 => ?_)
              · have hw := hw.1 c7
                refine tq_iload_n dLw_does_119 rfl rfl ?_
                refine tq_bipush (v := (7 : Int32)) dLw_does_120 tnb_7 ?_
                refine tq_icmpne (tgt := 136) dLw_does_122 (by decide) (fun c8 => ?_) (fun c8 => ?_)
                · have hw := hw.1 c8
                  refine tq_iload_n dLw_does_136 rfl rfl ?_
                  refine tq_bipush (v := (8 : Int32)) dLw_does_137 tnb_8 ?_
                  refine tq_icmpne (tgt := 150) dLw_does_139 (by decide) (fun c9 => ?_) (fun c9 => ?_)
                  · have hw := hw.1 c9
                    refine tq_aload_n dLw_does_150 rfl rfl ?_
                    refine tq_iload_n dLw_does_151 rfl rfl ?_
                    obtain ⟨a10, e11, f12, hw⟩ := hw
                    refine te_callV mv_TP_conflictMark (ci := 12) (dc := 7) (as := [vI x2]) (rest := []) kLw_73 rfl (Nat.le_of_ble_eq_true rfl) (Nat.le_of_ble_eq_true rfl) rfl rfl e11 f12 (Nat.le_of_ble_eq_true rfl) dLw_does_152 (s_TP_conflictMark hw) ?_ (tk_i fun v14 h13 hw => ?_)
                    · intro E h15 hw
                      rcases hw with ⟨rfl, hw⟩ | ⟨rfl, hw⟩ | ⟨rfl, hw⟩
                      · refine tpXx.catch (ls' := [some (vR x0), some (vI x1), some (vI x2), some (vI x3), some (vI x4), none]) [] ⟨0, 155, 156, 76⟩ [⟨0, 155, 161, 78⟩, ⟨0, 155, 166, 80⟩] rfl (fun _ hz => nomatch hz) (by decide) (by decide) cLw_76 (Or.inl ⟨dLw_does_156, rfl⟩) (Nat.le_of_ble_eq_true rfl) rfl ?_
                        refine tq_bipush (v := (-11 : Int32)) dLw_does_158 tnb_m11 ?_
                        exact tq_iret rfl rfl dLw_does_160 hw
                      · refine tpXx.catch (ls' := [some (vR x0), some (vI x1), some (vI x2), some (vI x3), some (vI x4), none]) [⟨0, 155, 156, 76⟩] ⟨0, 155, 161, 78⟩ [⟨0, 155, 166, 80⟩] rfl (List.forall_mem_cons.mpr ⟨Or.inr ⟨by decide, _, cLw_76, by decide +kernel⟩, fun _ hz => nomatch hz⟩) (by decide) (by decide) cLw_78 (Or.inl ⟨dLw_does_161, rfl⟩) (Nat.le_of_ble_eq_true rfl) rfl ?_
                        refine tq_bipush (v := (-12 : Int32)) dLw_does_163 tnb_m12 ?_
                        exact tq_iret rfl rfl dLw_does_165 hw
                      · refine tpXx.catch (ls' := [some (vR x0), some (vI x1), some (vI x2), some (vI x3), some (vI x4), none]) [⟨0, 155, 156, 76⟩, ⟨0, 155, 161, 78⟩] ⟨0, 155, 166, 80⟩ [] rfl (List.forall_mem_cons.mpr ⟨Or.inr ⟨by decide, _, cLw_76, by decide +kernel⟩, List.forall_mem_cons.mpr ⟨Or.inr ⟨by decide, _, cLw_78, by decide +kernel⟩, fun _ hz => nomatch hz⟩⟩) (by decide) (by decide) cLw_80 (Or.inl ⟨dLw_does_166, rfl⟩) (Nat.le_of_ble_eq_true rfl) rfl ?_
                        refine tq_bipush (v := (-13 : Int32)) dLw_does_168 tnb_m13 ?_
                        exact tq_iret rfl rfl dLw_does_170 hw
                    exact tq_iret rfl rfl dLw_does_155 hw
                  · have hw := hw.2 c9
                    refine tq_aload_n dLw_does_142 rfl rfl ?_
                    refine tq_iload_n dLw_does_143 rfl rfl ?_
                    obtain ⟨a16, e17, f18, hw⟩ := hw
                    refine te_callV mv_TP_conflictKind (ci := 12) (dc := 7) (as := [vI x2]) (rest := []) kLw_70 rfl (Nat.le_of_ble_eq_true rfl) (Nat.le_of_ble_eq_true rfl) rfl rfl e17 f18 (Nat.le_of_ble_eq_true rfl) dLw_does_144 (s_TP_conflictKind hw) ?_ (tk_i fun v20 h19 hw => ?_)
                    · intro E h21 hw
                      rcases hw with ⟨rfl, hw⟩ | ⟨rfl, hw⟩ | ⟨rfl, hw⟩
                      · refine tpXx.catch (ls' := [some (vR x0), some (vI x1), some (vI x2), some (vI x3), some (vI x4), none]) [] ⟨0, 155, 156, 76⟩ [⟨0, 155, 161, 78⟩, ⟨0, 155, 166, 80⟩] rfl (fun _ hz => nomatch hz) (by decide) (by decide) cLw_76 (Or.inl ⟨dLw_does_156, rfl⟩) (Nat.le_of_ble_eq_true rfl) rfl ?_
                        refine tq_bipush (v := (-11 : Int32)) dLw_does_158 tnb_m11 ?_
                        exact tq_iret rfl rfl dLw_does_160 hw
                      · refine tpXx.catch (ls' := [some (vR x0), some (vI x1), some (vI x2), some (vI x3), some (vI x4), none]) [⟨0, 155, 156, 76⟩] ⟨0, 155, 161, 78⟩ [⟨0, 155, 166, 80⟩] rfl (List.forall_mem_cons.mpr ⟨Or.inr ⟨by decide, _, cLw_76, by decide +kernel⟩, fun _ hz => nomatch hz⟩) (by decide) (by decide) cLw_78 (Or.inl ⟨dLw_does_161, rfl⟩) (Nat.le_of_ble_eq_true rfl) rfl ?_
                        refine tq_bipush (v := (-12 : Int32)) dLw_does_163 tnb_m12 ?_
                        exact tq_iret rfl rfl dLw_does_165 hw
                      · refine tpXx.catch (ls' := [some (vR x0), some (vI x1), some (vI x2), some (vI x3), some (vI x4), none]) [⟨0, 155, 156, 76⟩, ⟨0, 155, 161, 78⟩] ⟨0, 155, 166, 80⟩ [] rfl (List.forall_mem_cons.mpr ⟨Or.inr ⟨by decide, _, cLw_76, by decide +kernel⟩, List.forall_mem_cons.mpr ⟨Or.inr ⟨by decide, _, cLw_78, by decide +kernel⟩, fun _ hz => nomatch hz⟩⟩) (by decide) (by decide) cLw_80 (Or.inl ⟨dLw_does_166, rfl⟩) (Nat.le_of_ble_eq_true rfl) rfl ?_
                        refine tq_bipush (v := (-13 : Int32)) dLw_does_168 tnb_m13 ?_
                        exact tq_iret rfl rfl dLw_does_170 hw
                    refine tq_goto (tgt := 155) dLw_does_147 (by decide) ?_
                    exact tq_iret rfl rfl dLw_does_155 hw
                · have hw := hw.2 c8
                  refine tq_aload_n dLw_does_125 rfl rfl ?_
                  refine tq_iload_n dLw_does_126 rfl rfl ?_
                  refine tq_iload_n dLw_does_127 rfl rfl ?_
                  refine tq_iload dLw_does_128 rfl ?_
                  obtain ⟨a22, e23, f24, hw⟩ := hw
                  refine te_callV mv_TP_merge (ci := 12) (dc := 9) (as := [vI x2, vI x3, vI x4]) (rest := []) kLw_67 rfl (Nat.le_of_ble_eq_true rfl) (Nat.le_of_ble_eq_true rfl) rfl rfl e23 f24 (Nat.le_of_ble_eq_true rfl) dLw_does_130 (s_TP_merge hw) ?_ (tk_i fun v26 h25 hw => ?_)
                  · intro E h27 hw
                    rcases hw with ⟨rfl, hw⟩ | ⟨rfl, hw⟩ | ⟨rfl, hw⟩
                    · refine tpXx.catch (ls' := [some (vR x0), some (vI x1), some (vI x2), some (vI x3), some (vI x4), none]) [] ⟨0, 155, 156, 76⟩ [⟨0, 155, 161, 78⟩, ⟨0, 155, 166, 80⟩] rfl (fun _ hz => nomatch hz) (by decide) (by decide) cLw_76 (Or.inl ⟨dLw_does_156, rfl⟩) (Nat.le_of_ble_eq_true rfl) rfl ?_
                      refine tq_bipush (v := (-11 : Int32)) dLw_does_158 tnb_m11 ?_
                      exact tq_iret rfl rfl dLw_does_160 hw
                    · refine tpXx.catch (ls' := [some (vR x0), some (vI x1), some (vI x2), some (vI x3), some (vI x4), none]) [⟨0, 155, 156, 76⟩] ⟨0, 155, 161, 78⟩ [⟨0, 155, 166, 80⟩] rfl (List.forall_mem_cons.mpr ⟨Or.inr ⟨by decide, _, cLw_76, by decide +kernel⟩, fun _ hz => nomatch hz⟩) (by decide) (by decide) cLw_78 (Or.inl ⟨dLw_does_161, rfl⟩) (Nat.le_of_ble_eq_true rfl) rfl ?_
                      refine tq_bipush (v := (-12 : Int32)) dLw_does_163 tnb_m12 ?_
                      exact tq_iret rfl rfl dLw_does_165 hw
                    · refine tpXx.catch (ls' := [some (vR x0), some (vI x1), some (vI x2), some (vI x3), some (vI x4), none]) [⟨0, 155, 156, 76⟩, ⟨0, 155, 161, 78⟩] ⟨0, 155, 166, 80⟩ [] rfl (List.forall_mem_cons.mpr ⟨Or.inr ⟨by decide, _, cLw_76, by decide +kernel⟩, List.forall_mem_cons.mpr ⟨Or.inr ⟨by decide, _, cLw_78, by decide +kernel⟩, fun _ hz => nomatch hz⟩⟩) (by decide) (by decide) cLw_80 (Or.inl ⟨dLw_does_166, rfl⟩) (Nat.le_of_ble_eq_true rfl) rfl ?_
                      refine tq_bipush (v := (-13 : Int32)) dLw_does_168 tnb_m13 ?_
                      exact tq_iret rfl rfl dLw_does_170 hw
                  refine tq_goto (tgt := 155) dLw_does_133 (by decide) ?_
                  exact tq_iret rfl rfl dLw_does_155 hw
              · have hw := hw.2 c7
                refine tq_aload_n dLw_does_112 rfl rfl ?_
                obtain ⟨a28, e29, f30, hw⟩ := hw
                refine te_callV mv_TP_seal (ci := 12) (dc := 7) (as := []) (rest := []) kLw_63 rfl (Nat.le_of_ble_eq_true rfl) (Nat.le_of_ble_eq_true rfl) rfl rfl e29 f30 (Nat.le_of_ble_eq_true rfl) dLw_does_113 (s_TP_seal hw) ?_ (tk_i fun v32 h31 hw => ?_)
                · intro E h33 hw
                  rcases hw with ⟨rfl, hw⟩ | ⟨rfl, hw⟩ | ⟨rfl, hw⟩
                  · refine tpXx.catch (ls' := [some (vR x0), some (vI x1), some (vI x2), some (vI x3), some (vI x4), none]) [] ⟨0, 155, 156, 76⟩ [⟨0, 155, 161, 78⟩, ⟨0, 155, 166, 80⟩] rfl (fun _ hz => nomatch hz) (by decide) (by decide) cLw_76 (Or.inl ⟨dLw_does_156, rfl⟩) (Nat.le_of_ble_eq_true rfl) rfl ?_
                    refine tq_bipush (v := (-11 : Int32)) dLw_does_158 tnb_m11 ?_
                    exact tq_iret rfl rfl dLw_does_160 hw
                  · refine tpXx.catch (ls' := [some (vR x0), some (vI x1), some (vI x2), some (vI x3), some (vI x4), none]) [⟨0, 155, 156, 76⟩] ⟨0, 155, 161, 78⟩ [⟨0, 155, 166, 80⟩] rfl (List.forall_mem_cons.mpr ⟨Or.inr ⟨by decide, _, cLw_76, by decide +kernel⟩, fun _ hz => nomatch hz⟩) (by decide) (by decide) cLw_78 (Or.inl ⟨dLw_does_161, rfl⟩) (Nat.le_of_ble_eq_true rfl) rfl ?_
                    refine tq_bipush (v := (-12 : Int32)) dLw_does_163 tnb_m12 ?_
                    exact tq_iret rfl rfl dLw_does_165 hw
                  · refine tpXx.catch (ls' := [some (vR x0), some (vI x1), some (vI x2), some (vI x3), some (vI x4), none]) [⟨0, 155, 156, 76⟩, ⟨0, 155, 161, 78⟩] ⟨0, 155, 166, 80⟩ [] rfl (List.forall_mem_cons.mpr ⟨Or.inr ⟨by decide, _, cLw_76, by decide +kernel⟩, List.forall_mem_cons.mpr ⟨Or.inr ⟨by decide, _, cLw_78, by decide +kernel⟩, fun _ hz => nomatch hz⟩⟩) (by decide) (by decide) cLw_80 (Or.inl ⟨dLw_does_166, rfl⟩) (Nat.le_of_ble_eq_true rfl) rfl ?_
                    refine tq_bipush (v := (-13 : Int32)) dLw_does_168 tnb_m13 ?_
                    exact tq_iret rfl rfl dLw_does_170 hw
                refine tq_goto (tgt := 155) dLw_does_116 (by decide) ?_
                exact tq_iret rfl rfl dLw_does_155 hw
            · have hw := hw.2 c6
              refine tq_aload_n dLw_does_98 rfl rfl ?_
              refine tq_iload_n dLw_does_99 rfl rfl ?_
              obtain ⟨a34, e35, f36, hw⟩ := hw
              refine te_callV mv_TP_drop (ci := 12) (dc := 7) (as := [vI x2]) (rest := []) kLw_60 rfl (Nat.le_of_ble_eq_true rfl) (Nat.le_of_ble_eq_true rfl) rfl rfl e35 f36 (Nat.le_of_ble_eq_true rfl) dLw_does_100 (s_TP_drop hw) ?_ (tk_i fun v38 h37 hw => ?_)
              · intro E h39 hw
                rcases hw with ⟨rfl, hw⟩ | ⟨rfl, hw⟩ | ⟨rfl, hw⟩
                · refine tpXx.catch (ls' := [some (vR x0), some (vI x1), some (vI x2), some (vI x3), some (vI x4), none]) [] ⟨0, 155, 156, 76⟩ [⟨0, 155, 161, 78⟩, ⟨0, 155, 166, 80⟩] rfl (fun _ hz => nomatch hz) (by decide) (by decide) cLw_76 (Or.inl ⟨dLw_does_156, rfl⟩) (Nat.le_of_ble_eq_true rfl) rfl ?_
                  refine tq_bipush (v := (-11 : Int32)) dLw_does_158 tnb_m11 ?_
                  exact tq_iret rfl rfl dLw_does_160 hw
                · refine tpXx.catch (ls' := [some (vR x0), some (vI x1), some (vI x2), some (vI x3), some (vI x4), none]) [⟨0, 155, 156, 76⟩] ⟨0, 155, 161, 78⟩ [⟨0, 155, 166, 80⟩] rfl (List.forall_mem_cons.mpr ⟨Or.inr ⟨by decide, _, cLw_76, by decide +kernel⟩, fun _ hz => nomatch hz⟩) (by decide) (by decide) cLw_78 (Or.inl ⟨dLw_does_161, rfl⟩) (Nat.le_of_ble_eq_true rfl) rfl ?_
                  refine tq_bipush (v := (-12 : Int32)) dLw_does_163 tnb_m12 ?_
                  exact tq_iret rfl rfl dLw_does_165 hw
                · refine tpXx.catch (ls' := [some (vR x0), some (vI x1), some (vI x2), some (vI x3), some (vI x4), none]) [⟨0, 155, 156, 76⟩, ⟨0, 155, 161, 78⟩] ⟨0, 155, 166, 80⟩ [] rfl (List.forall_mem_cons.mpr ⟨Or.inr ⟨by decide, _, cLw_76, by decide +kernel⟩, List.forall_mem_cons.mpr ⟨Or.inr ⟨by decide, _, cLw_78, by decide +kernel⟩, fun _ hz => nomatch hz⟩⟩) (by decide) (by decide) cLw_80 (Or.inl ⟨dLw_does_166, rfl⟩) (Nat.le_of_ble_eq_true rfl) rfl ?_
                  refine tq_bipush (v := (-13 : Int32)) dLw_does_168 tnb_m13 ?_
                  exact tq_iret rfl rfl dLw_does_170 hw
              refine tq_goto (tgt := 155) dLw_does_103 (by decide) ?_
              exact tq_iret rfl rfl dLw_does_155 hw
          · have hw := hw.2 c5
            refine tq_aload_n dLw_does_82 rfl rfl ?_
            refine tq_iload_n dLw_does_83 rfl rfl ?_
            refine tq_iload_n dLw_does_84 rfl rfl ?_
            refine tq_iload dLw_does_85 rfl ?_
            obtain ⟨a40, e41, f42, hw⟩ := hw
            refine te_callV mv_TP_move (ci := 12) (dc := 7) (as := [vI x2, vI x3, vI x4]) (rest := []) kLw_57 rfl (Nat.le_of_ble_eq_true rfl) (Nat.le_of_ble_eq_true rfl) rfl rfl e41 f42 (Nat.le_of_ble_eq_true rfl) dLw_does_87 (s_TP_move hw) ?_ (tk_i fun v44 h43 hw => ?_)
            · intro E h45 hw
              rcases hw with ⟨rfl, hw⟩ | ⟨rfl, hw⟩ | ⟨rfl, hw⟩
              · refine tpXx.catch (ls' := [some (vR x0), some (vI x1), some (vI x2), some (vI x3), some (vI x4), none]) [] ⟨0, 155, 156, 76⟩ [⟨0, 155, 161, 78⟩, ⟨0, 155, 166, 80⟩] rfl (fun _ hz => nomatch hz) (by decide) (by decide) cLw_76 (Or.inl ⟨dLw_does_156, rfl⟩) (Nat.le_of_ble_eq_true rfl) rfl ?_
                refine tq_bipush (v := (-11 : Int32)) dLw_does_158 tnb_m11 ?_
                exact tq_iret rfl rfl dLw_does_160 hw
              · refine tpXx.catch (ls' := [some (vR x0), some (vI x1), some (vI x2), some (vI x3), some (vI x4), none]) [⟨0, 155, 156, 76⟩] ⟨0, 155, 161, 78⟩ [⟨0, 155, 166, 80⟩] rfl (List.forall_mem_cons.mpr ⟨Or.inr ⟨by decide, _, cLw_76, by decide +kernel⟩, fun _ hz => nomatch hz⟩) (by decide) (by decide) cLw_78 (Or.inl ⟨dLw_does_161, rfl⟩) (Nat.le_of_ble_eq_true rfl) rfl ?_
                refine tq_bipush (v := (-12 : Int32)) dLw_does_163 tnb_m12 ?_
                exact tq_iret rfl rfl dLw_does_165 hw
              · refine tpXx.catch (ls' := [some (vR x0), some (vI x1), some (vI x2), some (vI x3), some (vI x4), none]) [⟨0, 155, 156, 76⟩, ⟨0, 155, 161, 78⟩] ⟨0, 155, 166, 80⟩ [] rfl (List.forall_mem_cons.mpr ⟨Or.inr ⟨by decide, _, cLw_76, by decide +kernel⟩, List.forall_mem_cons.mpr ⟨Or.inr ⟨by decide, _, cLw_78, by decide +kernel⟩, fun _ hz => nomatch hz⟩⟩) (by decide) (by decide) cLw_80 (Or.inl ⟨dLw_does_166, rfl⟩) (Nat.le_of_ble_eq_true rfl) rfl ?_
                refine tq_bipush (v := (-13 : Int32)) dLw_does_168 tnb_m13 ?_
                exact tq_iret rfl rfl dLw_does_170 hw
            refine tq_goto (tgt := 155) dLw_does_90 (by decide) ?_
            exact tq_iret rfl rfl dLw_does_155 hw
        · have hw := hw.2 c4
          refine tq_aload_n dLw_does_68 rfl rfl ?_
          refine tq_iload_n dLw_does_69 rfl rfl ?_
          refine tq_iload_n dLw_does_70 rfl rfl ?_
          obtain ⟨a46, e47, f48, hw⟩ := hw
          refine te_callV mv_TP_set (ci := 12) (dc := 7) (as := [vI x2, vI x3]) (rest := []) kLw_54 rfl (Nat.le_of_ble_eq_true rfl) (Nat.le_of_ble_eq_true rfl) rfl rfl e47 f48 (Nat.le_of_ble_eq_true rfl) dLw_does_71 (s_TP_set hw) ?_ (tk_i fun v50 h49 hw => ?_)
          · intro E h51 hw
            rcases hw with ⟨rfl, hw⟩ | ⟨rfl, hw⟩ | ⟨rfl, hw⟩
            · refine tpXx.catch (ls' := [some (vR x0), some (vI x1), some (vI x2), some (vI x3), some (vI x4), none]) [] ⟨0, 155, 156, 76⟩ [⟨0, 155, 161, 78⟩, ⟨0, 155, 166, 80⟩] rfl (fun _ hz => nomatch hz) (by decide) (by decide) cLw_76 (Or.inl ⟨dLw_does_156, rfl⟩) (Nat.le_of_ble_eq_true rfl) rfl ?_
              refine tq_bipush (v := (-11 : Int32)) dLw_does_158 tnb_m11 ?_
              exact tq_iret rfl rfl dLw_does_160 hw
            · refine tpXx.catch (ls' := [some (vR x0), some (vI x1), some (vI x2), some (vI x3), some (vI x4), none]) [⟨0, 155, 156, 76⟩] ⟨0, 155, 161, 78⟩ [⟨0, 155, 166, 80⟩] rfl (List.forall_mem_cons.mpr ⟨Or.inr ⟨by decide, _, cLw_76, by decide +kernel⟩, fun _ hz => nomatch hz⟩) (by decide) (by decide) cLw_78 (Or.inl ⟨dLw_does_161, rfl⟩) (Nat.le_of_ble_eq_true rfl) rfl ?_
              refine tq_bipush (v := (-12 : Int32)) dLw_does_163 tnb_m12 ?_
              exact tq_iret rfl rfl dLw_does_165 hw
            · refine tpXx.catch (ls' := [some (vR x0), some (vI x1), some (vI x2), some (vI x3), some (vI x4), none]) [⟨0, 155, 156, 76⟩, ⟨0, 155, 161, 78⟩] ⟨0, 155, 166, 80⟩ [] rfl (List.forall_mem_cons.mpr ⟨Or.inr ⟨by decide, _, cLw_76, by decide +kernel⟩, List.forall_mem_cons.mpr ⟨Or.inr ⟨by decide, _, cLw_78, by decide +kernel⟩, fun _ hz => nomatch hz⟩⟩) (by decide) (by decide) cLw_80 (Or.inl ⟨dLw_does_166, rfl⟩) (Nat.le_of_ble_eq_true rfl) rfl ?_
              refine tq_bipush (v := (-13 : Int32)) dLw_does_168 tnb_m13 ?_
              exact tq_iret rfl rfl dLw_does_170 hw
          refine tq_goto (tgt := 155) dLw_does_74 (by decide) ?_
          exact tq_iret rfl rfl dLw_does_155 hw
      · have hw := hw.2 c3
        refine tq_aload_n dLw_does_33 rfl rfl ?_
        refine tq_iload_n dLw_does_34 rfl rfl ?_
        refine tq_iload_n dLw_does_35 rfl rfl ?_
        refine tq_iload dLw_does_36 rfl ?_
        refine tq_bipush (v := (10 : Int32)) dLw_does_38 tnb_10 ?_
        refine tq_irem dLw_does_40 (by decide) ?_
        refine tq_iload dLw_does_41 rfl ?_
        refine tq_bipush (v := (10 : Int32)) dLw_does_43 tnb_10 ?_
        refine tq_idiv dLw_does_45 (by decide) ?_
        refine tq_bipush (v := (100 : Int32)) dLw_does_46 tnb_100 ?_
        refine tq_irem dLw_does_48 (by decide) ?_
        refine tq_iload dLw_does_49 rfl ?_
        refine tq_sipush (v := (1000 : Int32)) dLw_does_51 tns_1000 ?_
        refine tq_idiv dLw_does_54 (by decide) ?_
        refine tq_iconst (v := (1 : Int32)) dLw_does_55 tni_1 ?_
        refine tq_isub dLw_does_56 ?_
        obtain ⟨a52, e53, f54, hw⟩ := hw
        refine te_callV mv_TP_node (ci := 12) (dc := 8) (as := [vI x2, vI x3, vI (x4 - x4 / (10 : Int32) * (10 : Int32)), vI ((x4 / (10 : Int32)) - (x4 / (10 : Int32)) / (100 : Int32) * (100 : Int32)), vI ((x4 / (1000 : Int32)) - (1 : Int32))]) (rest := []) kLw_50 rfl (Nat.le_of_ble_eq_true rfl) (Nat.le_of_ble_eq_true rfl) rfl rfl e53 f54 (Nat.le_of_ble_eq_true rfl) dLw_does_57 (s_TP_node hw) ?_ (tk_i fun v56 h55 hw => ?_)
        · intro E h57 hw
          rcases hw with ⟨rfl, hw⟩ | ⟨rfl, hw⟩ | ⟨rfl, hw⟩
          · refine tpXx.catch (ls' := [some (vR x0), some (vI x1), some (vI x2), some (vI x3), some (vI x4), none]) [] ⟨0, 155, 156, 76⟩ [⟨0, 155, 161, 78⟩, ⟨0, 155, 166, 80⟩] rfl (fun _ hz => nomatch hz) (by decide) (by decide) cLw_76 (Or.inl ⟨dLw_does_156, rfl⟩) (Nat.le_of_ble_eq_true rfl) rfl ?_
            refine tq_bipush (v := (-11 : Int32)) dLw_does_158 tnb_m11 ?_
            exact tq_iret rfl rfl dLw_does_160 hw
          · refine tpXx.catch (ls' := [some (vR x0), some (vI x1), some (vI x2), some (vI x3), some (vI x4), none]) [⟨0, 155, 156, 76⟩] ⟨0, 155, 161, 78⟩ [⟨0, 155, 166, 80⟩] rfl (List.forall_mem_cons.mpr ⟨Or.inr ⟨by decide, _, cLw_76, by decide +kernel⟩, fun _ hz => nomatch hz⟩) (by decide) (by decide) cLw_78 (Or.inl ⟨dLw_does_161, rfl⟩) (Nat.le_of_ble_eq_true rfl) rfl ?_
            refine tq_bipush (v := (-12 : Int32)) dLw_does_163 tnb_m12 ?_
            exact tq_iret rfl rfl dLw_does_165 hw
          · refine tpXx.catch (ls' := [some (vR x0), some (vI x1), some (vI x2), some (vI x3), some (vI x4), none]) [⟨0, 155, 156, 76⟩, ⟨0, 155, 161, 78⟩] ⟨0, 155, 166, 80⟩ [] rfl (List.forall_mem_cons.mpr ⟨Or.inr ⟨by decide, _, cLw_76, by decide +kernel⟩, List.forall_mem_cons.mpr ⟨Or.inr ⟨by decide, _, cLw_78, by decide +kernel⟩, fun _ hz => nomatch hz⟩⟩) (by decide) (by decide) cLw_80 (Or.inl ⟨dLw_does_166, rfl⟩) (Nat.le_of_ble_eq_true rfl) rfl ?_
            refine tq_bipush (v := (-13 : Int32)) dLw_does_168 tnb_m13 ?_
            exact tq_iret rfl rfl dLw_does_170 hw
        refine tq_goto (tgt := 155) dLw_does_60 (by decide) ?_
        exact tq_iret rfl rfl dLw_does_155 hw
    · have hw := hw.2 c2
      refine tq_aload_n dLw_does_20 rfl rfl ?_
      refine tq_iload_n dLw_does_21 rfl rfl ?_
      obtain ⟨a58, e59, f60, hw⟩ := hw
      refine te_callV mv_TP_copy (ci := 12) (dc := 7) (as := [vI x2]) (rest := []) kLw_47 rfl (Nat.le_of_ble_eq_true rfl) (Nat.le_of_ble_eq_true rfl) rfl rfl e59 f60 (Nat.le_of_ble_eq_true rfl) dLw_does_22 (s_TP_copy hw) ?_ (tk_i fun v62 h61 hw => ?_)
      · intro E h63 hw
        rcases hw with ⟨rfl, hw⟩ | ⟨rfl, hw⟩ | ⟨rfl, hw⟩
        · refine tpXx.catch (ls' := [some (vR x0), some (vI x1), some (vI x2), some (vI x3), some (vI x4), none]) [] ⟨0, 155, 156, 76⟩ [⟨0, 155, 161, 78⟩, ⟨0, 155, 166, 80⟩] rfl (fun _ hz => nomatch hz) (by decide) (by decide) cLw_76 (Or.inl ⟨dLw_does_156, rfl⟩) (Nat.le_of_ble_eq_true rfl) rfl ?_
          refine tq_bipush (v := (-11 : Int32)) dLw_does_158 tnb_m11 ?_
          exact tq_iret rfl rfl dLw_does_160 hw
        · refine tpXx.catch (ls' := [some (vR x0), some (vI x1), some (vI x2), some (vI x3), some (vI x4), none]) [⟨0, 155, 156, 76⟩] ⟨0, 155, 161, 78⟩ [⟨0, 155, 166, 80⟩] rfl (List.forall_mem_cons.mpr ⟨Or.inr ⟨by decide, _, cLw_76, by decide +kernel⟩, fun _ hz => nomatch hz⟩) (by decide) (by decide) cLw_78 (Or.inl ⟨dLw_does_161, rfl⟩) (Nat.le_of_ble_eq_true rfl) rfl ?_
          refine tq_bipush (v := (-12 : Int32)) dLw_does_163 tnb_m12 ?_
          exact tq_iret rfl rfl dLw_does_165 hw
        · refine tpXx.catch (ls' := [some (vR x0), some (vI x1), some (vI x2), some (vI x3), some (vI x4), none]) [⟨0, 155, 156, 76⟩, ⟨0, 155, 161, 78⟩] ⟨0, 155, 166, 80⟩ [] rfl (List.forall_mem_cons.mpr ⟨Or.inr ⟨by decide, _, cLw_76, by decide +kernel⟩, List.forall_mem_cons.mpr ⟨Or.inr ⟨by decide, _, cLw_78, by decide +kernel⟩, fun _ hz => nomatch hz⟩⟩) (by decide) (by decide) cLw_80 (Or.inl ⟨dLw_does_166, rfl⟩) (Nat.le_of_ble_eq_true rfl) rfl ?_
          refine tq_bipush (v := (-13 : Int32)) dLw_does_168 tnb_m13 ?_
          exact tq_iret rfl rfl dLw_does_170 hw
      refine tq_goto (tgt := 155) dLw_does_25 (by decide) ?_
      exact tq_iret rfl rfl dLw_does_155 hw
  · have hw := hw.2 c1
    refine tq_aload_n dLw_does_4 rfl rfl ?_
    refine tq_iload_n dLw_does_5 rfl rfl ?_
    refine tq_iload_n dLw_does_6 rfl rfl ?_
    refine tq_iload dLw_does_7 rfl ?_
    obtain ⟨a64, e65, f66, hw⟩ := hw
    refine te_callV mv_TP_begin (ci := 12) (dc := 8) (as := [vI x2, vI x3, vI x4]) (rest := []) kLw_43 rfl (Nat.le_of_ble_eq_true rfl) (Nat.le_of_ble_eq_true rfl) rfl rfl e65 f66 (Nat.le_of_ble_eq_true rfl) dLw_does_9 (s_TP_begin hw) ?_ (tk_i fun v68 h67 hw => ?_)
    · intro E h69 hw
      rcases hw with ⟨rfl, hw⟩ | ⟨rfl, hw⟩ | ⟨rfl, hw⟩
      · refine tpXx.catch (ls' := [some (vR x0), some (vI x1), some (vI x2), some (vI x3), some (vI x4), none]) [] ⟨0, 155, 156, 76⟩ [⟨0, 155, 161, 78⟩, ⟨0, 155, 166, 80⟩] rfl (fun _ hz => nomatch hz) (by decide) (by decide) cLw_76 (Or.inl ⟨dLw_does_156, rfl⟩) (Nat.le_of_ble_eq_true rfl) rfl ?_
        refine tq_bipush (v := (-11 : Int32)) dLw_does_158 tnb_m11 ?_
        exact tq_iret rfl rfl dLw_does_160 hw
      · refine tpXx.catch (ls' := [some (vR x0), some (vI x1), some (vI x2), some (vI x3), some (vI x4), none]) [⟨0, 155, 156, 76⟩] ⟨0, 155, 161, 78⟩ [⟨0, 155, 166, 80⟩] rfl (List.forall_mem_cons.mpr ⟨Or.inr ⟨by decide, _, cLw_76, by decide +kernel⟩, fun _ hz => nomatch hz⟩) (by decide) (by decide) cLw_78 (Or.inl ⟨dLw_does_161, rfl⟩) (Nat.le_of_ble_eq_true rfl) rfl ?_
        refine tq_bipush (v := (-12 : Int32)) dLw_does_163 tnb_m12 ?_
        exact tq_iret rfl rfl dLw_does_165 hw
      · refine tpXx.catch (ls' := [some (vR x0), some (vI x1), some (vI x2), some (vI x3), some (vI x4), none]) [⟨0, 155, 156, 76⟩, ⟨0, 155, 161, 78⟩] ⟨0, 155, 166, 80⟩ [] rfl (List.forall_mem_cons.mpr ⟨Or.inr ⟨by decide, _, cLw_76, by decide +kernel⟩, List.forall_mem_cons.mpr ⟨Or.inr ⟨by decide, _, cLw_78, by decide +kernel⟩, fun _ hz => nomatch hz⟩⟩) (by decide) (by decide) cLw_80 (Or.inl ⟨dLw_does_166, rfl⟩) (Nat.le_of_ble_eq_true rfl) rfl ?_
        refine tq_bipush (v := (-13 : Int32)) dLw_does_168 tnb_m13 ?_
        exact tq_iret rfl rfl dLw_does_170 hw
    refine tq_goto (tgt := 155) dLw_does_12 (by decide) ?_
    exact tq_iret rfl rfl dLw_does_155 hw
