/-! TModel.isInRing -/
theorem dMd_isInRing_0 : decode (mB Md_isInRing) 0 = .ok (.aload_n 0, 1) := by decide +kernel
theorem dMd_isInRing_1 : decode (mB Md_isInRing) 1 = .ok (.getfield 130, 3) := by decide +kernel
theorem dMd_isInRing_4 : decode (mB Md_isInRing) 4 = .ok (.iload_n 1, 1) := by decide +kernel
theorem dMd_isInRing_5 : decode (mB Md_isInRing) 5 = .ok (.iaload, 1) := by decide +kernel
theorem dMd_isInRing_6 : decode (mB Md_isInRing) 6 = .ok (.istore_n 2, 1) := by decide +kernel
theorem dMd_isInRing_7 : decode (mB Md_isInRing) 7 = .ok (.iconst 0, 1) := by decide +kernel
theorem dMd_isInRing_8 : decode (mB Md_isInRing) 8 = .ok (.istore_n 3, 1) := by decide +kernel
theorem dMd_isInRing_9 : decode (mB Md_isInRing) 9 = .ok (.iload_n 3, 1) := by decide +kernel
theorem dMd_isInRing_10 : decode (mB Md_isInRing) 10 = .ok (.aload_n 0, 1) := by decide +kernel
theorem dMd_isInRing_11 : decode (mB Md_isInRing) 11 = .ok (.getfield 162, 3) := by decide +kernel
theorem dMd_isInRing_14 : decode (mB Md_isInRing) 14 = .ok (.if_icmp .ge 26, 3) := by decide +kernel
theorem dMd_isInRing_17 : decode (mB Md_isInRing) 17 = .ok (.iload_n 2, 1) := by decide +kernel
theorem dMd_isInRing_18 : decode (mB Md_isInRing) 18 = .ok (.iconst (-1), 1) := by decide +kernel
theorem dMd_isInRing_19 : decode (mB Md_isInRing) 19 = .ok (.if_icmp .eq 21, 3) := by decide +kernel
theorem dMd_isInRing_22 : decode (mB Md_isInRing) 22 = .ok (.iload_n 2, 1) := by decide +kernel
theorem dMd_isInRing_23 : decode (mB Md_isInRing) 23 = .ok (.iload_n 1, 1) := by decide +kernel
theorem dMd_isInRing_24 : decode (mB Md_isInRing) 24 = .ok (.if_icmp .eq 16, 3) := by decide +kernel
theorem dMd_isInRing_27 : decode (mB Md_isInRing) 27 = .ok (.aload_n 0, 1) := by decide +kernel
theorem dMd_isInRing_28 : decode (mB Md_isInRing) 28 = .ok (.getfield 130, 3) := by decide +kernel
theorem dMd_isInRing_31 : decode (mB Md_isInRing) 31 = .ok (.iload_n 2, 1) := by decide +kernel
theorem dMd_isInRing_32 : decode (mB Md_isInRing) 32 = .ok (.iaload, 1) := by decide +kernel
theorem dMd_isInRing_33 : decode (mB Md_isInRing) 33 = .ok (.istore_n 2, 1) := by decide +kernel
theorem dMd_isInRing_34 : decode (mB Md_isInRing) 34 = .ok (.iinc 3 1, 3) := by decide +kernel
theorem dMd_isInRing_37 : decode (mB Md_isInRing) 37 = .ok (.goto (-28), 3) := by decide +kernel
theorem dMd_isInRing_40 : decode (mB Md_isInRing) 40 = .ok (.iload_n 2, 1) := by decide +kernel
theorem dMd_isInRing_41 : decode (mB Md_isInRing) 41 = .ok (.iload_n 1, 1) := by decide +kernel
theorem dMd_isInRing_42 : decode (mB Md_isInRing) 42 = .ok (.if_icmp .ne 7, 3) := by decide +kernel
theorem dMd_isInRing_45 : decode (mB Md_isInRing) 45 = .ok (.iconst 1, 1) := by decide +kernel
theorem dMd_isInRing_46 : decode (mB Md_isInRing) 46 = .ok (.goto 4, 3) := by decide +kernel
theorem dMd_isInRing_49 : decode (mB Md_isInRing) 49 = .ok (.iconst 0, 1) := by decide +kernel
theorem dMd_isInRing_50 : decode (mB Md_isInRing) 50 = .ok (.ireturn, 1) := by decide +kernel
def w_Md_isInRing_40 (R : Int32 → tpH → Prop) (x1 : Int32) (x2 : Int32) (h : tpH) : Prop :=
  (¬ x2 = x1 → (R (0 : Int32) h)) ∧ (x2 = x1 → (R (1 : Int32) h))
def b_Md_isInRing_9 (R : Int32 → tpH → Prop) (Y : Nat → Int32 → Int32 → Int32 → tpH → Prop) (o : Nat) (x1 : Int32) (x2 : Int32) (x3 : Int32) (h : tpH) : Prop :=
  hT h o = 14 ∧ (((hI h o 0) ≤ x3 → (w_Md_isInRing_40 R x1 x2 h)) ∧ (¬ (hI h o 0) ≤ x3 → ((x2 = (-1 : Int32) → (w_Md_isInRing_40 R x1 x2 h)) ∧ (¬ x2 = (-1 : Int32) → ((x2 = x1 → (w_Md_isInRing_40 R x1 x2 h)) ∧ (¬ x2 = x1 → (∃ a5, (hR h o 49) = some a5 ∧ hT h a5 = 15 ∧ (vp_in x2 (hL h a5) ∧ (Y o x1 (hI h a5 x2.toNatClampNeg) (x3 + (1 : Int32)) h)))))))))
def w_Md_isInRing_9 (R : Int32 → tpH → Prop) : Nat → Nat → Int32 → Int32 → Int32 → tpH → Prop
  | 0 => fun _ _ _ _ _ => False
  | n + 1 => b_Md_isInRing_9 R (w_Md_isInRing_9 R n)
def w_Md_isInRing (o : Nat) (x1 : Int32) (h : tpH) (R : Int32 → tpH → Prop) : Prop :=
  hT h o = 14 ∧ (∃ a2, (hR h o 49) = some a2 ∧ hT h a2 = 15 ∧ (vp_in x1 (hL h a2) ∧ (∃ n, w_Md_isInRing_9 R n o x1 (hI h a2 x1.toNatClampNeg) (0 : Int32) h)))
theorem s_Md_isInRing_40 {h0 : tpH} {av : List tpV} {R : Int32 → tpH → Prop} : ∀ (x1 : Int32) (x2 : Int32) (h : tpH), w_Md_isInRing_40 R x1 x2 h → tpR Md_isInRing 0 h0 av (tpOi R (fun _ _ => False)) 40 [none, some (vI x1), some (vI x2), none] [] h := by
  intro x1 x2 h hw
  unfold w_Md_isInRing_40 at hw
  refine tq_iload_n dMd_isInRing_40 rfl rfl ?_
  refine tq_iload_n dMd_isInRing_41 rfl rfl ?_
  refine tq_icmpne (tgt := 49) dMd_isInRing_42 (by decide) (fun c1 => ?_) (fun c1 => ?_)
  · have hw := hw.1 c1
    refine tq_iconst (v := (0 : Int32)) dMd_isInRing_49 tni_0 ?_
    exact tq_iret rfl (by decide) dMd_isInRing_50 hw
  · have hw := hw.2 c1
    refine tq_iconst (v := (1 : Int32)) dMd_isInRing_45 tni_1 ?_
    refine tq_goto (tgt := 50) dMd_isInRing_46 (by decide) ?_
    exact tq_iret rfl (by decide) dMd_isInRing_50 hw
theorem s_Md_isInRing_9 {h0 : tpH} {av : List tpV} {R : Int32 → tpH → Prop} : ∀ (n : Nat) (o : Nat) (x1 : Int32) (x2 : Int32) (x3 : Int32) (h : tpH), w_Md_isInRing_9 R n o x1 x2 x3 h → tpR Md_isInRing 0 h0 av (tpOi R (fun _ _ => False)) 9 [some (vR (some o)), some (vI x1), some (vI x2), some (vI x3)] [] h := by
  intro n
  induction n with
  | zero => intro o x1 x2 x3 h hw; exact False.elim hw
  | succ n ih =>
    intro o x1 x2 x3 h hw
    change b_Md_isInRing_9 R (w_Md_isInRing_9 R n) o x1 x2 x3 h at hw
    unfold b_Md_isInRing_9 at hw
    refine tq_iload_n dMd_isInRing_9 rfl rfl ?_
    refine tq_aload_n dMd_isInRing_10 rfl rfl ?_
    obtain ⟨f1, hw⟩ := hw
    refine te_geti dMd_isInRing_11 fMd_162 rfl rfl f1 ?_
    refine tq_icmpge (tgt := 40) dMd_isInRing_14 (by decide) (fun c2 => ?_) (fun c2 => ?_)
    · have hw := hw.1 c2
      refine tpR.fo (ls' := [none, some (vI x1), some (vI x2), none]) ?_ (And.intro rfl (And.intro rfl trivial))
      exact s_Md_isInRing_40 _ _ _ hw
    · have hw := hw.2 c2
      refine tq_iload_n dMd_isInRing_17 rfl rfl ?_
      refine tq_iconst (v := (-1 : Int32)) dMd_isInRing_18 tni_m1 ?_
      refine tq_icmpeq (tgt := 40) dMd_isInRing_19 (by decide) (fun c3 => ?_) (fun c3 => ?_)
      · have hw := hw.1 c3
        refine tpR.fo (ls' := [none, some (vI x1), some (vI x2), none]) ?_ (And.intro rfl (And.intro rfl trivial))
        exact s_Md_isInRing_40 _ _ _ hw
      · have hw := hw.2 c3
        refine tq_iload_n dMd_isInRing_22 rfl rfl ?_
        refine tq_iload_n dMd_isInRing_23 rfl rfl ?_
        refine tq_icmpeq (tgt := 40) dMd_isInRing_24 (by decide) (fun c4 => ?_) (fun c4 => ?_)
        · have hw := hw.1 c4
          refine tpR.fo (ls' := [none, some (vI x1), some (vI x2), none]) ?_ (And.intro rfl (And.intro rfl trivial))
          exact s_Md_isInRing_40 _ _ _ hw
        · have hw := hw.2 c4
          refine tq_aload_n dMd_isInRing_27 rfl rfl ?_
          refine te_getr dMd_isInRing_28 fMd_130 rfl rfl f1 ?_
          refine tq_iload_n dMd_isInRing_31 rfl rfl ?_
          obtain ⟨a5, e6, f7, hw⟩ := hw
          obtain ⟨f8, hw⟩ := hw
          refine te_iald dMd_isInRing_32 e6 (Or.inl f7) f8 ?_
          refine tq_istore_n (ls' := [some (vR (some o)), some (vI x1), some (vI (hI h a5 x2.toNatClampNeg)), some (vI x3)]) dMd_isInRing_33 rfl (Nat.le_of_ble_eq_true rfl) rfl ?_
          refine tq_inc (k := (1 : Int32)) (ls' := [some (vR (some o)), some (vI x1), some (vI (hI h a5 x2.toNatClampNeg)), some (vI (x3 + (1 : Int32)))]) dMd_isInRing_34 rfl tni_1 (Nat.le_of_ble_eq_true rfl) rfl ?_
          refine tq_goto (tgt := 9) dMd_isInRing_37 (by decide) ?_
          refine tpR.fo (ls' := [some (vR (some o)), some (vI x1), some (vI (hI h a5 x2.toNatClampNeg)), some (vI (x3 + (1 : Int32)))]) ?_ (And.intro rfl (And.intro rfl (And.intro rfl (And.intro rfl trivial))))
          exact ih _ _ _ _ _ hw
theorem s_Md_isInRing {o : Nat} {x1 : Int32} {h : tpH} {R : Int32 → tpH → Prop} (hw : w_Md_isInRing o x1 h R) : tpC Md_isInRing 0 [vR (some o), vI x1] h (tpOi R (fun _ _ => False)) := by
  refine tpC_of mv_Md_isInRing.2.2.2.1 rfl rfl (Nat.le_of_ble_eq_true rfl) ?_
  show tpR Md_isInRing 0 h _ _ 0 [some (vR (some o)), some (vI x1), none, none] [] h
  unfold w_Md_isInRing at hw
  refine tq_aload_n dMd_isInRing_0 rfl rfl ?_
  obtain ⟨f1, hw⟩ := hw
  refine te_getr dMd_isInRing_1 fMd_130 rfl rfl f1 ?_
  refine tq_iload_n dMd_isInRing_4 rfl rfl ?_
  obtain ⟨a2, e3, f4, hw⟩ := hw
  obtain ⟨f5, hw⟩ := hw
  refine te_iald dMd_isInRing_5 e3 (Or.inl f4) f5 ?_
  refine tq_istore_n (ls' := [some (vR (some o)), some (vI x1), some (vI (hI h a2 x1.toNatClampNeg)), none]) dMd_isInRing_6 rfl (Nat.le_of_ble_eq_true rfl) rfl ?_
  refine tq_iconst (v := (0 : Int32)) dMd_isInRing_7 tni_0 ?_
  refine tq_istore_n (ls' := [some (vR (some o)), some (vI x1), some (vI (hI h a2 x1.toNatClampNeg)), some (vI (0 : Int32))]) dMd_isInRing_8 rfl (Nat.le_of_ble_eq_true rfl) rfl ?_
  refine tpR.fo (ls' := [some (vR (some o)), some (vI x1), some (vI (hI h a2 x1.toNatClampNeg)), some (vI (0 : Int32))]) ?_ (And.intro rfl (And.intro rfl (And.intro rfl (And.intro rfl trivial))))
  obtain ⟨n, hw⟩ := hw
  exact s_Md_isInRing_9 n _ _ _ _ _ hw
/-! TModel.ringed -/
theorem dMd_ringed_0 : decode (mB Md_ringed) 0 = .ok (.iconst 0, 1) := by decide +kernel
theorem dMd_ringed_1 : decode (mB Md_ringed) 1 = .ok (.istore_n 1, 1) := by decide +kernel
theorem dMd_ringed_2 : decode (mB Md_ringed) 2 = .ok (.iload_n 1, 1) := by decide +kernel
theorem dMd_ringed_3 : decode (mB Md_ringed) 3 = .ok (.aload_n 0, 1) := by decide +kernel
theorem dMd_ringed_4 : decode (mB Md_ringed) 4 = .ok (.getfield 162, 3) := by decide +kernel
theorem dMd_ringed_7 : decode (mB Md_ringed) 7 = .ok (.if_icmp .ge 28, 3) := by decide +kernel
theorem dMd_ringed_10 : decode (mB Md_ringed) 10 = .ok (.aload_n 0, 1) := by decide +kernel
theorem dMd_ringed_11 : decode (mB Md_ringed) 11 = .ok (.getfield 124, 3) := by decide +kernel
theorem dMd_ringed_14 : decode (mB Md_ringed) 14 = .ok (.iload_n 1, 1) := by decide +kernel
theorem dMd_ringed_15 : decode (mB Md_ringed) 15 = .ok (.baload, 1) := by decide +kernel
theorem dMd_ringed_16 : decode (mB Md_ringed) 16 = .ok (.ifCond .eq 13, 3) := by decide +kernel
theorem dMd_ringed_19 : decode (mB Md_ringed) 19 = .ok (.aload_n 0, 1) := by decide +kernel
theorem dMd_ringed_20 : decode (mB Md_ringed) 20 = .ok (.iload_n 1, 1) := by decide +kernel
theorem dMd_ringed_21 : decode (mB Md_ringed) 21 = .ok (.invokevirtual 359, 3) := by decide +kernel
theorem dMd_ringed_24 : decode (mB Md_ringed) 24 = .ok (.ifCond .eq 5, 3) := by decide +kernel
theorem dMd_ringed_27 : decode (mB Md_ringed) 27 = .ok (.iload_n 1, 1) := by decide +kernel
theorem dMd_ringed_28 : decode (mB Md_ringed) 28 = .ok (.ireturn, 1) := by decide +kernel
theorem dMd_ringed_29 : decode (mB Md_ringed) 29 = .ok (.iinc 1 1, 3) := by decide +kernel
theorem dMd_ringed_32 : decode (mB Md_ringed) 32 = .ok (.goto (-30), 3) := by decide +kernel
theorem dMd_ringed_35 : decode (mB Md_ringed) 35 = .ok (.iconst (-1), 1) := by decide +kernel
theorem dMd_ringed_36 : decode (mB Md_ringed) 36 = .ok (.ireturn, 1) := by decide +kernel
def b_Md_ringed_2 (R : Int32 → tpH → Prop) (Y : Nat → Int32 → tpH → Prop) (o : Nat) (x1 : Int32) (h : tpH) : Prop :=
  hT h o = 14 ∧ (((hI h o 0) ≤ x1 → (R (-1 : Int32) h)) ∧ (¬ (hI h o 0) ≤ x1 → (∃ a3, (hR h o 47) = some a3 ∧ hT h a3 = 16 ∧ (vp_in x1 (hL h a3) ∧ (((hI h a3 x1.toNatClampNeg) = 0 → (Y o (x1 + (1 : Int32)) h)) ∧ (¬ (hI h a3 x1.toNatClampNeg) = 0 → (w_Md_isInRing o x1 h (fun v9 h8 => (v9 = 0 → (Y o (x1 + (1 : Int32)) h8)) ∧ (¬ v9 = 0 → (R x1 h8))))))))))
def w_Md_ringed_2 (R : Int32 → tpH → Prop) : Nat → Nat → Int32 → tpH → Prop
  | 0 => fun _ _ _ => False
  | n + 1 => b_Md_ringed_2 R (w_Md_ringed_2 R n)
def w_Md_ringed (o : Nat) (h : tpH) (R : Int32 → tpH → Prop) : Prop :=
  ∃ n, w_Md_ringed_2 R n o (0 : Int32) h
theorem s_Md_ringed_2 {h0 : tpH} {av : List tpV} {R : Int32 → tpH → Prop} : ∀ (n : Nat) (o : Nat) (x1 : Int32) (h : tpH), w_Md_ringed_2 R n o x1 h → tpR Md_ringed 1 h0 av (tpOi R (fun _ _ => False)) 2 [some (vR (some o)), some (vI x1)] [] h := by
  intro n
  induction n with
  | zero => intro o x1 h hw; exact False.elim hw
  | succ n ih =>
    intro o x1 h hw
    change b_Md_ringed_2 R (w_Md_ringed_2 R n) o x1 h at hw
    unfold b_Md_ringed_2 at hw
    refine tq_iload_n dMd_ringed_2 rfl rfl ?_
    refine tq_aload_n dMd_ringed_3 rfl rfl ?_
    obtain ⟨f1, hw⟩ := hw
    refine te_geti dMd_ringed_4 fMd_162 rfl rfl f1 ?_
    refine tq_icmpge (tgt := 35) dMd_ringed_7 (by decide) (fun c2 => ?_) (fun c2 => ?_)
    · have hw := hw.1 c2
      refine tq_iconst (v := (-1 : Int32)) dMd_ringed_35 tni_m1 ?_
      exact tq_iret rfl rfl dMd_ringed_36 hw
    · have hw := hw.2 c2
      refine tq_aload_n dMd_ringed_10 rfl rfl ?_
      refine te_getr dMd_ringed_11 fMd_124 rfl rfl f1 ?_
      refine tq_iload_n dMd_ringed_14 rfl rfl ?_
      obtain ⟨a3, e4, f5, hw⟩ := hw
      obtain ⟨f6, hw⟩ := hw
      refine te_zald dMd_ringed_15 e4 f5 f6 ?_
      refine tq_ifeq (tgt := 29) dMd_ringed_16 (by decide) (fun c7 => ?_) (fun c7 => ?_)
      · have hw := hw.1 c7
        refine tq_inc (k := (1 : Int32)) (ls' := [some (vR (some o)), some (vI (x1 + (1 : Int32)))]) dMd_ringed_29 rfl tni_1 (Nat.le_of_ble_eq_true rfl) rfl ?_
        refine tq_goto (tgt := 2) dMd_ringed_32 (by decide) ?_
        refine tpR.fo (ls' := [some (vR (some o)), some (vI (x1 + (1 : Int32)))]) ?_ (And.intro rfl (And.intro rfl trivial))
        exact ih _ _ _ hw
      · have hw := hw.2 c7
        refine tq_aload_n dMd_ringed_19 rfl rfl ?_
        refine tq_iload_n dMd_ringed_20 rfl rfl ?_
        refine te_callV mv_Md_isInRing (ci := 13) (dc := 0) (as := [vI x1]) (rest := []) kMd_359 rfl (Nat.le_of_ble_eq_true rfl) (Nat.le_of_ble_eq_true rfl) rfl rfl rfl f1 (Nat.le_of_ble_eq_true rfl) dMd_ringed_21 (s_Md_isInRing hw) (fun _ _ hx => False.elim hx) (tk_i fun v9 h8 hw => ?_)
        refine tq_ifeq (tgt := 29) dMd_ringed_24 (by decide) (fun c10 => ?_) (fun c10 => ?_)
        · have hw := hw.1 c10
          refine tq_inc (k := (1 : Int32)) (ls' := [some (vR (some o)), some (vI (x1 + (1 : Int32)))]) dMd_ringed_29 rfl tni_1 (Nat.le_of_ble_eq_true rfl) rfl ?_
          refine tq_goto (tgt := 2) dMd_ringed_32 (by decide) ?_
          refine tpR.fo (ls' := [some (vR (some o)), some (vI (x1 + (1 : Int32)))]) ?_ (And.intro rfl (And.intro rfl trivial))
          exact ih _ _ _ hw
        · have hw := hw.2 c10
          refine tq_iload_n dMd_ringed_27 rfl rfl ?_
          exact tq_iret rfl rfl dMd_ringed_28 hw
theorem s_Md_ringed {o : Nat} {h : tpH} {R : Int32 → tpH → Prop} (hw : w_Md_ringed o h R) : tpC Md_ringed 1 [vR (some o)] h (tpOi R (fun _ _ => False)) := by
  refine tpC_of mv_Md_ringed.2.2.2.1 rfl rfl (Nat.le_of_ble_eq_true rfl) ?_
  show tpR Md_ringed 1 h _ _ 0 [some (vR (some o)), none] [] h
  unfold w_Md_ringed at hw
  refine tq_iconst (v := (0 : Int32)) dMd_ringed_0 tni_0 ?_
  refine tq_istore_n (ls' := [some (vR (some o)), some (vI (0 : Int32))]) dMd_ringed_1 rfl (Nat.le_of_ble_eq_true rfl) rfl ?_
  refine tpR.fo (ls' := [some (vR (some o)), some (vI (0 : Int32))]) ?_ (And.intro rfl (And.intro rfl trivial))
  obtain ⟨n, hw⟩ := hw
  exact s_Md_ringed_2 n _ _ _ hw
/-! TModel.openRing -/
theorem dMd_openRing_0 : decode (mB Md_openRing) 0 = .ok (.iconst 0, 1) := by decide +kernel
theorem dMd_openRing_1 : decode (mB Md_openRing) 1 = .ok (.istore_n 3, 1) := by decide +kernel
theorem dMd_openRing_2 : decode (mB Md_openRing) 2 = .ok (.iload_n 3, 1) := by decide +kernel
theorem dMd_openRing_3 : decode (mB Md_openRing) 3 = .ok (.aload_n 0, 1) := by decide +kernel
theorem dMd_openRing_4 : decode (mB Md_openRing) 4 = .ok (.getfield 162, 3) := by decide +kernel
theorem dMd_openRing_7 : decode (mB Md_openRing) 7 = .ok (.if_icmp .ge 16, 3) := by decide +kernel
theorem dMd_openRing_10 : decode (mB Md_openRing) 10 = .ok (.aload_n 0, 1) := by decide +kernel
theorem dMd_openRing_11 : decode (mB Md_openRing) 11 = .ok (.getfield 133, 3) := by decide +kernel
theorem dMd_openRing_14 : decode (mB Md_openRing) 14 = .ok (.iload_n 3, 1) := by decide +kernel
theorem dMd_openRing_15 : decode (mB Md_openRing) 15 = .ok (.iconst 0, 1) := by decide +kernel
theorem dMd_openRing_16 : decode (mB Md_openRing) 16 = .ok (.bastore, 1) := by decide +kernel
theorem dMd_openRing_17 : decode (mB Md_openRing) 17 = .ok (.iinc 3 1, 3) := by decide +kernel
theorem dMd_openRing_20 : decode (mB Md_openRing) 20 = .ok (.goto (-18), 3) := by decide +kernel
theorem dMd_openRing_23 : decode (mB Md_openRing) 23 = .ok (.iload_n 2, 1) := by decide +kernel
theorem dMd_openRing_24 : decode (mB Md_openRing) 24 = .ok (.istore_n 3, 1) := by decide +kernel
theorem dMd_openRing_25 : decode (mB Md_openRing) 25 = .ok (.aload_n 0, 1) := by decide +kernel
theorem dMd_openRing_26 : decode (mB Md_openRing) 26 = .ok (.getfield 133, 3) := by decide +kernel
theorem dMd_openRing_29 : decode (mB Md_openRing) 29 = .ok (.iload_n 3, 1) := by decide +kernel
theorem dMd_openRing_30 : decode (mB Md_openRing) 30 = .ok (.baload, 1) := by decide +kernel
theorem dMd_openRing_31 : decode (mB Md_openRing) 31 = .ok (.ifCond .ne 20, 3) := by decide +kernel
theorem dMd_openRing_34 : decode (mB Md_openRing) 34 = .ok (.aload_n 0, 1) := by decide +kernel
theorem dMd_openRing_35 : decode (mB Md_openRing) 35 = .ok (.getfield 133, 3) := by decide +kernel
theorem dMd_openRing_38 : decode (mB Md_openRing) 38 = .ok (.iload_n 3, 1) := by decide +kernel
theorem dMd_openRing_39 : decode (mB Md_openRing) 39 = .ok (.iconst 1, 1) := by decide +kernel
theorem dMd_openRing_40 : decode (mB Md_openRing) 40 = .ok (.bastore, 1) := by decide +kernel
theorem dMd_openRing_41 : decode (mB Md_openRing) 41 = .ok (.aload_n 0, 1) := by decide +kernel
theorem dMd_openRing_42 : decode (mB Md_openRing) 42 = .ok (.getfield 130, 3) := by decide +kernel
theorem dMd_openRing_45 : decode (mB Md_openRing) 45 = .ok (.iload_n 3, 1) := by decide +kernel
theorem dMd_openRing_46 : decode (mB Md_openRing) 46 = .ok (.iaload, 1) := by decide +kernel
theorem dMd_openRing_47 : decode (mB Md_openRing) 47 = .ok (.istore_n 3, 1) := by decide +kernel
theorem dMd_openRing_48 : decode (mB Md_openRing) 48 = .ok (.goto (-23), 3) := by decide +kernel
theorem dMd_openRing_51 : decode (mB Md_openRing) 51 = .ok (.iconst 0, 1) := by decide +kernel
theorem dMd_openRing_52 : decode (mB Md_openRing) 52 = .ok (.istore 4, 2) := by decide +kernel
theorem dMd_openRing_54 : decode (mB Md_openRing) 54 = .ok (.iload 4, 2) := by decide +kernel
theorem dMd_openRing_56 : decode (mB Md_openRing) 56 = .ok (.aload_n 0, 1) := by decide +kernel
theorem dMd_openRing_57 : decode (mB Md_openRing) 57 = .ok (.getfield 162, 3) := by decide +kernel
theorem dMd_openRing_60 : decode (mB Md_openRing) 60 = .ok (.if_icmp .ge 50, 3) := by decide +kernel
theorem dMd_openRing_63 : decode (mB Md_openRing) 63 = .ok (.aload_n 0, 1) := by decide +kernel
theorem dMd_openRing_64 : decode (mB Md_openRing) 64 = .ok (.getfield 133, 3) := by decide +kernel
theorem dMd_openRing_67 : decode (mB Md_openRing) 67 = .ok (.iload 4, 2) := by decide +kernel
theorem dMd_openRing_69 : decode (mB Md_openRing) 69 = .ok (.baload, 1) := by decide +kernel
theorem dMd_openRing_70 : decode (mB Md_openRing) 70 = .ok (.ifCond .eq 34, 3) := by decide +kernel
theorem dMd_openRing_73 : decode (mB Md_openRing) 73 = .ok (.aload_n 0, 1) := by decide +kernel
theorem dMd_openRing_74 : decode (mB Md_openRing) 74 = .ok (.iload_n 1, 1) := by decide +kernel
theorem dMd_openRing_75 : decode (mB Md_openRing) 75 = .ok (.iload 4, 2) := by decide +kernel
theorem dMd_openRing_77 : decode (mB Md_openRing) 77 = .ok (.invokevirtual 212, 3) := by decide +kernel
theorem dMd_openRing_80 : decode (mB Md_openRing) 80 = .ok (.ifCond .eq 24, 3) := by decide +kernel
theorem dMd_openRing_83 : decode (mB Md_openRing) 83 = .ok (.aload_n 0, 1) := by decide +kernel
theorem dMd_openRing_84 : decode (mB Md_openRing) 84 = .ok (.getfield 130, 3) := by decide +kernel
theorem dMd_openRing_87 : decode (mB Md_openRing) 87 = .ok (.iload 4, 2) := by decide +kernel
theorem dMd_openRing_89 : decode (mB Md_openRing) 89 = .ok (.aload_n 0, 1) := by decide +kernel
theorem dMd_openRing_90 : decode (mB Md_openRing) 90 = .ok (.iload_n 1, 1) := by decide +kernel
theorem dMd_openRing_91 : decode (mB Md_openRing) 91 = .ok (.iload 4, 2) := by decide +kernel
theorem dMd_openRing_93 : decode (mB Md_openRing) 93 = .ok (.invokevirtual 179, 3) := by decide +kernel
theorem dMd_openRing_96 : decode (mB Md_openRing) 96 = .ok (.iastore, 1) := by decide +kernel
theorem dMd_openRing_97 : decode (mB Md_openRing) 97 = .ok (.aload_n 0, 1) := by decide +kernel
theorem dMd_openRing_98 : decode (mB Md_openRing) 98 = .ok (.iconst 4, 1) := by decide +kernel
theorem dMd_openRing_99 : decode (mB Md_openRing) 99 = .ok (.iload 4, 2) := by decide +kernel
theorem dMd_openRing_101 : decode (mB Md_openRing) 101 = .ok (.invokevirtual 349, 3) := by decide +kernel
theorem dMd_openRing_104 : decode (mB Md_openRing) 104 = .ok (.iinc 4 1, 3) := by decide +kernel
theorem dMd_openRing_107 : decode (mB Md_openRing) 107 = .ok (.goto (-53), 3) := by decide +kernel
theorem dMd_openRing_110 : decode (mB Md_openRing) 110 = .ok (.return_, 1) := by decide +kernel
def b_Md_openRing_54 (R : tpH → Prop) (Y : Nat → Int32 → Int32 → tpH → Prop) (o : Nat) (x1 : Int32) (x4 : Int32) (h : tpH) : Prop :=
  hT h o = 14 ∧ (((hI h o 0) ≤ x4 → (R h)) ∧ (¬ (hI h o 0) ≤ x4 → (∃ a3, (hR h o 50) = some a3 ∧ hT h a3 = 16 ∧ (vp_in x4 (hL h a3) ∧ (((hI h a3 x4.toNatClampNeg) = 0 → (Y o x1 (x4 + (1 : Int32)) h)) ∧ (¬ (hI h a3 x4.toNatClampNeg) = 0 → (w_Md_has o x1 x4 h (fun v9 h8 => (v9 = 0 → (Y o x1 (x4 + (1 : Int32)) h8)) ∧ (¬ v9 = 0 → (hT h8 o = 14 ∧ (w_Md_parentIn o x1 x4 h8 (fun v13 h12 => ∃ a14, (hR h8 o 49) = some a14 ∧ hT h12 a14 = 15 ∧ (vp_in x4 (hL h12 a14) ∧ (∀ h18, h18 = sI h12 a14 x4.toNatClampNeg v13 → (hT h18 o = 14 ∧ (w_Md_list o (4 : Int32) x4 h18 (fun h21 => Y o x1 (x4 + (1 : Int32)) h21)))))))))))))))))
def w_Md_openRing_54 (R : tpH → Prop) : Nat → Nat → Int32 → Int32 → tpH → Prop
  | 0 => fun _ _ _ _ => False
  | n + 1 => b_Md_openRing_54 R (w_Md_openRing_54 R n)
def b_Md_openRing_25 (R : tpH → Prop) (Y : Nat → Int32 → Int32 → tpH → Prop) (o : Nat) (x1 : Int32) (x3 : Int32) (h : tpH) : Prop :=
  hT h o = 14 ∧ (∃ a2, (hR h o 50) = some a2 ∧ hT h a2 = 16 ∧ (vp_in x3 (hL h a2) ∧ ((¬ (hI h a2 x3.toNatClampNeg) = 0 → (∃ n, w_Md_openRing_54 R n o x1 (0 : Int32) h)) ∧ ((hI h a2 x3.toNatClampNeg) = 0 → (vp_in x3 (hL h a2) ∧ (∀ h8, h8 = sI h a2 x3.toNatClampNeg (1 : Int32) → (∃ a10, (hR h8 o 49) = some a10 ∧ hT h8 a10 = 15 ∧ (vp_in x3 (hL h8 a10) ∧ (Y o x1 (hI h8 a10 x3.toNatClampNeg) h8)))))))))
def w_Md_openRing_25 (R : tpH → Prop) : Nat → Nat → Int32 → Int32 → tpH → Prop
  | 0 => fun _ _ _ _ => False
  | n + 1 => b_Md_openRing_25 R (w_Md_openRing_25 R n)
def b_Md_openRing_2 (R : tpH → Prop) (Y : Nat → Int32 → Int32 → Int32 → tpH → Prop) (o : Nat) (x1 : Int32) (x2 : Int32) (x3 : Int32) (h : tpH) : Prop :=
  hT h o = 14 ∧ (((hI h o 0) ≤ x3 → (∃ n, w_Md_openRing_25 R n o x1 x2 h)) ∧ (¬ (hI h o 0) ≤ x3 → (∃ a3, (hR h o 50) = some a3 ∧ hT h a3 = 16 ∧ (vp_in x3 (hL h a3) ∧ (∀ h7, h7 = sI h a3 x3.toNatClampNeg (0 : Int32) → (Y o x1 x2 (x3 + (1 : Int32)) h7))))))
def w_Md_openRing_2 (R : tpH → Prop) : Nat → Nat → Int32 → Int32 → Int32 → tpH → Prop
  | 0 => fun _ _ _ _ _ => False
  | n + 1 => b_Md_openRing_2 R (w_Md_openRing_2 R n)
def w_Md_openRing (o : Nat) (x1 : Int32) (x2 : Int32) (h : tpH) (R : tpH → Prop) : Prop :=
  ∃ n, w_Md_openRing_2 R n o x1 x2 (0 : Int32) h
theorem s_Md_openRing_54 {h0 : tpH} {av : List tpV} {R : tpH → Prop} : ∀ (n : Nat) (o : Nat) (x1 : Int32) (x4 : Int32) (h : tpH), w_Md_openRing_54 R n o x1 x4 h → tpR Md_openRing 3 h0 av (tpOv R (fun _ _ => False)) 54 [some (vR (some o)), some (vI x1), none, none, some (vI x4)] [] h := by
  intro n
  induction n with
  | zero => intro o x1 x4 h hw; exact False.elim hw
  | succ n ih =>
    intro o x1 x4 h hw
    change b_Md_openRing_54 R (w_Md_openRing_54 R n) o x1 x4 h at hw
    unfold b_Md_openRing_54 at hw
    refine tq_iload dMd_openRing_54 rfl ?_
    refine tq_aload_n dMd_openRing_56 rfl rfl ?_
    obtain ⟨f1, hw⟩ := hw
    refine te_geti dMd_openRing_57 fMd_162 rfl rfl f1 ?_
    refine tq_icmpge (tgt := 110) dMd_openRing_60 (by decide) (fun c2 => ?_) (fun c2 => ?_)
    · have hw := hw.1 c2
      exact tq_vret rfl dMd_openRing_110 hw
    · have hw := hw.2 c2
      refine tq_aload_n dMd_openRing_63 rfl rfl ?_
      refine te_getr dMd_openRing_64 fMd_133 rfl rfl f1 ?_
      refine tq_iload dMd_openRing_67 rfl ?_
      obtain ⟨a3, e4, f5, hw⟩ := hw
      obtain ⟨f6, hw⟩ := hw
      refine te_zald dMd_openRing_69 e4 f5 f6 ?_
      refine tq_ifeq (tgt := 104) dMd_openRing_70 (by decide) (fun c7 => ?_) (fun c7 => ?_)
      · have hw := hw.1 c7
        refine tq_inc (k := (1 : Int32)) (ls' := [some (vR (some o)), some (vI x1), none, none, some (vI (x4 + (1 : Int32)))]) dMd_openRing_104 rfl tni_1 (Nat.le_of_ble_eq_true rfl) rfl ?_
        refine tq_goto (tgt := 54) dMd_openRing_107 (by decide) ?_
        refine tpR.fo (ls' := [some (vR (some o)), some (vI x1), none, none, some (vI (x4 + (1 : Int32)))]) ?_ (And.intro rfl (And.intro rfl (And.intro rfl trivial)))
        exact ih _ _ _ _ hw
      · have hw := hw.2 c7
        refine tq_aload_n dMd_openRing_73 rfl rfl ?_
        refine tq_iload_n dMd_openRing_74 rfl rfl ?_
        refine tq_iload dMd_openRing_75 rfl ?_
        refine te_callV mv_Md_has (ci := 13) (dc := 2) (as := [vI x1, vI x4]) (rest := []) kMd_212 rfl (Nat.le_of_ble_eq_true rfl) (Nat.le_of_ble_eq_true rfl) rfl rfl rfl f1 (Nat.le_of_ble_eq_true rfl) dMd_openRing_77 (s_Md_has hw) (fun _ _ hx => False.elim hx) (tk_i fun v9 h8 hw => ?_)
        refine tq_ifeq (tgt := 104) dMd_openRing_80 (by decide) (fun c10 => ?_) (fun c10 => ?_)
        · have hw := hw.1 c10
          refine tq_inc (k := (1 : Int32)) (ls' := [some (vR (some o)), some (vI x1), none, none, some (vI (x4 + (1 : Int32)))]) dMd_openRing_104 rfl tni_1 (Nat.le_of_ble_eq_true rfl) rfl ?_
          refine tq_goto (tgt := 54) dMd_openRing_107 (by decide) ?_
          refine tpR.fo (ls' := [some (vR (some o)), some (vI x1), none, none, some (vI (x4 + (1 : Int32)))]) ?_ (And.intro rfl (And.intro rfl (And.intro rfl trivial)))
          exact ih _ _ _ _ hw
        · have hw := hw.2 c10
          refine tq_aload_n dMd_openRing_83 rfl rfl ?_
          obtain ⟨f11, hw⟩ := hw
          refine te_getr dMd_openRing_84 fMd_130 rfl rfl f11 ?_
          refine tq_iload dMd_openRing_87 rfl ?_
          refine tq_aload_n dMd_openRing_89 rfl rfl ?_
          refine tq_iload_n dMd_openRing_90 rfl rfl ?_
          refine tq_iload dMd_openRing_91 rfl ?_
          refine te_callV mv_Md_parentIn (ci := 13) (dc := 0) (as := [vI x1, vI x4]) (rest := [vI x4, vR (hR h8 o 49)]) kMd_179 rfl (Nat.le_of_ble_eq_true rfl) (Nat.le_of_ble_eq_true rfl) rfl rfl rfl f11 (Nat.le_of_ble_eq_true rfl) dMd_openRing_93 (s_Md_parentIn hw) (fun _ _ hx => False.elim hx) (tk_i fun v13 h12 hw => ?_)
          obtain ⟨a14, e15, f16, hw⟩ := hw
          obtain ⟨f17, hw⟩ := hw
          refine te_iast dMd_openRing_96 e15 f16 f17 (fun h18 e19 => ?_)
          have hw := hw h18 e19
          refine tq_aload_n dMd_openRing_97 rfl rfl ?_
          refine tq_iconst (v := (4 : Int32)) dMd_openRing_98 tni_4 ?_
          refine tq_iload dMd_openRing_99 rfl ?_
          obtain ⟨f20, hw⟩ := hw
          refine te_callV mv_Md_list (ci := 13) (dc := 0) (as := [vI (4 : Int32), vI x4]) (rest := []) kMd_349 rfl (Nat.le_of_ble_eq_true rfl) (Nat.le_of_ble_eq_true rfl) rfl rfl rfl f20 (Nat.le_of_ble_eq_true rfl) dMd_openRing_101 (s_Md_list hw) (fun _ _ hx => False.elim hx) (tk_v fun h21 hw => ?_)
          refine tq_inc (k := (1 : Int32)) (ls' := [some (vR (some o)), some (vI x1), none, none, some (vI (x4 + (1 : Int32)))]) dMd_openRing_104 rfl tni_1 (Nat.le_of_ble_eq_true rfl) rfl ?_
          refine tq_goto (tgt := 54) dMd_openRing_107 (by decide) ?_
          refine tpR.fo (ls' := [some (vR (some o)), some (vI x1), none, none, some (vI (x4 + (1 : Int32)))]) ?_ (And.intro rfl (And.intro rfl (And.intro rfl trivial)))
          exact ih _ _ _ _ hw
theorem s_Md_openRing_25 {h0 : tpH} {av : List tpV} {R : tpH → Prop} : ∀ (n : Nat) (o : Nat) (x1 : Int32) (x3 : Int32) (h : tpH), w_Md_openRing_25 R n o x1 x3 h → tpR Md_openRing 3 h0 av (tpOv R (fun _ _ => False)) 25 [some (vR (some o)), some (vI x1), none, some (vI x3), none] [] h := by
  intro n
  induction n with
  | zero => intro o x1 x3 h hw; exact False.elim hw
  | succ n ih =>
    intro o x1 x3 h hw
    change b_Md_openRing_25 R (w_Md_openRing_25 R n) o x1 x3 h at hw
    unfold b_Md_openRing_25 at hw
    refine tq_aload_n dMd_openRing_25 rfl rfl ?_
    obtain ⟨f1, hw⟩ := hw
    refine te_getr dMd_openRing_26 fMd_133 rfl rfl f1 ?_
    refine tq_iload_n dMd_openRing_29 rfl rfl ?_
    obtain ⟨a2, e3, f4, hw⟩ := hw
    obtain ⟨f5, hw⟩ := hw
    refine te_zald dMd_openRing_30 e3 f4 f5 ?_
    refine tq_ifne (tgt := 51) dMd_openRing_31 (by decide) (fun c6 => ?_) (fun c6 => ?_)
    · have hw := hw.1 c6
      refine tq_iconst (v := (0 : Int32)) dMd_openRing_51 tni_0 ?_
      refine tq_istore (ls' := [some (vR (some o)), some (vI x1), none, some (vI x3), some (vI (0 : Int32))]) dMd_openRing_52 (Nat.le_of_ble_eq_true rfl) rfl ?_
      refine tpR.fo (ls' := [some (vR (some o)), some (vI x1), none, none, some (vI (0 : Int32))]) ?_ (And.intro rfl (And.intro rfl (And.intro rfl trivial)))
      obtain ⟨n, hw⟩ := hw
      exact s_Md_openRing_54 n _ _ _ _ hw
    · have hw := hw.2 c6
      refine tq_aload_n dMd_openRing_34 rfl rfl ?_
      refine te_getr dMd_openRing_35 fMd_133 rfl rfl f1 ?_
      refine tq_iload_n dMd_openRing_38 rfl rfl ?_
      refine tq_iconst (v := (1 : Int32)) dMd_openRing_39 tni_1 ?_
      obtain ⟨f7, hw⟩ := hw
      refine te_zast dMd_openRing_40 e3 f4 f7 (by decide) (fun h8 e9 => ?_)
      have hw := hw h8 e9
      refine tq_aload_n dMd_openRing_41 rfl rfl ?_
      refine te_getr dMd_openRing_42 fMd_130 rfl rfl (by rw [e9]; exact f1) ?_
      refine tq_iload_n dMd_openRing_45 rfl rfl ?_
      obtain ⟨a10, e11, f12, hw⟩ := hw
      obtain ⟨f13, hw⟩ := hw
      refine te_iald dMd_openRing_46 e11 (Or.inl f12) f13 ?_
      refine tq_istore_n (ls' := [some (vR (some o)), some (vI x1), none, some (vI (hI h8 a10 x3.toNatClampNeg)), none]) dMd_openRing_47 rfl (Nat.le_of_ble_eq_true rfl) rfl ?_
      refine tq_goto (tgt := 25) dMd_openRing_48 (by decide) ?_
      refine tpR.fo (ls' := [some (vR (some o)), some (vI x1), none, some (vI (hI h8 a10 x3.toNatClampNeg)), none]) ?_ (And.intro rfl (And.intro rfl (And.intro rfl trivial)))
      exact ih _ _ _ _ hw
theorem s_Md_openRing_2 {h0 : tpH} {av : List tpV} {R : tpH → Prop} : ∀ (n : Nat) (o : Nat) (x1 : Int32) (x2 : Int32) (x3 : Int32) (h : tpH), w_Md_openRing_2 R n o x1 x2 x3 h → tpR Md_openRing 3 h0 av (tpOv R (fun _ _ => False)) 2 [some (vR (some o)), some (vI x1), some (vI x2), some (vI x3), none] [] h := by
  intro n
  induction n with
  | zero => intro o x1 x2 x3 h hw; exact False.elim hw
  | succ n ih =>
    intro o x1 x2 x3 h hw
    change b_Md_openRing_2 R (w_Md_openRing_2 R n) o x1 x2 x3 h at hw
    unfold b_Md_openRing_2 at hw
    refine tq_iload_n dMd_openRing_2 rfl rfl ?_
    refine tq_aload_n dMd_openRing_3 rfl rfl ?_
    obtain ⟨f1, hw⟩ := hw
    refine te_geti dMd_openRing_4 fMd_162 rfl rfl f1 ?_
    refine tq_icmpge (tgt := 23) dMd_openRing_7 (by decide) (fun c2 => ?_) (fun c2 => ?_)
    · have hw := hw.1 c2
      refine tq_iload_n dMd_openRing_23 rfl rfl ?_
      refine tq_istore_n (ls' := [some (vR (some o)), some (vI x1), some (vI x2), some (vI x2), none]) dMd_openRing_24 rfl (Nat.le_of_ble_eq_true rfl) rfl ?_
      refine tpR.fo (ls' := [some (vR (some o)), some (vI x1), none, some (vI x2), none]) ?_ (And.intro rfl (And.intro rfl (And.intro rfl trivial)))
      obtain ⟨n, hw⟩ := hw
      exact s_Md_openRing_25 n _ _ _ _ hw
    · have hw := hw.2 c2
      refine tq_aload_n dMd_openRing_10 rfl rfl ?_
      refine te_getr dMd_openRing_11 fMd_133 rfl rfl f1 ?_
      refine tq_iload_n dMd_openRing_14 rfl rfl ?_
      refine tq_iconst (v := (0 : Int32)) dMd_openRing_15 tni_0 ?_
      obtain ⟨a3, e4, f5, hw⟩ := hw
      obtain ⟨f6, hw⟩ := hw
      refine te_zast dMd_openRing_16 e4 f5 f6 (by decide) (fun h7 e8 => ?_)
      have hw := hw h7 e8
      refine tq_inc (k := (1 : Int32)) (ls' := [some (vR (some o)), some (vI x1), some (vI x2), some (vI (x3 + (1 : Int32))), none]) dMd_openRing_17 rfl tni_1 (Nat.le_of_ble_eq_true rfl) rfl ?_
      refine tq_goto (tgt := 2) dMd_openRing_20 (by decide) ?_
      refine tpR.fo (ls' := [some (vR (some o)), some (vI x1), some (vI x2), some (vI (x3 + (1 : Int32))), none]) ?_ (And.intro rfl (And.intro rfl (And.intro rfl (And.intro rfl trivial))))
      exact ih _ _ _ _ _ hw
theorem s_Md_openRing {o : Nat} {x1 : Int32} {x2 : Int32} {h : tpH} {R : tpH → Prop} (hw : w_Md_openRing o x1 x2 h R) : tpC Md_openRing 3 [vR (some o), vI x1, vI x2] h (tpOv R (fun _ _ => False)) := by
  refine tpC_of mv_Md_openRing.2.2.2.1 rfl rfl (Nat.le_of_ble_eq_true rfl) ?_
  show tpR Md_openRing 3 h _ _ 0 [some (vR (some o)), some (vI x1), some (vI x2), none, none] [] h
  unfold w_Md_openRing at hw
  refine tq_iconst (v := (0 : Int32)) dMd_openRing_0 tni_0 ?_
  refine tq_istore_n (ls' := [some (vR (some o)), some (vI x1), some (vI x2), some (vI (0 : Int32)), none]) dMd_openRing_1 rfl (Nat.le_of_ble_eq_true rfl) rfl ?_
  refine tpR.fo (ls' := [some (vR (some o)), some (vI x1), some (vI x2), some (vI (0 : Int32)), none]) ?_ (And.intro rfl (And.intro rfl (And.intro rfl (And.intro rfl trivial))))
  obtain ⟨n, hw⟩ := hw
  exact s_Md_openRing_2 n _ _ _ _ _ hw
/-! TModel.mend -/
theorem dMd_mend_0 : decode (mB Md_mend) 0 = .ok (.iconst 1, 1) := by decide +kernel
theorem dMd_mend_1 : decode (mB Md_mend) 1 = .ok (.istore_n 2, 1) := by decide +kernel
theorem dMd_mend_2 : decode (mB Md_mend) 2 = .ok (.iload_n 2, 1) := by decide +kernel
theorem dMd_mend_3 : decode (mB Md_mend) 3 = .ok (.ifCond .eq 96, 3) := by decide +kernel
theorem dMd_mend_6 : decode (mB Md_mend) 6 = .ok (.aload_n 0, 1) := by decide +kernel
theorem dMd_mend_7 : decode (mB Md_mend) 7 = .ok (.invokevirtual 362, 3) := by decide +kernel
theorem dMd_mend_10 : decode (mB Md_mend) 10 = .ok (.istore_n 3, 1) := by decide +kernel
theorem dMd_mend_11 : decode (mB Md_mend) 11 = .ok (.iload_n 3, 1) := by decide +kernel
theorem dMd_mend_12 : decode (mB Md_mend) 12 = .ok (.iconst (-1), 1) := by decide +kernel
theorem dMd_mend_13 : decode (mB Md_mend) 13 = .ok (.if_icmp .eq 57, 3) := by decide +kernel
theorem dMd_mend_16 : decode (mB Md_mend) 16 = .ok (.aload_n 0, 1) := by decide +kernel
theorem dMd_mend_17 : decode (mB Md_mend) 17 = .ok (.getfield 130, 3) := by decide +kernel
theorem dMd_mend_20 : decode (mB Md_mend) 20 = .ok (.iload_n 3, 1) := by decide +kernel
theorem dMd_mend_21 : decode (mB Md_mend) 21 = .ok (.iaload, 1) := by decide +kernel
theorem dMd_mend_22 : decode (mB Md_mend) 22 = .ok (.istore 4, 2) := by decide +kernel
theorem dMd_mend_24 : decode (mB Md_mend) 24 = .ok (.aload_n 0, 1) := by decide +kernel
theorem dMd_mend_25 : decode (mB Md_mend) 25 = .ok (.getfield 124, 3) := by decide +kernel
theorem dMd_mend_28 : decode (mB Md_mend) 28 = .ok (.iload 4, 2) := by decide +kernel
theorem dMd_mend_30 : decode (mB Md_mend) 30 = .ok (.iconst 1, 1) := by decide +kernel
theorem dMd_mend_31 : decode (mB Md_mend) 31 = .ok (.bastore, 1) := by decide +kernel
theorem dMd_mend_32 : decode (mB Md_mend) 32 = .ok (.aload_n 0, 1) := by decide +kernel
theorem dMd_mend_33 : decode (mB Md_mend) 33 = .ok (.getfield 127, 3) := by decide +kernel
theorem dMd_mend_36 : decode (mB Md_mend) 36 = .ok (.iload 4, 2) := by decide +kernel
theorem dMd_mend_38 : decode (mB Md_mend) 38 = .ok (.aload_n 0, 1) := by decide +kernel
theorem dMd_mend_39 : decode (mB Md_mend) 39 = .ok (.iload_n 1, 1) := by decide +kernel
theorem dMd_mend_40 : decode (mB Md_mend) 40 = .ok (.iload 4, 2) := by decide +kernel
theorem dMd_mend_42 : decode (mB Md_mend) 42 = .ok (.invokevirtual 226, 3) := by decide +kernel
theorem dMd_mend_45 : decode (mB Md_mend) 45 = .ok (.iastore, 1) := by decide +kernel
theorem dMd_mend_46 : decode (mB Md_mend) 46 = .ok (.aload_n 0, 1) := by decide +kernel
theorem dMd_mend_47 : decode (mB Md_mend) 47 = .ok (.getfield 130, 3) := by decide +kernel
theorem dMd_mend_50 : decode (mB Md_mend) 50 = .ok (.iload 4, 2) := by decide +kernel
theorem dMd_mend_52 : decode (mB Md_mend) 52 = .ok (.aload_n 0, 1) := by decide +kernel
theorem dMd_mend_53 : decode (mB Md_mend) 53 = .ok (.iload_n 1, 1) := by decide +kernel
theorem dMd_mend_54 : decode (mB Md_mend) 54 = .ok (.iload 4, 2) := by decide +kernel
theorem dMd_mend_56 : decode (mB Md_mend) 56 = .ok (.invokevirtual 179, 3) := by decide +kernel
theorem dMd_mend_59 : decode (mB Md_mend) 59 = .ok (.iastore, 1) := by decide +kernel
theorem dMd_mend_60 : decode (mB Md_mend) 60 = .ok (.aload_n 0, 1) := by decide +kernel
theorem dMd_mend_61 : decode (mB Md_mend) 61 = .ok (.iconst 3, 1) := by decide +kernel
theorem dMd_mend_62 : decode (mB Md_mend) 62 = .ok (.iload 4, 2) := by decide +kernel
theorem dMd_mend_64 : decode (mB Md_mend) 64 = .ok (.invokevirtual 349, 3) := by decide +kernel
theorem dMd_mend_67 : decode (mB Md_mend) 67 = .ok (.goto 29, 3) := by decide +kernel
theorem dMd_mend_70 : decode (mB Md_mend) 70 = .ok (.aload_n 0, 1) := by decide +kernel
theorem dMd_mend_71 : decode (mB Md_mend) 71 = .ok (.invokevirtual 366, 3) := by decide +kernel
theorem dMd_mend_74 : decode (mB Md_mend) 74 = .ok (.istore_n 3, 1) := by decide +kernel
theorem dMd_mend_75 : decode (mB Md_mend) 75 = .ok (.iload_n 3, 1) := by decide +kernel
theorem dMd_mend_76 : decode (mB Md_mend) 76 = .ok (.iconst (-1), 1) := by decide +kernel
theorem dMd_mend_77 : decode (mB Md_mend) 77 = .ok (.if_icmp .eq 7, 3) := by decide +kernel
theorem dMd_mend_80 : decode (mB Md_mend) 80 = .ok (.iconst 1, 1) := by decide +kernel
theorem dMd_mend_81 : decode (mB Md_mend) 81 = .ok (.goto 4, 3) := by decide +kernel
theorem dMd_mend_84 : decode (mB Md_mend) 84 = .ok (.iconst 0, 1) := by decide +kernel
theorem dMd_mend_85 : decode (mB Md_mend) 85 = .ok (.istore_n 2, 1) := by decide +kernel
theorem dMd_mend_86 : decode (mB Md_mend) 86 = .ok (.iload_n 2, 1) := by decide +kernel
theorem dMd_mend_87 : decode (mB Md_mend) 87 = .ok (.ifCond .eq 9, 3) := by decide +kernel
theorem dMd_mend_90 : decode (mB Md_mend) 90 = .ok (.aload_n 0, 1) := by decide +kernel
theorem dMd_mend_91 : decode (mB Md_mend) 91 = .ok (.iload_n 1, 1) := by decide +kernel
theorem dMd_mend_92 : decode (mB Md_mend) 92 = .ok (.iload_n 3, 1) := by decide +kernel
theorem dMd_mend_93 : decode (mB Md_mend) 93 = .ok (.invokevirtual 369, 3) := by decide +kernel
theorem dMd_mend_96 : decode (mB Md_mend) 96 = .ok (.goto (-94), 3) := by decide +kernel
theorem dMd_mend_99 : decode (mB Md_mend) 99 = .ok (.return_, 1) := by decide +kernel
def w_Md_mend_85 (R : tpH → Prop) (K2 : Nat → Int32 → Int32 → tpH → Prop) (o : Nat) (x1 : Int32) (x3 : Int32) (t0 : Int32) (h : tpH) : Prop :=
  (t0 = 0 → (K2 o x1 t0 h)) ∧ (¬ t0 = 0 → (hT h o = 14 ∧ (w_Md_openRing o x1 x3 h (fun h3 => K2 o x1 t0 h3))))
def b_Md_mend_2 (R : tpH → Prop) (Y : Nat → Int32 → Int32 → tpH → Prop) (o : Nat) (x1 : Int32) (x2 : Int32) (h : tpH) : Prop :=
  (x2 = 0 → (R h)) ∧ (¬ x2 = 0 → (hT h o = 14 ∧ (w_Md_orphan o h (fun v4 h3 => (v4 = (-1 : Int32) → (hT h3 o = 14 ∧ (w_Md_ringed o h3 (fun v8 h7 => (v8 = (-1 : Int32) → (w_Md_mend_85 R Y o x1 v8 (0 : Int32) h7)) ∧ (¬ v8 = (-1 : Int32) → (w_Md_mend_85 R Y o x1 v8 (1 : Int32) h7)))))) ∧ (¬ v4 = (-1 : Int32) → (hT h3 o = 14 ∧ (∃ a11, (hR h3 o 49) = some a11 ∧ hT h3 a11 = 15 ∧ (vp_in v4 (hL h3 a11) ∧ (∃ a15, (hR h3 o 47) = some a15 ∧ hT h3 a15 = 16 ∧ (vp_in (hI h3 a11 v4.toNatClampNeg) (hL h3 a15) ∧ (∀ h19, h19 = sI h3 a15 (hI h3 a11 v4.toNatClampNeg).toNatClampNeg (1 : Int32) → (w_Md_valueIn o x1 (hI h3 a11 v4.toNatClampNeg) h19 (fun v22 h21 => ∃ a23, (hR h19 o 48) = some a23 ∧ hT h21 a23 = 15 ∧ (vp_in (hI h3 a11 v4.toNatClampNeg) (hL h21 a23) ∧ (∀ h27, h27 = sI h21 a23 (hI h3 a11 v4.toNatClampNeg).toNatClampNeg v22 → (hT h27 o = 14 ∧ (w_Md_parentIn o x1 (hI h3 a11 v4.toNatClampNeg) h27 (fun v31 h30 => ∃ a32, (hR h27 o 49) = some a32 ∧ hT h30 a32 = 15 ∧ (vp_in (hI h3 a11 v4.toNatClampNeg) (hL h30 a32) ∧ (∀ h36, h36 = sI h30 a32 (hI h3 a11 v4.toNatClampNeg).toNatClampNeg v31 → (hT h36 o = 14 ∧ (w_Md_list o (3 : Int32) (hI h3 a11 v4.toNatClampNeg) h36 (fun h39 => Y o x1 x2 h39)))))))))))))))))))))))
def w_Md_mend_2 (R : tpH → Prop) : Nat → Nat → Int32 → Int32 → tpH → Prop
  | 0 => fun _ _ _ _ => False
  | n + 1 => b_Md_mend_2 R (w_Md_mend_2 R n)
def w_Md_mend (o : Nat) (x1 : Int32) (h : tpH) (R : tpH → Prop) : Prop :=
  ∃ n, w_Md_mend_2 R n o x1 (1 : Int32) h
theorem s_Md_mend_85 {h0 : tpH} {av : List tpV} {R : tpH → Prop} {K2 : Nat → Int32 → Int32 → tpH → Prop} (k2 : ∀ (o : Nat) (x1 : Int32) (x2 : Int32) (h : tpH), K2 o x1 x2 h → tpR Md_mend 4 h0 av (tpOv R (fun _ _ => False)) 2 [some (vR (some o)), some (vI x1), some (vI x2), none, none] [] h) : ∀ (o : Nat) (x1 : Int32) (x3 : Int32) (t0 : Int32) (h : tpH), w_Md_mend_85 R K2 o x1 x3 t0 h → tpR Md_mend 4 h0 av (tpOv R (fun _ _ => False)) 85 [some (vR (some o)), some (vI x1), none, some (vI x3), none] [vI t0] h := by
  intro o x1 x3 t0 h hw
  unfold w_Md_mend_85 at hw
  refine tq_istore_n (ls' := [some (vR (some o)), some (vI x1), some (vI t0), some (vI x3), none]) dMd_mend_85 rfl (Nat.le_of_ble_eq_true rfl) rfl ?_
  refine tq_iload_n dMd_mend_86 rfl rfl ?_
  refine tq_ifeq (tgt := 96) dMd_mend_87 (by decide) (fun c1 => ?_) (fun c1 => ?_)
  · have hw := hw.1 c1
    refine tq_goto (tgt := 2) dMd_mend_96 (by decide) ?_
    refine tpR.fo (ls' := [some (vR (some o)), some (vI x1), some (vI t0), none, none]) ?_ (And.intro rfl (And.intro rfl (And.intro rfl trivial)))
    exact k2 _ _ _ _ hw
  · have hw := hw.2 c1
    refine tq_aload_n dMd_mend_90 rfl rfl ?_
    refine tq_iload_n dMd_mend_91 rfl rfl ?_
    refine tq_iload_n dMd_mend_92 rfl rfl ?_
    obtain ⟨f2, hw⟩ := hw
    refine te_callV mv_Md_openRing (ci := 13) (dc := 3) (as := [vI x1, vI x3]) (rest := []) kMd_369 rfl (Nat.le_of_ble_eq_true rfl) (Nat.le_of_ble_eq_true rfl) rfl rfl rfl f2 (Nat.le_of_ble_eq_true rfl) dMd_mend_93 (s_Md_openRing hw) (fun _ _ hx => False.elim hx) (tk_v fun h3 hw => ?_)
    refine tq_goto (tgt := 2) dMd_mend_96 (by decide) ?_
    refine tpR.fo (ls' := [some (vR (some o)), some (vI x1), some (vI t0), none, none]) ?_ (And.intro rfl (And.intro rfl (And.intro rfl trivial)))
    exact k2 _ _ _ _ hw
theorem s_Md_mend_2 {h0 : tpH} {av : List tpV} {R : tpH → Prop} : ∀ (n : Nat) (o : Nat) (x1 : Int32) (x2 : Int32) (h : tpH), w_Md_mend_2 R n o x1 x2 h → tpR Md_mend 4 h0 av (tpOv R (fun _ _ => False)) 2 [some (vR (some o)), some (vI x1), some (vI x2), none, none] [] h := by
  intro n
  induction n with
  | zero => intro o x1 x2 h hw; exact False.elim hw
  | succ n ih =>
    intro o x1 x2 h hw
    change b_Md_mend_2 R (w_Md_mend_2 R n) o x1 x2 h at hw
    unfold b_Md_mend_2 at hw
    refine tq_iload_n dMd_mend_2 rfl rfl ?_
    refine tq_ifeq (tgt := 99) dMd_mend_3 (by decide) (fun c1 => ?_) (fun c1 => ?_)
    · have hw := hw.1 c1
      exact tq_vret rfl dMd_mend_99 hw
    · have hw := hw.2 c1
      refine tq_aload_n dMd_mend_6 rfl rfl ?_
      obtain ⟨f2, hw⟩ := hw
      refine te_callV mv_Md_orphan (ci := 13) (dc := 0) (as := []) (rest := []) kMd_362 rfl (Nat.le_of_ble_eq_true rfl) (Nat.le_of_ble_eq_true rfl) rfl rfl rfl f2 (Nat.le_of_ble_eq_true rfl) dMd_mend_7 (s_Md_orphan hw) (fun _ _ hx => False.elim hx) (tk_i fun v4 h3 hw => ?_)
      refine tq_istore_n (ls' := [some (vR (some o)), some (vI x1), some (vI x2), some (vI v4), none]) dMd_mend_10 rfl (Nat.le_of_ble_eq_true rfl) rfl ?_
      refine tq_iload_n dMd_mend_11 rfl rfl ?_
      refine tq_iconst (v := (-1 : Int32)) dMd_mend_12 tni_m1 ?_
      refine tq_icmpeq (tgt := 70) dMd_mend_13 (by decide) (fun c5 => ?_) (fun c5 => ?_)
      · have hw := hw.1 c5
        refine tq_aload_n dMd_mend_70 rfl rfl ?_
        obtain ⟨f6, hw⟩ := hw
        refine te_callV mv_Md_ringed (ci := 13) (dc := 1) (as := []) (rest := []) kMd_366 rfl (Nat.le_of_ble_eq_true rfl) (Nat.le_of_ble_eq_true rfl) rfl rfl rfl f6 (Nat.le_of_ble_eq_true rfl) dMd_mend_71 (s_Md_ringed hw) (fun _ _ hx => False.elim hx) (tk_i fun v8 h7 hw => ?_)
        refine tq_istore_n (ls' := [some (vR (some o)), some (vI x1), some (vI x2), some (vI v8), none]) dMd_mend_74 rfl (Nat.le_of_ble_eq_true rfl) rfl ?_
        refine tq_iload_n dMd_mend_75 rfl rfl ?_
        refine tq_iconst (v := (-1 : Int32)) dMd_mend_76 tni_m1 ?_
        refine tq_icmpeq (tgt := 84) dMd_mend_77 (by decide) (fun c9 => ?_) (fun c9 => ?_)
        · have hw := hw.1 c9
          refine tq_iconst (v := (0 : Int32)) dMd_mend_84 tni_0 ?_
          refine tpR.fo (ls' := [some (vR (some o)), some (vI x1), none, some (vI v8), none]) ?_ (And.intro rfl (And.intro rfl (And.intro rfl trivial)))
          exact s_Md_mend_85 ih _ _ _ _ _ hw
        · have hw := hw.2 c9
          refine tq_iconst (v := (1 : Int32)) dMd_mend_80 tni_1 ?_
          refine tq_goto (tgt := 85) dMd_mend_81 (by decide) ?_
          refine tpR.fo (ls' := [some (vR (some o)), some (vI x1), none, some (vI v8), none]) ?_ (And.intro rfl (And.intro rfl (And.intro rfl trivial)))
          exact s_Md_mend_85 ih _ _ _ _ _ hw
      · have hw := hw.2 c5
        refine tq_aload_n dMd_mend_16 rfl rfl ?_
        obtain ⟨f10, hw⟩ := hw
        refine te_getr dMd_mend_17 fMd_130 rfl rfl f10 ?_
        refine tq_iload_n dMd_mend_20 rfl rfl ?_
        obtain ⟨a11, e12, f13, hw⟩ := hw
        obtain ⟨f14, hw⟩ := hw
        refine te_iald dMd_mend_21 e12 (Or.inl f13) f14 ?_
        refine tq_istore (ls' := [some (vR (some o)), some (vI x1), some (vI x2), some (vI v4), some (vI (hI h3 a11 v4.toNatClampNeg))]) dMd_mend_22 (Nat.le_of_ble_eq_true rfl) rfl ?_
        refine tq_aload_n dMd_mend_24 rfl rfl ?_
        refine te_getr dMd_mend_25 fMd_124 rfl rfl f10 ?_
        refine tq_iload dMd_mend_28 rfl ?_
        refine tq_iconst (v := (1 : Int32)) dMd_mend_30 tni_1 ?_
        obtain ⟨a15, e16, f17, hw⟩ := hw
        obtain ⟨f18, hw⟩ := hw
        refine te_zast dMd_mend_31 e16 f17 f18 (by decide) (fun h19 e20 => ?_)
        have hw := hw h19 e20
        refine tq_aload_n dMd_mend_32 rfl rfl ?_
        refine te_getr dMd_mend_33 fMd_127 rfl rfl (by rw [e20]; exact f10) ?_
        refine tq_iload dMd_mend_36 rfl ?_
        refine tq_aload_n dMd_mend_38 rfl rfl ?_
        refine tq_iload_n dMd_mend_39 rfl rfl ?_
        refine tq_iload dMd_mend_40 rfl ?_
        refine te_callV mv_Md_valueIn (ci := 13) (dc := 0) (as := [vI x1, vI (hI h3 a11 v4.toNatClampNeg)]) (rest := [vI (hI h3 a11 v4.toNatClampNeg), vR (hR h19 o 48)]) kMd_226 rfl (Nat.le_of_ble_eq_true rfl) (Nat.le_of_ble_eq_true rfl) rfl rfl rfl (by rw [e20]; exact f10) (Nat.le_of_ble_eq_true rfl) dMd_mend_42 (s_Md_valueIn hw) (fun _ _ hx => False.elim hx) (tk_i fun v22 h21 hw => ?_)
        obtain ⟨a23, e24, f25, hw⟩ := hw
        obtain ⟨f26, hw⟩ := hw
        refine te_iast dMd_mend_45 e24 f25 f26 (fun h27 e28 => ?_)
        have hw := hw h27 e28
        refine tq_aload_n dMd_mend_46 rfl rfl ?_
        obtain ⟨f29, hw⟩ := hw
        refine te_getr dMd_mend_47 fMd_130 rfl rfl f29 ?_
        refine tq_iload dMd_mend_50 rfl ?_
        refine tq_aload_n dMd_mend_52 rfl rfl ?_
        refine tq_iload_n dMd_mend_53 rfl rfl ?_
        refine tq_iload dMd_mend_54 rfl ?_
        refine te_callV mv_Md_parentIn (ci := 13) (dc := 0) (as := [vI x1, vI (hI h3 a11 v4.toNatClampNeg)]) (rest := [vI (hI h3 a11 v4.toNatClampNeg), vR (hR h27 o 49)]) kMd_179 rfl (Nat.le_of_ble_eq_true rfl) (Nat.le_of_ble_eq_true rfl) rfl rfl rfl f29 (Nat.le_of_ble_eq_true rfl) dMd_mend_56 (s_Md_parentIn hw) (fun _ _ hx => False.elim hx) (tk_i fun v31 h30 hw => ?_)
        obtain ⟨a32, e33, f34, hw⟩ := hw
        obtain ⟨f35, hw⟩ := hw
        refine te_iast dMd_mend_59 e33 f34 f35 (fun h36 e37 => ?_)
        have hw := hw h36 e37
        refine tq_aload_n dMd_mend_60 rfl rfl ?_
        refine tq_iconst (v := (3 : Int32)) dMd_mend_61 tni_3 ?_
        refine tq_iload dMd_mend_62 rfl ?_
        obtain ⟨f38, hw⟩ := hw
        refine te_callV mv_Md_list (ci := 13) (dc := 0) (as := [vI (3 : Int32), vI (hI h3 a11 v4.toNatClampNeg)]) (rest := []) kMd_349 rfl (Nat.le_of_ble_eq_true rfl) (Nat.le_of_ble_eq_true rfl) rfl rfl rfl f38 (Nat.le_of_ble_eq_true rfl) dMd_mend_64 (s_Md_list hw) (fun _ _ hx => False.elim hx) (tk_v fun h39 hw => ?_)
        refine tq_goto (tgt := 96) dMd_mend_67 (by decide) ?_
        refine tq_goto (tgt := 2) dMd_mend_96 (by decide) ?_
        refine tpR.fo (ls' := [some (vR (some o)), some (vI x1), some (vI x2), none, none]) ?_ (And.intro rfl (And.intro rfl (And.intro rfl trivial)))
        exact ih _ _ _ _ hw
theorem s_Md_mend {o : Nat} {x1 : Int32} {h : tpH} {R : tpH → Prop} (hw : w_Md_mend o x1 h R) : tpC Md_mend 4 [vR (some o), vI x1] h (tpOv R (fun _ _ => False)) := by
  refine tpC_of mv_Md_mend.2.2.2.1 rfl rfl (Nat.le_of_ble_eq_true rfl) ?_
  show tpR Md_mend 4 h _ _ 0 [some (vR (some o)), some (vI x1), none, none, none] [] h
  unfold w_Md_mend at hw
  refine tq_iconst (v := (1 : Int32)) dMd_mend_0 tni_1 ?_
  refine tq_istore_n (ls' := [some (vR (some o)), some (vI x1), some (vI (1 : Int32)), none, none]) dMd_mend_1 rfl (Nat.le_of_ble_eq_true rfl) rfl ?_
  refine tpR.fo (ls' := [some (vR (some o)), some (vI x1), some (vI (1 : Int32)), none, none]) ?_ (And.intro rfl (And.intro rfl (And.intro rfl trivial)))
  obtain ⟨n, hw⟩ := hw
  exact s_Md_mend_2 n _ _ _ _ hw
/-! TModel.isChildOf -/
theorem dMd_isChildOf_0 : decode (mB Md_isChildOf) 0 = .ok (.aload_n 0, 1) := by decide +kernel
theorem dMd_isChildOf_1 : decode (mB Md_isChildOf) 1 = .ok (.iload_n 1, 1) := by decide +kernel
theorem dMd_isChildOf_2 : decode (mB Md_isChildOf) 2 = .ok (.iload_n 2, 1) := by decide +kernel
theorem dMd_isChildOf_3 : decode (mB Md_isChildOf) 3 = .ok (.invokevirtual 212, 3) := by decide +kernel
theorem dMd_isChildOf_6 : decode (mB Md_isChildOf) 6 = .ok (.ifCond .eq 17, 3) := by decide +kernel
theorem dMd_isChildOf_9 : decode (mB Md_isChildOf) 9 = .ok (.aload_n 0, 1) := by decide +kernel
theorem dMd_isChildOf_10 : decode (mB Md_isChildOf) 10 = .ok (.iload_n 1, 1) := by decide +kernel
theorem dMd_isChildOf_11 : decode (mB Md_isChildOf) 11 = .ok (.iload_n 2, 1) := by decide +kernel
theorem dMd_isChildOf_12 : decode (mB Md_isChildOf) 12 = .ok (.invokevirtual 179, 3) := by decide +kernel
theorem dMd_isChildOf_15 : decode (mB Md_isChildOf) 15 = .ok (.iload_n 3, 1) := by decide +kernel
theorem dMd_isChildOf_16 : decode (mB Md_isChildOf) 16 = .ok (.if_icmp .ne 7, 3) := by decide +kernel
theorem dMd_isChildOf_19 : decode (mB Md_isChildOf) 19 = .ok (.iconst 1, 1) := by decide +kernel
theorem dMd_isChildOf_20 : decode (mB Md_isChildOf) 20 = .ok (.goto 4, 3) := by decide +kernel
theorem dMd_isChildOf_23 : decode (mB Md_isChildOf) 23 = .ok (.iconst 0, 1) := by decide +kernel
theorem dMd_isChildOf_24 : decode (mB Md_isChildOf) 24 = .ok (.ireturn, 1) := by decide +kernel
def w_Md_isChildOf (o : Nat) (x1 : Int32) (x2 : Int32) (x3 : Int32) (h : tpH) (R : Int32 → tpH → Prop) : Prop :=
  hT h o = 14 ∧ (w_Md_has o x1 x2 h (fun v3 h2 => (v3 = 0 → (R (0 : Int32) h2)) ∧ (¬ v3 = 0 → (hT h2 o = 14 ∧ (w_Md_parentIn o x1 x2 h2 (fun v7 h6 => (¬ v7 = x3 → (R (0 : Int32) h6)) ∧ (v7 = x3 → (R (1 : Int32) h6))))))))
theorem s_Md_isChildOf {o : Nat} {x1 : Int32} {x2 : Int32} {x3 : Int32} {h : tpH} {R : Int32 → tpH → Prop} (hw : w_Md_isChildOf o x1 x2 x3 h R) : tpC Md_isChildOf 3 [vR (some o), vI x1, vI x2, vI x3] h (tpOi R (fun _ _ => False)) := by
  refine tpC_of mv_Md_isChildOf.2.2.2.1 rfl rfl (Nat.le_of_ble_eq_true rfl) ?_
  show tpR Md_isChildOf 3 h _ _ 0 [some (vR (some o)), some (vI x1), some (vI x2), some (vI x3)] [] h
  unfold w_Md_isChildOf at hw
  refine tq_aload_n dMd_isChildOf_0 rfl rfl ?_
  refine tq_iload_n dMd_isChildOf_1 rfl rfl ?_
  refine tq_iload_n dMd_isChildOf_2 rfl rfl ?_
  obtain ⟨f1, hw⟩ := hw
  refine te_callV mv_Md_has (ci := 13) (dc := 2) (as := [vI x1, vI x2]) (rest := []) kMd_212 rfl (Nat.le_of_ble_eq_true rfl) (Nat.le_of_ble_eq_true rfl) rfl rfl rfl f1 (Nat.le_of_ble_eq_true rfl) dMd_isChildOf_3 (s_Md_has hw) (fun _ _ hx => False.elim hx) (tk_i fun v3 h2 hw => ?_)
  refine tq_ifeq (tgt := 23) dMd_isChildOf_6 (by decide) (fun c4 => ?_) (fun c4 => ?_)
  · have hw := hw.1 c4
    refine tq_iconst (v := (0 : Int32)) dMd_isChildOf_23 tni_0 ?_
    exact tq_iret rfl (by decide) dMd_isChildOf_24 hw
  · have hw := hw.2 c4
    refine tq_aload_n dMd_isChildOf_9 rfl rfl ?_
    refine tq_iload_n dMd_isChildOf_10 rfl rfl ?_
    refine tq_iload_n dMd_isChildOf_11 rfl rfl ?_
    obtain ⟨f5, hw⟩ := hw
    refine te_callV mv_Md_parentIn (ci := 13) (dc := 0) (as := [vI x1, vI x2]) (rest := []) kMd_179 rfl (Nat.le_of_ble_eq_true rfl) (Nat.le_of_ble_eq_true rfl) rfl rfl rfl f5 (Nat.le_of_ble_eq_true rfl) dMd_isChildOf_12 (s_Md_parentIn hw) (fun _ _ hx => False.elim hx) (tk_i fun v7 h6 hw => ?_)
    refine tq_iload_n dMd_isChildOf_15 rfl rfl ?_
    refine tq_icmpne (tgt := 23) dMd_isChildOf_16 (by decide) (fun c8 => ?_) (fun c8 => ?_)
    · have hw := hw.1 c8
      refine tq_iconst (v := (0 : Int32)) dMd_isChildOf_23 tni_0 ?_
      exact tq_iret rfl (by decide) dMd_isChildOf_24 hw
    · have hw := hw.2 c8
      refine tq_iconst (v := (1 : Int32)) dMd_isChildOf_19 tni_1 ?_
      refine tq_goto (tgt := 24) dMd_isChildOf_20 (by decide) ?_
      exact tq_iret rfl (by decide) dMd_isChildOf_24 hw
/-! TModel.layShared -/
theorem dMd_layShared_0 : decode (mB Md_layShared) 0 = .ok (.aload_n 0, 1) := by decide +kernel
theorem dMd_layShared_1 : decode (mB Md_layShared) 1 = .ok (.iconst 0, 1) := by decide +kernel
theorem dMd_layShared_2 : decode (mB Md_layShared) 2 = .ok (.putfield 372, 3) := by decide +kernel
theorem dMd_layShared_5 : decode (mB Md_layShared) 5 = .ok (.aload_n 0, 1) := by decide +kernel
theorem dMd_layShared_6 : decode (mB Md_layShared) 6 = .ok (.iload_n 1, 1) := by decide +kernel
theorem dMd_layShared_7 : decode (mB Md_layShared) 7 = .ok (.iload_n 2, 1) := by decide +kernel
theorem dMd_layShared_8 : decode (mB Md_layShared) 8 = .ok (.invokevirtual 212, 3) := by decide +kernel
theorem dMd_layShared_11 : decode (mB Md_layShared) 11 = .ok (.ifCond .eq 12, 3) := by decide +kernel
theorem dMd_layShared_14 : decode (mB Md_layShared) 14 = .ok (.aload_n 0, 1) := by decide +kernel
theorem dMd_layShared_15 : decode (mB Md_layShared) 15 = .ok (.iload_n 1, 1) := by decide +kernel
theorem dMd_layShared_16 : decode (mB Md_layShared) 16 = .ok (.iload_n 2, 1) := by decide +kernel
theorem dMd_layShared_17 : decode (mB Md_layShared) 17 = .ok (.invokevirtual 173, 3) := by decide +kernel
theorem dMd_layShared_20 : decode (mB Md_layShared) 20 = .ok (.goto 4, 3) := by decide +kernel
theorem dMd_layShared_23 : decode (mB Md_layShared) 23 = .ok (.iconst (-1), 1) := by decide +kernel
theorem dMd_layShared_24 : decode (mB Md_layShared) 24 = .ok (.istore_n 3, 1) := by decide +kernel
theorem dMd_layShared_25 : decode (mB Md_layShared) 25 = .ok (.iload_n 3, 1) := by decide +kernel
theorem dMd_layShared_26 : decode (mB Md_layShared) 26 = .ok (.iconst (-1), 1) := by decide +kernel
theorem dMd_layShared_27 : decode (mB Md_layShared) 27 = .ok (.if_icmp .eq 52, 3) := by decide +kernel
theorem dMd_layShared_30 : decode (mB Md_layShared) 30 = .ok (.aload_n 0, 1) := by decide +kernel
theorem dMd_layShared_31 : decode (mB Md_layShared) 31 = .ok (.getfield 124, 3) := by decide +kernel
theorem dMd_layShared_34 : decode (mB Md_layShared) 34 = .ok (.iload_n 3, 1) := by decide +kernel
theorem dMd_layShared_35 : decode (mB Md_layShared) 35 = .ok (.baload, 1) := by decide +kernel
theorem dMd_layShared_36 : decode (mB Md_layShared) 36 = .ok (.ifCond .eq 33, 3) := by decide +kernel
theorem dMd_layShared_39 : decode (mB Md_layShared) 39 = .ok (.aload_n 0, 1) := by decide +kernel
theorem dMd_layShared_40 : decode (mB Md_layShared) 40 = .ok (.getfield 130, 3) := by decide +kernel
theorem dMd_layShared_43 : decode (mB Md_layShared) 43 = .ok (.iload_n 3, 1) := by decide +kernel
theorem dMd_layShared_44 : decode (mB Md_layShared) 44 = .ok (.iaload, 1) := by decide +kernel
theorem dMd_layShared_45 : decode (mB Md_layShared) 45 = .ok (.iload_n 2, 1) := by decide +kernel
theorem dMd_layShared_46 : decode (mB Md_layShared) 46 = .ok (.if_icmp .ne 23, 3) := by decide +kernel
theorem dMd_layShared_49 : decode (mB Md_layShared) 49 = .ok (.aload_n 0, 1) := by decide +kernel
theorem dMd_layShared_50 : decode (mB Md_layShared) 50 = .ok (.getfield 136, 3) := by decide +kernel
theorem dMd_layShared_53 : decode (mB Md_layShared) 53 = .ok (.aload_n 0, 1) := by decide +kernel
theorem dMd_layShared_54 : decode (mB Md_layShared) 54 = .ok (.getfield 372, 3) := by decide +kernel
theorem dMd_layShared_57 : decode (mB Md_layShared) 57 = .ok (.iload_n 3, 1) := by decide +kernel
theorem dMd_layShared_58 : decode (mB Md_layShared) 58 = .ok (.iastore, 1) := by decide +kernel
theorem dMd_layShared_59 : decode (mB Md_layShared) 59 = .ok (.aload_n 0, 1) := by decide +kernel
theorem dMd_layShared_60 : decode (mB Md_layShared) 60 = .ok (.dup, 1) := by decide +kernel
theorem dMd_layShared_61 : decode (mB Md_layShared) 61 = .ok (.getfield 372, 3) := by decide +kernel
theorem dMd_layShared_64 : decode (mB Md_layShared) 64 = .ok (.iconst 1, 1) := by decide +kernel
theorem dMd_layShared_65 : decode (mB Md_layShared) 65 = .ok (.iadd, 1) := by decide +kernel
theorem dMd_layShared_66 : decode (mB Md_layShared) 66 = .ok (.putfield 372, 3) := by decide +kernel
theorem dMd_layShared_69 : decode (mB Md_layShared) 69 = .ok (.aload_n 0, 1) := by decide +kernel
theorem dMd_layShared_70 : decode (mB Md_layShared) 70 = .ok (.iload_n 1, 1) := by decide +kernel
theorem dMd_layShared_71 : decode (mB Md_layShared) 71 = .ok (.iload_n 3, 1) := by decide +kernel
theorem dMd_layShared_72 : decode (mB Md_layShared) 72 = .ok (.invokevirtual 169, 3) := by decide +kernel
theorem dMd_layShared_75 : decode (mB Md_layShared) 75 = .ok (.istore_n 3, 1) := by decide +kernel
theorem dMd_layShared_76 : decode (mB Md_layShared) 76 = .ok (.goto (-51), 3) := by decide +kernel
theorem dMd_layShared_79 : decode (mB Md_layShared) 79 = .ok (.return_, 1) := by decide +kernel
def w_Md_layShared_69 (R : tpH → Prop) (K25 : Nat → Int32 → Int32 → Int32 → tpH → Prop) (o : Nat) (x1 : Int32) (x2 : Int32) (x3 : Int32) (h : tpH) : Prop :=
  hT h o = 14 ∧ (w_Md_nextIn o x1 x3 h (fun v3 h2 => K25 o x1 x2 v3 h2))
def b_Md_layShared_25 (R : tpH → Prop) (Y : Nat → Int32 → Int32 → Int32 → tpH → Prop) (o : Nat) (x1 : Int32) (x2 : Int32) (x3 : Int32) (h : tpH) : Prop :=
  (x3 = (-1 : Int32) → (R h)) ∧ (¬ x3 = (-1 : Int32) → (hT h o = 14 ∧ (∃ a3, (hR h o 47) = some a3 ∧ hT h a3 = 16 ∧ (vp_in x3 (hL h a3) ∧ (((hI h a3 x3.toNatClampNeg) = 0 → (w_Md_layShared_69 R Y o x1 x2 x3 h)) ∧ (¬ (hI h a3 x3.toNatClampNeg) = 0 → (∃ a8, (hR h o 49) = some a8 ∧ hT h a8 = 15 ∧ (vp_in x3 (hL h a8) ∧ ((¬ (hI h a8 x3.toNatClampNeg) = x2 → (w_Md_layShared_69 R Y o x1 x2 x3 h)) ∧ ((hI h a8 x3.toNatClampNeg) = x2 → (∃ a13, (hR h o 51) = some a13 ∧ hT h a13 = 15 ∧ (vp_in (hI h o 52) (hL h a13) ∧ (∀ h17, h17 = sI h a13 (hI h o 52).toNatClampNeg x3 → (∀ h19, h19 = sI h17 o 52 ((hI h17 o 52) + (1 : Int32)) → (w_Md_layShared_69 R Y o x1 x2 x3 h19)))))))))))))))
def w_Md_layShared_25 (R : tpH → Prop) : Nat → Nat → Int32 → Int32 → Int32 → tpH → Prop
  | 0 => fun _ _ _ _ _ => False
  | n + 1 => b_Md_layShared_25 R (w_Md_layShared_25 R n)
def w_Md_layShared (o : Nat) (x1 : Int32) (x2 : Int32) (h : tpH) (R : tpH → Prop) : Prop :=
  hT h o = 14 ∧ (∀ h2, h2 = sI h o 52 (0 : Int32) → (w_Md_has o x1 x2 h2 (fun v5 h4 => (v5 = 0 → (∃ n, w_Md_layShared_25 R n o x1 x2 (-1 : Int32) h4)) ∧ (¬ v5 = 0 → (hT h4 o = 14 ∧ (w_Md_firstIn o x1 x2 h4 (fun v9 h8 => ∃ n, w_Md_layShared_25 R n o x1 x2 v9 h8)))))))
theorem s_Md_layShared_69 {h0 : tpH} {av : List tpV} {R : tpH → Prop} {K25 : Nat → Int32 → Int32 → Int32 → tpH → Prop} (k25 : ∀ (o : Nat) (x1 : Int32) (x2 : Int32) (x3 : Int32) (h : tpH), K25 o x1 x2 x3 h → tpR Md_layShared 3 h0 av (tpOv R (fun _ _ => False)) 25 [some (vR (some o)), some (vI x1), some (vI x2), some (vI x3)] [] h) : ∀ (o : Nat) (x1 : Int32) (x2 : Int32) (x3 : Int32) (h : tpH), w_Md_layShared_69 R K25 o x1 x2 x3 h → tpR Md_layShared 3 h0 av (tpOv R (fun _ _ => False)) 69 [some (vR (some o)), some (vI x1), some (vI x2), some (vI x3)] [] h := by
  intro o x1 x2 x3 h hw
  unfold w_Md_layShared_69 at hw
  refine tq_aload_n dMd_layShared_69 rfl rfl ?_
  refine tq_iload_n dMd_layShared_70 rfl rfl ?_
  refine tq_iload_n dMd_layShared_71 rfl rfl ?_
  obtain ⟨f1, hw⟩ := hw
  refine te_callV mv_Md_nextIn (ci := 13) (dc := 0) (as := [vI x1, vI x3]) (rest := []) kMd_169 rfl (Nat.le_of_ble_eq_true rfl) (Nat.le_of_ble_eq_true rfl) rfl rfl rfl f1 (Nat.le_of_ble_eq_true rfl) dMd_layShared_72 (s_Md_nextIn hw) (fun _ _ hx => False.elim hx) (tk_i fun v3 h2 hw => ?_)
  refine tq_istore_n (ls' := [some (vR (some o)), some (vI x1), some (vI x2), some (vI v3)]) dMd_layShared_75 rfl (Nat.le_of_ble_eq_true rfl) rfl ?_
  refine tq_goto (tgt := 25) dMd_layShared_76 (by decide) ?_
  refine tpR.fo (ls' := [some (vR (some o)), some (vI x1), some (vI x2), some (vI v3)]) ?_ (And.intro rfl (And.intro rfl (And.intro rfl (And.intro rfl trivial))))
  exact k25 _ _ _ _ _ hw
theorem s_Md_layShared_25 {h0 : tpH} {av : List tpV} {R : tpH → Prop} : ∀ (n : Nat) (o : Nat) (x1 : Int32) (x2 : Int32) (x3 : Int32) (h : tpH), w_Md_layShared_25 R n o x1 x2 x3 h → tpR Md_layShared 3 h0 av (tpOv R (fun _ _ => False)) 25 [some (vR (some o)), some (vI x1), some (vI x2), some (vI x3)] [] h := by
  intro n
  induction n with
  | zero => intro o x1 x2 x3 h hw; exact False.elim hw
  | succ n ih =>
    intro o x1 x2 x3 h hw
    change b_Md_layShared_25 R (w_Md_layShared_25 R n) o x1 x2 x3 h at hw
    unfold b_Md_layShared_25 at hw
    refine tq_iload_n dMd_layShared_25 rfl rfl ?_
    refine tq_iconst (v := (-1 : Int32)) dMd_layShared_26 tni_m1 ?_
    refine tq_icmpeq (tgt := 79) dMd_layShared_27 (by decide) (fun c1 => ?_) (fun c1 => ?_)
    · have hw := hw.1 c1
      exact tq_vret rfl dMd_layShared_79 hw
    · have hw := hw.2 c1
      refine tq_aload_n dMd_layShared_30 rfl rfl ?_
      obtain ⟨f2, hw⟩ := hw
      refine te_getr dMd_layShared_31 fMd_124 rfl rfl f2 ?_
      refine tq_iload_n dMd_layShared_34 rfl rfl ?_
      obtain ⟨a3, e4, f5, hw⟩ := hw
      obtain ⟨f6, hw⟩ := hw
      refine te_zald dMd_layShared_35 e4 f5 f6 ?_
      refine tq_ifeq (tgt := 69) dMd_layShared_36 (by decide) (fun c7 => ?_) (fun c7 => ?_)
      · have hw := hw.1 c7
        refine tpR.fo (ls' := [some (vR (some o)), some (vI x1), some (vI x2), some (vI x3)]) ?_ (And.intro rfl (And.intro rfl (And.intro rfl (And.intro rfl trivial))))
        exact s_Md_layShared_69 ih _ _ _ _ _ hw
      · have hw := hw.2 c7
        refine tq_aload_n dMd_layShared_39 rfl rfl ?_
        refine te_getr dMd_layShared_40 fMd_130 rfl rfl f2 ?_
        refine tq_iload_n dMd_layShared_43 rfl rfl ?_
        obtain ⟨a8, e9, f10, hw⟩ := hw
        obtain ⟨f11, hw⟩ := hw
        refine te_iald dMd_layShared_44 e9 (Or.inl f10) f11 ?_
        refine tq_iload_n dMd_layShared_45 rfl rfl ?_
        refine tq_icmpne (tgt := 69) dMd_layShared_46 (by decide) (fun c12 => ?_) (fun c12 => ?_)
        · have hw := hw.1 c12
          refine tpR.fo (ls' := [some (vR (some o)), some (vI x1), some (vI x2), some (vI x3)]) ?_ (And.intro rfl (And.intro rfl (And.intro rfl (And.intro rfl trivial))))
          exact s_Md_layShared_69 ih _ _ _ _ _ hw
        · have hw := hw.2 c12
          refine tq_aload_n dMd_layShared_49 rfl rfl ?_
          refine te_getr dMd_layShared_50 fMd_136 rfl rfl f2 ?_
          refine tq_aload_n dMd_layShared_53 rfl rfl ?_
          refine te_geti dMd_layShared_54 fMd_372 rfl rfl f2 ?_
          refine tq_iload_n dMd_layShared_57 rfl rfl ?_
          obtain ⟨a13, e14, f15, hw⟩ := hw
          obtain ⟨f16, hw⟩ := hw
          refine te_iast dMd_layShared_58 e14 f15 f16 (fun h17 e18 => ?_)
          have hw := hw h17 e18
          refine tq_aload_n dMd_layShared_59 rfl rfl ?_
          refine tq_dup dMd_layShared_60 rfl ?_
          refine te_geti dMd_layShared_61 fMd_372 rfl rfl (by rw [e18]; exact f2) ?_
          refine tq_iconst (v := (1 : Int32)) dMd_layShared_64 tni_1 ?_
          refine tq_iadd dMd_layShared_65 ?_
          refine te_puti dMd_layShared_66 pMd_372 rfl rfl rfl (by rw [e18]; exact f2) ⟨rfl, rfl⟩ (fun h19 e20 => ?_)
          have hw := hw h19 e20
          refine tpR.fo (ls' := [some (vR (some o)), some (vI x1), some (vI x2), some (vI x3)]) ?_ (And.intro rfl (And.intro rfl (And.intro rfl (And.intro rfl trivial))))
          exact s_Md_layShared_69 ih _ _ _ _ _ hw
theorem s_Md_layShared {o : Nat} {x1 : Int32} {x2 : Int32} {h : tpH} {R : tpH → Prop} (hw : w_Md_layShared o x1 x2 h R) : tpC Md_layShared 3 [vR (some o), vI x1, vI x2] h (tpOv R (fun _ _ => False)) := by
  refine tpC_of mv_Md_layShared.2.2.2.1 rfl rfl (Nat.le_of_ble_eq_true rfl) ?_
  show tpR Md_layShared 3 h _ _ 0 [some (vR (some o)), some (vI x1), some (vI x2), none] [] h
  unfold w_Md_layShared at hw
  refine tq_aload_n dMd_layShared_0 rfl rfl ?_
  refine tq_iconst (v := (0 : Int32)) dMd_layShared_1 tni_0 ?_
  obtain ⟨f1, hw⟩ := hw
  refine te_puti dMd_layShared_2 pMd_372 rfl rfl rfl f1 ⟨rfl, rfl⟩ (fun h2 e3 => ?_)
  have hw := hw h2 e3
  refine tq_aload_n dMd_layShared_5 rfl rfl ?_
  refine tq_iload_n dMd_layShared_6 rfl rfl ?_
  refine tq_iload_n dMd_layShared_7 rfl rfl ?_
  refine te_callV mv_Md_has (ci := 13) (dc := 2) (as := [vI x1, vI x2]) (rest := []) kMd_212 rfl (Nat.le_of_ble_eq_true rfl) (Nat.le_of_ble_eq_true rfl) rfl rfl rfl (by rw [e3]; exact f1) (Nat.le_of_ble_eq_true rfl) dMd_layShared_8 (s_Md_has hw) (fun _ _ hx => False.elim hx) (tk_i fun v5 h4 hw => ?_)
  refine tq_ifeq (tgt := 23) dMd_layShared_11 (by decide) (fun c6 => ?_) (fun c6 => ?_)
  · have hw := hw.1 c6
    refine tq_iconst (v := (-1 : Int32)) dMd_layShared_23 tni_m1 ?_
    refine tq_istore_n (ls' := [some (vR (some o)), some (vI x1), some (vI x2), some (vI (-1 : Int32))]) dMd_layShared_24 rfl (Nat.le_of_ble_eq_true rfl) rfl ?_
    refine tpR.fo (ls' := [some (vR (some o)), some (vI x1), some (vI x2), some (vI (-1 : Int32))]) ?_ (And.intro rfl (And.intro rfl (And.intro rfl (And.intro rfl trivial))))
    obtain ⟨n, hw⟩ := hw
    exact s_Md_layShared_25 n _ _ _ _ _ hw
  · have hw := hw.2 c6
    refine tq_aload_n dMd_layShared_14 rfl rfl ?_
    refine tq_iload_n dMd_layShared_15 rfl rfl ?_
    refine tq_iload_n dMd_layShared_16 rfl rfl ?_
    obtain ⟨f7, hw⟩ := hw
    refine te_callV mv_Md_firstIn (ci := 13) (dc := 0) (as := [vI x1, vI x2]) (rest := []) kMd_173 rfl (Nat.le_of_ble_eq_true rfl) (Nat.le_of_ble_eq_true rfl) rfl rfl rfl f7 (Nat.le_of_ble_eq_true rfl) dMd_layShared_17 (s_Md_firstIn hw) (fun _ _ hx => False.elim hx) (tk_i fun v9 h8 hw => ?_)
    refine tq_goto (tgt := 24) dMd_layShared_20 (by decide) ?_
    refine tq_istore_n (ls' := [some (vR (some o)), some (vI x1), some (vI x2), some (vI v9)]) dMd_layShared_24 rfl (Nat.le_of_ble_eq_true rfl) rfl ?_
    refine tpR.fo (ls' := [some (vR (some o)), some (vI x1), some (vI x2), some (vI v9)]) ?_ (And.intro rfl (And.intro rfl (And.intro rfl (And.intro rfl trivial))))
    obtain ⟨n, hw⟩ := hw
    exact s_Md_layShared_25 n _ _ _ _ _ hw
/-! TModel.sharedPlace -/
theorem dMd_sharedPlace_0 : decode (mB Md_sharedPlace) 0 = .ok (.iconst 0, 1) := by decide +kernel
theorem dMd_sharedPlace_1 : decode (mB Md_sharedPlace) 1 = .ok (.istore_n 2, 1) := by decide +kernel
theorem dMd_sharedPlace_2 : decode (mB Md_sharedPlace) 2 = .ok (.iload_n 2, 1) := by decide +kernel
theorem dMd_sharedPlace_3 : decode (mB Md_sharedPlace) 3 = .ok (.aload_n 0, 1) := by decide +kernel
theorem dMd_sharedPlace_4 : decode (mB Md_sharedPlace) 4 = .ok (.getfield 372, 3) := by decide +kernel
theorem dMd_sharedPlace_7 : decode (mB Md_sharedPlace) 7 = .ok (.if_icmp .ge 21, 3) := by decide +kernel
theorem dMd_sharedPlace_10 : decode (mB Md_sharedPlace) 10 = .ok (.aload_n 0, 1) := by decide +kernel
theorem dMd_sharedPlace_11 : decode (mB Md_sharedPlace) 11 = .ok (.getfield 136, 3) := by decide +kernel
theorem dMd_sharedPlace_14 : decode (mB Md_sharedPlace) 14 = .ok (.iload_n 2, 1) := by decide +kernel
theorem dMd_sharedPlace_15 : decode (mB Md_sharedPlace) 15 = .ok (.iaload, 1) := by decide +kernel
theorem dMd_sharedPlace_16 : decode (mB Md_sharedPlace) 16 = .ok (.iload_n 1, 1) := by decide +kernel
theorem dMd_sharedPlace_17 : decode (mB Md_sharedPlace) 17 = .ok (.if_icmp .ne 5, 3) := by decide +kernel
theorem dMd_sharedPlace_20 : decode (mB Md_sharedPlace) 20 = .ok (.iload_n 2, 1) := by decide +kernel
theorem dMd_sharedPlace_21 : decode (mB Md_sharedPlace) 21 = .ok (.ireturn, 1) := by decide +kernel
theorem dMd_sharedPlace_22 : decode (mB Md_sharedPlace) 22 = .ok (.iinc 2 1, 3) := by decide +kernel
theorem dMd_sharedPlace_25 : decode (mB Md_sharedPlace) 25 = .ok (.goto (-23), 3) := by decide +kernel
theorem dMd_sharedPlace_28 : decode (mB Md_sharedPlace) 28 = .ok (.iconst (-1), 1) := by decide +kernel
theorem dMd_sharedPlace_29 : decode (mB Md_sharedPlace) 29 = .ok (.ireturn, 1) := by decide +kernel
def b_Md_sharedPlace_2 (R : Int32 → tpH → Prop) (Y : Nat → Int32 → Int32 → tpH → Prop) (o : Nat) (x1 : Int32) (x2 : Int32) (h : tpH) : Prop :=
  hT h o = 14 ∧ (((hI h o 52) ≤ x2 → (R (-1 : Int32) h)) ∧ (¬ (hI h o 52) ≤ x2 → (∃ a3, (hR h o 51) = some a3 ∧ hT h a3 = 15 ∧ (vp_in x2 (hL h a3) ∧ ((¬ (hI h a3 x2.toNatClampNeg) = x1 → (Y o x1 (x2 + (1 : Int32)) h)) ∧ ((hI h a3 x2.toNatClampNeg) = x1 → (R x2 h)))))))
def w_Md_sharedPlace_2 (R : Int32 → tpH → Prop) : Nat → Nat → Int32 → Int32 → tpH → Prop
  | 0 => fun _ _ _ _ => False
  | n + 1 => b_Md_sharedPlace_2 R (w_Md_sharedPlace_2 R n)
def w_Md_sharedPlace (o : Nat) (x1 : Int32) (h : tpH) (R : Int32 → tpH → Prop) : Prop :=
  ∃ n, w_Md_sharedPlace_2 R n o x1 (0 : Int32) h
theorem s_Md_sharedPlace_2 {h0 : tpH} {av : List tpV} {R : Int32 → tpH → Prop} : ∀ (n : Nat) (o : Nat) (x1 : Int32) (x2 : Int32) (h : tpH), w_Md_sharedPlace_2 R n o x1 x2 h → tpR Md_sharedPlace 0 h0 av (tpOi R (fun _ _ => False)) 2 [some (vR (some o)), some (vI x1), some (vI x2)] [] h := by
  intro n
  induction n with
  | zero => intro o x1 x2 h hw; exact False.elim hw
  | succ n ih =>
    intro o x1 x2 h hw
    change b_Md_sharedPlace_2 R (w_Md_sharedPlace_2 R n) o x1 x2 h at hw
    unfold b_Md_sharedPlace_2 at hw
    refine tq_iload_n dMd_sharedPlace_2 rfl rfl ?_
    refine tq_aload_n dMd_sharedPlace_3 rfl rfl ?_
    obtain ⟨f1, hw⟩ := hw
    refine te_geti dMd_sharedPlace_4 fMd_372 rfl rfl f1 ?_
    refine tq_icmpge (tgt := 28) dMd_sharedPlace_7 (by decide) (fun c2 => ?_) (fun c2 => ?_)
    · have hw := hw.1 c2
      refine tq_iconst (v := (-1 : Int32)) dMd_sharedPlace_28 tni_m1 ?_
      exact tq_iret rfl rfl dMd_sharedPlace_29 hw
    · have hw := hw.2 c2
      refine tq_aload_n dMd_sharedPlace_10 rfl rfl ?_
      refine te_getr dMd_sharedPlace_11 fMd_136 rfl rfl f1 ?_
      refine tq_iload_n dMd_sharedPlace_14 rfl rfl ?_
      obtain ⟨a3, e4, f5, hw⟩ := hw
      obtain ⟨f6, hw⟩ := hw
      refine te_iald dMd_sharedPlace_15 e4 (Or.inl f5) f6 ?_
      refine tq_iload_n dMd_sharedPlace_16 rfl rfl ?_
      refine tq_icmpne (tgt := 22) dMd_sharedPlace_17 (by decide) (fun c7 => ?_) (fun c7 => ?_)
      · have hw := hw.1 c7
        refine tq_inc (k := (1 : Int32)) (ls' := [some (vR (some o)), some (vI x1), some (vI (x2 + (1 : Int32)))]) dMd_sharedPlace_22 rfl tni_1 (Nat.le_of_ble_eq_true rfl) rfl ?_
        refine tq_goto (tgt := 2) dMd_sharedPlace_25 (by decide) ?_
        refine tpR.fo (ls' := [some (vR (some o)), some (vI x1), some (vI (x2 + (1 : Int32)))]) ?_ (And.intro rfl (And.intro rfl (And.intro rfl trivial)))
        exact ih _ _ _ _ hw
      · have hw := hw.2 c7
        refine tq_iload_n dMd_sharedPlace_20 rfl rfl ?_
        exact tq_iret rfl rfl dMd_sharedPlace_21 hw
theorem s_Md_sharedPlace {o : Nat} {x1 : Int32} {h : tpH} {R : Int32 → tpH → Prop} (hw : w_Md_sharedPlace o x1 h R) : tpC Md_sharedPlace 0 [vR (some o), vI x1] h (tpOi R (fun _ _ => False)) := by
  refine tpC_of mv_Md_sharedPlace.2.2.2.1 rfl rfl (Nat.le_of_ble_eq_true rfl) ?_
  show tpR Md_sharedPlace 0 h _ _ 0 [some (vR (some o)), some (vI x1), none] [] h
  unfold w_Md_sharedPlace at hw
  refine tq_iconst (v := (0 : Int32)) dMd_sharedPlace_0 tni_0 ?_
  refine tq_istore_n (ls' := [some (vR (some o)), some (vI x1), some (vI (0 : Int32))]) dMd_sharedPlace_1 rfl (Nat.le_of_ble_eq_true rfl) rfl ?_
  refine tpR.fo (ls' := [some (vR (some o)), some (vI x1), some (vI (0 : Int32))]) ?_ (And.intro rfl (And.intro rfl (And.intro rfl trivial)))
  obtain ⟨n, hw⟩ := hw
  exact s_Md_sharedPlace_2 n _ _ _ _ hw
/-! TModel.laySide -/
theorem dMd_laySide_0 : decode (mB Md_laySide) 0 = .ok (.iconst 0, 1) := by decide +kernel
theorem dMd_laySide_1 : decode (mB Md_laySide) 1 = .ok (.istore 4, 2) := by decide +kernel
theorem dMd_laySide_3 : decode (mB Md_laySide) 3 = .ok (.aload_n 0, 1) := by decide +kernel
theorem dMd_laySide_4 : decode (mB Md_laySide) 4 = .ok (.iload_n 1, 1) := by decide +kernel
theorem dMd_laySide_5 : decode (mB Md_laySide) 5 = .ok (.iload_n 2, 1) := by decide +kernel
theorem dMd_laySide_6 : decode (mB Md_laySide) 6 = .ok (.invokevirtual 212, 3) := by decide +kernel
theorem dMd_laySide_9 : decode (mB Md_laySide) 9 = .ok (.ifCond .eq 12, 3) := by decide +kernel
theorem dMd_laySide_12 : decode (mB Md_laySide) 12 = .ok (.aload_n 0, 1) := by decide +kernel
theorem dMd_laySide_13 : decode (mB Md_laySide) 13 = .ok (.iload_n 1, 1) := by decide +kernel
theorem dMd_laySide_14 : decode (mB Md_laySide) 14 = .ok (.iload_n 2, 1) := by decide +kernel
theorem dMd_laySide_15 : decode (mB Md_laySide) 15 = .ok (.invokevirtual 173, 3) := by decide +kernel
theorem dMd_laySide_18 : decode (mB Md_laySide) 18 = .ok (.goto 4, 3) := by decide +kernel
theorem dMd_laySide_21 : decode (mB Md_laySide) 21 = .ok (.iconst (-1), 1) := by decide +kernel
theorem dMd_laySide_22 : decode (mB Md_laySide) 22 = .ok (.istore 5, 2) := by decide +kernel
theorem dMd_laySide_24 : decode (mB Md_laySide) 24 = .ok (.iload 5, 2) := by decide +kernel
theorem dMd_laySide_26 : decode (mB Md_laySide) 26 = .ok (.iconst (-1), 1) := by decide +kernel
theorem dMd_laySide_27 : decode (mB Md_laySide) 27 = .ok (.if_icmp .eq 34, 3) := by decide +kernel
theorem dMd_laySide_30 : decode (mB Md_laySide) 30 = .ok (.aload_n 0, 1) := by decide +kernel
theorem dMd_laySide_31 : decode (mB Md_laySide) 31 = .ok (.iload 5, 2) := by decide +kernel
theorem dMd_laySide_33 : decode (mB Md_laySide) 33 = .ok (.invokevirtual 375, 3) := by decide +kernel
theorem dMd_laySide_36 : decode (mB Md_laySide) 36 = .ok (.iconst (-1), 1) := by decide +kernel
theorem dMd_laySide_37 : decode (mB Md_laySide) 37 = .ok (.if_icmp .eq 12, 3) := by decide +kernel
theorem dMd_laySide_40 : decode (mB Md_laySide) 40 = .ok (.aload_n 3, 1) := by decide +kernel
theorem dMd_laySide_41 : decode (mB Md_laySide) 41 = .ok (.iload 4, 2) := by decide +kernel
theorem dMd_laySide_43 : decode (mB Md_laySide) 43 = .ok (.iload 5, 2) := by decide +kernel
theorem dMd_laySide_45 : decode (mB Md_laySide) 45 = .ok (.iastore, 1) := by decide +kernel
theorem dMd_laySide_46 : decode (mB Md_laySide) 46 = .ok (.iinc 4 1, 3) := by decide +kernel
theorem dMd_laySide_49 : decode (mB Md_laySide) 49 = .ok (.aload_n 0, 1) := by decide +kernel
theorem dMd_laySide_50 : decode (mB Md_laySide) 50 = .ok (.iload_n 1, 1) := by decide +kernel
theorem dMd_laySide_51 : decode (mB Md_laySide) 51 = .ok (.iload 5, 2) := by decide +kernel
theorem dMd_laySide_53 : decode (mB Md_laySide) 53 = .ok (.invokevirtual 169, 3) := by decide +kernel
theorem dMd_laySide_56 : decode (mB Md_laySide) 56 = .ok (.istore 5, 2) := by decide +kernel
theorem dMd_laySide_58 : decode (mB Md_laySide) 58 = .ok (.goto (-34), 3) := by decide +kernel
theorem dMd_laySide_61 : decode (mB Md_laySide) 61 = .ok (.iload 4, 2) := by decide +kernel
theorem dMd_laySide_63 : decode (mB Md_laySide) 63 = .ok (.ireturn, 1) := by decide +kernel
def w_Md_laySide_49 (R : Int32 → tpH → Prop) (K24 : Nat → Int32 → (Option Nat) → Int32 → Int32 → tpH → Prop) (o : Nat) (x1 : Int32) (x3 : Option Nat) (x4 : Int32) (x5 : Int32) (h : tpH) : Prop :=
  hT h o = 14 ∧ (w_Md_nextIn o x1 x5 h (fun v3 h2 => K24 o x1 x3 x4 v3 h2))
def b_Md_laySide_24 (R : Int32 → tpH → Prop) (Y : Nat → Int32 → (Option Nat) → Int32 → Int32 → tpH → Prop) (o : Nat) (x1 : Int32) (x3 : Option Nat) (x4 : Int32) (x5 : Int32) (h : tpH) : Prop :=
  (x5 = (-1 : Int32) → (R x4 h)) ∧ (¬ x5 = (-1 : Int32) → (hT h o = 14 ∧ (w_Md_sharedPlace o x5 h (fun v4 h3 => (v4 = (-1 : Int32) → (w_Md_laySide_49 R Y o x1 x3 x4 x5 h3)) ∧ (¬ v4 = (-1 : Int32) → (∃ a6, x3 = some a6 ∧ hT h3 a6 = 15 ∧ (vp_in x4 (hL h3 a6) ∧ (∀ h10, h10 = sI h3 a6 x4.toNatClampNeg x5 → (w_Md_laySide_49 R Y o x1 x3 (x4 + (1 : Int32)) x5 h10)))))))))
def w_Md_laySide_24 (R : Int32 → tpH → Prop) : Nat → Nat → Int32 → (Option Nat) → Int32 → Int32 → tpH → Prop
  | 0 => fun _ _ _ _ _ _ => False
  | n + 1 => b_Md_laySide_24 R (w_Md_laySide_24 R n)
def w_Md_laySide (o : Nat) (x1 : Int32) (x2 : Int32) (x3 : Option Nat) (h : tpH) (R : Int32 → tpH → Prop) : Prop :=
  hT h o = 14 ∧ (w_Md_has o x1 x2 h (fun v3 h2 => (v3 = 0 → (∃ n, w_Md_laySide_24 R n o x1 x3 (0 : Int32) (-1 : Int32) h2)) ∧ (¬ v3 = 0 → (hT h2 o = 14 ∧ (w_Md_firstIn o x1 x2 h2 (fun v7 h6 => ∃ n, w_Md_laySide_24 R n o x1 x3 (0 : Int32) v7 h6))))))
theorem s_Md_laySide_49 {h0 : tpH} {av : List tpV} {R : Int32 → tpH → Prop} {K24 : Nat → Int32 → (Option Nat) → Int32 → Int32 → tpH → Prop} (k24 : ∀ (o : Nat) (x1 : Int32) (x3 : Option Nat) (x4 : Int32) (x5 : Int32) (h : tpH), K24 o x1 x3 x4 x5 h → tpR Md_laySide 3 h0 av (tpOi R (fun _ _ => False)) 24 [some (vR (some o)), some (vI x1), none, some (vR x3), some (vI x4), some (vI x5)] [] h) : ∀ (o : Nat) (x1 : Int32) (x3 : Option Nat) (x4 : Int32) (x5 : Int32) (h : tpH), w_Md_laySide_49 R K24 o x1 x3 x4 x5 h → tpR Md_laySide 3 h0 av (tpOi R (fun _ _ => False)) 49 [some (vR (some o)), some (vI x1), none, some (vR x3), some (vI x4), some (vI x5)] [] h := by
  intro o x1 x3 x4 x5 h hw
  unfold w_Md_laySide_49 at hw
  refine tq_aload_n dMd_laySide_49 rfl rfl ?_
  refine tq_iload_n dMd_laySide_50 rfl rfl ?_
  refine tq_iload dMd_laySide_51 rfl ?_
  obtain ⟨f1, hw⟩ := hw
  refine te_callV mv_Md_nextIn (ci := 13) (dc := 0) (as := [vI x1, vI x5]) (rest := []) kMd_169 rfl (Nat.le_of_ble_eq_true rfl) (Nat.le_of_ble_eq_true rfl) rfl rfl rfl f1 (Nat.le_of_ble_eq_true rfl) dMd_laySide_53 (s_Md_nextIn hw) (fun _ _ hx => False.elim hx) (tk_i fun v3 h2 hw => ?_)
  refine tq_istore (ls' := [some (vR (some o)), some (vI x1), none, some (vR x3), some (vI x4), some (vI v3)]) dMd_laySide_56 (Nat.le_of_ble_eq_true rfl) rfl ?_
  refine tq_goto (tgt := 24) dMd_laySide_58 (by decide) ?_
  refine tpR.fo (ls' := [some (vR (some o)), some (vI x1), none, some (vR x3), some (vI x4), some (vI v3)]) ?_ (And.intro rfl (And.intro rfl (And.intro rfl (And.intro rfl (And.intro rfl trivial)))))
  exact k24 _ _ _ _ _ _ hw
theorem s_Md_laySide_24 {h0 : tpH} {av : List tpV} {R : Int32 → tpH → Prop} : ∀ (n : Nat) (o : Nat) (x1 : Int32) (x3 : Option Nat) (x4 : Int32) (x5 : Int32) (h : tpH), w_Md_laySide_24 R n o x1 x3 x4 x5 h → tpR Md_laySide 3 h0 av (tpOi R (fun _ _ => False)) 24 [some (vR (some o)), some (vI x1), none, some (vR x3), some (vI x4), some (vI x5)] [] h := by
  intro n
  induction n with
  | zero => intro o x1 x3 x4 x5 h hw; exact False.elim hw
  | succ n ih =>
    intro o x1 x3 x4 x5 h hw
    change b_Md_laySide_24 R (w_Md_laySide_24 R n) o x1 x3 x4 x5 h at hw
    unfold b_Md_laySide_24 at hw
    refine tq_iload dMd_laySide_24 rfl ?_
    refine tq_iconst (v := (-1 : Int32)) dMd_laySide_26 tni_m1 ?_
    refine tq_icmpeq (tgt := 61) dMd_laySide_27 (by decide) (fun c1 => ?_) (fun c1 => ?_)
    · have hw := hw.1 c1
      refine tq_iload dMd_laySide_61 rfl ?_
      exact tq_iret rfl rfl dMd_laySide_63 hw
    · have hw := hw.2 c1
      refine tq_aload_n dMd_laySide_30 rfl rfl ?_
      refine tq_iload dMd_laySide_31 rfl ?_
      obtain ⟨f2, hw⟩ := hw
      refine te_callV mv_Md_sharedPlace (ci := 13) (dc := 0) (as := [vI x5]) (rest := []) kMd_375 rfl (Nat.le_of_ble_eq_true rfl) (Nat.le_of_ble_eq_true rfl) rfl rfl rfl f2 (Nat.le_of_ble_eq_true rfl) dMd_laySide_33 (s_Md_sharedPlace hw) (fun _ _ hx => False.elim hx) (tk_i fun v4 h3 hw => ?_)
      refine tq_iconst (v := (-1 : Int32)) dMd_laySide_36 tni_m1 ?_
      refine tq_icmpeq (tgt := 49) dMd_laySide_37 (by decide) (fun c5 => ?_) (fun c5 => ?_)
      · have hw := hw.1 c5
        refine tpR.fo (ls' := [some (vR (some o)), some (vI x1), none, some (vR x3), some (vI x4), some (vI x5)]) ?_ (And.intro rfl (And.intro rfl (And.intro rfl (And.intro rfl (And.intro rfl trivial)))))
        exact s_Md_laySide_49 ih _ _ _ _ _ _ hw
      · have hw := hw.2 c5
        refine tq_aload_n dMd_laySide_40 rfl rfl ?_
        refine tq_iload dMd_laySide_41 rfl ?_
        refine tq_iload dMd_laySide_43 rfl ?_
        obtain ⟨a6, e7, f8, hw⟩ := hw
        obtain ⟨f9, hw⟩ := hw
        refine te_iast dMd_laySide_45 e7 f8 f9 (fun h10 e11 => ?_)
        have hw := hw h10 e11
        refine tq_inc (k := (1 : Int32)) (ls' := [some (vR (some o)), some (vI x1), none, some (vR x3), some (vI (x4 + (1 : Int32))), some (vI x5)]) dMd_laySide_46 rfl tni_1 (Nat.le_of_ble_eq_true rfl) rfl ?_
        refine tpR.fo (ls' := [some (vR (some o)), some (vI x1), none, some (vR x3), some (vI (x4 + (1 : Int32))), some (vI x5)]) ?_ (And.intro rfl (And.intro rfl (And.intro rfl (And.intro rfl (And.intro rfl trivial)))))
        exact s_Md_laySide_49 ih _ _ _ _ _ _ hw
theorem s_Md_laySide {o : Nat} {x1 : Int32} {x2 : Int32} {x3 : Option Nat} {h : tpH} {R : Int32 → tpH → Prop} (hw : w_Md_laySide o x1 x2 x3 h R) : tpC Md_laySide 3 [vR (some o), vI x1, vI x2, vR x3] h (tpOi R (fun _ _ => False)) := by
  refine tpC_of mv_Md_laySide.2.2.2.1 rfl rfl (Nat.le_of_ble_eq_true rfl) ?_
  show tpR Md_laySide 3 h _ _ 0 [some (vR (some o)), some (vI x1), some (vI x2), some (vR x3), none, none] [] h
  unfold w_Md_laySide at hw
  refine tq_iconst (v := (0 : Int32)) dMd_laySide_0 tni_0 ?_
  refine tq_istore (ls' := [some (vR (some o)), some (vI x1), some (vI x2), some (vR x3), some (vI (0 : Int32)), none]) dMd_laySide_1 (Nat.le_of_ble_eq_true rfl) rfl ?_
  refine tq_aload_n dMd_laySide_3 rfl rfl ?_
  refine tq_iload_n dMd_laySide_4 rfl rfl ?_
  refine tq_iload_n dMd_laySide_5 rfl rfl ?_
  obtain ⟨f1, hw⟩ := hw
  refine te_callV mv_Md_has (ci := 13) (dc := 2) (as := [vI x1, vI x2]) (rest := []) kMd_212 rfl (Nat.le_of_ble_eq_true rfl) (Nat.le_of_ble_eq_true rfl) rfl rfl rfl f1 (Nat.le_of_ble_eq_true rfl) dMd_laySide_6 (s_Md_has hw) (fun _ _ hx => False.elim hx) (tk_i fun v3 h2 hw => ?_)
  refine tq_ifeq (tgt := 21) dMd_laySide_9 (by decide) (fun c4 => ?_) (fun c4 => ?_)
  · have hw := hw.1 c4
    refine tq_iconst (v := (-1 : Int32)) dMd_laySide_21 tni_m1 ?_
    refine tq_istore (ls' := [some (vR (some o)), some (vI x1), some (vI x2), some (vR x3), some (vI (0 : Int32)), some (vI (-1 : Int32))]) dMd_laySide_22 (Nat.le_of_ble_eq_true rfl) rfl ?_
    refine tpR.fo (ls' := [some (vR (some o)), some (vI x1), none, some (vR x3), some (vI (0 : Int32)), some (vI (-1 : Int32))]) ?_ (And.intro rfl (And.intro rfl (And.intro rfl (And.intro rfl (And.intro rfl trivial)))))
    obtain ⟨n, hw⟩ := hw
    exact s_Md_laySide_24 n _ _ _ _ _ _ hw
  · have hw := hw.2 c4
    refine tq_aload_n dMd_laySide_12 rfl rfl ?_
    refine tq_iload_n dMd_laySide_13 rfl rfl ?_
    refine tq_iload_n dMd_laySide_14 rfl rfl ?_
    obtain ⟨f5, hw⟩ := hw
    refine te_callV mv_Md_firstIn (ci := 13) (dc := 0) (as := [vI x1, vI x2]) (rest := []) kMd_173 rfl (Nat.le_of_ble_eq_true rfl) (Nat.le_of_ble_eq_true rfl) rfl rfl rfl f5 (Nat.le_of_ble_eq_true rfl) dMd_laySide_15 (s_Md_firstIn hw) (fun _ _ hx => False.elim hx) (tk_i fun v7 h6 hw => ?_)
    refine tq_goto (tgt := 22) dMd_laySide_18 (by decide) ?_
    refine tq_istore (ls' := [some (vR (some o)), some (vI x1), some (vI x2), some (vR x3), some (vI (0 : Int32)), some (vI v7)]) dMd_laySide_22 (Nat.le_of_ble_eq_true rfl) rfl ?_
    refine tpR.fo (ls' := [some (vR (some o)), some (vI x1), none, some (vR x3), some (vI (0 : Int32)), some (vI v7)]) ?_ (And.intro rfl (And.intro rfl (And.intro rfl (And.intro rfl (And.intro rfl trivial)))))
    obtain ⟨n, hw⟩ := hw
    exact s_Md_laySide_24 n _ _ _ _ _ _ hw
/-! TModel.isTurned -/
theorem dMd_isTurned_0 : decode (mB Md_isTurned) 0 = .ok (.iconst 0, 1) := by decide +kernel
theorem dMd_isTurned_1 : decode (mB Md_isTurned) 1 = .ok (.istore_n 3, 1) := by decide +kernel
theorem dMd_isTurned_2 : decode (mB Md_isTurned) 2 = .ok (.iconst 1, 1) := by decide +kernel
theorem dMd_isTurned_3 : decode (mB Md_isTurned) 3 = .ok (.istore 4, 2) := by decide +kernel
theorem dMd_isTurned_5 : decode (mB Md_isTurned) 5 = .ok (.iload 4, 2) := by decide +kernel
theorem dMd_isTurned_7 : decode (mB Md_isTurned) 7 = .ok (.iload_n 2, 1) := by decide +kernel
theorem dMd_isTurned_8 : decode (mB Md_isTurned) 8 = .ok (.if_icmp .ge 40, 3) := by decide +kernel
theorem dMd_isTurned_11 : decode (mB Md_isTurned) 11 = .ok (.iload_n 3, 1) := by decide +kernel
theorem dMd_isTurned_12 : decode (mB Md_isTurned) 12 = .ok (.ifCond .ne 24, 3) := by decide +kernel
theorem dMd_isTurned_15 : decode (mB Md_isTurned) 15 = .ok (.aload_n 0, 1) := by decide +kernel
theorem dMd_isTurned_16 : decode (mB Md_isTurned) 16 = .ok (.aload_n 1, 1) := by decide +kernel
theorem dMd_isTurned_17 : decode (mB Md_isTurned) 17 = .ok (.iload 4, 2) := by decide +kernel
theorem dMd_isTurned_19 : decode (mB Md_isTurned) 19 = .ok (.iaload, 1) := by decide +kernel
theorem dMd_isTurned_20 : decode (mB Md_isTurned) 20 = .ok (.invokevirtual 375, 3) := by decide +kernel
theorem dMd_isTurned_23 : decode (mB Md_isTurned) 23 = .ok (.aload_n 0, 1) := by decide +kernel
theorem dMd_isTurned_24 : decode (mB Md_isTurned) 24 = .ok (.aload_n 1, 1) := by decide +kernel
theorem dMd_isTurned_25 : decode (mB Md_isTurned) 25 = .ok (.iload 4, 2) := by decide +kernel
theorem dMd_isTurned_27 : decode (mB Md_isTurned) 27 = .ok (.iconst 1, 1) := by decide +kernel
theorem dMd_isTurned_28 : decode (mB Md_isTurned) 28 = .ok (.isub, 1) := by decide +kernel
theorem dMd_isTurned_29 : decode (mB Md_isTurned) 29 = .ok (.iaload, 1) := by decide +kernel
theorem dMd_isTurned_30 : decode (mB Md_isTurned) 30 = .ok (.invokevirtual 375, 3) := by decide +kernel
theorem dMd_isTurned_33 : decode (mB Md_isTurned) 33 = .ok (.if_icmp .ge 7, 3) := by decide +kernel
theorem dMd_isTurned_36 : decode (mB Md_isTurned) 36 = .ok (.iconst 1, 1) := by decide +kernel
theorem dMd_isTurned_37 : decode (mB Md_isTurned) 37 = .ok (.goto 4, 3) := by decide +kernel
theorem dMd_isTurned_40 : decode (mB Md_isTurned) 40 = .ok (.iconst 0, 1) := by decide +kernel
theorem dMd_isTurned_41 : decode (mB Md_isTurned) 41 = .ok (.istore_n 3, 1) := by decide +kernel
theorem dMd_isTurned_42 : decode (mB Md_isTurned) 42 = .ok (.iinc 4 1, 3) := by decide +kernel
theorem dMd_isTurned_45 : decode (mB Md_isTurned) 45 = .ok (.goto (-40), 3) := by decide +kernel
theorem dMd_isTurned_48 : decode (mB Md_isTurned) 48 = .ok (.iload_n 3, 1) := by decide +kernel
theorem dMd_isTurned_49 : decode (mB Md_isTurned) 49 = .ok (.ireturn, 1) := by decide +kernel
def b_Md_isTurned_5 (R : Int32 → tpH → Prop) (Y : Nat → (Option Nat) → Int32 → Int32 → Int32 → tpH → Prop) (o : Nat) (x1 : Option Nat) (x2 : Int32) (x3 : Int32) (x4 : Int32) (h : tpH) : Prop :=
  (x2 ≤ x4 → (tpB x3 ∧ (R x3 h))) ∧ (¬ x2 ≤ x4 → ((¬ x3 = 0 → (Y o x1 x2 (1 : Int32) (x4 + (1 : Int32)) h)) ∧ (x3 = 0 → (∃ a4, x1 = some a4 ∧ hT h a4 = 15 ∧ (vp_in x4 (hL h a4) ∧ (hT h o = 14 ∧ (w_Md_sharedPlace o (hI h a4 x4.toNatClampNeg) h (fun v10 h9 => hT h9 a4 = 15 ∧ (vp_in (x4 - (1 : Int32)) (hL h9 a4) ∧ (hT h9 o = 14 ∧ (w_Md_sharedPlace o (hI h9 a4 (x4 - (1 : Int32)).toNatClampNeg) h9 (fun v15 h14 => (v15 ≤ v10 → (Y o x1 x2 (0 : Int32) (x4 + (1 : Int32)) h14)) ∧ (¬ v15 ≤ v10 → (Y o x1 x2 (1 : Int32) (x4 + (1 : Int32)) h14))))))))))))))
def w_Md_isTurned_5 (R : Int32 → tpH → Prop) : Nat → Nat → (Option Nat) → Int32 → Int32 → Int32 → tpH → Prop
  | 0 => fun _ _ _ _ _ _ => False
  | n + 1 => b_Md_isTurned_5 R (w_Md_isTurned_5 R n)
def w_Md_isTurned (o : Nat) (x1 : Option Nat) (x2 : Int32) (h : tpH) (R : Int32 → tpH → Prop) : Prop :=
  ∃ n, w_Md_isTurned_5 R n o x1 x2 (0 : Int32) (1 : Int32) h
theorem s_Md_isTurned_5 {h0 : tpH} {av : List tpV} {R : Int32 → tpH → Prop} : ∀ (n : Nat) (o : Nat) (x1 : Option Nat) (x2 : Int32) (x3 : Int32) (x4 : Int32) (h : tpH), w_Md_isTurned_5 R n o x1 x2 x3 x4 h → tpR Md_isTurned 1 h0 av (tpOi R (fun _ _ => False)) 5 [some (vR (some o)), some (vR x1), some (vI x2), some (vI x3), some (vI x4)] [] h := by
  intro n
  induction n with
  | zero => intro o x1 x2 x3 x4 h hw; exact False.elim hw
  | succ n ih =>
    intro o x1 x2 x3 x4 h hw
    change b_Md_isTurned_5 R (w_Md_isTurned_5 R n) o x1 x2 x3 x4 h at hw
    unfold b_Md_isTurned_5 at hw
    refine tq_iload dMd_isTurned_5 rfl ?_
    refine tq_iload_n dMd_isTurned_7 rfl rfl ?_
    refine tq_icmpge (tgt := 48) dMd_isTurned_8 (by decide) (fun c1 => ?_) (fun c1 => ?_)
    · have hw := hw.1 c1
      refine tq_iload_n dMd_isTurned_48 rfl rfl ?_
      obtain ⟨f2, hw⟩ := hw
      exact tq_iret rfl (tpB_n f2) dMd_isTurned_49 hw
    · have hw := hw.2 c1
      refine tq_iload_n dMd_isTurned_11 rfl rfl ?_
      refine tq_ifne (tgt := 36) dMd_isTurned_12 (by decide) (fun c3 => ?_) (fun c3 => ?_)
      · have hw := hw.1 c3
        refine tq_iconst (v := (1 : Int32)) dMd_isTurned_36 tni_1 ?_
        refine tq_goto (tgt := 41) dMd_isTurned_37 (by decide) ?_
        refine tq_istore_n (ls' := [some (vR (some o)), some (vR x1), some (vI x2), some (vI (1 : Int32)), some (vI x4)]) dMd_isTurned_41 rfl (Nat.le_of_ble_eq_true rfl) rfl ?_
        refine tq_inc (k := (1 : Int32)) (ls' := [some (vR (some o)), some (vR x1), some (vI x2), some (vI (1 : Int32)), some (vI (x4 + (1 : Int32)))]) dMd_isTurned_42 rfl tni_1 (Nat.le_of_ble_eq_true rfl) rfl ?_
        refine tq_goto (tgt := 5) dMd_isTurned_45 (by decide) ?_
        refine tpR.fo (ls' := [some (vR (some o)), some (vR x1), some (vI x2), some (vI (1 : Int32)), some (vI (x4 + (1 : Int32)))]) ?_ (And.intro rfl (And.intro rfl (And.intro rfl (And.intro rfl (And.intro rfl trivial)))))
        exact ih _ _ _ _ _ _ hw
      · have hw := hw.2 c3
        refine tq_aload_n dMd_isTurned_15 rfl rfl ?_
        refine tq_aload_n dMd_isTurned_16 rfl rfl ?_
        refine tq_iload dMd_isTurned_17 rfl ?_
        obtain ⟨a4, e5, f6, hw⟩ := hw
        obtain ⟨f7, hw⟩ := hw
        refine te_iald dMd_isTurned_19 e5 (Or.inl f6) f7 ?_
        obtain ⟨f8, hw⟩ := hw
        refine te_callV mv_Md_sharedPlace (ci := 13) (dc := 0) (as := [vI (hI h a4 x4.toNatClampNeg)]) (rest := []) kMd_375 rfl (Nat.le_of_ble_eq_true rfl) (Nat.le_of_ble_eq_true rfl) rfl rfl rfl f8 (Nat.le_of_ble_eq_true rfl) dMd_isTurned_20 (s_Md_sharedPlace hw) (fun _ _ hx => False.elim hx) (tk_i fun v10 h9 hw => ?_)
        refine tq_aload_n dMd_isTurned_23 rfl rfl ?_
        refine tq_aload_n dMd_isTurned_24 rfl rfl ?_
        refine tq_iload dMd_isTurned_25 rfl ?_
        refine tq_iconst (v := (1 : Int32)) dMd_isTurned_27 tni_1 ?_
        refine tq_isub dMd_isTurned_28 ?_
        obtain ⟨f11, hw⟩ := hw
        obtain ⟨f12, hw⟩ := hw
        refine te_iald dMd_isTurned_29 e5 (Or.inl f11) f12 ?_
        obtain ⟨f13, hw⟩ := hw
        refine te_callV mv_Md_sharedPlace (ci := 13) (dc := 0) (as := [vI (hI h9 a4 (x4 - (1 : Int32)).toNatClampNeg)]) (rest := [vI v10]) kMd_375 rfl (Nat.le_of_ble_eq_true rfl) (Nat.le_of_ble_eq_true rfl) rfl rfl rfl f13 (Nat.le_of_ble_eq_true rfl) dMd_isTurned_30 (s_Md_sharedPlace hw) (fun _ _ hx => False.elim hx) (tk_i fun v15 h14 hw => ?_)
        refine tq_icmpge (tgt := 40) dMd_isTurned_33 (by decide) (fun c16 => ?_) (fun c16 => ?_)
        · have hw := hw.1 c16
          refine tq_iconst (v := (0 : Int32)) dMd_isTurned_40 tni_0 ?_
          refine tq_istore_n (ls' := [some (vR (some o)), some (vR x1), some (vI x2), some (vI (0 : Int32)), some (vI x4)]) dMd_isTurned_41 rfl (Nat.le_of_ble_eq_true rfl) rfl ?_
          refine tq_inc (k := (1 : Int32)) (ls' := [some (vR (some o)), some (vR x1), some (vI x2), some (vI (0 : Int32)), some (vI (x4 + (1 : Int32)))]) dMd_isTurned_42 rfl tni_1 (Nat.le_of_ble_eq_true rfl) rfl ?_
          refine tq_goto (tgt := 5) dMd_isTurned_45 (by decide) ?_
          refine tpR.fo (ls' := [some (vR (some o)), some (vR x1), some (vI x2), some (vI (0 : Int32)), some (vI (x4 + (1 : Int32)))]) ?_ (And.intro rfl (And.intro rfl (And.intro rfl (And.intro rfl (And.intro rfl trivial)))))
          exact ih _ _ _ _ _ _ hw
        · have hw := hw.2 c16
          refine tq_iconst (v := (1 : Int32)) dMd_isTurned_36 tni_1 ?_
          refine tq_goto (tgt := 41) dMd_isTurned_37 (by decide) ?_
          refine tq_istore_n (ls' := [some (vR (some o)), some (vR x1), some (vI x2), some (vI (1 : Int32)), some (vI x4)]) dMd_isTurned_41 rfl (Nat.le_of_ble_eq_true rfl) rfl ?_
          refine tq_inc (k := (1 : Int32)) (ls' := [some (vR (some o)), some (vR x1), some (vI x2), some (vI (1 : Int32)), some (vI (x4 + (1 : Int32)))]) dMd_isTurned_42 rfl tni_1 (Nat.le_of_ble_eq_true rfl) rfl ?_
          refine tq_goto (tgt := 5) dMd_isTurned_45 (by decide) ?_
          refine tpR.fo (ls' := [some (vR (some o)), some (vR x1), some (vI x2), some (vI (1 : Int32)), some (vI (x4 + (1 : Int32)))]) ?_ (And.intro rfl (And.intro rfl (And.intro rfl (And.intro rfl (And.intro rfl trivial)))))
          exact ih _ _ _ _ _ _ hw
theorem s_Md_isTurned {o : Nat} {x1 : Option Nat} {x2 : Int32} {h : tpH} {R : Int32 → tpH → Prop} (hw : w_Md_isTurned o x1 x2 h R) : tpC Md_isTurned 1 [vR (some o), vR x1, vI x2] h (tpOi R (fun _ _ => False)) := by
  refine tpC_of mv_Md_isTurned.2.2.2.1 rfl rfl (Nat.le_of_ble_eq_true rfl) ?_
  show tpR Md_isTurned 1 h _ _ 0 [some (vR (some o)), some (vR x1), some (vI x2), none, none] [] h
  unfold w_Md_isTurned at hw
  refine tq_iconst (v := (0 : Int32)) dMd_isTurned_0 tni_0 ?_
  refine tq_istore_n (ls' := [some (vR (some o)), some (vR x1), some (vI x2), some (vI (0 : Int32)), none]) dMd_isTurned_1 rfl (Nat.le_of_ble_eq_true rfl) rfl ?_
  refine tq_iconst (v := (1 : Int32)) dMd_isTurned_2 tni_1 ?_
  refine tq_istore (ls' := [some (vR (some o)), some (vR x1), some (vI x2), some (vI (0 : Int32)), some (vI (1 : Int32))]) dMd_isTurned_3 (Nat.le_of_ble_eq_true rfl) rfl ?_
  refine tpR.fo (ls' := [some (vR (some o)), some (vR x1), some (vI x2), some (vI (0 : Int32)), some (vI (1 : Int32))]) ?_ (And.intro rfl (And.intro rfl (And.intro rfl (And.intro rfl (And.intro rfl trivial)))))
  obtain ⟨n, hw⟩ := hw
  exact s_Md_isTurned_5 n _ _ _ _ _ _ hw
/-! TModel.layChosen -/
theorem dMd_layChosen_0 : decode (mB Md_layChosen) 0 = .ok (.aload_n 0, 1) := by decide +kernel
theorem dMd_layChosen_1 : decode (mB Md_layChosen) 1 = .ok (.aload_n 0, 1) := by decide +kernel
theorem dMd_layChosen_2 : decode (mB Md_layChosen) 2 = .ok (.iload_n 2, 1) := by decide +kernel
theorem dMd_layChosen_3 : decode (mB Md_layChosen) 3 = .ok (.iload 4, 2) := by decide +kernel
theorem dMd_layChosen_5 : decode (mB Md_layChosen) 5 = .ok (.aload_n 0, 1) := by decide +kernel
theorem dMd_layChosen_6 : decode (mB Md_layChosen) 6 = .ok (.getfield 139, 3) := by decide +kernel
theorem dMd_layChosen_9 : decode (mB Md_layChosen) 9 = .ok (.invokevirtual 378, 3) := by decide +kernel
theorem dMd_layChosen_12 : decode (mB Md_layChosen) 12 = .ok (.putfield 382, 3) := by decide +kernel
theorem dMd_layChosen_15 : decode (mB Md_layChosen) 15 = .ok (.aload_n 0, 1) := by decide +kernel
theorem dMd_layChosen_16 : decode (mB Md_layChosen) 16 = .ok (.iload_n 3, 1) := by decide +kernel
theorem dMd_layChosen_17 : decode (mB Md_layChosen) 17 = .ok (.iload 4, 2) := by decide +kernel
theorem dMd_layChosen_19 : decode (mB Md_layChosen) 19 = .ok (.aload_n 0, 1) := by decide +kernel
theorem dMd_layChosen_20 : decode (mB Md_layChosen) 20 = .ok (.getfield 142, 3) := by decide +kernel
theorem dMd_layChosen_23 : decode (mB Md_layChosen) 23 = .ok (.invokevirtual 378, 3) := by decide +kernel
theorem dMd_layChosen_26 : decode (mB Md_layChosen) 26 = .ok (.istore 5, 2) := by decide +kernel
theorem dMd_layChosen_28 : decode (mB Md_layChosen) 28 = .ok (.aload_n 0, 1) := by decide +kernel
theorem dMd_layChosen_29 : decode (mB Md_layChosen) 29 = .ok (.aload_n 0, 1) := by decide +kernel
theorem dMd_layChosen_30 : decode (mB Md_layChosen) 30 = .ok (.getfield 139, 3) := by decide +kernel
theorem dMd_layChosen_33 : decode (mB Md_layChosen) 33 = .ok (.aload_n 0, 1) := by decide +kernel
theorem dMd_layChosen_34 : decode (mB Md_layChosen) 34 = .ok (.getfield 382, 3) := by decide +kernel
theorem dMd_layChosen_37 : decode (mB Md_layChosen) 37 = .ok (.invokevirtual 385, 3) := by decide +kernel
theorem dMd_layChosen_40 : decode (mB Md_layChosen) 40 = .ok (.istore 6, 2) := by decide +kernel
theorem dMd_layChosen_42 : decode (mB Md_layChosen) 42 = .ok (.aload_n 0, 1) := by decide +kernel
theorem dMd_layChosen_43 : decode (mB Md_layChosen) 43 = .ok (.aload_n 0, 1) := by decide +kernel
theorem dMd_layChosen_44 : decode (mB Md_layChosen) 44 = .ok (.getfield 142, 3) := by decide +kernel
theorem dMd_layChosen_47 : decode (mB Md_layChosen) 47 = .ok (.iload 5, 2) := by decide +kernel
theorem dMd_layChosen_49 : decode (mB Md_layChosen) 49 = .ok (.invokevirtual 385, 3) := by decide +kernel
theorem dMd_layChosen_52 : decode (mB Md_layChosen) 52 = .ok (.istore 7, 2) := by decide +kernel
theorem dMd_layChosen_54 : decode (mB Md_layChosen) 54 = .ok (.aload_n 0, 1) := by decide +kernel
theorem dMd_layChosen_55 : decode (mB Md_layChosen) 55 = .ok (.getfield 382, 3) := by decide +kernel
theorem dMd_layChosen_58 : decode (mB Md_layChosen) 58 = .ok (.iload 5, 2) := by decide +kernel
theorem dMd_layChosen_60 : decode (mB Md_layChosen) 60 = .ok (.if_icmp .ne 7, 3) := by decide +kernel
theorem dMd_layChosen_63 : decode (mB Md_layChosen) 63 = .ok (.iconst 1, 1) := by decide +kernel
theorem dMd_layChosen_64 : decode (mB Md_layChosen) 64 = .ok (.goto 4, 3) := by decide +kernel
theorem dMd_layChosen_67 : decode (mB Md_layChosen) 67 = .ok (.iconst 0, 1) := by decide +kernel
theorem dMd_layChosen_68 : decode (mB Md_layChosen) 68 = .ok (.istore 8, 2) := by decide +kernel
theorem dMd_layChosen_70 : decode (mB Md_layChosen) 70 = .ok (.iconst 0, 1) := by decide +kernel
theorem dMd_layChosen_71 : decode (mB Md_layChosen) 71 = .ok (.istore 9, 2) := by decide +kernel
theorem dMd_layChosen_73 : decode (mB Md_layChosen) 73 = .ok (.iload 9, 2) := by decide +kernel
theorem dMd_layChosen_75 : decode (mB Md_layChosen) 75 = .ok (.aload_n 0, 1) := by decide +kernel
theorem dMd_layChosen_76 : decode (mB Md_layChosen) 76 = .ok (.getfield 382, 3) := by decide +kernel
theorem dMd_layChosen_79 : decode (mB Md_layChosen) 79 = .ok (.if_icmp .ge 38, 3) := by decide +kernel
theorem dMd_layChosen_82 : decode (mB Md_layChosen) 82 = .ok (.iload 8, 2) := by decide +kernel
theorem dMd_layChosen_84 : decode (mB Md_layChosen) 84 = .ok (.ifCond .eq 33, 3) := by decide +kernel
theorem dMd_layChosen_87 : decode (mB Md_layChosen) 87 = .ok (.aload_n 0, 1) := by decide +kernel
theorem dMd_layChosen_88 : decode (mB Md_layChosen) 88 = .ok (.getfield 139, 3) := by decide +kernel
theorem dMd_layChosen_91 : decode (mB Md_layChosen) 91 = .ok (.iload 9, 2) := by decide +kernel
theorem dMd_layChosen_93 : decode (mB Md_layChosen) 93 = .ok (.iaload, 1) := by decide +kernel
theorem dMd_layChosen_94 : decode (mB Md_layChosen) 94 = .ok (.aload_n 0, 1) := by decide +kernel
theorem dMd_layChosen_95 : decode (mB Md_layChosen) 95 = .ok (.getfield 142, 3) := by decide +kernel
theorem dMd_layChosen_98 : decode (mB Md_layChosen) 98 = .ok (.iload 9, 2) := by decide +kernel
theorem dMd_layChosen_100 : decode (mB Md_layChosen) 100 = .ok (.iaload, 1) := by decide +kernel
theorem dMd_layChosen_101 : decode (mB Md_layChosen) 101 = .ok (.if_icmp .ne 7, 3) := by decide +kernel
theorem dMd_layChosen_104 : decode (mB Md_layChosen) 104 = .ok (.iconst 1, 1) := by decide +kernel
theorem dMd_layChosen_105 : decode (mB Md_layChosen) 105 = .ok (.goto 4, 3) := by decide +kernel
theorem dMd_layChosen_108 : decode (mB Md_layChosen) 108 = .ok (.iconst 0, 1) := by decide +kernel
theorem dMd_layChosen_109 : decode (mB Md_layChosen) 109 = .ok (.istore 8, 2) := by decide +kernel
theorem dMd_layChosen_111 : decode (mB Md_layChosen) 111 = .ok (.iinc 9 1, 3) := by decide +kernel
theorem dMd_layChosen_114 : decode (mB Md_layChosen) 114 = .ok (.goto (-41), 3) := by decide +kernel
theorem dMd_layChosen_117 : decode (mB Md_layChosen) 117 = .ok (.iload 6, 2) := by decide +kernel
theorem dMd_layChosen_119 : decode (mB Md_layChosen) 119 = .ok (.ifCond .eq 17, 3) := by decide +kernel
theorem dMd_layChosen_122 : decode (mB Md_layChosen) 122 = .ok (.iload 7, 2) := by decide +kernel
theorem dMd_layChosen_124 : decode (mB Md_layChosen) 124 = .ok (.ifCond .eq 12, 3) := by decide +kernel
theorem dMd_layChosen_127 : decode (mB Md_layChosen) 127 = .ok (.iload 8, 2) := by decide +kernel
theorem dMd_layChosen_129 : decode (mB Md_layChosen) 129 = .ok (.ifCond .ne 7, 3) := by decide +kernel
theorem dMd_layChosen_132 : decode (mB Md_layChosen) 132 = .ok (.iconst 1, 1) := by decide +kernel
theorem dMd_layChosen_133 : decode (mB Md_layChosen) 133 = .ok (.goto 4, 3) := by decide +kernel
theorem dMd_layChosen_136 : decode (mB Md_layChosen) 136 = .ok (.iconst 0, 1) := by decide +kernel
theorem dMd_layChosen_137 : decode (mB Md_layChosen) 137 = .ok (.istore 9, 2) := by decide +kernel
theorem dMd_layChosen_139 : decode (mB Md_layChosen) 139 = .ok (.iload 6, 2) := by decide +kernel
theorem dMd_layChosen_141 : decode (mB Md_layChosen) 141 = .ok (.ifCond .eq 18, 3) := by decide +kernel
theorem dMd_layChosen_144 : decode (mB Md_layChosen) 144 = .ok (.iload 9, 2) := by decide +kernel
theorem dMd_layChosen_146 : decode (mB Md_layChosen) 146 = .ok (.ifCond .eq 17, 3) := by decide +kernel
theorem dMd_layChosen_149 : decode (mB Md_layChosen) 149 = .ok (.aload_n 0, 1) := by decide +kernel
theorem dMd_layChosen_150 : decode (mB Md_layChosen) 150 = .ok (.getfield 64, 3) := by decide +kernel
theorem dMd_layChosen_153 : decode (mB Md_layChosen) 153 = .ok (.iconst 5, 1) := by decide +kernel
theorem dMd_layChosen_154 : decode (mB Md_layChosen) 154 = .ok (.iaload, 1) := by decide +kernel
theorem dMd_layChosen_155 : decode (mB Md_layChosen) 155 = .ok (.iconst 2, 1) := by decide +kernel
theorem dMd_layChosen_156 : decode (mB Md_layChosen) 156 = .ok (.if_icmp .ne 7, 3) := by decide +kernel
theorem dMd_layChosen_159 : decode (mB Md_layChosen) 159 = .ok (.iload_n 3, 1) := by decide +kernel
theorem dMd_layChosen_160 : decode (mB Md_layChosen) 160 = .ok (.goto 22, 3) := by decide +kernel
theorem dMd_layChosen_163 : decode (mB Md_layChosen) 163 = .ok (.iload 9, 2) := by decide +kernel
theorem dMd_layChosen_165 : decode (mB Md_layChosen) 165 = .ok (.ifCond .eq 16, 3) := by decide +kernel
theorem dMd_layChosen_168 : decode (mB Md_layChosen) 168 = .ok (.aload_n 0, 1) := by decide +kernel
theorem dMd_layChosen_169 : decode (mB Md_layChosen) 169 = .ok (.getfield 64, 3) := by decide +kernel
theorem dMd_layChosen_172 : decode (mB Md_layChosen) 172 = .ok (.iconst 5, 1) := by decide +kernel
theorem dMd_layChosen_173 : decode (mB Md_layChosen) 173 = .ok (.iaload, 1) := by decide +kernel
theorem dMd_layChosen_174 : decode (mB Md_layChosen) 174 = .ok (.ifCond .ne 7, 3) := by decide +kernel
theorem dMd_layChosen_177 : decode (mB Md_layChosen) 177 = .ok (.iload_n 1, 1) := by decide +kernel
theorem dMd_layChosen_178 : decode (mB Md_layChosen) 178 = .ok (.goto 4, 3) := by decide +kernel
theorem dMd_layChosen_181 : decode (mB Md_layChosen) 181 = .ok (.iload_n 2, 1) := by decide +kernel
theorem dMd_layChosen_182 : decode (mB Md_layChosen) 182 = .ok (.istore 10, 2) := by decide +kernel
theorem dMd_layChosen_184 : decode (mB Md_layChosen) 184 = .ok (.aload_n 0, 1) := by decide +kernel
theorem dMd_layChosen_185 : decode (mB Md_layChosen) 185 = .ok (.aload_n 0, 1) := by decide +kernel
theorem dMd_layChosen_186 : decode (mB Md_layChosen) 186 = .ok (.iload 10, 2) := by decide +kernel
theorem dMd_layChosen_188 : decode (mB Md_layChosen) 188 = .ok (.iload 4, 2) := by decide +kernel
theorem dMd_layChosen_190 : decode (mB Md_layChosen) 190 = .ok (.aload_n 0, 1) := by decide +kernel
theorem dMd_layChosen_191 : decode (mB Md_layChosen) 191 = .ok (.getfield 139, 3) := by decide +kernel
theorem dMd_layChosen_194 : decode (mB Md_layChosen) 194 = .ok (.invokevirtual 378, 3) := by decide +kernel
theorem dMd_layChosen_197 : decode (mB Md_layChosen) 197 = .ok (.putfield 382, 3) := by decide +kernel
theorem dMd_layChosen_200 : decode (mB Md_layChosen) 200 = .ok (.iload 9, 2) := by decide +kernel
theorem dMd_layChosen_202 : decode (mB Md_layChosen) 202 = .ok (.ireturn, 1) := by decide +kernel
def w_Md_layChosen_163 (R : Int32 → tpH → Prop) (K182 : Nat → Int32 → Int32 → Int32 → tpH → Prop) (o : Nat) (x1 : Int32) (x2 : Int32) (x4 : Int32) (x9 : Int32) (h : tpH) : Prop :=
  (x9 = 0 → (K182 o x4 x9 x2 h)) ∧ (¬ x9 = 0 → (hT h o = 14 ∧ (∃ a3, (hR h o 23) = some a3 ∧ hT h a3 = 15 ∧ (vp_in (5 : Int32) (hL h a3) ∧ ((¬ (hI h a3 (5 : Int32).toNatClampNeg) = 0 → (K182 o x4 x9 x2 h)) ∧ ((hI h a3 (5 : Int32).toNatClampNeg) = 0 → (K182 o x4 x9 x1 h)))))))
def w_Md_layChosen_182 (R : Int32 → tpH → Prop) (o : Nat) (x4 : Int32) (x9 : Int32) (t0 : Int32) (h : tpH) : Prop :=
  hT h o = 14 ∧ (w_Md_laySide o t0 x4 (hR h o 53) h (fun v3 h2 => hT h2 o = 14 ∧ (∀ h5, h5 = sI h2 o 54 v3 → (tpB x9 ∧ (R x9 h5)))))
def w_Md_layChosen_137 (R : Int32 → tpH → Prop) (o : Nat) (x1 : Int32) (x2 : Int32) (x3 : Int32) (x4 : Int32) (x6 : Int32) (t0 : Int32) (h : tpH) : Prop :=
  (x6 = 0 → (w_Md_layChosen_182 R o x4 t0 x3 h)) ∧ (¬ x6 = 0 → ((t0 = 0 → (w_Md_layChosen_163 R (w_Md_layChosen_182 R) o x1 x2 x4 t0 h)) ∧ (¬ t0 = 0 → (hT h o = 14 ∧ (∃ a4, (hR h o 23) = some a4 ∧ hT h a4 = 15 ∧ (vp_in (5 : Int32) (hL h a4) ∧ ((¬ (hI h a4 (5 : Int32).toNatClampNeg) = (2 : Int32) → (w_Md_layChosen_163 R (w_Md_layChosen_182 R) o x1 x2 x4 t0 h)) ∧ ((hI h a4 (5 : Int32).toNatClampNeg) = (2 : Int32) → (w_Md_layChosen_182 R o x4 t0 x3 h)))))))))
def w_Md_layChosen_117 (R : Int32 → tpH → Prop) (o : Nat) (x1 : Int32) (x2 : Int32) (x3 : Int32) (x4 : Int32) (x6 : Int32) (x7 : Int32) (x8 : Int32) (h : tpH) : Prop :=
  (x6 = 0 → (w_Md_layChosen_137 R o x1 x2 x3 x4 x6 (0 : Int32) h)) ∧ (¬ x6 = 0 → ((x7 = 0 → (w_Md_layChosen_137 R o x1 x2 x3 x4 x6 (0 : Int32) h)) ∧ (¬ x7 = 0 → ((¬ x8 = 0 → (w_Md_layChosen_137 R o x1 x2 x3 x4 x6 (0 : Int32) h)) ∧ (x8 = 0 → (w_Md_layChosen_137 R o x1 x2 x3 x4 x6 (1 : Int32) h))))))
def b_Md_layChosen_73 (R : Int32 → tpH → Prop) (Y : Nat → Int32 → Int32 → Int32 → Int32 → Int32 → Int32 → Int32 → Int32 → tpH → Prop) (o : Nat) (x1 : Int32) (x2 : Int32) (x3 : Int32) (x4 : Int32) (x6 : Int32) (x7 : Int32) (x8 : Int32) (x9 : Int32) (h : tpH) : Prop :=
  hT h o = 14 ∧ (((hI h o 54) ≤ x9 → (w_Md_layChosen_117 R o x1 x2 x3 x4 x6 x7 x8 h)) ∧ (¬ (hI h o 54) ≤ x9 → ((x8 = 0 → (w_Md_layChosen_117 R o x1 x2 x3 x4 x6 x7 x8 h)) ∧ (¬ x8 = 0 → (∃ a4, (hR h o 53) = some a4 ∧ hT h a4 = 15 ∧ (vp_in x9 (hL h a4) ∧ (∃ a8, (hR h o 55) = some a8 ∧ hT h a8 = 15 ∧ (vp_in x9 (hL h a8) ∧ ((¬ (hI h a4 x9.toNatClampNeg) = (hI h a8 x9.toNatClampNeg) → (Y o x1 x2 x3 x4 x6 x7 (0 : Int32) (x9 + (1 : Int32)) h)) ∧ ((hI h a4 x9.toNatClampNeg) = (hI h a8 x9.toNatClampNeg) → (Y o x1 x2 x3 x4 x6 x7 (1 : Int32) (x9 + (1 : Int32)) h)))))))))))
def w_Md_layChosen_73 (R : Int32 → tpH → Prop) : Nat → Nat → Int32 → Int32 → Int32 → Int32 → Int32 → Int32 → Int32 → Int32 → tpH → Prop
  | 0 => fun _ _ _ _ _ _ _ _ _ _ => False
  | n + 1 => b_Md_layChosen_73 R (w_Md_layChosen_73 R n)
def w_Md_layChosen (o : Nat) (x1 : Int32) (x2 : Int32) (x3 : Int32) (x4 : Int32) (h : tpH) (R : Int32 → tpH → Prop) : Prop :=
  hT h o = 14 ∧ (w_Md_laySide o x2 x4 (hR h o 53) h (fun v3 h2 => hT h2 o = 14 ∧ (∀ h5, h5 = sI h2 o 54 v3 → (w_Md_laySide o x3 x4 (hR h5 o 55) h5 (fun v8 h7 => hT h7 o = 14 ∧ (w_Md_isTurned o (hR h7 o 53) (hI h7 o 54) h7 (fun v11 h10 => hT h10 o = 14 ∧ (w_Md_isTurned o (hR h10 o 55) v8 h10 (fun v14 h13 => hT h13 o = 14 ∧ ((¬ (hI h13 o 54) = v8 → (∃ n, w_Md_layChosen_73 R n o x1 x2 x3 x4 v11 v14 (0 : Int32) (0 : Int32) h13)) ∧ ((hI h13 o 54) = v8 → (∃ n, w_Md_layChosen_73 R n o x1 x2 x3 x4 v11 v14 (1 : Int32) (0 : Int32) h13))))))))))))
theorem s_Md_layChosen_163 {h0 : tpH} {av : List tpV} {R : Int32 → tpH → Prop} {K182 : Nat → Int32 → Int32 → Int32 → tpH → Prop} (k182 : ∀ (o : Nat) (x4 : Int32) (x9 : Int32) (t0 : Int32) (h : tpH), K182 o x4 x9 t0 h → tpR Md_layChosen 4 h0 av (tpOi R (fun _ _ => False)) 182 [some (vR (some o)), none, none, none, some (vI x4), none, none, none, none, some (vI x9), none] [vI t0] h) : ∀ (o : Nat) (x1 : Int32) (x2 : Int32) (x4 : Int32) (x9 : Int32) (h : tpH), w_Md_layChosen_163 R K182 o x1 x2 x4 x9 h → tpR Md_layChosen 4 h0 av (tpOi R (fun _ _ => False)) 163 [some (vR (some o)), some (vI x1), some (vI x2), none, some (vI x4), none, none, none, none, some (vI x9), none] [] h := by
  intro o x1 x2 x4 x9 h hw
  unfold w_Md_layChosen_163 at hw
  refine tq_iload dMd_layChosen_163 rfl ?_
  refine tq_ifeq (tgt := 181) dMd_layChosen_165 (by decide) (fun c1 => ?_) (fun c1 => ?_)
  · have hw := hw.1 c1
    refine tq_iload_n dMd_layChosen_181 rfl rfl ?_
    refine tpR.fo (ls' := [some (vR (some o)), none, none, none, some (vI x4), none, none, none, none, some (vI x9), none]) ?_ (And.intro rfl (And.intro rfl (And.intro rfl trivial)))
    exact k182 _ _ _ _ _ hw
  · have hw := hw.2 c1
    refine tq_aload_n dMd_layChosen_168 rfl rfl ?_
    obtain ⟨f2, hw⟩ := hw
    refine te_getr dMd_layChosen_169 fMd_64 rfl rfl f2 ?_
    refine tq_iconst (v := (5 : Int32)) dMd_layChosen_172 tni_5 ?_
    obtain ⟨a3, e4, f5, hw⟩ := hw
    obtain ⟨f6, hw⟩ := hw
    refine te_iald dMd_layChosen_173 e4 (Or.inl f5) f6 ?_
    refine tq_ifne (tgt := 181) dMd_layChosen_174 (by decide) (fun c7 => ?_) (fun c7 => ?_)
    · have hw := hw.1 c7
      refine tq_iload_n dMd_layChosen_181 rfl rfl ?_
      refine tpR.fo (ls' := [some (vR (some o)), none, none, none, some (vI x4), none, none, none, none, some (vI x9), none]) ?_ (And.intro rfl (And.intro rfl (And.intro rfl trivial)))
      exact k182 _ _ _ _ _ hw
    · have hw := hw.2 c7
      refine tq_iload_n dMd_layChosen_177 rfl rfl ?_
      refine tq_goto (tgt := 182) dMd_layChosen_178 (by decide) ?_
      refine tpR.fo (ls' := [some (vR (some o)), none, none, none, some (vI x4), none, none, none, none, some (vI x9), none]) ?_ (And.intro rfl (And.intro rfl (And.intro rfl trivial)))
      exact k182 _ _ _ _ _ hw
theorem s_Md_layChosen_182 {h0 : tpH} {av : List tpV} {R : Int32 → tpH → Prop} : ∀ (o : Nat) (x4 : Int32) (x9 : Int32) (t0 : Int32) (h : tpH), w_Md_layChosen_182 R o x4 x9 t0 h → tpR Md_layChosen 4 h0 av (tpOi R (fun _ _ => False)) 182 [some (vR (some o)), none, none, none, some (vI x4), none, none, none, none, some (vI x9), none] [vI t0] h := by
  intro o x4 x9 t0 h hw
  unfold w_Md_layChosen_182 at hw
  refine tq_istore (ls' := [some (vR (some o)), none, none, none, some (vI x4), none, none, none, none, some (vI x9), some (vI t0)]) dMd_layChosen_182 (Nat.le_of_ble_eq_true rfl) rfl ?_
  refine tq_aload_n dMd_layChosen_184 rfl rfl ?_
  refine tq_aload_n dMd_layChosen_185 rfl rfl ?_
  refine tq_iload dMd_layChosen_186 rfl ?_
  refine tq_iload dMd_layChosen_188 rfl ?_
  refine tq_aload_n dMd_layChosen_190 rfl rfl ?_
  obtain ⟨f1, hw⟩ := hw
  refine te_getr dMd_layChosen_191 fMd_139 rfl rfl f1 ?_
  refine te_callV mv_Md_laySide (ci := 13) (dc := 3) (as := [vI t0, vI x4, vR (hR h o 53)]) (rest := [vR (some o)]) kMd_378 rfl (Nat.le_of_ble_eq_true rfl) (Nat.le_of_ble_eq_true rfl) rfl rfl rfl f1 (Nat.le_of_ble_eq_true rfl) dMd_layChosen_194 (s_Md_laySide hw) (fun _ _ hx => False.elim hx) (tk_i fun v3 h2 hw => ?_)
  obtain ⟨f4, hw⟩ := hw
  refine te_puti dMd_layChosen_197 pMd_382 rfl rfl rfl f4 ⟨rfl, rfl⟩ (fun h5 e6 => ?_)
  have hw := hw h5 e6
  refine tq_iload dMd_layChosen_200 rfl ?_
  obtain ⟨f7, hw⟩ := hw
  exact tq_iret rfl (tpB_n f7) dMd_layChosen_202 hw
theorem s_Md_layChosen_137 {h0 : tpH} {av : List tpV} {R : Int32 → tpH → Prop} : ∀ (o : Nat) (x1 : Int32) (x2 : Int32) (x3 : Int32) (x4 : Int32) (x6 : Int32) (t0 : Int32) (h : tpH), w_Md_layChosen_137 R o x1 x2 x3 x4 x6 t0 h → tpR Md_layChosen 4 h0 av (tpOi R (fun _ _ => False)) 137 [some (vR (some o)), some (vI x1), some (vI x2), some (vI x3), some (vI x4), none, some (vI x6), none, none, none, none] [vI t0] h := by
  intro o x1 x2 x3 x4 x6 t0 h hw
  unfold w_Md_layChosen_137 at hw
  refine tq_istore (ls' := [some (vR (some o)), some (vI x1), some (vI x2), some (vI x3), some (vI x4), none, some (vI x6), none, none, some (vI t0), none]) dMd_layChosen_137 (Nat.le_of_ble_eq_true rfl) rfl ?_
  refine tq_iload dMd_layChosen_139 rfl ?_
  refine tq_ifeq (tgt := 159) dMd_layChosen_141 (by decide) (fun c1 => ?_) (fun c1 => ?_)
  · have hw := hw.1 c1
    refine tq_iload_n dMd_layChosen_159 rfl rfl ?_
    refine tq_goto (tgt := 182) dMd_layChosen_160 (by decide) ?_
    refine tpR.fo (ls' := [some (vR (some o)), none, none, none, some (vI x4), none, none, none, none, some (vI t0), none]) ?_ (And.intro rfl (And.intro rfl (And.intro rfl trivial)))
    exact s_Md_layChosen_182 _ _ _ _ _ hw
  · have hw := hw.2 c1
    refine tq_iload dMd_layChosen_144 rfl ?_
    refine tq_ifeq (tgt := 163) dMd_layChosen_146 (by decide) (fun c2 => ?_) (fun c2 => ?_)
    · have hw := hw.1 c2
      refine tpR.fo (ls' := [some (vR (some o)), some (vI x1), some (vI x2), none, some (vI x4), none, none, none, none, some (vI t0), none]) ?_ (And.intro rfl (And.intro rfl (And.intro rfl (And.intro rfl (And.intro rfl trivial)))))
      exact s_Md_layChosen_163 (s_Md_layChosen_182) _ _ _ _ _ _ hw
    · have hw := hw.2 c2
      refine tq_aload_n dMd_layChosen_149 rfl rfl ?_
      obtain ⟨f3, hw⟩ := hw
      refine te_getr dMd_layChosen_150 fMd_64 rfl rfl f3 ?_
      refine tq_iconst (v := (5 : Int32)) dMd_layChosen_153 tni_5 ?_
      obtain ⟨a4, e5, f6, hw⟩ := hw
      obtain ⟨f7, hw⟩ := hw
      refine te_iald dMd_layChosen_154 e5 (Or.inl f6) f7 ?_
      refine tq_iconst (v := (2 : Int32)) dMd_layChosen_155 tni_2 ?_
      refine tq_icmpne (tgt := 163) dMd_layChosen_156 (by decide) (fun c8 => ?_) (fun c8 => ?_)
      · have hw := hw.1 c8
        refine tpR.fo (ls' := [some (vR (some o)), some (vI x1), some (vI x2), none, some (vI x4), none, none, none, none, some (vI t0), none]) ?_ (And.intro rfl (And.intro rfl (And.intro rfl (And.intro rfl (And.intro rfl trivial)))))
        exact s_Md_layChosen_163 (s_Md_layChosen_182) _ _ _ _ _ _ hw
      · have hw := hw.2 c8
        refine tq_iload_n dMd_layChosen_159 rfl rfl ?_
        refine tq_goto (tgt := 182) dMd_layChosen_160 (by decide) ?_
        refine tpR.fo (ls' := [some (vR (some o)), none, none, none, some (vI x4), none, none, none, none, some (vI t0), none]) ?_ (And.intro rfl (And.intro rfl (And.intro rfl trivial)))
        exact s_Md_layChosen_182 _ _ _ _ _ hw
theorem s_Md_layChosen_117 {h0 : tpH} {av : List tpV} {R : Int32 → tpH → Prop} : ∀ (o : Nat) (x1 : Int32) (x2 : Int32) (x3 : Int32) (x4 : Int32) (x6 : Int32) (x7 : Int32) (x8 : Int32) (h : tpH), w_Md_layChosen_117 R o x1 x2 x3 x4 x6 x7 x8 h → tpR Md_layChosen 4 h0 av (tpOi R (fun _ _ => False)) 117 [some (vR (some o)), some (vI x1), some (vI x2), some (vI x3), some (vI x4), none, some (vI x6), some (vI x7), some (vI x8), none, none] [] h := by
  intro o x1 x2 x3 x4 x6 x7 x8 h hw
  unfold w_Md_layChosen_117 at hw
  refine tq_iload dMd_layChosen_117 rfl ?_
  refine tq_ifeq (tgt := 136) dMd_layChosen_119 (by decide) (fun c1 => ?_) (fun c1 => ?_)
  · have hw := hw.1 c1
    refine tq_iconst (v := (0 : Int32)) dMd_layChosen_136 tni_0 ?_
    refine tpR.fo (ls' := [some (vR (some o)), some (vI x1), some (vI x2), some (vI x3), some (vI x4), none, some (vI x6), none, none, none, none]) ?_ (And.intro rfl (And.intro rfl (And.intro rfl (And.intro rfl (And.intro rfl (And.intro rfl trivial))))))
    exact s_Md_layChosen_137 _ _ _ _ _ _ _ _ hw
  · have hw := hw.2 c1
    refine tq_iload dMd_layChosen_122 rfl ?_
    refine tq_ifeq (tgt := 136) dMd_layChosen_124 (by decide) (fun c2 => ?_) (fun c2 => ?_)
    · have hw := hw.1 c2
      refine tq_iconst (v := (0 : Int32)) dMd_layChosen_136 tni_0 ?_
      refine tpR.fo (ls' := [some (vR (some o)), some (vI x1), some (vI x2), some (vI x3), some (vI x4), none, some (vI x6), none, none, none, none]) ?_ (And.intro rfl (And.intro rfl (And.intro rfl (And.intro rfl (And.intro rfl (And.intro rfl trivial))))))
      exact s_Md_layChosen_137 _ _ _ _ _ _ _ _ hw
    · have hw := hw.2 c2
      refine tq_iload dMd_layChosen_127 rfl ?_
      refine tq_ifne (tgt := 136) dMd_layChosen_129 (by decide) (fun c3 => ?_) (fun c3 => ?_)
      · have hw := hw.1 c3
        refine tq_iconst (v := (0 : Int32)) dMd_layChosen_136 tni_0 ?_
        refine tpR.fo (ls' := [some (vR (some o)), some (vI x1), some (vI x2), some (vI x3), some (vI x4), none, some (vI x6), none, none, none, none]) ?_ (And.intro rfl (And.intro rfl (And.intro rfl (And.intro rfl (And.intro rfl (And.intro rfl trivial))))))
        exact s_Md_layChosen_137 _ _ _ _ _ _ _ _ hw
      · have hw := hw.2 c3
        refine tq_iconst (v := (1 : Int32)) dMd_layChosen_132 tni_1 ?_
        refine tq_goto (tgt := 137) dMd_layChosen_133 (by decide) ?_
        refine tpR.fo (ls' := [some (vR (some o)), some (vI x1), some (vI x2), some (vI x3), some (vI x4), none, some (vI x6), none, none, none, none]) ?_ (And.intro rfl (And.intro rfl (And.intro rfl (And.intro rfl (And.intro rfl (And.intro rfl trivial))))))
        exact s_Md_layChosen_137 _ _ _ _ _ _ _ _ hw
theorem s_Md_layChosen_73 {h0 : tpH} {av : List tpV} {R : Int32 → tpH → Prop} : ∀ (n : Nat) (o : Nat) (x1 : Int32) (x2 : Int32) (x3 : Int32) (x4 : Int32) (x6 : Int32) (x7 : Int32) (x8 : Int32) (x9 : Int32) (h : tpH), w_Md_layChosen_73 R n o x1 x2 x3 x4 x6 x7 x8 x9 h → tpR Md_layChosen 4 h0 av (tpOi R (fun _ _ => False)) 73 [some (vR (some o)), some (vI x1), some (vI x2), some (vI x3), some (vI x4), none, some (vI x6), some (vI x7), some (vI x8), some (vI x9), none] [] h := by
  intro n
  induction n with
  | zero => intro o x1 x2 x3 x4 x6 x7 x8 x9 h hw; exact False.elim hw
  | succ n ih =>
    intro o x1 x2 x3 x4 x6 x7 x8 x9 h hw
    change b_Md_layChosen_73 R (w_Md_layChosen_73 R n) o x1 x2 x3 x4 x6 x7 x8 x9 h at hw
    unfold b_Md_layChosen_73 at hw
    refine tq_iload dMd_layChosen_73 rfl ?_
    refine tq_aload_n dMd_layChosen_75 rfl rfl ?_
    obtain ⟨f1, hw⟩ := hw
    refine te_geti dMd_layChosen_76 fMd_382 rfl rfl f1 ?_
    refine tq_icmpge (tgt := 117) dMd_layChosen_79 (by decide) (fun c2 => ?_) (fun c2 => ?_)
    · have hw := hw.1 c2
      refine tpR.fo (ls' := [some (vR (some o)), some (vI x1), some (vI x2), some (vI x3), some (vI x4), none, some (vI x6), some (vI x7), some (vI x8), none, none]) ?_ (And.intro rfl (And.intro rfl (And.intro rfl (And.intro rfl (And.intro rfl (And.intro rfl (And.intro rfl (And.intro rfl trivial))))))))
      exact s_Md_layChosen_117 _ _ _ _ _ _ _ _ _ hw
    · have hw := hw.2 c2
      refine tq_iload dMd_layChosen_82 rfl ?_
      refine tq_ifeq (tgt := 117) dMd_layChosen_84 (by decide) (fun c3 => ?_) (fun c3 => ?_)
      · have hw := hw.1 c3
        refine tpR.fo (ls' := [some (vR (some o)), some (vI x1), some (vI x2), some (vI x3), some (vI x4), none, some (vI x6), some (vI x7), some (vI x8), none, none]) ?_ (And.intro rfl (And.intro rfl (And.intro rfl (And.intro rfl (And.intro rfl (And.intro rfl (And.intro rfl (And.intro rfl trivial))))))))
        exact s_Md_layChosen_117 _ _ _ _ _ _ _ _ _ hw
      · have hw := hw.2 c3
        refine tq_aload_n dMd_layChosen_87 rfl rfl ?_
        refine te_getr dMd_layChosen_88 fMd_139 rfl rfl f1 ?_
        refine tq_iload dMd_layChosen_91 rfl ?_
        obtain ⟨a4, e5, f6, hw⟩ := hw
        obtain ⟨f7, hw⟩ := hw
        refine te_iald dMd_layChosen_93 e5 (Or.inl f6) f7 ?_
        refine tq_aload_n dMd_layChosen_94 rfl rfl ?_
        refine te_getr dMd_layChosen_95 fMd_142 rfl rfl f1 ?_
        refine tq_iload dMd_layChosen_98 rfl ?_
        obtain ⟨a8, e9, f10, hw⟩ := hw
        obtain ⟨f11, hw⟩ := hw
        refine te_iald dMd_layChosen_100 e9 (Or.inl f10) f11 ?_
        refine tq_icmpne (tgt := 108) dMd_layChosen_101 (by decide) (fun c12 => ?_) (fun c12 => ?_)
        · have hw := hw.1 c12
          refine tq_iconst (v := (0 : Int32)) dMd_layChosen_108 tni_0 ?_
          refine tq_istore (ls' := [some (vR (some o)), some (vI x1), some (vI x2), some (vI x3), some (vI x4), none, some (vI x6), some (vI x7), some (vI (0 : Int32)), some (vI x9), none]) dMd_layChosen_109 (Nat.le_of_ble_eq_true rfl) rfl ?_
          refine tq_inc (k := (1 : Int32)) (ls' := [some (vR (some o)), some (vI x1), some (vI x2), some (vI x3), some (vI x4), none, some (vI x6), some (vI x7), some (vI (0 : Int32)), some (vI (x9 + (1 : Int32))), none]) dMd_layChosen_111 rfl tni_1 (Nat.le_of_ble_eq_true rfl) rfl ?_
          refine tq_goto (tgt := 73) dMd_layChosen_114 (by decide) ?_
          refine tpR.fo (ls' := [some (vR (some o)), some (vI x1), some (vI x2), some (vI x3), some (vI x4), none, some (vI x6), some (vI x7), some (vI (0 : Int32)), some (vI (x9 + (1 : Int32))), none]) ?_ (And.intro rfl (And.intro rfl (And.intro rfl (And.intro rfl (And.intro rfl (And.intro rfl (And.intro rfl (And.intro rfl (And.intro rfl trivial)))))))))
          exact ih _ _ _ _ _ _ _ _ _ _ hw
        · have hw := hw.2 c12
          refine tq_iconst (v := (1 : Int32)) dMd_layChosen_104 tni_1 ?_
          refine tq_goto (tgt := 109) dMd_layChosen_105 (by decide) ?_
          refine tq_istore (ls' := [some (vR (some o)), some (vI x1), some (vI x2), some (vI x3), some (vI x4), none, some (vI x6), some (vI x7), some (vI (1 : Int32)), some (vI x9), none]) dMd_layChosen_109 (Nat.le_of_ble_eq_true rfl) rfl ?_
          refine tq_inc (k := (1 : Int32)) (ls' := [some (vR (some o)), some (vI x1), some (vI x2), some (vI x3), some (vI x4), none, some (vI x6), some (vI x7), some (vI (1 : Int32)), some (vI (x9 + (1 : Int32))), none]) dMd_layChosen_111 rfl tni_1 (Nat.le_of_ble_eq_true rfl) rfl ?_
          refine tq_goto (tgt := 73) dMd_layChosen_114 (by decide) ?_
          refine tpR.fo (ls' := [some (vR (some o)), some (vI x1), some (vI x2), some (vI x3), some (vI x4), none, some (vI x6), some (vI x7), some (vI (1 : Int32)), some (vI (x9 + (1 : Int32))), none]) ?_ (And.intro rfl (And.intro rfl (And.intro rfl (And.intro rfl (And.intro rfl (And.intro rfl (And.intro rfl (And.intro rfl (And.intro rfl trivial)))))))))
          exact ih _ _ _ _ _ _ _ _ _ _ hw
theorem s_Md_layChosen {o : Nat} {x1 : Int32} {x2 : Int32} {x3 : Int32} {x4 : Int32} {h : tpH} {R : Int32 → tpH → Prop} (hw : w_Md_layChosen o x1 x2 x3 x4 h R) : tpC Md_layChosen 4 [vR (some o), vI x1, vI x2, vI x3, vI x4] h (tpOi R (fun _ _ => False)) := by
  refine tpC_of mv_Md_layChosen.2.2.2.1 rfl rfl (Nat.le_of_ble_eq_true rfl) ?_
  show tpR Md_layChosen 4 h _ _ 0 [some (vR (some o)), some (vI x1), some (vI x2), some (vI x3), some (vI x4), none, none, none, none, none, none] [] h
  unfold w_Md_layChosen at hw
  refine tq_aload_n dMd_layChosen_0 rfl rfl ?_
  refine tq_aload_n dMd_layChosen_1 rfl rfl ?_
  refine tq_iload_n dMd_layChosen_2 rfl rfl ?_
  refine tq_iload dMd_layChosen_3 rfl ?_
  refine tq_aload_n dMd_layChosen_5 rfl rfl ?_
  obtain ⟨f1, hw⟩ := hw
  refine te_getr dMd_layChosen_6 fMd_139 rfl rfl f1 ?_
  refine te_callV mv_Md_laySide (ci := 13) (dc := 3) (as := [vI x2, vI x4, vR (hR h o 53)]) (rest := [vR (some o)]) kMd_378 rfl (Nat.le_of_ble_eq_true rfl) (Nat.le_of_ble_eq_true rfl) rfl rfl rfl f1 (Nat.le_of_ble_eq_true rfl) dMd_layChosen_9 (s_Md_laySide hw) (fun _ _ hx => False.elim hx) (tk_i fun v3 h2 hw => ?_)
  obtain ⟨f4, hw⟩ := hw
  refine te_puti dMd_layChosen_12 pMd_382 rfl rfl rfl f4 ⟨rfl, rfl⟩ (fun h5 e6 => ?_)
  have hw := hw h5 e6
  refine tq_aload_n dMd_layChosen_15 rfl rfl ?_
  refine tq_iload_n dMd_layChosen_16 rfl rfl ?_
  refine tq_iload dMd_layChosen_17 rfl ?_
  refine tq_aload_n dMd_layChosen_19 rfl rfl ?_
  refine te_getr dMd_layChosen_20 fMd_142 rfl rfl (by rw [e6]; exact f4) ?_
  refine te_callV mv_Md_laySide (ci := 13) (dc := 3) (as := [vI x3, vI x4, vR (hR h5 o 55)]) (rest := []) kMd_378 rfl (Nat.le_of_ble_eq_true rfl) (Nat.le_of_ble_eq_true rfl) rfl rfl rfl (by rw [e6]; exact f4) (Nat.le_of_ble_eq_true rfl) dMd_layChosen_23 (s_Md_laySide hw) (fun _ _ hx => False.elim hx) (tk_i fun v8 h7 hw => ?_)
  refine tq_istore (ls' := [some (vR (some o)), some (vI x1), some (vI x2), some (vI x3), some (vI x4), some (vI v8), none, none, none, none, none]) dMd_layChosen_26 (Nat.le_of_ble_eq_true rfl) rfl ?_
  refine tq_aload_n dMd_layChosen_28 rfl rfl ?_
  refine tq_aload_n dMd_layChosen_29 rfl rfl ?_
  obtain ⟨f9, hw⟩ := hw
  refine te_getr dMd_layChosen_30 fMd_139 rfl rfl f9 ?_
  refine tq_aload_n dMd_layChosen_33 rfl rfl ?_
  refine te_geti dMd_layChosen_34 fMd_382 rfl rfl f9 ?_
  refine te_callV mv_Md_isTurned (ci := 13) (dc := 1) (as := [vR (hR h7 o 53), vI (hI h7 o 54)]) (rest := []) kMd_385 rfl (Nat.le_of_ble_eq_true rfl) (Nat.le_of_ble_eq_true rfl) rfl rfl rfl f9 (Nat.le_of_ble_eq_true rfl) dMd_layChosen_37 (s_Md_isTurned hw) (fun _ _ hx => False.elim hx) (tk_i fun v11 h10 hw => ?_)
  refine tq_istore (ls' := [some (vR (some o)), some (vI x1), some (vI x2), some (vI x3), some (vI x4), some (vI v8), some (vI v11), none, none, none, none]) dMd_layChosen_40 (Nat.le_of_ble_eq_true rfl) rfl ?_
  refine tq_aload_n dMd_layChosen_42 rfl rfl ?_
  refine tq_aload_n dMd_layChosen_43 rfl rfl ?_
  obtain ⟨f12, hw⟩ := hw
  refine te_getr dMd_layChosen_44 fMd_142 rfl rfl f12 ?_
  refine tq_iload dMd_layChosen_47 rfl ?_
  refine te_callV mv_Md_isTurned (ci := 13) (dc := 1) (as := [vR (hR h10 o 55), vI v8]) (rest := []) kMd_385 rfl (Nat.le_of_ble_eq_true rfl) (Nat.le_of_ble_eq_true rfl) rfl rfl rfl f12 (Nat.le_of_ble_eq_true rfl) dMd_layChosen_49 (s_Md_isTurned hw) (fun _ _ hx => False.elim hx) (tk_i fun v14 h13 hw => ?_)
  refine tq_istore (ls' := [some (vR (some o)), some (vI x1), some (vI x2), some (vI x3), some (vI x4), some (vI v8), some (vI v11), some (vI v14), none, none, none]) dMd_layChosen_52 (Nat.le_of_ble_eq_true rfl) rfl ?_
  refine tq_aload_n dMd_layChosen_54 rfl rfl ?_
  obtain ⟨f15, hw⟩ := hw
  refine te_geti dMd_layChosen_55 fMd_382 rfl rfl f15 ?_
  refine tq_iload dMd_layChosen_58 rfl ?_
  refine tq_icmpne (tgt := 67) dMd_layChosen_60 (by decide) (fun c16 => ?_) (fun c16 => ?_)
  · have hw := hw.1 c16
    refine tq_iconst (v := (0 : Int32)) dMd_layChosen_67 tni_0 ?_
    refine tq_istore (ls' := [some (vR (some o)), some (vI x1), some (vI x2), some (vI x3), some (vI x4), some (vI v8), some (vI v11), some (vI v14), some (vI (0 : Int32)), none, none]) dMd_layChosen_68 (Nat.le_of_ble_eq_true rfl) rfl ?_
    refine tq_iconst (v := (0 : Int32)) dMd_layChosen_70 tni_0 ?_
    refine tq_istore (ls' := [some (vR (some o)), some (vI x1), some (vI x2), some (vI x3), some (vI x4), some (vI v8), some (vI v11), some (vI v14), some (vI (0 : Int32)), some (vI (0 : Int32)), none]) dMd_layChosen_71 (Nat.le_of_ble_eq_true rfl) rfl ?_
    refine tpR.fo (ls' := [some (vR (some o)), some (vI x1), some (vI x2), some (vI x3), some (vI x4), none, some (vI v11), some (vI v14), some (vI (0 : Int32)), some (vI (0 : Int32)), none]) ?_ (And.intro rfl (And.intro rfl (And.intro rfl (And.intro rfl (And.intro rfl (And.intro rfl (And.intro rfl (And.intro rfl (And.intro rfl trivial)))))))))
    obtain ⟨n, hw⟩ := hw
    exact s_Md_layChosen_73 n _ _ _ _ _ _ _ _ _ _ hw
  · have hw := hw.2 c16
    refine tq_iconst (v := (1 : Int32)) dMd_layChosen_63 tni_1 ?_
    refine tq_goto (tgt := 68) dMd_layChosen_64 (by decide) ?_
    refine tq_istore (ls' := [some (vR (some o)), some (vI x1), some (vI x2), some (vI x3), some (vI x4), some (vI v8), some (vI v11), some (vI v14), some (vI (1 : Int32)), none, none]) dMd_layChosen_68 (Nat.le_of_ble_eq_true rfl) rfl ?_
    refine tq_iconst (v := (0 : Int32)) dMd_layChosen_70 tni_0 ?_
    refine tq_istore (ls' := [some (vR (some o)), some (vI x1), some (vI x2), some (vI x3), some (vI x4), some (vI v8), some (vI v11), some (vI v14), some (vI (1 : Int32)), some (vI (0 : Int32)), none]) dMd_layChosen_71 (Nat.le_of_ble_eq_true rfl) rfl ?_
    refine tpR.fo (ls' := [some (vR (some o)), some (vI x1), some (vI x2), some (vI x3), some (vI x4), none, some (vI v11), some (vI v14), some (vI (1 : Int32)), some (vI (0 : Int32)), none]) ?_ (And.intro rfl (And.intro rfl (And.intro rfl (And.intro rfl (And.intro rfl (And.intro rfl (And.intro rfl (And.intro rfl (And.intro rfl trivial)))))))))
    obtain ⟨n, hw⟩ := hw
    exact s_Md_layChosen_73 n _ _ _ _ _ _ _ _ _ _ hw
/-! TModel.standing -/
theorem dMd_standing_0 : decode (mB Md_standing) 0 = .ok (.iconst (-1), 1) := by decide +kernel
theorem dMd_standing_1 : decode (mB Md_standing) 1 = .ok (.istore 4, 2) := by decide +kernel
theorem dMd_standing_3 : decode (mB Md_standing) 3 = .ok (.aload_n 0, 1) := by decide +kernel
theorem dMd_standing_4 : decode (mB Md_standing) 4 = .ok (.iload_n 1, 1) := by decide +kernel
theorem dMd_standing_5 : decode (mB Md_standing) 5 = .ok (.iload_n 2, 1) := by decide +kernel
theorem dMd_standing_6 : decode (mB Md_standing) 6 = .ok (.invokevirtual 173, 3) := by decide +kernel
theorem dMd_standing_9 : decode (mB Md_standing) 9 = .ok (.istore 5, 2) := by decide +kernel
theorem dMd_standing_11 : decode (mB Md_standing) 11 = .ok (.iload 5, 2) := by decide +kernel
theorem dMd_standing_13 : decode (mB Md_standing) 13 = .ok (.iload_n 3, 1) := by decide +kernel
theorem dMd_standing_14 : decode (mB Md_standing) 14 = .ok (.if_icmp .eq 36, 3) := by decide +kernel
theorem dMd_standing_17 : decode (mB Md_standing) 17 = .ok (.aload_n 0, 1) := by decide +kernel
theorem dMd_standing_18 : decode (mB Md_standing) 18 = .ok (.bipush 41, 2) := by decide +kernel
theorem dMd_standing_20 : decode (mB Md_standing) 20 = .ok (.iload 5, 2) := by decide +kernel
theorem dMd_standing_22 : decode (mB Md_standing) 22 = .ok (.iload_n 2, 1) := by decide +kernel
theorem dMd_standing_23 : decode (mB Md_standing) 23 = .ok (.invokevirtual 389, 3) := by decide +kernel
theorem dMd_standing_26 : decode (mB Md_standing) 26 = .ok (.ifCond .eq 8, 3) := by decide +kernel
theorem dMd_standing_29 : decode (mB Md_standing) 29 = .ok (.iload 5, 2) := by decide +kernel
theorem dMd_standing_31 : decode (mB Md_standing) 31 = .ok (.goto 5, 3) := by decide +kernel
theorem dMd_standing_34 : decode (mB Md_standing) 34 = .ok (.iload 4, 2) := by decide +kernel
theorem dMd_standing_36 : decode (mB Md_standing) 36 = .ok (.istore 4, 2) := by decide +kernel
theorem dMd_standing_38 : decode (mB Md_standing) 38 = .ok (.aload_n 0, 1) := by decide +kernel
theorem dMd_standing_39 : decode (mB Md_standing) 39 = .ok (.iload_n 1, 1) := by decide +kernel
theorem dMd_standing_40 : decode (mB Md_standing) 40 = .ok (.iload 5, 2) := by decide +kernel
theorem dMd_standing_42 : decode (mB Md_standing) 42 = .ok (.invokevirtual 169, 3) := by decide +kernel
theorem dMd_standing_45 : decode (mB Md_standing) 45 = .ok (.istore 5, 2) := by decide +kernel
theorem dMd_standing_47 : decode (mB Md_standing) 47 = .ok (.goto (-36), 3) := by decide +kernel
theorem dMd_standing_50 : decode (mB Md_standing) 50 = .ok (.iload 4, 2) := by decide +kernel
theorem dMd_standing_52 : decode (mB Md_standing) 52 = .ok (.ireturn, 1) := by decide +kernel
def w_Md_standing_36 (R : Int32 → tpH → Prop) (K11 : Nat → Int32 → Int32 → Int32 → Int32 → Int32 → tpH → Prop) (o : Nat) (x1 : Int32) (x2 : Int32) (x3 : Int32) (x5 : Int32) (t0 : Int32) (h : tpH) : Prop :=
  hT h o = 14 ∧ (w_Md_nextIn o x1 x5 h (fun v3 h2 => K11 o x1 x2 x3 t0 v3 h2))
def b_Md_standing_11 (R : Int32 → tpH → Prop) (Y : Nat → Int32 → Int32 → Int32 → Int32 → Int32 → tpH → Prop) (o : Nat) (x1 : Int32) (x2 : Int32) (x3 : Int32) (x4 : Int32) (x5 : Int32) (h : tpH) : Prop :=
  (x5 = x3 → (R x4 h)) ∧ (¬ x5 = x3 → (hT h o = 14 ∧ (w_Md_isChildOf o (41 : Int32) x5 x2 h (fun v4 h3 => (v4 = 0 → (w_Md_standing_36 R Y o x1 x2 x3 x5 x4 h3)) ∧ (¬ v4 = 0 → (w_Md_standing_36 R Y o x1 x2 x3 x5 x5 h3))))))
def w_Md_standing_11 (R : Int32 → tpH → Prop) : Nat → Nat → Int32 → Int32 → Int32 → Int32 → Int32 → tpH → Prop
  | 0 => fun _ _ _ _ _ _ _ => False
  | n + 1 => b_Md_standing_11 R (w_Md_standing_11 R n)
def w_Md_standing (o : Nat) (x1 : Int32) (x2 : Int32) (x3 : Int32) (h : tpH) (R : Int32 → tpH → Prop) : Prop :=
  hT h o = 14 ∧ (w_Md_firstIn o x1 x2 h (fun v3 h2 => ∃ n, w_Md_standing_11 R n o x1 x2 x3 (-1 : Int32) v3 h2))
theorem s_Md_standing_36 {h0 : tpH} {av : List tpV} {R : Int32 → tpH → Prop} {K11 : Nat → Int32 → Int32 → Int32 → Int32 → Int32 → tpH → Prop} (k11 : ∀ (o : Nat) (x1 : Int32) (x2 : Int32) (x3 : Int32) (x4 : Int32) (x5 : Int32) (h : tpH), K11 o x1 x2 x3 x4 x5 h → tpR Md_standing 4 h0 av (tpOi R (fun _ _ => False)) 11 [some (vR (some o)), some (vI x1), some (vI x2), some (vI x3), some (vI x4), some (vI x5)] [] h) : ∀ (o : Nat) (x1 : Int32) (x2 : Int32) (x3 : Int32) (x5 : Int32) (t0 : Int32) (h : tpH), w_Md_standing_36 R K11 o x1 x2 x3 x5 t0 h → tpR Md_standing 4 h0 av (tpOi R (fun _ _ => False)) 36 [some (vR (some o)), some (vI x1), some (vI x2), some (vI x3), none, some (vI x5)] [vI t0] h := by
  intro o x1 x2 x3 x5 t0 h hw
  unfold w_Md_standing_36 at hw
  refine tq_istore (ls' := [some (vR (some o)), some (vI x1), some (vI x2), some (vI x3), some (vI t0), some (vI x5)]) dMd_standing_36 (Nat.le_of_ble_eq_true rfl) rfl ?_
  refine tq_aload_n dMd_standing_38 rfl rfl ?_
  refine tq_iload_n dMd_standing_39 rfl rfl ?_
  refine tq_iload dMd_standing_40 rfl ?_
  obtain ⟨f1, hw⟩ := hw
  refine te_callV mv_Md_nextIn (ci := 13) (dc := 0) (as := [vI x1, vI x5]) (rest := []) kMd_169 rfl (Nat.le_of_ble_eq_true rfl) (Nat.le_of_ble_eq_true rfl) rfl rfl rfl f1 (Nat.le_of_ble_eq_true rfl) dMd_standing_42 (s_Md_nextIn hw) (fun _ _ hx => False.elim hx) (tk_i fun v3 h2 hw => ?_)
  refine tq_istore (ls' := [some (vR (some o)), some (vI x1), some (vI x2), some (vI x3), some (vI t0), some (vI v3)]) dMd_standing_45 (Nat.le_of_ble_eq_true rfl) rfl ?_
  refine tq_goto (tgt := 11) dMd_standing_47 (by decide) ?_
  refine tpR.fo (ls' := [some (vR (some o)), some (vI x1), some (vI x2), some (vI x3), some (vI t0), some (vI v3)]) ?_ (And.intro rfl (And.intro rfl (And.intro rfl (And.intro rfl (And.intro rfl (And.intro rfl trivial))))))
  exact k11 _ _ _ _ _ _ _ hw
theorem s_Md_standing_11 {h0 : tpH} {av : List tpV} {R : Int32 → tpH → Prop} : ∀ (n : Nat) (o : Nat) (x1 : Int32) (x2 : Int32) (x3 : Int32) (x4 : Int32) (x5 : Int32) (h : tpH), w_Md_standing_11 R n o x1 x2 x3 x4 x5 h → tpR Md_standing 4 h0 av (tpOi R (fun _ _ => False)) 11 [some (vR (some o)), some (vI x1), some (vI x2), some (vI x3), some (vI x4), some (vI x5)] [] h := by
  intro n
  induction n with
  | zero => intro o x1 x2 x3 x4 x5 h hw; exact False.elim hw
  | succ n ih =>
    intro o x1 x2 x3 x4 x5 h hw
    change b_Md_standing_11 R (w_Md_standing_11 R n) o x1 x2 x3 x4 x5 h at hw
    unfold b_Md_standing_11 at hw
    refine tq_iload dMd_standing_11 rfl ?_
    refine tq_iload_n dMd_standing_13 rfl rfl ?_
    refine tq_icmpeq (tgt := 50) dMd_standing_14 (by decide) (fun c1 => ?_) (fun c1 => ?_)
    · have hw := hw.1 c1
      refine tq_iload dMd_standing_50 rfl ?_
      exact tq_iret rfl rfl dMd_standing_52 hw
    · have hw := hw.2 c1
      refine tq_aload_n dMd_standing_17 rfl rfl ?_
      refine tq_bipush (v := (41 : Int32)) dMd_standing_18 tnb_41 ?_
      refine tq_iload dMd_standing_20 rfl ?_
      refine tq_iload_n dMd_standing_22 rfl rfl ?_
      obtain ⟨f2, hw⟩ := hw
      refine te_callV mv_Md_isChildOf (ci := 13) (dc := 3) (as := [vI (41 : Int32), vI x5, vI x2]) (rest := []) kMd_389 rfl (Nat.le_of_ble_eq_true rfl) (Nat.le_of_ble_eq_true rfl) rfl rfl rfl f2 (Nat.le_of_ble_eq_true rfl) dMd_standing_23 (s_Md_isChildOf hw) (fun _ _ hx => False.elim hx) (tk_i fun v4 h3 hw => ?_)
      refine tq_ifeq (tgt := 34) dMd_standing_26 (by decide) (fun c5 => ?_) (fun c5 => ?_)
      · have hw := hw.1 c5
        refine tq_iload dMd_standing_34 rfl ?_
        refine tpR.fo (ls' := [some (vR (some o)), some (vI x1), some (vI x2), some (vI x3), none, some (vI x5)]) ?_ (And.intro rfl (And.intro rfl (And.intro rfl (And.intro rfl (And.intro rfl trivial)))))
        exact s_Md_standing_36 ih _ _ _ _ _ _ _ hw
      · have hw := hw.2 c5
        refine tq_iload dMd_standing_29 rfl ?_
        refine tq_goto (tgt := 36) dMd_standing_31 (by decide) ?_
        refine tpR.fo (ls' := [some (vR (some o)), some (vI x1), some (vI x2), some (vI x3), none, some (vI x5)]) ?_ (And.intro rfl (And.intro rfl (And.intro rfl (And.intro rfl (And.intro rfl trivial)))))
        exact s_Md_standing_36 ih _ _ _ _ _ _ _ hw
theorem s_Md_standing {o : Nat} {x1 : Int32} {x2 : Int32} {x3 : Int32} {h : tpH} {R : Int32 → tpH → Prop} (hw : w_Md_standing o x1 x2 x3 h R) : tpC Md_standing 4 [vR (some o), vI x1, vI x2, vI x3] h (tpOi R (fun _ _ => False)) := by
  refine tpC_of mv_Md_standing.2.2.2.1 rfl rfl (Nat.le_of_ble_eq_true rfl) ?_
  show tpR Md_standing 4 h _ _ 0 [some (vR (some o)), some (vI x1), some (vI x2), some (vI x3), none, none] [] h
  unfold w_Md_standing at hw
  refine tq_iconst (v := (-1 : Int32)) dMd_standing_0 tni_m1 ?_
  refine tq_istore (ls' := [some (vR (some o)), some (vI x1), some (vI x2), some (vI x3), some (vI (-1 : Int32)), none]) dMd_standing_1 (Nat.le_of_ble_eq_true rfl) rfl ?_
  refine tq_aload_n dMd_standing_3 rfl rfl ?_
  refine tq_iload_n dMd_standing_4 rfl rfl ?_
  refine tq_iload_n dMd_standing_5 rfl rfl ?_
  obtain ⟨f1, hw⟩ := hw
  refine te_callV mv_Md_firstIn (ci := 13) (dc := 0) (as := [vI x1, vI x2]) (rest := []) kMd_173 rfl (Nat.le_of_ble_eq_true rfl) (Nat.le_of_ble_eq_true rfl) rfl rfl rfl f1 (Nat.le_of_ble_eq_true rfl) dMd_standing_6 (s_Md_firstIn hw) (fun _ _ hx => False.elim hx) (tk_i fun v3 h2 hw => ?_)
  refine tq_istore (ls' := [some (vR (some o)), some (vI x1), some (vI x2), some (vI x3), some (vI (-1 : Int32)), some (vI v3)]) dMd_standing_9 (Nat.le_of_ble_eq_true rfl) rfl ?_
  refine tpR.fo (ls' := [some (vR (some o)), some (vI x1), some (vI x2), some (vI x3), some (vI (-1 : Int32)), some (vI v3)]) ?_ (And.intro rfl (And.intro rfl (And.intro rfl (And.intro rfl (And.intro rfl (And.intro rfl trivial))))))
  obtain ⟨n, hw⟩ := hw
  exact s_Md_standing_11 n _ _ _ _ _ _ _ hw
/-! TModel.hangOther -/
theorem dMd_hangOther_0 : decode (mB Md_hangOther) 0 = .ok (.aload_n 0, 1) := by decide +kernel
theorem dMd_hangOther_1 : decode (mB Md_hangOther) 1 = .ok (.iload_n 1, 1) := by decide +kernel
theorem dMd_hangOther_2 : decode (mB Md_hangOther) 2 = .ok (.iload 4, 2) := by decide +kernel
theorem dMd_hangOther_4 : decode (mB Md_hangOther) 4 = .ok (.iload_n 3, 1) := by decide +kernel
theorem dMd_hangOther_5 : decode (mB Md_hangOther) 5 = .ok (.invokevirtual 389, 3) := by decide +kernel
theorem dMd_hangOther_8 : decode (mB Md_hangOther) 8 = .ok (.istore 5, 2) := by decide +kernel
theorem dMd_hangOther_10 : decode (mB Md_hangOther) 10 = .ok (.aload_n 0, 1) := by decide +kernel
theorem dMd_hangOther_11 : decode (mB Md_hangOther) 11 = .ok (.iload_n 2, 1) := by decide +kernel
theorem dMd_hangOther_12 : decode (mB Md_hangOther) 12 = .ok (.iload 4, 2) := by decide +kernel
theorem dMd_hangOther_14 : decode (mB Md_hangOther) 14 = .ok (.iload_n 3, 1) := by decide +kernel
theorem dMd_hangOther_15 : decode (mB Md_hangOther) 15 = .ok (.invokevirtual 389, 3) := by decide +kernel
theorem dMd_hangOther_18 : decode (mB Md_hangOther) 18 = .ok (.istore 6, 2) := by decide +kernel
theorem dMd_hangOther_20 : decode (mB Md_hangOther) 20 = .ok (.iload 5, 2) := by decide +kernel
theorem dMd_hangOther_22 : decode (mB Md_hangOther) 22 = .ok (.ifCond .eq 14, 3) := by decide +kernel
theorem dMd_hangOther_25 : decode (mB Md_hangOther) 25 = .ok (.aload_n 0, 1) := by decide +kernel
theorem dMd_hangOther_26 : decode (mB Md_hangOther) 26 = .ok (.iload_n 1, 1) := by decide +kernel
theorem dMd_hangOther_27 : decode (mB Md_hangOther) 27 = .ok (.iload_n 3, 1) := by decide +kernel
theorem dMd_hangOther_28 : decode (mB Md_hangOther) 28 = .ok (.iload 4, 2) := by decide +kernel
theorem dMd_hangOther_30 : decode (mB Md_hangOther) 30 = .ok (.invokevirtual 392, 3) := by decide +kernel
theorem dMd_hangOther_33 : decode (mB Md_hangOther) 33 = .ok (.goto 4, 3) := by decide +kernel
theorem dMd_hangOther_36 : decode (mB Md_hangOther) 36 = .ok (.iconst (-1), 1) := by decide +kernel
theorem dMd_hangOther_37 : decode (mB Md_hangOther) 37 = .ok (.istore 7, 2) := by decide +kernel
theorem dMd_hangOther_39 : decode (mB Md_hangOther) 39 = .ok (.iload 6, 2) := by decide +kernel
theorem dMd_hangOther_41 : decode (mB Md_hangOther) 41 = .ok (.ifCond .eq 14, 3) := by decide +kernel
theorem dMd_hangOther_44 : decode (mB Md_hangOther) 44 = .ok (.aload_n 0, 1) := by decide +kernel
theorem dMd_hangOther_45 : decode (mB Md_hangOther) 45 = .ok (.iload_n 2, 1) := by decide +kernel
theorem dMd_hangOther_46 : decode (mB Md_hangOther) 46 = .ok (.iload_n 3, 1) := by decide +kernel
theorem dMd_hangOther_47 : decode (mB Md_hangOther) 47 = .ok (.iload 4, 2) := by decide +kernel
theorem dMd_hangOther_49 : decode (mB Md_hangOther) 49 = .ok (.invokevirtual 392, 3) := by decide +kernel
theorem dMd_hangOther_52 : decode (mB Md_hangOther) 52 = .ok (.goto 4, 3) := by decide +kernel
theorem dMd_hangOther_55 : decode (mB Md_hangOther) 55 = .ok (.iconst (-1), 1) := by decide +kernel
theorem dMd_hangOther_56 : decode (mB Md_hangOther) 56 = .ok (.istore 8, 2) := by decide +kernel
theorem dMd_hangOther_58 : decode (mB Md_hangOther) 58 = .ok (.iload 5, 2) := by decide +kernel
theorem dMd_hangOther_60 : decode (mB Md_hangOther) 60 = .ok (.ifCond .eq 25, 3) := by decide +kernel
theorem dMd_hangOther_63 : decode (mB Md_hangOther) 63 = .ok (.iload 6, 2) := by decide +kernel
theorem dMd_hangOther_65 : decode (mB Md_hangOther) 65 = .ok (.ifCond .eq 20, 3) := by decide +kernel
theorem dMd_hangOther_68 : decode (mB Md_hangOther) 68 = .ok (.iload 7, 2) := by decide +kernel
theorem dMd_hangOther_70 : decode (mB Md_hangOther) 70 = .ok (.iload 8, 2) := by decide +kernel
theorem dMd_hangOther_72 : decode (mB Md_hangOther) 72 = .ok (.if_icmp .ge 8, 3) := by decide +kernel
theorem dMd_hangOther_75 : decode (mB Md_hangOther) 75 = .ok (.iload 7, 2) := by decide +kernel
theorem dMd_hangOther_77 : decode (mB Md_hangOther) 77 = .ok (.goto 20, 3) := by decide +kernel
theorem dMd_hangOther_80 : decode (mB Md_hangOther) 80 = .ok (.iload 8, 2) := by decide +kernel
theorem dMd_hangOther_82 : decode (mB Md_hangOther) 82 = .ok (.goto 15, 3) := by decide +kernel
theorem dMd_hangOther_85 : decode (mB Md_hangOther) 85 = .ok (.iload 5, 2) := by decide +kernel
theorem dMd_hangOther_87 : decode (mB Md_hangOther) 87 = .ok (.ifCond .eq 8, 3) := by decide +kernel
theorem dMd_hangOther_90 : decode (mB Md_hangOther) 90 = .ok (.iload 7, 2) := by decide +kernel
theorem dMd_hangOther_92 : decode (mB Md_hangOther) 92 = .ok (.goto 5, 3) := by decide +kernel
theorem dMd_hangOther_95 : decode (mB Md_hangOther) 95 = .ok (.iload 8, 2) := by decide +kernel
theorem dMd_hangOther_97 : decode (mB Md_hangOther) 97 = .ok (.istore 9, 2) := by decide +kernel
theorem dMd_hangOther_99 : decode (mB Md_hangOther) 99 = .ok (.aload_n 0, 1) := by decide +kernel
theorem dMd_hangOther_100 : decode (mB Md_hangOther) 100 = .ok (.bipush 41, 2) := by decide +kernel
theorem dMd_hangOther_102 : decode (mB Md_hangOther) 102 = .ok (.iload 4, 2) := by decide +kernel
theorem dMd_hangOther_104 : decode (mB Md_hangOther) 104 = .ok (.iload_n 3, 1) := by decide +kernel
theorem dMd_hangOther_105 : decode (mB Md_hangOther) 105 = .ok (.iload 9, 2) := by decide +kernel
theorem dMd_hangOther_107 : decode (mB Md_hangOther) 107 = .ok (.invokevirtual 222, 3) := by decide +kernel
theorem dMd_hangOther_110 : decode (mB Md_hangOther) 110 = .ok (.return_, 1) := by decide +kernel
def w_Md_hangOther_85 (R : tpH → Prop) (K97 : Nat → Int32 → Int32 → Int32 → tpH → Prop) (o : Nat) (x3 : Int32) (x4 : Int32) (x5 : Int32) (x7 : Int32) (x8 : Int32) (h : tpH) : Prop :=
  (x5 = 0 → (K97 o x3 x4 x8 h)) ∧ (¬ x5 = 0 → (K97 o x3 x4 x7 h))
def w_Md_hangOther_97 (R : tpH → Prop) (o : Nat) (x3 : Int32) (x4 : Int32) (t0 : Int32) (h : tpH) : Prop :=
  hT h o = 14 ∧ (w_Md_hang o (41 : Int32) x4 x3 t0 h (fun h2 => R h2))
def w_Md_hangOther_56 (R : tpH → Prop) (o : Nat) (x3 : Int32) (x4 : Int32) (x5 : Int32) (x6 : Int32) (x7 : Int32) (t0 : Int32) (h : tpH) : Prop :=
  (x5 = 0 → (w_Md_hangOther_85 R (w_Md_hangOther_97 R) o x3 x4 x5 x7 t0 h)) ∧ (¬ x5 = 0 → ((x6 = 0 → (w_Md_hangOther_85 R (w_Md_hangOther_97 R) o x3 x4 x5 x7 t0 h)) ∧ (¬ x6 = 0 → ((t0 ≤ x7 → (w_Md_hangOther_97 R o x3 x4 t0 h)) ∧ (¬ t0 ≤ x7 → (w_Md_hangOther_97 R o x3 x4 x7 h))))))
def w_Md_hangOther_37 (R : tpH → Prop) (o : Nat) (x2 : Int32) (x3 : Int32) (x4 : Int32) (x5 : Int32) (x6 : Int32) (t0 : Int32) (h : tpH) : Prop :=
  (x6 = 0 → (w_Md_hangOther_56 R o x3 x4 x5 x6 t0 (-1 : Int32) h)) ∧ (¬ x6 = 0 → (hT h o = 14 ∧ (w_Md_standing o x2 x3 x4 h (fun v4 h3 => w_Md_hangOther_56 R o x3 x4 x5 x6 t0 v4 h3))))
def w_Md_hangOther (o : Nat) (x1 : Int32) (x2 : Int32) (x3 : Int32) (x4 : Int32) (h : tpH) (R : tpH → Prop) : Prop :=
  hT h o = 14 ∧ (w_Md_isChildOf o x1 x4 x3 h (fun v3 h2 => hT h2 o = 14 ∧ (w_Md_isChildOf o x2 x4 x3 h2 (fun v6 h5 => (v3 = 0 → (w_Md_hangOther_37 R o x2 x3 x4 v3 v6 (-1 : Int32) h5)) ∧ (¬ v3 = 0 → (hT h5 o = 14 ∧ (w_Md_standing o x1 x3 x4 h5 (fun v10 h9 => w_Md_hangOther_37 R o x2 x3 x4 v3 v6 v10 h9))))))))
theorem s_Md_hangOther_85 {h0 : tpH} {av : List tpV} {R : tpH → Prop} {K97 : Nat → Int32 → Int32 → Int32 → tpH → Prop} (k97 : ∀ (o : Nat) (x3 : Int32) (x4 : Int32) (t0 : Int32) (h : tpH), K97 o x3 x4 t0 h → tpR Md_hangOther 5 h0 av (tpOv R (fun _ _ => False)) 97 [some (vR (some o)), none, none, some (vI x3), some (vI x4), none, none, none, none, none] [vI t0] h) : ∀ (o : Nat) (x3 : Int32) (x4 : Int32) (x5 : Int32) (x7 : Int32) (x8 : Int32) (h : tpH), w_Md_hangOther_85 R K97 o x3 x4 x5 x7 x8 h → tpR Md_hangOther 5 h0 av (tpOv R (fun _ _ => False)) 85 [some (vR (some o)), none, none, some (vI x3), some (vI x4), some (vI x5), none, some (vI x7), some (vI x8), none] [] h := by
  intro o x3 x4 x5 x7 x8 h hw
  unfold w_Md_hangOther_85 at hw
  refine tq_iload dMd_hangOther_85 rfl ?_
  refine tq_ifeq (tgt := 95) dMd_hangOther_87 (by decide) (fun c1 => ?_) (fun c1 => ?_)
  · have hw := hw.1 c1
    refine tq_iload dMd_hangOther_95 rfl ?_
    refine tpR.fo (ls' := [some (vR (some o)), none, none, some (vI x3), some (vI x4), none, none, none, none, none]) ?_ (And.intro rfl (And.intro rfl (And.intro rfl trivial)))
    exact k97 _ _ _ _ _ hw
  · have hw := hw.2 c1
    refine tq_iload dMd_hangOther_90 rfl ?_
    refine tq_goto (tgt := 97) dMd_hangOther_92 (by decide) ?_
    refine tpR.fo (ls' := [some (vR (some o)), none, none, some (vI x3), some (vI x4), none, none, none, none, none]) ?_ (And.intro rfl (And.intro rfl (And.intro rfl trivial)))
    exact k97 _ _ _ _ _ hw
theorem s_Md_hangOther_97 {h0 : tpH} {av : List tpV} {R : tpH → Prop} : ∀ (o : Nat) (x3 : Int32) (x4 : Int32) (t0 : Int32) (h : tpH), w_Md_hangOther_97 R o x3 x4 t0 h → tpR Md_hangOther 5 h0 av (tpOv R (fun _ _ => False)) 97 [some (vR (some o)), none, none, some (vI x3), some (vI x4), none, none, none, none, none] [vI t0] h := by
  intro o x3 x4 t0 h hw
  unfold w_Md_hangOther_97 at hw
  refine tq_istore (ls' := [some (vR (some o)), none, none, some (vI x3), some (vI x4), none, none, none, none, some (vI t0)]) dMd_hangOther_97 (Nat.le_of_ble_eq_true rfl) rfl ?_
  refine tq_aload_n dMd_hangOther_99 rfl rfl ?_
  refine tq_bipush (v := (41 : Int32)) dMd_hangOther_100 tnb_41 ?_
  refine tq_iload dMd_hangOther_102 rfl ?_
  refine tq_iload_n dMd_hangOther_104 rfl rfl ?_
  refine tq_iload dMd_hangOther_105 rfl ?_
  obtain ⟨f1, hw⟩ := hw
  refine te_callV mv_Md_hang (ci := 13) (dc := 1) (as := [vI (41 : Int32), vI x4, vI x3, vI t0]) (rest := []) kMd_222 rfl (Nat.le_of_ble_eq_true rfl) (Nat.le_of_ble_eq_true rfl) rfl rfl rfl f1 (Nat.le_of_ble_eq_true rfl) dMd_hangOther_107 (s_Md_hang hw) (fun _ _ hx => False.elim hx) (tk_v fun h2 hw => ?_)
  exact tq_vret rfl dMd_hangOther_110 hw
theorem s_Md_hangOther_56 {h0 : tpH} {av : List tpV} {R : tpH → Prop} : ∀ (o : Nat) (x3 : Int32) (x4 : Int32) (x5 : Int32) (x6 : Int32) (x7 : Int32) (t0 : Int32) (h : tpH), w_Md_hangOther_56 R o x3 x4 x5 x6 x7 t0 h → tpR Md_hangOther 5 h0 av (tpOv R (fun _ _ => False)) 56 [some (vR (some o)), none, none, some (vI x3), some (vI x4), some (vI x5), some (vI x6), some (vI x7), none, none] [vI t0] h := by
  intro o x3 x4 x5 x6 x7 t0 h hw
  unfold w_Md_hangOther_56 at hw
  refine tq_istore (ls' := [some (vR (some o)), none, none, some (vI x3), some (vI x4), some (vI x5), some (vI x6), some (vI x7), some (vI t0), none]) dMd_hangOther_56 (Nat.le_of_ble_eq_true rfl) rfl ?_
  refine tq_iload dMd_hangOther_58 rfl ?_
  refine tq_ifeq (tgt := 85) dMd_hangOther_60 (by decide) (fun c1 => ?_) (fun c1 => ?_)
  · have hw := hw.1 c1
    refine tpR.fo (ls' := [some (vR (some o)), none, none, some (vI x3), some (vI x4), some (vI x5), none, some (vI x7), some (vI t0), none]) ?_ (And.intro rfl (And.intro rfl (And.intro rfl (And.intro rfl (And.intro rfl (And.intro rfl trivial))))))
    exact s_Md_hangOther_85 (s_Md_hangOther_97) _ _ _ _ _ _ _ hw
  · have hw := hw.2 c1
    refine tq_iload dMd_hangOther_63 rfl ?_
    refine tq_ifeq (tgt := 85) dMd_hangOther_65 (by decide) (fun c2 => ?_) (fun c2 => ?_)
    · have hw := hw.1 c2
      refine tpR.fo (ls' := [some (vR (some o)), none, none, some (vI x3), some (vI x4), some (vI x5), none, some (vI x7), some (vI t0), none]) ?_ (And.intro rfl (And.intro rfl (And.intro rfl (And.intro rfl (And.intro rfl (And.intro rfl trivial))))))
      exact s_Md_hangOther_85 (s_Md_hangOther_97) _ _ _ _ _ _ _ hw
    · have hw := hw.2 c2
      refine tq_iload dMd_hangOther_68 rfl ?_
      refine tq_iload dMd_hangOther_70 rfl ?_
      refine tq_icmpge (tgt := 80) dMd_hangOther_72 (by decide) (fun c3 => ?_) (fun c3 => ?_)
      · have hw := hw.1 c3
        refine tq_iload dMd_hangOther_80 rfl ?_
        refine tq_goto (tgt := 97) dMd_hangOther_82 (by decide) ?_
        refine tpR.fo (ls' := [some (vR (some o)), none, none, some (vI x3), some (vI x4), none, none, none, none, none]) ?_ (And.intro rfl (And.intro rfl (And.intro rfl trivial)))
        exact s_Md_hangOther_97 _ _ _ _ _ hw
      · have hw := hw.2 c3
        refine tq_iload dMd_hangOther_75 rfl ?_
        refine tq_goto (tgt := 97) dMd_hangOther_77 (by decide) ?_
        refine tpR.fo (ls' := [some (vR (some o)), none, none, some (vI x3), some (vI x4), none, none, none, none, none]) ?_ (And.intro rfl (And.intro rfl (And.intro rfl trivial)))
        exact s_Md_hangOther_97 _ _ _ _ _ hw
theorem s_Md_hangOther_37 {h0 : tpH} {av : List tpV} {R : tpH → Prop} : ∀ (o : Nat) (x2 : Int32) (x3 : Int32) (x4 : Int32) (x5 : Int32) (x6 : Int32) (t0 : Int32) (h : tpH), w_Md_hangOther_37 R o x2 x3 x4 x5 x6 t0 h → tpR Md_hangOther 5 h0 av (tpOv R (fun _ _ => False)) 37 [some (vR (some o)), none, some (vI x2), some (vI x3), some (vI x4), some (vI x5), some (vI x6), none, none, none] [vI t0] h := by
  intro o x2 x3 x4 x5 x6 t0 h hw
  unfold w_Md_hangOther_37 at hw
  refine tq_istore (ls' := [some (vR (some o)), none, some (vI x2), some (vI x3), some (vI x4), some (vI x5), some (vI x6), some (vI t0), none, none]) dMd_hangOther_37 (Nat.le_of_ble_eq_true rfl) rfl ?_
  refine tq_iload dMd_hangOther_39 rfl ?_
  refine tq_ifeq (tgt := 55) dMd_hangOther_41 (by decide) (fun c1 => ?_) (fun c1 => ?_)
  · have hw := hw.1 c1
    refine tq_iconst (v := (-1 : Int32)) dMd_hangOther_55 tni_m1 ?_
    refine tpR.fo (ls' := [some (vR (some o)), none, none, some (vI x3), some (vI x4), some (vI x5), some (vI x6), some (vI t0), none, none]) ?_ (And.intro rfl (And.intro rfl (And.intro rfl (And.intro rfl (And.intro rfl (And.intro rfl trivial))))))
    exact s_Md_hangOther_56 _ _ _ _ _ _ _ _ hw
  · have hw := hw.2 c1
    refine tq_aload_n dMd_hangOther_44 rfl rfl ?_
    refine tq_iload_n dMd_hangOther_45 rfl rfl ?_
    refine tq_iload_n dMd_hangOther_46 rfl rfl ?_
    refine tq_iload dMd_hangOther_47 rfl ?_
    obtain ⟨f2, hw⟩ := hw
    refine te_callV mv_Md_standing (ci := 13) (dc := 4) (as := [vI x2, vI x3, vI x4]) (rest := []) kMd_392 rfl (Nat.le_of_ble_eq_true rfl) (Nat.le_of_ble_eq_true rfl) rfl rfl rfl f2 (Nat.le_of_ble_eq_true rfl) dMd_hangOther_49 (s_Md_standing hw) (fun _ _ hx => False.elim hx) (tk_i fun v4 h3 hw => ?_)
    refine tq_goto (tgt := 56) dMd_hangOther_52 (by decide) ?_
    refine tpR.fo (ls' := [some (vR (some o)), none, none, some (vI x3), some (vI x4), some (vI x5), some (vI x6), some (vI t0), none, none]) ?_ (And.intro rfl (And.intro rfl (And.intro rfl (And.intro rfl (And.intro rfl (And.intro rfl trivial))))))
    exact s_Md_hangOther_56 _ _ _ _ _ _ _ _ hw
theorem s_Md_hangOther {o : Nat} {x1 : Int32} {x2 : Int32} {x3 : Int32} {x4 : Int32} {h : tpH} {R : tpH → Prop} (hw : w_Md_hangOther o x1 x2 x3 x4 h R) : tpC Md_hangOther 5 [vR (some o), vI x1, vI x2, vI x3, vI x4] h (tpOv R (fun _ _ => False)) := by
  refine tpC_of mv_Md_hangOther.2.2.2.1 rfl rfl (Nat.le_of_ble_eq_true rfl) ?_
  show tpR Md_hangOther 5 h _ _ 0 [some (vR (some o)), some (vI x1), some (vI x2), some (vI x3), some (vI x4), none, none, none, none, none] [] h
  unfold w_Md_hangOther at hw
  refine tq_aload_n dMd_hangOther_0 rfl rfl ?_
  refine tq_iload_n dMd_hangOther_1 rfl rfl ?_
  refine tq_iload dMd_hangOther_2 rfl ?_
  refine tq_iload_n dMd_hangOther_4 rfl rfl ?_
  obtain ⟨f1, hw⟩ := hw
  refine te_callV mv_Md_isChildOf (ci := 13) (dc := 3) (as := [vI x1, vI x4, vI x3]) (rest := []) kMd_389 rfl (Nat.le_of_ble_eq_true rfl) (Nat.le_of_ble_eq_true rfl) rfl rfl rfl f1 (Nat.le_of_ble_eq_true rfl) dMd_hangOther_5 (s_Md_isChildOf hw) (fun _ _ hx => False.elim hx) (tk_i fun v3 h2 hw => ?_)
  refine tq_istore (ls' := [some (vR (some o)), some (vI x1), some (vI x2), some (vI x3), some (vI x4), some (vI v3), none, none, none, none]) dMd_hangOther_8 (Nat.le_of_ble_eq_true rfl) rfl ?_
  refine tq_aload_n dMd_hangOther_10 rfl rfl ?_
  refine tq_iload_n dMd_hangOther_11 rfl rfl ?_
  refine tq_iload dMd_hangOther_12 rfl ?_
  refine tq_iload_n dMd_hangOther_14 rfl rfl ?_
  obtain ⟨f4, hw⟩ := hw
  refine te_callV mv_Md_isChildOf (ci := 13) (dc := 3) (as := [vI x2, vI x4, vI x3]) (rest := []) kMd_389 rfl (Nat.le_of_ble_eq_true rfl) (Nat.le_of_ble_eq_true rfl) rfl rfl rfl f4 (Nat.le_of_ble_eq_true rfl) dMd_hangOther_15 (s_Md_isChildOf hw) (fun _ _ hx => False.elim hx) (tk_i fun v6 h5 hw => ?_)
  refine tq_istore (ls' := [some (vR (some o)), some (vI x1), some (vI x2), some (vI x3), some (vI x4), some (vI v3), some (vI v6), none, none, none]) dMd_hangOther_18 (Nat.le_of_ble_eq_true rfl) rfl ?_
  refine tq_iload dMd_hangOther_20 rfl ?_
  refine tq_ifeq (tgt := 36) dMd_hangOther_22 (by decide) (fun c7 => ?_) (fun c7 => ?_)
  · have hw := hw.1 c7
    refine tq_iconst (v := (-1 : Int32)) dMd_hangOther_36 tni_m1 ?_
    refine tpR.fo (ls' := [some (vR (some o)), none, some (vI x2), some (vI x3), some (vI x4), some (vI v3), some (vI v6), none, none, none]) ?_ (And.intro rfl (And.intro rfl (And.intro rfl (And.intro rfl (And.intro rfl (And.intro rfl trivial))))))
    exact s_Md_hangOther_37 _ _ _ _ _ _ _ _ hw
  · have hw := hw.2 c7
    refine tq_aload_n dMd_hangOther_25 rfl rfl ?_
    refine tq_iload_n dMd_hangOther_26 rfl rfl ?_
    refine tq_iload_n dMd_hangOther_27 rfl rfl ?_
    refine tq_iload dMd_hangOther_28 rfl ?_
    obtain ⟨f8, hw⟩ := hw
    refine te_callV mv_Md_standing (ci := 13) (dc := 4) (as := [vI x1, vI x3, vI x4]) (rest := []) kMd_392 rfl (Nat.le_of_ble_eq_true rfl) (Nat.le_of_ble_eq_true rfl) rfl rfl rfl f8 (Nat.le_of_ble_eq_true rfl) dMd_hangOther_30 (s_Md_standing hw) (fun _ _ hx => False.elim hx) (tk_i fun v10 h9 hw => ?_)
    refine tq_goto (tgt := 37) dMd_hangOther_33 (by decide) ?_
    refine tpR.fo (ls' := [some (vR (some o)), none, some (vI x2), some (vI x3), some (vI x4), some (vI v3), some (vI v6), none, none, none]) ?_ (And.intro rfl (And.intro rfl (And.intro rfl (And.intro rfl (And.intro rfl (And.intro rfl trivial))))))
    exact s_Md_hangOther_37 _ _ _ _ _ _ _ _ hw
/-! TModel.hangChildren -/
theorem dMd_hangChildren_0 : decode (mB Md_hangChildren) 0 = .ok (.aload_n 0, 1) := by decide +kernel
theorem dMd_hangChildren_1 : decode (mB Md_hangChildren) 1 = .ok (.iload_n 1, 1) := by decide +kernel
theorem dMd_hangChildren_2 : decode (mB Md_hangChildren) 2 = .ok (.iload 4, 2) := by decide +kernel
theorem dMd_hangChildren_4 : decode (mB Md_hangChildren) 4 = .ok (.invokevirtual 395, 3) := by decide +kernel
theorem dMd_hangChildren_7 : decode (mB Md_hangChildren) 7 = .ok (.aload_n 0, 1) := by decide +kernel
theorem dMd_hangChildren_8 : decode (mB Md_hangChildren) 8 = .ok (.iload 4, 2) := by decide +kernel
theorem dMd_hangChildren_10 : decode (mB Md_hangChildren) 10 = .ok (.invokevirtual 176, 3) := by decide +kernel
theorem dMd_hangChildren_13 : decode (mB Md_hangChildren) 13 = .ok (.ifCond .eq 19, 3) := by decide +kernel
theorem dMd_hangChildren_16 : decode (mB Md_hangChildren) 16 = .ok (.aload_n 0, 1) := by decide +kernel
theorem dMd_hangChildren_17 : decode (mB Md_hangChildren) 17 = .ok (.iload_n 1, 1) := by decide +kernel
theorem dMd_hangChildren_18 : decode (mB Md_hangChildren) 18 = .ok (.iload_n 2, 1) := by decide +kernel
theorem dMd_hangChildren_19 : decode (mB Md_hangChildren) 19 = .ok (.iload_n 3, 1) := by decide +kernel
theorem dMd_hangChildren_20 : decode (mB Md_hangChildren) 20 = .ok (.iload 4, 2) := by decide +kernel
theorem dMd_hangChildren_22 : decode (mB Md_hangChildren) 22 = .ok (.invokevirtual 398, 3) := by decide +kernel
theorem dMd_hangChildren_25 : decode (mB Md_hangChildren) 25 = .ok (.ifCond .eq 7, 3) := by decide +kernel
theorem dMd_hangChildren_28 : decode (mB Md_hangChildren) 28 = .ok (.iconst 1, 1) := by decide +kernel
theorem dMd_hangChildren_29 : decode (mB Md_hangChildren) 29 = .ok (.goto 4, 3) := by decide +kernel
theorem dMd_hangChildren_32 : decode (mB Md_hangChildren) 32 = .ok (.iconst 0, 1) := by decide +kernel
theorem dMd_hangChildren_33 : decode (mB Md_hangChildren) 33 = .ok (.istore 5, 2) := by decide +kernel
theorem dMd_hangChildren_35 : decode (mB Md_hangChildren) 35 = .ok (.aload_n 0, 1) := by decide +kernel
theorem dMd_hangChildren_36 : decode (mB Md_hangChildren) 36 = .ok (.iload 4, 2) := by decide +kernel
theorem dMd_hangChildren_38 : decode (mB Md_hangChildren) 38 = .ok (.invokevirtual 176, 3) := by decide +kernel
theorem dMd_hangChildren_41 : decode (mB Md_hangChildren) 41 = .ok (.ifCond .eq 115, 3) := by decide +kernel
theorem dMd_hangChildren_44 : decode (mB Md_hangChildren) 44 = .ok (.iconst (-1), 1) := by decide +kernel
theorem dMd_hangChildren_45 : decode (mB Md_hangChildren) 45 = .ok (.istore 6, 2) := by decide +kernel
theorem dMd_hangChildren_47 : decode (mB Md_hangChildren) 47 = .ok (.iconst 0, 1) := by decide +kernel
theorem dMd_hangChildren_48 : decode (mB Md_hangChildren) 48 = .ok (.istore 7, 2) := by decide +kernel
theorem dMd_hangChildren_50 : decode (mB Md_hangChildren) 50 = .ok (.iload 7, 2) := by decide +kernel
theorem dMd_hangChildren_52 : decode (mB Md_hangChildren) 52 = .ok (.aload_n 0, 1) := by decide +kernel
theorem dMd_hangChildren_53 : decode (mB Md_hangChildren) 53 = .ok (.getfield 382, 3) := by decide +kernel
theorem dMd_hangChildren_56 : decode (mB Md_hangChildren) 56 = .ok (.if_icmp .ge 35, 3) := by decide +kernel
theorem dMd_hangChildren_59 : decode (mB Md_hangChildren) 59 = .ok (.aload_n 0, 1) := by decide +kernel
theorem dMd_hangChildren_60 : decode (mB Md_hangChildren) 60 = .ok (.bipush 41, 2) := by decide +kernel
theorem dMd_hangChildren_62 : decode (mB Md_hangChildren) 62 = .ok (.aload_n 0, 1) := by decide +kernel
theorem dMd_hangChildren_63 : decode (mB Md_hangChildren) 63 = .ok (.getfield 139, 3) := by decide +kernel
theorem dMd_hangChildren_66 : decode (mB Md_hangChildren) 66 = .ok (.iload 7, 2) := by decide +kernel
theorem dMd_hangChildren_68 : decode (mB Md_hangChildren) 68 = .ok (.iaload, 1) := by decide +kernel
theorem dMd_hangChildren_69 : decode (mB Md_hangChildren) 69 = .ok (.iload 4, 2) := by decide +kernel
theorem dMd_hangChildren_71 : decode (mB Md_hangChildren) 71 = .ok (.iload 6, 2) := by decide +kernel
theorem dMd_hangChildren_73 : decode (mB Md_hangChildren) 73 = .ok (.invokevirtual 222, 3) := by decide +kernel
theorem dMd_hangChildren_76 : decode (mB Md_hangChildren) 76 = .ok (.aload_n 0, 1) := by decide +kernel
theorem dMd_hangChildren_77 : decode (mB Md_hangChildren) 77 = .ok (.getfield 139, 3) := by decide +kernel
theorem dMd_hangChildren_80 : decode (mB Md_hangChildren) 80 = .ok (.iload 7, 2) := by decide +kernel
theorem dMd_hangChildren_82 : decode (mB Md_hangChildren) 82 = .ok (.iaload, 1) := by decide +kernel
theorem dMd_hangChildren_83 : decode (mB Md_hangChildren) 83 = .ok (.istore 6, 2) := by decide +kernel
theorem dMd_hangChildren_85 : decode (mB Md_hangChildren) 85 = .ok (.iinc 7 1, 3) := by decide +kernel
theorem dMd_hangChildren_88 : decode (mB Md_hangChildren) 88 = .ok (.goto (-38), 3) := by decide +kernel
theorem dMd_hangChildren_91 : decode (mB Md_hangChildren) 91 = .ok (.iconst 0, 1) := by decide +kernel
theorem dMd_hangChildren_92 : decode (mB Md_hangChildren) 92 = .ok (.istore 7, 2) := by decide +kernel
theorem dMd_hangChildren_94 : decode (mB Md_hangChildren) 94 = .ok (.iload 7, 2) := by decide +kernel
theorem dMd_hangChildren_96 : decode (mB Md_hangChildren) 96 = .ok (.aload_n 0, 1) := by decide +kernel
theorem dMd_hangChildren_97 : decode (mB Md_hangChildren) 97 = .ok (.getfield 372, 3) := by decide +kernel
theorem dMd_hangChildren_100 : decode (mB Md_hangChildren) 100 = .ok (.if_icmp .ge 56, 3) := by decide +kernel
theorem dMd_hangChildren_103 : decode (mB Md_hangChildren) 103 = .ok (.aload_n 0, 1) := by decide +kernel
theorem dMd_hangChildren_104 : decode (mB Md_hangChildren) 104 = .ok (.bipush 41, 2) := by decide +kernel
theorem dMd_hangChildren_106 : decode (mB Md_hangChildren) 106 = .ok (.aload_n 0, 1) := by decide +kernel
theorem dMd_hangChildren_107 : decode (mB Md_hangChildren) 107 = .ok (.getfield 136, 3) := by decide +kernel
theorem dMd_hangChildren_110 : decode (mB Md_hangChildren) 110 = .ok (.iload 7, 2) := by decide +kernel
theorem dMd_hangChildren_112 : decode (mB Md_hangChildren) 112 = .ok (.iaload, 1) := by decide +kernel
theorem dMd_hangChildren_113 : decode (mB Md_hangChildren) 113 = .ok (.iload 4, 2) := by decide +kernel
theorem dMd_hangChildren_115 : decode (mB Md_hangChildren) 115 = .ok (.invokevirtual 389, 3) := by decide +kernel
theorem dMd_hangChildren_118 : decode (mB Md_hangChildren) 118 = .ok (.ifCond .ne 32, 3) := by decide +kernel
theorem dMd_hangChildren_121 : decode (mB Md_hangChildren) 121 = .ok (.aload_n 0, 1) := by decide +kernel
theorem dMd_hangChildren_122 : decode (mB Md_hangChildren) 122 = .ok (.bipush 41, 2) := by decide +kernel
theorem dMd_hangChildren_124 : decode (mB Md_hangChildren) 124 = .ok (.aload_n 0, 1) := by decide +kernel
theorem dMd_hangChildren_125 : decode (mB Md_hangChildren) 125 = .ok (.getfield 136, 3) := by decide +kernel
theorem dMd_hangChildren_128 : decode (mB Md_hangChildren) 128 = .ok (.iload 7, 2) := by decide +kernel
theorem dMd_hangChildren_130 : decode (mB Md_hangChildren) 130 = .ok (.iaload, 1) := by decide +kernel
theorem dMd_hangChildren_131 : decode (mB Md_hangChildren) 131 = .ok (.iload 4, 2) := by decide +kernel
theorem dMd_hangChildren_133 : decode (mB Md_hangChildren) 133 = .ok (.aload_n 0, 1) := by decide +kernel
theorem dMd_hangChildren_134 : decode (mB Md_hangChildren) 134 = .ok (.iload_n 1, 1) := by decide +kernel
theorem dMd_hangChildren_135 : decode (mB Md_hangChildren) 135 = .ok (.iload 4, 2) := by decide +kernel
theorem dMd_hangChildren_137 : decode (mB Md_hangChildren) 137 = .ok (.aload_n 0, 1) := by decide +kernel
theorem dMd_hangChildren_138 : decode (mB Md_hangChildren) 138 = .ok (.getfield 136, 3) := by decide +kernel
theorem dMd_hangChildren_141 : decode (mB Md_hangChildren) 141 = .ok (.iload 7, 2) := by decide +kernel
theorem dMd_hangChildren_143 : decode (mB Md_hangChildren) 143 = .ok (.iaload, 1) := by decide +kernel
theorem dMd_hangChildren_144 : decode (mB Md_hangChildren) 144 = .ok (.invokevirtual 392, 3) := by decide +kernel
theorem dMd_hangChildren_147 : decode (mB Md_hangChildren) 147 = .ok (.invokevirtual 222, 3) := by decide +kernel
theorem dMd_hangChildren_150 : decode (mB Md_hangChildren) 150 = .ok (.iinc 7 1, 3) := by decide +kernel
theorem dMd_hangChildren_153 : decode (mB Md_hangChildren) 153 = .ok (.goto (-59), 3) := by decide +kernel
theorem dMd_hangChildren_156 : decode (mB Md_hangChildren) 156 = .ok (.iconst 0, 1) := by decide +kernel
theorem dMd_hangChildren_157 : decode (mB Md_hangChildren) 157 = .ok (.istore 6, 2) := by decide +kernel
theorem dMd_hangChildren_159 : decode (mB Md_hangChildren) 159 = .ok (.iload 6, 2) := by decide +kernel
theorem dMd_hangChildren_161 : decode (mB Md_hangChildren) 161 = .ok (.aload_n 0, 1) := by decide +kernel
theorem dMd_hangChildren_162 : decode (mB Md_hangChildren) 162 = .ok (.getfield 162, 3) := by decide +kernel
theorem dMd_hangChildren_165 : decode (mB Md_hangChildren) 165 = .ok (.if_icmp .ge 77, 3) := by decide +kernel
theorem dMd_hangChildren_168 : decode (mB Md_hangChildren) 168 = .ok (.aload_n 0, 1) := by decide +kernel
theorem dMd_hangChildren_169 : decode (mB Md_hangChildren) 169 = .ok (.getfield 124, 3) := by decide +kernel
theorem dMd_hangChildren_172 : decode (mB Md_hangChildren) 172 = .ok (.iload 6, 2) := by decide +kernel
theorem dMd_hangChildren_174 : decode (mB Md_hangChildren) 174 = .ok (.baload, 1) := by decide +kernel
theorem dMd_hangChildren_175 : decode (mB Md_hangChildren) 175 = .ok (.ifCond .eq 61, 3) := by decide +kernel
theorem dMd_hangChildren_178 : decode (mB Md_hangChildren) 178 = .ok (.aload_n 0, 1) := by decide +kernel
theorem dMd_hangChildren_179 : decode (mB Md_hangChildren) 179 = .ok (.getfield 130, 3) := by decide +kernel
theorem dMd_hangChildren_182 : decode (mB Md_hangChildren) 182 = .ok (.iload 6, 2) := by decide +kernel
theorem dMd_hangChildren_184 : decode (mB Md_hangChildren) 184 = .ok (.iaload, 1) := by decide +kernel
theorem dMd_hangChildren_185 : decode (mB Md_hangChildren) 185 = .ok (.iload 4, 2) := by decide +kernel
theorem dMd_hangChildren_187 : decode (mB Md_hangChildren) 187 = .ok (.if_icmp .ne 49, 3) := by decide +kernel
theorem dMd_hangChildren_190 : decode (mB Md_hangChildren) 190 = .ok (.aload_n 0, 1) := by decide +kernel
theorem dMd_hangChildren_191 : decode (mB Md_hangChildren) 191 = .ok (.bipush 41, 2) := by decide +kernel
theorem dMd_hangChildren_193 : decode (mB Md_hangChildren) 193 = .ok (.iload 6, 2) := by decide +kernel
theorem dMd_hangChildren_195 : decode (mB Md_hangChildren) 195 = .ok (.iload 4, 2) := by decide +kernel
theorem dMd_hangChildren_197 : decode (mB Md_hangChildren) 197 = .ok (.invokevirtual 389, 3) := by decide +kernel
theorem dMd_hangChildren_200 : decode (mB Md_hangChildren) 200 = .ok (.ifCond .ne 36, 3) := by decide +kernel
theorem dMd_hangChildren_203 : decode (mB Md_hangChildren) 203 = .ok (.aload_n 0, 1) := by decide +kernel
theorem dMd_hangChildren_204 : decode (mB Md_hangChildren) 204 = .ok (.iload 4, 2) := by decide +kernel
theorem dMd_hangChildren_206 : decode (mB Md_hangChildren) 206 = .ok (.invokevirtual 176, 3) := by decide +kernel
theorem dMd_hangChildren_209 : decode (mB Md_hangChildren) 209 = .ok (.ifCond .eq 16, 3) := by decide +kernel
theorem dMd_hangChildren_212 : decode (mB Md_hangChildren) 212 = .ok (.aload_n 0, 1) := by decide +kernel
theorem dMd_hangChildren_213 : decode (mB Md_hangChildren) 213 = .ok (.iload_n 2, 1) := by decide +kernel
theorem dMd_hangChildren_214 : decode (mB Md_hangChildren) 214 = .ok (.iload_n 3, 1) := by decide +kernel
theorem dMd_hangChildren_215 : decode (mB Md_hangChildren) 215 = .ok (.iload 4, 2) := by decide +kernel
theorem dMd_hangChildren_217 : decode (mB Md_hangChildren) 217 = .ok (.iload 6, 2) := by decide +kernel
theorem dMd_hangChildren_219 : decode (mB Md_hangChildren) 219 = .ok (.invokevirtual 401, 3) := by decide +kernel
theorem dMd_hangChildren_222 : decode (mB Md_hangChildren) 222 = .ok (.goto 14, 3) := by decide +kernel
theorem dMd_hangChildren_225 : decode (mB Md_hangChildren) 225 = .ok (.aload_n 0, 1) := by decide +kernel
theorem dMd_hangChildren_226 : decode (mB Md_hangChildren) 226 = .ok (.bipush 41, 2) := by decide +kernel
theorem dMd_hangChildren_228 : decode (mB Md_hangChildren) 228 = .ok (.iload 6, 2) := by decide +kernel
theorem dMd_hangChildren_230 : decode (mB Md_hangChildren) 230 = .ok (.iload 4, 2) := by decide +kernel
theorem dMd_hangChildren_232 : decode (mB Md_hangChildren) 232 = .ok (.iconst (-1), 1) := by decide +kernel
theorem dMd_hangChildren_233 : decode (mB Md_hangChildren) 233 = .ok (.invokevirtual 222, 3) := by decide +kernel
theorem dMd_hangChildren_236 : decode (mB Md_hangChildren) 236 = .ok (.iinc 6 1, 3) := by decide +kernel
theorem dMd_hangChildren_239 : decode (mB Md_hangChildren) 239 = .ok (.goto (-80), 3) := by decide +kernel
theorem dMd_hangChildren_242 : decode (mB Md_hangChildren) 242 = .ok (.iload 5, 2) := by decide +kernel
theorem dMd_hangChildren_244 : decode (mB Md_hangChildren) 244 = .ok (.ireturn, 1) := by decide +kernel
def b_Md_hangChildren_94 (R : Int32 → tpH → Prop) (K159 : Nat → Int32 → Int32 → Int32 → Int32 → Int32 → tpH → Prop) (Y : Nat → Int32 → Int32 → Int32 → Int32 → Int32 → Int32 → tpH → Prop) (o : Nat) (x1 : Int32) (x2 : Int32) (x3 : Int32) (x4 : Int32) (x5 : Int32) (x7 : Int32) (h : tpH) : Prop :=
  hT h o = 14 ∧ (((hI h o 52) ≤ x7 → (K159 o x2 x3 x4 x5 (0 : Int32) h)) ∧ (¬ (hI h o 52) ≤ x7 → (∃ a3, (hR h o 51) = some a3 ∧ hT h a3 = 15 ∧ (vp_in x7 (hL h a3) ∧ (w_Md_isChildOf o (41 : Int32) (hI h a3 x7.toNatClampNeg) x4 h (fun v8 h7 => (¬ v8 = 0 → (Y o x1 x2 x3 x4 x5 (x7 + (1 : Int32)) h7)) ∧ (v8 = 0 → (hT h7 o = 14 ∧ (∃ a11, (hR h7 o 51) = some a11 ∧ hT h7 a11 = 15 ∧ (vp_in x7 (hL h7 a11) ∧ (vp_in x7 (hL h7 a11) ∧ (w_Md_standing o x1 x4 (hI h7 a11 x7.toNatClampNeg) h7 (fun v17 h16 => hT h16 o = 14 ∧ (w_Md_hang o (41 : Int32) (hI h7 a11 x7.toNatClampNeg) x4 v17 h16 (fun h19 => Y o x1 x2 x3 x4 x5 (x7 + (1 : Int32)) h19)))))))))))))))
def w_Md_hangChildren_94 (R : Int32 → tpH → Prop) (K159 : Nat → Int32 → Int32 → Int32 → Int32 → Int32 → tpH → Prop) : Nat → Nat → Int32 → Int32 → Int32 → Int32 → Int32 → Int32 → tpH → Prop
  | 0 => fun _ _ _ _ _ _ _ _ => False
  | n + 1 => b_Md_hangChildren_94 R K159 (w_Md_hangChildren_94 R K159 n)
def b_Md_hangChildren_50 (R : Int32 → tpH → Prop) (K159 : Nat → Int32 → Int32 → Int32 → Int32 → Int32 → tpH → Prop) (Y : Nat → Int32 → Int32 → Int32 → Int32 → Int32 → Int32 → Int32 → tpH → Prop) (o : Nat) (x1 : Int32) (x2 : Int32) (x3 : Int32) (x4 : Int32) (x5 : Int32) (x6 : Int32) (x7 : Int32) (h : tpH) : Prop :=
  hT h o = 14 ∧ (((hI h o 54) ≤ x7 → (∃ n, w_Md_hangChildren_94 R K159 n o x1 x2 x3 x4 x5 (0 : Int32) h)) ∧ (¬ (hI h o 54) ≤ x7 → (∃ a3, (hR h o 53) = some a3 ∧ hT h a3 = 15 ∧ (vp_in x7 (hL h a3) ∧ (w_Md_hang o (41 : Int32) (hI h a3 x7.toNatClampNeg) x4 x6 h (fun h7 => hT h7 o = 14 ∧ (∃ a9, (hR h7 o 53) = some a9 ∧ hT h7 a9 = 15 ∧ (vp_in x7 (hL h7 a9) ∧ (Y o x1 x2 x3 x4 x5 (hI h7 a9 x7.toNatClampNeg) (x7 + (1 : Int32)) h7)))))))))
def w_Md_hangChildren_50 (R : Int32 → tpH → Prop) (K159 : Nat → Int32 → Int32 → Int32 → Int32 → Int32 → tpH → Prop) : Nat → Nat → Int32 → Int32 → Int32 → Int32 → Int32 → Int32 → Int32 → tpH → Prop
  | 0 => fun _ _ _ _ _ _ _ _ _ => False
  | n + 1 => b_Md_hangChildren_50 R K159 (w_Md_hangChildren_50 R K159 n)
def b_Md_hangChildren_159 (R : Int32 → tpH → Prop) (Y : Nat → Int32 → Int32 → Int32 → Int32 → Int32 → tpH → Prop) (o : Nat) (x2 : Int32) (x3 : Int32) (x4 : Int32) (x5 : Int32) (x6 : Int32) (h : tpH) : Prop :=
  hT h o = 14 ∧ (((hI h o 0) ≤ x6 → (tpB x5 ∧ (R x5 h))) ∧ (¬ (hI h o 0) ≤ x6 → (∃ a4, (hR h o 47) = some a4 ∧ hT h a4 = 16 ∧ (vp_in x6 (hL h a4) ∧ (((hI h a4 x6.toNatClampNeg) = 0 → (Y o x2 x3 x4 x5 (x6 + (1 : Int32)) h)) ∧ (¬ (hI h a4 x6.toNatClampNeg) = 0 → (∃ a9, (hR h o 49) = some a9 ∧ hT h a9 = 15 ∧ (vp_in x6 (hL h a9) ∧ ((¬ (hI h a9 x6.toNatClampNeg) = x4 → (Y o x2 x3 x4 x5 (x6 + (1 : Int32)) h)) ∧ ((hI h a9 x6.toNatClampNeg) = x4 → (w_Md_isChildOf o (41 : Int32) x6 x4 h (fun v15 h14 => (¬ v15 = 0 → (Y o x2 x3 x4 x5 (x6 + (1 : Int32)) h14)) ∧ (v15 = 0 → (hT h14 o = 14 ∧ (w_Md_isOrdered o x4 h14 (fun v19 h18 => (v19 = 0 → (hT h18 o = 14 ∧ (w_Md_hang o (41 : Int32) x6 x4 (-1 : Int32) h18 (fun h22 => Y o x2 x3 x4 x5 (x6 + (1 : Int32)) h22)))) ∧ (¬ v19 = 0 → (hT h18 o = 14 ∧ (w_Md_hangOther o x2 x3 x4 x6 h18 (fun h24 => Y o x2 x3 x4 x5 (x6 + (1 : Int32)) h24))))))))))))))))))))
def w_Md_hangChildren_159 (R : Int32 → tpH → Prop) : Nat → Nat → Int32 → Int32 → Int32 → Int32 → Int32 → tpH → Prop
  | 0 => fun _ _ _ _ _ _ _ => False
  | n + 1 => b_Md_hangChildren_159 R (w_Md_hangChildren_159 R n)
def w_Md_hangChildren_33 (R : Int32 → tpH → Prop) (o : Nat) (x1 : Int32) (x2 : Int32) (x3 : Int32) (x4 : Int32) (t0 : Int32) (h : tpH) : Prop :=
  hT h o = 14 ∧ (w_Md_isOrdered o x4 h (fun v3 h2 => (v3 = 0 → (∃ n, w_Md_hangChildren_159 R n o x2 x3 x4 t0 (0 : Int32) h2)) ∧ (¬ v3 = 0 → (∃ n, w_Md_hangChildren_50 R (fun o' x2' x3' x4' x5' x6' h' => ∃ n, w_Md_hangChildren_159 R n o' x2' x3' x4' x5' x6' h') n o x1 x2 x3 x4 t0 (-1 : Int32) (0 : Int32) h2))))
def w_Md_hangChildren (o : Nat) (x1 : Int32) (x2 : Int32) (x3 : Int32) (x4 : Int32) (h : tpH) (R : Int32 → tpH → Prop) : Prop :=
  hT h o = 14 ∧ (w_Md_layShared o x1 x4 h (fun h2 => hT h2 o = 14 ∧ (w_Md_isOrdered o x4 h2 (fun v5 h4 => (v5 = 0 → (w_Md_hangChildren_33 R o x1 x2 x3 x4 (0 : Int32) h4)) ∧ (¬ v5 = 0 → (hT h4 o = 14 ∧ (w_Md_layChosen o x1 x2 x3 x4 h4 (fun v9 h8 => (v9 = 0 → (w_Md_hangChildren_33 R o x1 x2 x3 x4 (0 : Int32) h8)) ∧ (¬ v9 = 0 → (w_Md_hangChildren_33 R o x1 x2 x3 x4 (1 : Int32) h8))))))))))
theorem s_Md_hangChildren_94 {h0 : tpH} {av : List tpV} {R : Int32 → tpH → Prop} {K159 : Nat → Int32 → Int32 → Int32 → Int32 → Int32 → tpH → Prop} (k159 : ∀ (o : Nat) (x2 : Int32) (x3 : Int32) (x4 : Int32) (x5 : Int32) (x6 : Int32) (h : tpH), K159 o x2 x3 x4 x5 x6 h → tpR Md_hangChildren 6 h0 av (tpOi R (fun _ _ => False)) 159 [some (vR (some o)), none, some (vI x2), some (vI x3), some (vI x4), some (vI x5), some (vI x6), none] [] h) : ∀ (n : Nat) (o : Nat) (x1 : Int32) (x2 : Int32) (x3 : Int32) (x4 : Int32) (x5 : Int32) (x7 : Int32) (h : tpH), w_Md_hangChildren_94 R K159 n o x1 x2 x3 x4 x5 x7 h → tpR Md_hangChildren 6 h0 av (tpOi R (fun _ _ => False)) 94 [some (vR (some o)), some (vI x1), some (vI x2), some (vI x3), some (vI x4), some (vI x5), none, some (vI x7)] [] h := by
  intro n
  induction n with
  | zero => intro o x1 x2 x3 x4 x5 x7 h hw; exact False.elim hw
  | succ n ih =>
    intro o x1 x2 x3 x4 x5 x7 h hw
    change b_Md_hangChildren_94 R K159 (w_Md_hangChildren_94 R K159 n) o x1 x2 x3 x4 x5 x7 h at hw
    unfold b_Md_hangChildren_94 at hw
    refine tq_iload dMd_hangChildren_94 rfl ?_
    refine tq_aload_n dMd_hangChildren_96 rfl rfl ?_
    obtain ⟨f1, hw⟩ := hw
    refine te_geti dMd_hangChildren_97 fMd_372 rfl rfl f1 ?_
    refine tq_icmpge (tgt := 156) dMd_hangChildren_100 (by decide) (fun c2 => ?_) (fun c2 => ?_)
    · have hw := hw.1 c2
      refine tq_iconst (v := (0 : Int32)) dMd_hangChildren_156 tni_0 ?_
      refine tq_istore (ls' := [some (vR (some o)), some (vI x1), some (vI x2), some (vI x3), some (vI x4), some (vI x5), some (vI (0 : Int32)), some (vI x7)]) dMd_hangChildren_157 (Nat.le_of_ble_eq_true rfl) rfl ?_
      refine tpR.fo (ls' := [some (vR (some o)), none, some (vI x2), some (vI x3), some (vI x4), some (vI x5), some (vI (0 : Int32)), none]) ?_ (And.intro rfl (And.intro rfl (And.intro rfl (And.intro rfl (And.intro rfl (And.intro rfl trivial))))))
      exact k159 _ _ _ _ _ _ _ hw
    · have hw := hw.2 c2
      refine tq_aload_n dMd_hangChildren_103 rfl rfl ?_
      refine tq_bipush (v := (41 : Int32)) dMd_hangChildren_104 tnb_41 ?_
      refine tq_aload_n dMd_hangChildren_106 rfl rfl ?_
      refine te_getr dMd_hangChildren_107 fMd_136 rfl rfl f1 ?_
      refine tq_iload dMd_hangChildren_110 rfl ?_
      obtain ⟨a3, e4, f5, hw⟩ := hw
      obtain ⟨f6, hw⟩ := hw
      refine te_iald dMd_hangChildren_112 e4 (Or.inl f5) f6 ?_
      refine tq_iload dMd_hangChildren_113 rfl ?_
      refine te_callV mv_Md_isChildOf (ci := 13) (dc := 3) (as := [vI (41 : Int32), vI (hI h a3 x7.toNatClampNeg), vI x4]) (rest := []) kMd_389 rfl (Nat.le_of_ble_eq_true rfl) (Nat.le_of_ble_eq_true rfl) rfl rfl rfl f1 (Nat.le_of_ble_eq_true rfl) dMd_hangChildren_115 (s_Md_isChildOf hw) (fun _ _ hx => False.elim hx) (tk_i fun v8 h7 hw => ?_)
      refine tq_ifne (tgt := 150) dMd_hangChildren_118 (by decide) (fun c9 => ?_) (fun c9 => ?_)
      · have hw := hw.1 c9
        refine tq_inc (k := (1 : Int32)) (ls' := [some (vR (some o)), some (vI x1), some (vI x2), some (vI x3), some (vI x4), some (vI x5), none, some (vI (x7 + (1 : Int32)))]) dMd_hangChildren_150 rfl tni_1 (Nat.le_of_ble_eq_true rfl) rfl ?_
        refine tq_goto (tgt := 94) dMd_hangChildren_153 (by decide) ?_
        refine tpR.fo (ls' := [some (vR (some o)), some (vI x1), some (vI x2), some (vI x3), some (vI x4), some (vI x5), none, some (vI (x7 + (1 : Int32)))]) ?_ (And.intro rfl (And.intro rfl (And.intro rfl (And.intro rfl (And.intro rfl (And.intro rfl (And.intro rfl trivial)))))))
        exact ih _ _ _ _ _ _ _ _ hw
      · have hw := hw.2 c9
        refine tq_aload_n dMd_hangChildren_121 rfl rfl ?_
        refine tq_bipush (v := (41 : Int32)) dMd_hangChildren_122 tnb_41 ?_
        refine tq_aload_n dMd_hangChildren_124 rfl rfl ?_
        obtain ⟨f10, hw⟩ := hw
        refine te_getr dMd_hangChildren_125 fMd_136 rfl rfl f10 ?_
        refine tq_iload dMd_hangChildren_128 rfl ?_
        obtain ⟨a11, e12, f13, hw⟩ := hw
        obtain ⟨f14, hw⟩ := hw
        refine te_iald dMd_hangChildren_130 e12 (Or.inl f13) f14 ?_
        refine tq_iload dMd_hangChildren_131 rfl ?_
        refine tq_aload_n dMd_hangChildren_133 rfl rfl ?_
        refine tq_iload_n dMd_hangChildren_134 rfl rfl ?_
        refine tq_iload dMd_hangChildren_135 rfl ?_
        refine tq_aload_n dMd_hangChildren_137 rfl rfl ?_
        refine te_getr dMd_hangChildren_138 fMd_136 rfl rfl f10 ?_
        refine tq_iload dMd_hangChildren_141 rfl ?_
        obtain ⟨f15, hw⟩ := hw
        refine te_iald dMd_hangChildren_143 e12 (Or.inl f13) f15 ?_
        refine te_callV mv_Md_standing (ci := 13) (dc := 4) (as := [vI x1, vI x4, vI (hI h7 a11 x7.toNatClampNeg)]) (rest := [vI x4, vI (hI h7 a11 x7.toNatClampNeg), vI (41 : Int32), vR (some o)]) kMd_392 rfl (Nat.le_of_ble_eq_true rfl) (Nat.le_of_ble_eq_true rfl) rfl rfl rfl f10 (Nat.le_of_ble_eq_true rfl) dMd_hangChildren_144 (s_Md_standing hw) (fun _ _ hx => False.elim hx) (tk_i fun v17 h16 hw => ?_)
        obtain ⟨f18, hw⟩ := hw
        refine te_callV mv_Md_hang (ci := 13) (dc := 1) (as := [vI (41 : Int32), vI (hI h7 a11 x7.toNatClampNeg), vI x4, vI v17]) (rest := []) kMd_222 rfl (Nat.le_of_ble_eq_true rfl) (Nat.le_of_ble_eq_true rfl) rfl rfl rfl f18 (Nat.le_of_ble_eq_true rfl) dMd_hangChildren_147 (s_Md_hang hw) (fun _ _ hx => False.elim hx) (tk_v fun h19 hw => ?_)
        refine tq_inc (k := (1 : Int32)) (ls' := [some (vR (some o)), some (vI x1), some (vI x2), some (vI x3), some (vI x4), some (vI x5), none, some (vI (x7 + (1 : Int32)))]) dMd_hangChildren_150 rfl tni_1 (Nat.le_of_ble_eq_true rfl) rfl ?_
        refine tq_goto (tgt := 94) dMd_hangChildren_153 (by decide) ?_
        refine tpR.fo (ls' := [some (vR (some o)), some (vI x1), some (vI x2), some (vI x3), some (vI x4), some (vI x5), none, some (vI (x7 + (1 : Int32)))]) ?_ (And.intro rfl (And.intro rfl (And.intro rfl (And.intro rfl (And.intro rfl (And.intro rfl (And.intro rfl trivial)))))))
        exact ih _ _ _ _ _ _ _ _ hw
theorem s_Md_hangChildren_50 {h0 : tpH} {av : List tpV} {R : Int32 → tpH → Prop} {K159 : Nat → Int32 → Int32 → Int32 → Int32 → Int32 → tpH → Prop} (k159 : ∀ (o : Nat) (x2 : Int32) (x3 : Int32) (x4 : Int32) (x5 : Int32) (x6 : Int32) (h : tpH), K159 o x2 x3 x4 x5 x6 h → tpR Md_hangChildren 6 h0 av (tpOi R (fun _ _ => False)) 159 [some (vR (some o)), none, some (vI x2), some (vI x3), some (vI x4), some (vI x5), some (vI x6), none] [] h) : ∀ (n : Nat) (o : Nat) (x1 : Int32) (x2 : Int32) (x3 : Int32) (x4 : Int32) (x5 : Int32) (x6 : Int32) (x7 : Int32) (h : tpH), w_Md_hangChildren_50 R K159 n o x1 x2 x3 x4 x5 x6 x7 h → tpR Md_hangChildren 6 h0 av (tpOi R (fun _ _ => False)) 50 [some (vR (some o)), some (vI x1), some (vI x2), some (vI x3), some (vI x4), some (vI x5), some (vI x6), some (vI x7)] [] h := by
  intro n
  induction n with
  | zero => intro o x1 x2 x3 x4 x5 x6 x7 h hw; exact False.elim hw
  | succ n ih =>
    intro o x1 x2 x3 x4 x5 x6 x7 h hw
    change b_Md_hangChildren_50 R K159 (w_Md_hangChildren_50 R K159 n) o x1 x2 x3 x4 x5 x6 x7 h at hw
    unfold b_Md_hangChildren_50 at hw
    refine tq_iload dMd_hangChildren_50 rfl ?_
    refine tq_aload_n dMd_hangChildren_52 rfl rfl ?_
    obtain ⟨f1, hw⟩ := hw
    refine te_geti dMd_hangChildren_53 fMd_382 rfl rfl f1 ?_
    refine tq_icmpge (tgt := 91) dMd_hangChildren_56 (by decide) (fun c2 => ?_) (fun c2 => ?_)
    · have hw := hw.1 c2
      refine tq_iconst (v := (0 : Int32)) dMd_hangChildren_91 tni_0 ?_
      refine tq_istore (ls' := [some (vR (some o)), some (vI x1), some (vI x2), some (vI x3), some (vI x4), some (vI x5), some (vI x6), some (vI (0 : Int32))]) dMd_hangChildren_92 (Nat.le_of_ble_eq_true rfl) rfl ?_
      refine tpR.fo (ls' := [some (vR (some o)), some (vI x1), some (vI x2), some (vI x3), some (vI x4), some (vI x5), none, some (vI (0 : Int32))]) ?_ (And.intro rfl (And.intro rfl (And.intro rfl (And.intro rfl (And.intro rfl (And.intro rfl (And.intro rfl trivial)))))))
      obtain ⟨n, hw⟩ := hw
      exact s_Md_hangChildren_94 k159 n _ _ _ _ _ _ _ _ hw
    · have hw := hw.2 c2
      refine tq_aload_n dMd_hangChildren_59 rfl rfl ?_
      refine tq_bipush (v := (41 : Int32)) dMd_hangChildren_60 tnb_41 ?_
      refine tq_aload_n dMd_hangChildren_62 rfl rfl ?_
      refine te_getr dMd_hangChildren_63 fMd_139 rfl rfl f1 ?_
      refine tq_iload dMd_hangChildren_66 rfl ?_
      obtain ⟨a3, e4, f5, hw⟩ := hw
      obtain ⟨f6, hw⟩ := hw
      refine te_iald dMd_hangChildren_68 e4 (Or.inl f5) f6 ?_
      refine tq_iload dMd_hangChildren_69 rfl ?_
      refine tq_iload dMd_hangChildren_71 rfl ?_
      refine te_callV mv_Md_hang (ci := 13) (dc := 1) (as := [vI (41 : Int32), vI (hI h a3 x7.toNatClampNeg), vI x4, vI x6]) (rest := []) kMd_222 rfl (Nat.le_of_ble_eq_true rfl) (Nat.le_of_ble_eq_true rfl) rfl rfl rfl f1 (Nat.le_of_ble_eq_true rfl) dMd_hangChildren_73 (s_Md_hang hw) (fun _ _ hx => False.elim hx) (tk_v fun h7 hw => ?_)
      refine tq_aload_n dMd_hangChildren_76 rfl rfl ?_
      obtain ⟨f8, hw⟩ := hw
      refine te_getr dMd_hangChildren_77 fMd_139 rfl rfl f8 ?_
      refine tq_iload dMd_hangChildren_80 rfl ?_
      obtain ⟨a9, e10, f11, hw⟩ := hw
      obtain ⟨f12, hw⟩ := hw
      refine te_iald dMd_hangChildren_82 e10 (Or.inl f11) f12 ?_
      refine tq_istore (ls' := [some (vR (some o)), some (vI x1), some (vI x2), some (vI x3), some (vI x4), some (vI x5), some (vI (hI h7 a9 x7.toNatClampNeg)), some (vI x7)]) dMd_hangChildren_83 (Nat.le_of_ble_eq_true rfl) rfl ?_
      refine tq_inc (k := (1 : Int32)) (ls' := [some (vR (some o)), some (vI x1), some (vI x2), some (vI x3), some (vI x4), some (vI x5), some (vI (hI h7 a9 x7.toNatClampNeg)), some (vI (x7 + (1 : Int32)))]) dMd_hangChildren_85 rfl tni_1 (Nat.le_of_ble_eq_true rfl) rfl ?_
      refine tq_goto (tgt := 50) dMd_hangChildren_88 (by decide) ?_
      refine tpR.fo (ls' := [some (vR (some o)), some (vI x1), some (vI x2), some (vI x3), some (vI x4), some (vI x5), some (vI (hI h7 a9 x7.toNatClampNeg)), some (vI (x7 + (1 : Int32)))]) ?_ (And.intro rfl (And.intro rfl (And.intro rfl (And.intro rfl (And.intro rfl (And.intro rfl (And.intro rfl (And.intro rfl trivial))))))))
      exact ih _ _ _ _ _ _ _ _ _ hw
theorem s_Md_hangChildren_159 {h0 : tpH} {av : List tpV} {R : Int32 → tpH → Prop} : ∀ (n : Nat) (o : Nat) (x2 : Int32) (x3 : Int32) (x4 : Int32) (x5 : Int32) (x6 : Int32) (h : tpH), w_Md_hangChildren_159 R n o x2 x3 x4 x5 x6 h → tpR Md_hangChildren 6 h0 av (tpOi R (fun _ _ => False)) 159 [some (vR (some o)), none, some (vI x2), some (vI x3), some (vI x4), some (vI x5), some (vI x6), none] [] h := by
  intro n
  induction n with
  | zero => intro o x2 x3 x4 x5 x6 h hw; exact False.elim hw
  | succ n ih =>
    intro o x2 x3 x4 x5 x6 h hw
    change b_Md_hangChildren_159 R (w_Md_hangChildren_159 R n) o x2 x3 x4 x5 x6 h at hw
    unfold b_Md_hangChildren_159 at hw
    refine tq_iload dMd_hangChildren_159 rfl ?_
    refine tq_aload_n dMd_hangChildren_161 rfl rfl ?_
    obtain ⟨f1, hw⟩ := hw
    refine te_geti dMd_hangChildren_162 fMd_162 rfl rfl f1 ?_
    refine tq_icmpge (tgt := 242) dMd_hangChildren_165 (by decide) (fun c2 => ?_) (fun c2 => ?_)
    · have hw := hw.1 c2
      refine tq_iload dMd_hangChildren_242 rfl ?_
      obtain ⟨f3, hw⟩ := hw
      exact tq_iret rfl (tpB_n f3) dMd_hangChildren_244 hw
    · have hw := hw.2 c2
      refine tq_aload_n dMd_hangChildren_168 rfl rfl ?_
      refine te_getr dMd_hangChildren_169 fMd_124 rfl rfl f1 ?_
      refine tq_iload dMd_hangChildren_172 rfl ?_
      obtain ⟨a4, e5, f6, hw⟩ := hw
      obtain ⟨f7, hw⟩ := hw
      refine te_zald dMd_hangChildren_174 e5 f6 f7 ?_
      refine tq_ifeq (tgt := 236) dMd_hangChildren_175 (by decide) (fun c8 => ?_) (fun c8 => ?_)
      · have hw := hw.1 c8
        refine tq_inc (k := (1 : Int32)) (ls' := [some (vR (some o)), none, some (vI x2), some (vI x3), some (vI x4), some (vI x5), some (vI (x6 + (1 : Int32))), none]) dMd_hangChildren_236 rfl tni_1 (Nat.le_of_ble_eq_true rfl) rfl ?_
        refine tq_goto (tgt := 159) dMd_hangChildren_239 (by decide) ?_
        refine tpR.fo (ls' := [some (vR (some o)), none, some (vI x2), some (vI x3), some (vI x4), some (vI x5), some (vI (x6 + (1 : Int32))), none]) ?_ (And.intro rfl (And.intro rfl (And.intro rfl (And.intro rfl (And.intro rfl (And.intro rfl trivial))))))
        exact ih _ _ _ _ _ _ _ hw
      · have hw := hw.2 c8
        refine tq_aload_n dMd_hangChildren_178 rfl rfl ?_
        refine te_getr dMd_hangChildren_179 fMd_130 rfl rfl f1 ?_
        refine tq_iload dMd_hangChildren_182 rfl ?_
        obtain ⟨a9, e10, f11, hw⟩ := hw
        obtain ⟨f12, hw⟩ := hw
        refine te_iald dMd_hangChildren_184 e10 (Or.inl f11) f12 ?_
        refine tq_iload dMd_hangChildren_185 rfl ?_
        refine tq_icmpne (tgt := 236) dMd_hangChildren_187 (by decide) (fun c13 => ?_) (fun c13 => ?_)
        · have hw := hw.1 c13
          refine tq_inc (k := (1 : Int32)) (ls' := [some (vR (some o)), none, some (vI x2), some (vI x3), some (vI x4), some (vI x5), some (vI (x6 + (1 : Int32))), none]) dMd_hangChildren_236 rfl tni_1 (Nat.le_of_ble_eq_true rfl) rfl ?_
          refine tq_goto (tgt := 159) dMd_hangChildren_239 (by decide) ?_
          refine tpR.fo (ls' := [some (vR (some o)), none, some (vI x2), some (vI x3), some (vI x4), some (vI x5), some (vI (x6 + (1 : Int32))), none]) ?_ (And.intro rfl (And.intro rfl (And.intro rfl (And.intro rfl (And.intro rfl (And.intro rfl trivial))))))
          exact ih _ _ _ _ _ _ _ hw
        · have hw := hw.2 c13
          refine tq_aload_n dMd_hangChildren_190 rfl rfl ?_
          refine tq_bipush (v := (41 : Int32)) dMd_hangChildren_191 tnb_41 ?_
          refine tq_iload dMd_hangChildren_193 rfl ?_
          refine tq_iload dMd_hangChildren_195 rfl ?_
          refine te_callV mv_Md_isChildOf (ci := 13) (dc := 3) (as := [vI (41 : Int32), vI x6, vI x4]) (rest := []) kMd_389 rfl (Nat.le_of_ble_eq_true rfl) (Nat.le_of_ble_eq_true rfl) rfl rfl rfl f1 (Nat.le_of_ble_eq_true rfl) dMd_hangChildren_197 (s_Md_isChildOf hw) (fun _ _ hx => False.elim hx) (tk_i fun v15 h14 hw => ?_)
          refine tq_ifne (tgt := 236) dMd_hangChildren_200 (by decide) (fun c16 => ?_) (fun c16 => ?_)
          · have hw := hw.1 c16
            refine tq_inc (k := (1 : Int32)) (ls' := [some (vR (some o)), none, some (vI x2), some (vI x3), some (vI x4), some (vI x5), some (vI (x6 + (1 : Int32))), none]) dMd_hangChildren_236 rfl tni_1 (Nat.le_of_ble_eq_true rfl) rfl ?_
            refine tq_goto (tgt := 159) dMd_hangChildren_239 (by decide) ?_
            refine tpR.fo (ls' := [some (vR (some o)), none, some (vI x2), some (vI x3), some (vI x4), some (vI x5), some (vI (x6 + (1 : Int32))), none]) ?_ (And.intro rfl (And.intro rfl (And.intro rfl (And.intro rfl (And.intro rfl (And.intro rfl trivial))))))
            exact ih _ _ _ _ _ _ _ hw
          · have hw := hw.2 c16
            refine tq_aload_n dMd_hangChildren_203 rfl rfl ?_
            refine tq_iload dMd_hangChildren_204 rfl ?_
            obtain ⟨f17, hw⟩ := hw
            refine te_callV mv_Md_isOrdered (ci := 13) (dc := 0) (as := [vI x4]) (rest := []) kMd_176 rfl (Nat.le_of_ble_eq_true rfl) (Nat.le_of_ble_eq_true rfl) rfl rfl rfl f17 (Nat.le_of_ble_eq_true rfl) dMd_hangChildren_206 (s_Md_isOrdered hw) (fun _ _ hx => False.elim hx) (tk_i fun v19 h18 hw => ?_)
            refine tq_ifeq (tgt := 225) dMd_hangChildren_209 (by decide) (fun c20 => ?_) (fun c20 => ?_)
            · have hw := hw.1 c20
              refine tq_aload_n dMd_hangChildren_225 rfl rfl ?_
              refine tq_bipush (v := (41 : Int32)) dMd_hangChildren_226 tnb_41 ?_
              refine tq_iload dMd_hangChildren_228 rfl ?_
              refine tq_iload dMd_hangChildren_230 rfl ?_
              refine tq_iconst (v := (-1 : Int32)) dMd_hangChildren_232 tni_m1 ?_
              obtain ⟨f21, hw⟩ := hw
              refine te_callV mv_Md_hang (ci := 13) (dc := 1) (as := [vI (41 : Int32), vI x6, vI x4, vI (-1 : Int32)]) (rest := []) kMd_222 rfl (Nat.le_of_ble_eq_true rfl) (Nat.le_of_ble_eq_true rfl) rfl rfl rfl f21 (Nat.le_of_ble_eq_true rfl) dMd_hangChildren_233 (s_Md_hang hw) (fun _ _ hx => False.elim hx) (tk_v fun h22 hw => ?_)
              refine tq_inc (k := (1 : Int32)) (ls' := [some (vR (some o)), none, some (vI x2), some (vI x3), some (vI x4), some (vI x5), some (vI (x6 + (1 : Int32))), none]) dMd_hangChildren_236 rfl tni_1 (Nat.le_of_ble_eq_true rfl) rfl ?_
              refine tq_goto (tgt := 159) dMd_hangChildren_239 (by decide) ?_
              refine tpR.fo (ls' := [some (vR (some o)), none, some (vI x2), some (vI x3), some (vI x4), some (vI x5), some (vI (x6 + (1 : Int32))), none]) ?_ (And.intro rfl (And.intro rfl (And.intro rfl (And.intro rfl (And.intro rfl (And.intro rfl trivial))))))
              exact ih _ _ _ _ _ _ _ hw
            · have hw := hw.2 c20
              refine tq_aload_n dMd_hangChildren_212 rfl rfl ?_
              refine tq_iload_n dMd_hangChildren_213 rfl rfl ?_
              refine tq_iload_n dMd_hangChildren_214 rfl rfl ?_
              refine tq_iload dMd_hangChildren_215 rfl ?_
              refine tq_iload dMd_hangChildren_217 rfl ?_
              obtain ⟨f23, hw⟩ := hw
              refine te_callV mv_Md_hangOther (ci := 13) (dc := 5) (as := [vI x2, vI x3, vI x4, vI x6]) (rest := []) kMd_401 rfl (Nat.le_of_ble_eq_true rfl) (Nat.le_of_ble_eq_true rfl) rfl rfl rfl f23 (Nat.le_of_ble_eq_true rfl) dMd_hangChildren_219 (s_Md_hangOther hw) (fun _ _ hx => False.elim hx) (tk_v fun h24 hw => ?_)
              refine tq_goto (tgt := 236) dMd_hangChildren_222 (by decide) ?_
              refine tq_inc (k := (1 : Int32)) (ls' := [some (vR (some o)), none, some (vI x2), some (vI x3), some (vI x4), some (vI x5), some (vI (x6 + (1 : Int32))), none]) dMd_hangChildren_236 rfl tni_1 (Nat.le_of_ble_eq_true rfl) rfl ?_
              refine tq_goto (tgt := 159) dMd_hangChildren_239 (by decide) ?_
              refine tpR.fo (ls' := [some (vR (some o)), none, some (vI x2), some (vI x3), some (vI x4), some (vI x5), some (vI (x6 + (1 : Int32))), none]) ?_ (And.intro rfl (And.intro rfl (And.intro rfl (And.intro rfl (And.intro rfl (And.intro rfl trivial))))))
              exact ih _ _ _ _ _ _ _ hw
theorem s_Md_hangChildren_33 {h0 : tpH} {av : List tpV} {R : Int32 → tpH → Prop} : ∀ (o : Nat) (x1 : Int32) (x2 : Int32) (x3 : Int32) (x4 : Int32) (t0 : Int32) (h : tpH), w_Md_hangChildren_33 R o x1 x2 x3 x4 t0 h → tpR Md_hangChildren 6 h0 av (tpOi R (fun _ _ => False)) 33 [some (vR (some o)), some (vI x1), some (vI x2), some (vI x3), some (vI x4), none, none, none] [vI t0] h := by
  intro o x1 x2 x3 x4 t0 h hw
  unfold w_Md_hangChildren_33 at hw
  refine tq_istore (ls' := [some (vR (some o)), some (vI x1), some (vI x2), some (vI x3), some (vI x4), some (vI t0), none, none]) dMd_hangChildren_33 (Nat.le_of_ble_eq_true rfl) rfl ?_
  refine tq_aload_n dMd_hangChildren_35 rfl rfl ?_
  refine tq_iload dMd_hangChildren_36 rfl ?_
  obtain ⟨f1, hw⟩ := hw
  refine te_callV mv_Md_isOrdered (ci := 13) (dc := 0) (as := [vI x4]) (rest := []) kMd_176 rfl (Nat.le_of_ble_eq_true rfl) (Nat.le_of_ble_eq_true rfl) rfl rfl rfl f1 (Nat.le_of_ble_eq_true rfl) dMd_hangChildren_38 (s_Md_isOrdered hw) (fun _ _ hx => False.elim hx) (tk_i fun v3 h2 hw => ?_)
  refine tq_ifeq (tgt := 156) dMd_hangChildren_41 (by decide) (fun c4 => ?_) (fun c4 => ?_)
  · have hw := hw.1 c4
    refine tq_iconst (v := (0 : Int32)) dMd_hangChildren_156 tni_0 ?_
    refine tq_istore (ls' := [some (vR (some o)), some (vI x1), some (vI x2), some (vI x3), some (vI x4), some (vI t0), some (vI (0 : Int32)), none]) dMd_hangChildren_157 (Nat.le_of_ble_eq_true rfl) rfl ?_
    refine tpR.fo (ls' := [some (vR (some o)), none, some (vI x2), some (vI x3), some (vI x4), some (vI t0), some (vI (0 : Int32)), none]) ?_ (And.intro rfl (And.intro rfl (And.intro rfl (And.intro rfl (And.intro rfl (And.intro rfl trivial))))))
    obtain ⟨n, hw⟩ := hw
    exact s_Md_hangChildren_159 n _ _ _ _ _ _ _ hw
  · have hw := hw.2 c4
    refine tq_iconst (v := (-1 : Int32)) dMd_hangChildren_44 tni_m1 ?_
    refine tq_istore (ls' := [some (vR (some o)), some (vI x1), some (vI x2), some (vI x3), some (vI x4), some (vI t0), some (vI (-1 : Int32)), none]) dMd_hangChildren_45 (Nat.le_of_ble_eq_true rfl) rfl ?_
    refine tq_iconst (v := (0 : Int32)) dMd_hangChildren_47 tni_0 ?_
    refine tq_istore (ls' := [some (vR (some o)), some (vI x1), some (vI x2), some (vI x3), some (vI x4), some (vI t0), some (vI (-1 : Int32)), some (vI (0 : Int32))]) dMd_hangChildren_48 (Nat.le_of_ble_eq_true rfl) rfl ?_
    refine tpR.fo (ls' := [some (vR (some o)), some (vI x1), some (vI x2), some (vI x3), some (vI x4), some (vI t0), some (vI (-1 : Int32)), some (vI (0 : Int32))]) ?_ (And.intro rfl (And.intro rfl (And.intro rfl (And.intro rfl (And.intro rfl (And.intro rfl (And.intro rfl (And.intro rfl trivial))))))))
    obtain ⟨n, hw⟩ := hw
    exact s_Md_hangChildren_50 (fun _ _ _ _ _ _ _ ⟨n, hw⟩ => s_Md_hangChildren_159 n _ _ _ _ _ _ _ hw) n _ _ _ _ _ _ _ _ _ hw
theorem s_Md_hangChildren {o : Nat} {x1 : Int32} {x2 : Int32} {x3 : Int32} {x4 : Int32} {h : tpH} {R : Int32 → tpH → Prop} (hw : w_Md_hangChildren o x1 x2 x3 x4 h R) : tpC Md_hangChildren 6 [vR (some o), vI x1, vI x2, vI x3, vI x4] h (tpOi R (fun _ _ => False)) := by
  refine tpC_of mv_Md_hangChildren.2.2.2.1 rfl rfl (Nat.le_of_ble_eq_true rfl) ?_
  show tpR Md_hangChildren 6 h _ _ 0 [some (vR (some o)), some (vI x1), some (vI x2), some (vI x3), some (vI x4), none, none, none] [] h
  unfold w_Md_hangChildren at hw
  refine tq_aload_n dMd_hangChildren_0 rfl rfl ?_
  refine tq_iload_n dMd_hangChildren_1 rfl rfl ?_
  refine tq_iload dMd_hangChildren_2 rfl ?_
  obtain ⟨f1, hw⟩ := hw
  refine te_callV mv_Md_layShared (ci := 13) (dc := 3) (as := [vI x1, vI x4]) (rest := []) kMd_395 rfl (Nat.le_of_ble_eq_true rfl) (Nat.le_of_ble_eq_true rfl) rfl rfl rfl f1 (Nat.le_of_ble_eq_true rfl) dMd_hangChildren_4 (s_Md_layShared hw) (fun _ _ hx => False.elim hx) (tk_v fun h2 hw => ?_)
  refine tq_aload_n dMd_hangChildren_7 rfl rfl ?_
  refine tq_iload dMd_hangChildren_8 rfl ?_
  obtain ⟨f3, hw⟩ := hw
  refine te_callV mv_Md_isOrdered (ci := 13) (dc := 0) (as := [vI x4]) (rest := []) kMd_176 rfl (Nat.le_of_ble_eq_true rfl) (Nat.le_of_ble_eq_true rfl) rfl rfl rfl f3 (Nat.le_of_ble_eq_true rfl) dMd_hangChildren_10 (s_Md_isOrdered hw) (fun _ _ hx => False.elim hx) (tk_i fun v5 h4 hw => ?_)
  refine tq_ifeq (tgt := 32) dMd_hangChildren_13 (by decide) (fun c6 => ?_) (fun c6 => ?_)
  · have hw := hw.1 c6
    refine tq_iconst (v := (0 : Int32)) dMd_hangChildren_32 tni_0 ?_
    refine tpR.fo (ls' := [some (vR (some o)), some (vI x1), some (vI x2), some (vI x3), some (vI x4), none, none, none]) ?_ (And.intro rfl (And.intro rfl (And.intro rfl (And.intro rfl (And.intro rfl trivial)))))
    exact s_Md_hangChildren_33 _ _ _ _ _ _ _ hw
  · have hw := hw.2 c6
    refine tq_aload_n dMd_hangChildren_16 rfl rfl ?_
    refine tq_iload_n dMd_hangChildren_17 rfl rfl ?_
    refine tq_iload_n dMd_hangChildren_18 rfl rfl ?_
    refine tq_iload_n dMd_hangChildren_19 rfl rfl ?_
    refine tq_iload dMd_hangChildren_20 rfl ?_
    obtain ⟨f7, hw⟩ := hw
    refine te_callV mv_Md_layChosen (ci := 13) (dc := 4) (as := [vI x1, vI x2, vI x3, vI x4]) (rest := []) kMd_398 rfl (Nat.le_of_ble_eq_true rfl) (Nat.le_of_ble_eq_true rfl) rfl rfl rfl f7 (Nat.le_of_ble_eq_true rfl) dMd_hangChildren_22 (s_Md_layChosen hw) (fun _ _ hx => False.elim hx) (tk_i fun v9 h8 hw => ?_)
    refine tq_ifeq (tgt := 32) dMd_hangChildren_25 (by decide) (fun c10 => ?_) (fun c10 => ?_)
    · have hw := hw.1 c10
      refine tq_iconst (v := (0 : Int32)) dMd_hangChildren_32 tni_0 ?_
      refine tpR.fo (ls' := [some (vR (some o)), some (vI x1), some (vI x2), some (vI x3), some (vI x4), none, none, none]) ?_ (And.intro rfl (And.intro rfl (And.intro rfl (And.intro rfl (And.intro rfl trivial)))))
      exact s_Md_hangChildren_33 _ _ _ _ _ _ _ hw
    · have hw := hw.2 c10
      refine tq_iconst (v := (1 : Int32)) dMd_hangChildren_28 tni_1 ?_
      refine tq_goto (tgt := 33) dMd_hangChildren_29 (by decide) ?_
      refine tpR.fo (ls' := [some (vR (some o)), some (vI x1), some (vI x2), some (vI x3), some (vI x4), none, none, none]) ?_ (And.intro rfl (And.intro rfl (And.intro rfl (And.intro rfl (And.intro rfl trivial)))))
      exact s_Md_hangChildren_33 _ _ _ _ _ _ _ hw
/-! TModel.merged -/
theorem dMd_merged_0 : decode (mB Md_merged) 0 = .ok (.aload_n 0, 1) := by decide +kernel
theorem dMd_merged_1 : decode (mB Md_merged) 1 = .ok (.iconst 0, 1) := by decide +kernel
theorem dMd_merged_2 : decode (mB Md_merged) 2 = .ok (.putfield 343, 3) := by decide +kernel
theorem dMd_merged_5 : decode (mB Md_merged) 5 = .ok (.iconst 0, 1) := by decide +kernel
theorem dMd_merged_6 : decode (mB Md_merged) 6 = .ok (.istore 4, 2) := by decide +kernel
theorem dMd_merged_8 : decode (mB Md_merged) 8 = .ok (.iload 4, 2) := by decide +kernel
theorem dMd_merged_10 : decode (mB Md_merged) 10 = .ok (.aload_n 0, 1) := by decide +kernel
theorem dMd_merged_11 : decode (mB Md_merged) 11 = .ok (.getfield 162, 3) := by decide +kernel
theorem dMd_merged_14 : decode (mB Md_merged) 14 = .ok (.if_icmp .ge 18, 3) := by decide +kernel
theorem dMd_merged_17 : decode (mB Md_merged) 17 = .ok (.aload_n 0, 1) := by decide +kernel
theorem dMd_merged_18 : decode (mB Md_merged) 18 = .ok (.iload_n 1, 1) := by decide +kernel
theorem dMd_merged_19 : decode (mB Md_merged) 19 = .ok (.iload_n 2, 1) := by decide +kernel
theorem dMd_merged_20 : decode (mB Md_merged) 20 = .ok (.iload_n 3, 1) := by decide +kernel
theorem dMd_merged_21 : decode (mB Md_merged) 21 = .ok (.iload 4, 2) := by decide +kernel
theorem dMd_merged_23 : decode (mB Md_merged) 23 = .ok (.invokevirtual 404, 3) := by decide +kernel
theorem dMd_merged_26 : decode (mB Md_merged) 26 = .ok (.iinc 4 1, 3) := by decide +kernel
theorem dMd_merged_29 : decode (mB Md_merged) 29 = .ok (.goto (-21), 3) := by decide +kernel
theorem dMd_merged_32 : decode (mB Md_merged) 32 = .ok (.aload_n 0, 1) := by decide +kernel
theorem dMd_merged_33 : decode (mB Md_merged) 33 = .ok (.iload_n 1, 1) := by decide +kernel
theorem dMd_merged_34 : decode (mB Md_merged) 34 = .ok (.invokevirtual 407, 3) := by decide +kernel
theorem dMd_merged_37 : decode (mB Md_merged) 37 = .ok (.aload_n 0, 1) := by decide +kernel
theorem dMd_merged_38 : decode (mB Md_merged) 38 = .ok (.bipush 41, 2) := by decide +kernel
theorem dMd_merged_40 : decode (mB Md_merged) 40 = .ok (.invokevirtual 189, 3) := by decide +kernel
theorem dMd_merged_43 : decode (mB Md_merged) 43 = .ok (.aload_n 0, 1) := by decide +kernel
theorem dMd_merged_44 : decode (mB Md_merged) 44 = .ok (.getfield 16, 3) := by decide +kernel
theorem dMd_merged_47 : decode (mB Md_merged) 47 = .ok (.bipush 41, 2) := by decide +kernel
theorem dMd_merged_49 : decode (mB Md_merged) 49 = .ok (.aload_n 0, 1) := by decide +kernel
theorem dMd_merged_50 : decode (mB Md_merged) 50 = .ok (.getfield 16, 3) := by decide +kernel
theorem dMd_merged_53 : decode (mB Md_merged) 53 = .ok (.iload_n 1, 1) := by decide +kernel
theorem dMd_merged_54 : decode (mB Md_merged) 54 = .ok (.iaload, 1) := by decide +kernel
theorem dMd_merged_55 : decode (mB Md_merged) 55 = .ok (.iastore, 1) := by decide +kernel
theorem dMd_merged_56 : decode (mB Md_merged) 56 = .ok (.aload_n 0, 1) := by decide +kernel
theorem dMd_merged_57 : decode (mB Md_merged) 57 = .ok (.getfield 19, 3) := by decide +kernel
theorem dMd_merged_60 : decode (mB Md_merged) 60 = .ok (.sipush 12300, 3) := by decide +kernel
theorem dMd_merged_63 : decode (mB Md_merged) 63 = .ok (.aload_n 0, 1) := by decide +kernel
theorem dMd_merged_64 : decode (mB Md_merged) 64 = .ok (.getfield 16, 3) := by decide +kernel
theorem dMd_merged_67 : decode (mB Md_merged) 67 = .ok (.iload_n 1, 1) := by decide +kernel
theorem dMd_merged_68 : decode (mB Md_merged) 68 = .ok (.iaload, 1) := by decide +kernel
theorem dMd_merged_69 : decode (mB Md_merged) 69 = .ok (.iadd, 1) := by decide +kernel
theorem dMd_merged_70 : decode (mB Md_merged) 70 = .ok (.iconst (-1), 1) := by decide +kernel
theorem dMd_merged_71 : decode (mB Md_merged) 71 = .ok (.iastore, 1) := by decide +kernel
theorem dMd_merged_72 : decode (mB Md_merged) 72 = .ok (.iconst 0, 1) := by decide +kernel
theorem dMd_merged_73 : decode (mB Md_merged) 73 = .ok (.istore 4, 2) := by decide +kernel
theorem dMd_merged_75 : decode (mB Md_merged) 75 = .ok (.iload 4, 2) := by decide +kernel
theorem dMd_merged_77 : decode (mB Md_merged) 77 = .ok (.aload_n 0, 1) := by decide +kernel
theorem dMd_merged_78 : decode (mB Md_merged) 78 = .ok (.getfield 162, 3) := by decide +kernel
theorem dMd_merged_81 : decode (mB Md_merged) 81 = .ok (.if_icmp .ge 61, 3) := by decide +kernel
theorem dMd_merged_84 : decode (mB Md_merged) 84 = .ok (.aload_n 0, 1) := by decide +kernel
theorem dMd_merged_85 : decode (mB Md_merged) 85 = .ok (.getfield 22, 3) := by decide +kernel
theorem dMd_merged_88 : decode (mB Md_merged) 88 = .ok (.sipush 12300, 3) := by decide +kernel
theorem dMd_merged_91 : decode (mB Md_merged) 91 = .ok (.iload 4, 2) := by decide +kernel
theorem dMd_merged_93 : decode (mB Md_merged) 93 = .ok (.iadd, 1) := by decide +kernel
theorem dMd_merged_94 : decode (mB Md_merged) 94 = .ok (.aload_n 0, 1) := by decide +kernel
theorem dMd_merged_95 : decode (mB Md_merged) 95 = .ok (.getfield 127, 3) := by decide +kernel
theorem dMd_merged_98 : decode (mB Md_merged) 98 = .ok (.iload 4, 2) := by decide +kernel
theorem dMd_merged_100 : decode (mB Md_merged) 100 = .ok (.iaload, 1) := by decide +kernel
theorem dMd_merged_101 : decode (mB Md_merged) 101 = .ok (.iastore, 1) := by decide +kernel
theorem dMd_merged_102 : decode (mB Md_merged) 102 = .ok (.aload_n 0, 1) := by decide +kernel
theorem dMd_merged_103 : decode (mB Md_merged) 103 = .ok (.getfield 145, 3) := by decide +kernel
theorem dMd_merged_106 : decode (mB Md_merged) 106 = .ok (.iload 4, 2) := by decide +kernel
theorem dMd_merged_108 : decode (mB Md_merged) 108 = .ok (.aload_n 0, 1) := by decide +kernel
theorem dMd_merged_109 : decode (mB Md_merged) 109 = .ok (.getfield 124, 3) := by decide +kernel
theorem dMd_merged_112 : decode (mB Md_merged) 112 = .ok (.iload 4, 2) := by decide +kernel
theorem dMd_merged_114 : decode (mB Md_merged) 114 = .ok (.baload, 1) := by decide +kernel
theorem dMd_merged_115 : decode (mB Md_merged) 115 = .ok (.ifCond .eq 19, 3) := by decide +kernel
theorem dMd_merged_118 : decode (mB Md_merged) 118 = .ok (.aload_n 0, 1) := by decide +kernel
theorem dMd_merged_119 : decode (mB Md_merged) 119 = .ok (.iload_n 1, 1) := by decide +kernel
theorem dMd_merged_120 : decode (mB Md_merged) 120 = .ok (.iload_n 2, 1) := by decide +kernel
theorem dMd_merged_121 : decode (mB Md_merged) 121 = .ok (.iload_n 3, 1) := by decide +kernel
theorem dMd_merged_122 : decode (mB Md_merged) 122 = .ok (.iload 4, 2) := by decide +kernel
theorem dMd_merged_124 : decode (mB Md_merged) 124 = .ok (.invokevirtual 410, 3) := by decide +kernel
theorem dMd_merged_127 : decode (mB Md_merged) 127 = .ok (.ifCond .eq 7, 3) := by decide +kernel
theorem dMd_merged_130 : decode (mB Md_merged) 130 = .ok (.iconst 1, 1) := by decide +kernel
theorem dMd_merged_131 : decode (mB Md_merged) 131 = .ok (.goto 4, 3) := by decide +kernel
theorem dMd_merged_134 : decode (mB Md_merged) 134 = .ok (.iconst 0, 1) := by decide +kernel
theorem dMd_merged_135 : decode (mB Md_merged) 135 = .ok (.bastore, 1) := by decide +kernel
theorem dMd_merged_136 : decode (mB Md_merged) 136 = .ok (.iinc 4 1, 3) := by decide +kernel
theorem dMd_merged_139 : decode (mB Md_merged) 139 = .ok (.goto (-64), 3) := by decide +kernel
theorem dMd_merged_142 : decode (mB Md_merged) 142 = .ok (.aload_n 0, 1) := by decide +kernel
theorem dMd_merged_143 : decode (mB Md_merged) 143 = .ok (.bipush 41, 2) := by decide +kernel
theorem dMd_merged_145 : decode (mB Md_merged) 145 = .ok (.aload_n 0, 1) := by decide +kernel
theorem dMd_merged_146 : decode (mB Md_merged) 146 = .ok (.getfield 83, 3) := by decide +kernel
theorem dMd_merged_149 : decode (mB Md_merged) 149 = .ok (.invokevirtual 208, 3) := by decide +kernel
theorem dMd_merged_152 : decode (mB Md_merged) 152 = .ok (.istore 4, 2) := by decide +kernel
theorem dMd_merged_154 : decode (mB Md_merged) 154 = .ok (.iconst 0, 1) := by decide +kernel
theorem dMd_merged_155 : decode (mB Md_merged) 155 = .ok (.istore 5, 2) := by decide +kernel
theorem dMd_merged_157 : decode (mB Md_merged) 157 = .ok (.iload 5, 2) := by decide +kernel
theorem dMd_merged_159 : decode (mB Md_merged) 159 = .ok (.iload 4, 2) := by decide +kernel
theorem dMd_merged_161 : decode (mB Md_merged) 161 = .ok (.if_icmp .ge 36, 3) := by decide +kernel
theorem dMd_merged_164 : decode (mB Md_merged) 164 = .ok (.aload_n 0, 1) := by decide +kernel
theorem dMd_merged_165 : decode (mB Md_merged) 165 = .ok (.getfield 145, 3) := by decide +kernel
theorem dMd_merged_168 : decode (mB Md_merged) 168 = .ok (.aload_n 0, 1) := by decide +kernel
theorem dMd_merged_169 : decode (mB Md_merged) 169 = .ok (.getfield 83, 3) := by decide +kernel
theorem dMd_merged_172 : decode (mB Md_merged) 172 = .ok (.iload 5, 2) := by decide +kernel
theorem dMd_merged_174 : decode (mB Md_merged) 174 = .ok (.iaload, 1) := by decide +kernel
theorem dMd_merged_175 : decode (mB Md_merged) 175 = .ok (.baload, 1) := by decide +kernel
theorem dMd_merged_176 : decode (mB Md_merged) 176 = .ok (.ifCond .eq 15, 3) := by decide +kernel
theorem dMd_merged_179 : decode (mB Md_merged) 179 = .ok (.aload_n 0, 1) := by decide +kernel
theorem dMd_merged_180 : decode (mB Md_merged) 180 = .ok (.iconst 5, 1) := by decide +kernel
theorem dMd_merged_181 : decode (mB Md_merged) 181 = .ok (.aload_n 0, 1) := by decide +kernel
theorem dMd_merged_182 : decode (mB Md_merged) 182 = .ok (.getfield 83, 3) := by decide +kernel
theorem dMd_merged_185 : decode (mB Md_merged) 185 = .ok (.iload 5, 2) := by decide +kernel
theorem dMd_merged_187 : decode (mB Md_merged) 187 = .ok (.iaload, 1) := by decide +kernel
theorem dMd_merged_188 : decode (mB Md_merged) 188 = .ok (.invokevirtual 349, 3) := by decide +kernel
theorem dMd_merged_191 : decode (mB Md_merged) 191 = .ok (.iinc 5 1, 3) := by decide +kernel
theorem dMd_merged_194 : decode (mB Md_merged) 194 = .ok (.goto (-37), 3) := by decide +kernel
theorem dMd_merged_197 : decode (mB Md_merged) 197 = .ok (.aload_n 0, 1) := by decide +kernel
theorem dMd_merged_198 : decode (mB Md_merged) 198 = .ok (.bipush 41, 2) := by decide +kernel
theorem dMd_merged_200 : decode (mB Md_merged) 200 = .ok (.invokevirtual 235, 3) := by decide +kernel
theorem dMd_merged_203 : decode (mB Md_merged) 203 = .ok (.ireturn, 1) := by decide +kernel
def w_Md_merged_135 (R : Int32 → tpH → Prop) (K75 : Nat → Int32 → Int32 → Int32 → Int32 → tpH → Prop) (o : Nat) (x1 : Int32) (x2 : Int32) (x3 : Int32) (x4 : Int32) (t0 : Int32) (t1 : Int32) (t2 : Option Nat) (h : tpH) : Prop :=
  ∃ a1, t2 = some a1 ∧ hT h a1 = 16 ∧ (vp_in t1 (hL h a1) ∧ (tpB t0 ∧ (∀ h6, h6 = sI h a1 t1.toNatClampNeg t0 → (K75 o x1 x2 x3 (x4 + (1 : Int32)) h6))))
def b_Md_merged_157 (R : Int32 → tpH → Prop) (Y : Nat → Int32 → Int32 → tpH → Prop) (o : Nat) (x4 : Int32) (x5 : Int32) (h : tpH) : Prop :=
  (x4 ≤ x5 → (hT h o = 14 ∧ (w_Md_sealed o (41 : Int32) h (fun v4 h3 => R v4 h3)))) ∧ (¬ x4 ≤ x5 → (hT h o = 14 ∧ (∃ a6, (hR h o 32) = some a6 ∧ hT h a6 = 15 ∧ (vp_in x5 (hL h a6) ∧ (∃ a10, (hR h o 56) = some a10 ∧ hT h a10 = 16 ∧ (vp_in (hI h a6 x5.toNatClampNeg) (hL h a10) ∧ (((hI h a10 (hI h a6 x5.toNatClampNeg).toNatClampNeg) = 0 → (Y o x4 (x5 + (1 : Int32)) h)) ∧ (¬ (hI h a10 (hI h a6 x5.toNatClampNeg).toNatClampNeg) = 0 → (vp_in x5 (hL h a6) ∧ (w_Md_list o (5 : Int32) (hI h a6 x5.toNatClampNeg) h (fun h16 => Y o x4 (x5 + (1 : Int32)) h16)))))))))))
def w_Md_merged_157 (R : Int32 → tpH → Prop) : Nat → Nat → Int32 → Int32 → tpH → Prop
  | 0 => fun _ _ _ _ => False
  | n + 1 => b_Md_merged_157 R (w_Md_merged_157 R n)
def b_Md_merged_75 (R : Int32 → tpH → Prop) (Y : Nat → Int32 → Int32 → Int32 → Int32 → tpH → Prop) (o : Nat) (x1 : Int32) (x2 : Int32) (x3 : Int32) (x4 : Int32) (h : tpH) : Prop :=
  hT h o = 14 ∧ (((hI h o 0) ≤ x4 → (w_Md_layOrder o (41 : Int32) (hR h o 32) h (fun v4 h3 => ∃ n, w_Md_merged_157 R n o v4 (0 : Int32) h3))) ∧ (¬ (hI h o 0) ≤ x4 → (∃ a5, (hR h o 48) = some a5 ∧ hT h a5 = 15 ∧ (vp_in x4 (hL h a5) ∧ (∃ a9, (hR h o 7) = some a9 ∧ hT h a9 = 15 ∧ (vp_in ((12300 : Int32) + x4) (hL h a9) ∧ (∀ h13, h13 = sI h a9 ((12300 : Int32) + x4).toNatClampNeg (hI h a5 x4.toNatClampNeg) → (∃ a15, (hR h13 o 47) = some a15 ∧ hT h13 a15 = 16 ∧ (vp_in x4 (hL h13 a15) ∧ (((hI h13 a15 x4.toNatClampNeg) = 0 → (w_Md_merged_135 R Y o x1 x2 x3 x4 (0 : Int32) x4 (hR h13 o 56) h13)) ∧ (¬ (hI h13 a15 x4.toNatClampNeg) = 0 → (w_Md_hangChildren o x1 x2 x3 x4 h13 (fun v21 h20 => (v21 = 0 → (w_Md_merged_135 R Y o x1 x2 x3 x4 (0 : Int32) x4 (hR h13 o 56) h20)) ∧ (¬ v21 = 0 → (w_Md_merged_135 R Y o x1 x2 x3 x4 (1 : Int32) x4 (hR h13 o 56) h20)))))))))))))))
def w_Md_merged_75 (R : Int32 → tpH → Prop) : Nat → Nat → Int32 → Int32 → Int32 → Int32 → tpH → Prop
  | 0 => fun _ _ _ _ _ _ => False
  | n + 1 => b_Md_merged_75 R (w_Md_merged_75 R n)
def b_Md_merged_8 (R : Int32 → tpH → Prop) (Y : Nat → Int32 → Int32 → Int32 → Int32 → tpH → Prop) (o : Nat) (x1 : Int32) (x2 : Int32) (x3 : Int32) (x4 : Int32) (h : tpH) : Prop :=
  hT h o = 14 ∧ (((hI h o 0) ≤ x4 → (w_Md_mend o x1 h (fun h3 => hT h3 o = 14 ∧ (w_Md_clear o (41 : Int32) h3 (fun h5 => hT h5 o = 14 ∧ (∃ a7, (hR h5 o 5) = some a7 ∧ hT h5 a7 = 15 ∧ (vp_in x1 (hL h5 a7) ∧ (vp_in (41 : Int32) (hL h5 a7) ∧ (∀ h12, h12 = sI h5 a7 (41 : Int32).toNatClampNeg (hI h5 a7 x1.toNatClampNeg) → (∃ a14, (hR h12 o 5) = some a14 ∧ hT h12 a14 = 15 ∧ (vp_in x1 (hL h12 a14) ∧ (∃ a18, (hR h12 o 6) = some a18 ∧ hT h12 a18 = 15 ∧ (vp_in ((12300 : Int32) + (hI h12 a14 x1.toNatClampNeg)) (hL h12 a18) ∧ (∀ h22, h22 = sI h12 a18 ((12300 : Int32) + (hI h12 a14 x1.toNatClampNeg)).toNatClampNeg (-1 : Int32) → (∃ n, w_Md_merged_75 R n o x1 x2 x3 (0 : Int32) h22))))))))))))))) ∧ (¬ (hI h o 0) ≤ x4 → (w_Md_mergeMark o x1 x2 x3 x4 h (fun h24 => Y o x1 x2 x3 (x4 + (1 : Int32)) h24))))
def w_Md_merged_8 (R : Int32 → tpH → Prop) : Nat → Nat → Int32 → Int32 → Int32 → Int32 → tpH → Prop
  | 0 => fun _ _ _ _ _ _ => False
  | n + 1 => b_Md_merged_8 R (w_Md_merged_8 R n)
def w_Md_merged (o : Nat) (x1 : Int32) (x2 : Int32) (x3 : Int32) (h : tpH) (R : Int32 → tpH → Prop) : Prop :=
  hT h o = 14 ∧ (∀ h2, h2 = sI h o 24 (0 : Int32) → (∃ n, w_Md_merged_8 R n o x1 x2 x3 (0 : Int32) h2))
theorem s_Md_merged_135 {h0 : tpH} {av : List tpV} {R : Int32 → tpH → Prop} {K75 : Nat → Int32 → Int32 → Int32 → Int32 → tpH → Prop} (k75 : ∀ (o : Nat) (x1 : Int32) (x2 : Int32) (x3 : Int32) (x4 : Int32) (h : tpH), K75 o x1 x2 x3 x4 h → tpR Md_merged 7 h0 av (tpOi R (fun _ _ => False)) 75 [some (vR (some o)), some (vI x1), some (vI x2), some (vI x3), some (vI x4), none] [] h) : ∀ (o : Nat) (x1 : Int32) (x2 : Int32) (x3 : Int32) (x4 : Int32) (t0 : Int32) (t1 : Int32) (t2 : Option Nat) (h : tpH), w_Md_merged_135 R K75 o x1 x2 x3 x4 t0 t1 t2 h → tpR Md_merged 7 h0 av (tpOi R (fun _ _ => False)) 135 [some (vR (some o)), some (vI x1), some (vI x2), some (vI x3), some (vI x4), none] [vI t0, vI t1, vR t2] h := by
  intro o x1 x2 x3 x4 t0 t1 t2 h hw
  unfold w_Md_merged_135 at hw
  obtain ⟨a1, e2, f3, hw⟩ := hw
  obtain ⟨f4, hw⟩ := hw
  obtain ⟨f5, hw⟩ := hw
  refine te_zast dMd_merged_135 e2 f3 f4 (tpB_n f5) (fun h6 e7 => ?_)
  have hw := hw h6 e7
  refine tq_inc (k := (1 : Int32)) (ls' := [some (vR (some o)), some (vI x1), some (vI x2), some (vI x3), some (vI (x4 + (1 : Int32))), none]) dMd_merged_136 rfl tni_1 (Nat.le_of_ble_eq_true rfl) rfl ?_
  refine tq_goto (tgt := 75) dMd_merged_139 (by decide) ?_
  refine tpR.fo (ls' := [some (vR (some o)), some (vI x1), some (vI x2), some (vI x3), some (vI (x4 + (1 : Int32))), none]) ?_ (And.intro rfl (And.intro rfl (And.intro rfl (And.intro rfl (And.intro rfl trivial)))))
  exact k75 _ _ _ _ _ _ hw
theorem s_Md_merged_157 {h0 : tpH} {av : List tpV} {R : Int32 → tpH → Prop} : ∀ (n : Nat) (o : Nat) (x4 : Int32) (x5 : Int32) (h : tpH), w_Md_merged_157 R n o x4 x5 h → tpR Md_merged 7 h0 av (tpOi R (fun _ _ => False)) 157 [some (vR (some o)), none, none, none, some (vI x4), some (vI x5)] [] h := by
  intro n
  induction n with
  | zero => intro o x4 x5 h hw; exact False.elim hw
  | succ n ih =>
    intro o x4 x5 h hw
    change b_Md_merged_157 R (w_Md_merged_157 R n) o x4 x5 h at hw
    unfold b_Md_merged_157 at hw
    refine tq_iload dMd_merged_157 rfl ?_
    refine tq_iload dMd_merged_159 rfl ?_
    refine tq_icmpge (tgt := 197) dMd_merged_161 (by decide) (fun c1 => ?_) (fun c1 => ?_)
    · have hw := hw.1 c1
      refine tq_aload_n dMd_merged_197 rfl rfl ?_
      refine tq_bipush (v := (41 : Int32)) dMd_merged_198 tnb_41 ?_
      obtain ⟨f2, hw⟩ := hw
      refine te_callV mv_Md_sealed (ci := 13) (dc := 1) (as := [vI (41 : Int32)]) (rest := []) kMd_235 rfl (Nat.le_of_ble_eq_true rfl) (Nat.le_of_ble_eq_true rfl) rfl rfl rfl f2 (Nat.le_of_ble_eq_true rfl) dMd_merged_200 (s_Md_sealed hw) (fun _ _ hx => False.elim hx) (tk_i fun v4 h3 hw => ?_)
      exact tq_iret rfl rfl dMd_merged_203 hw
    · have hw := hw.2 c1
      refine tq_aload_n dMd_merged_164 rfl rfl ?_
      obtain ⟨f5, hw⟩ := hw
      refine te_getr dMd_merged_165 fMd_145 rfl rfl f5 ?_
      refine tq_aload_n dMd_merged_168 rfl rfl ?_
      refine te_getr dMd_merged_169 fMd_83 rfl rfl f5 ?_
      refine tq_iload dMd_merged_172 rfl ?_
      obtain ⟨a6, e7, f8, hw⟩ := hw
      obtain ⟨f9, hw⟩ := hw
      refine te_iald dMd_merged_174 e7 (Or.inl f8) f9 ?_
      obtain ⟨a10, e11, f12, hw⟩ := hw
      obtain ⟨f13, hw⟩ := hw
      refine te_zald dMd_merged_175 e11 f12 f13 ?_
      refine tq_ifeq (tgt := 191) dMd_merged_176 (by decide) (fun c14 => ?_) (fun c14 => ?_)
      · have hw := hw.1 c14
        refine tq_inc (k := (1 : Int32)) (ls' := [some (vR (some o)), none, none, none, some (vI x4), some (vI (x5 + (1 : Int32)))]) dMd_merged_191 rfl tni_1 (Nat.le_of_ble_eq_true rfl) rfl ?_
        refine tq_goto (tgt := 157) dMd_merged_194 (by decide) ?_
        refine tpR.fo (ls' := [some (vR (some o)), none, none, none, some (vI x4), some (vI (x5 + (1 : Int32)))]) ?_ (And.intro rfl (And.intro rfl (And.intro rfl trivial)))
        exact ih _ _ _ _ hw
      · have hw := hw.2 c14
        refine tq_aload_n dMd_merged_179 rfl rfl ?_
        refine tq_iconst (v := (5 : Int32)) dMd_merged_180 tni_5 ?_
        refine tq_aload_n dMd_merged_181 rfl rfl ?_
        refine te_getr dMd_merged_182 fMd_83 rfl rfl f5 ?_
        refine tq_iload dMd_merged_185 rfl ?_
        obtain ⟨f15, hw⟩ := hw
        refine te_iald dMd_merged_187 e7 (Or.inl f8) f15 ?_
        refine te_callV mv_Md_list (ci := 13) (dc := 0) (as := [vI (5 : Int32), vI (hI h a6 x5.toNatClampNeg)]) (rest := []) kMd_349 rfl (Nat.le_of_ble_eq_true rfl) (Nat.le_of_ble_eq_true rfl) rfl rfl rfl f5 (Nat.le_of_ble_eq_true rfl) dMd_merged_188 (s_Md_list hw) (fun _ _ hx => False.elim hx) (tk_v fun h16 hw => ?_)
        refine tq_inc (k := (1 : Int32)) (ls' := [some (vR (some o)), none, none, none, some (vI x4), some (vI (x5 + (1 : Int32)))]) dMd_merged_191 rfl tni_1 (Nat.le_of_ble_eq_true rfl) rfl ?_
        refine tq_goto (tgt := 157) dMd_merged_194 (by decide) ?_
        refine tpR.fo (ls' := [some (vR (some o)), none, none, none, some (vI x4), some (vI (x5 + (1 : Int32)))]) ?_ (And.intro rfl (And.intro rfl (And.intro rfl trivial)))
        exact ih _ _ _ _ hw
theorem s_Md_merged_75 {h0 : tpH} {av : List tpV} {R : Int32 → tpH → Prop} : ∀ (n : Nat) (o : Nat) (x1 : Int32) (x2 : Int32) (x3 : Int32) (x4 : Int32) (h : tpH), w_Md_merged_75 R n o x1 x2 x3 x4 h → tpR Md_merged 7 h0 av (tpOi R (fun _ _ => False)) 75 [some (vR (some o)), some (vI x1), some (vI x2), some (vI x3), some (vI x4), none] [] h := by
  intro n
  induction n with
  | zero => intro o x1 x2 x3 x4 h hw; exact False.elim hw
  | succ n ih =>
    intro o x1 x2 x3 x4 h hw
    change b_Md_merged_75 R (w_Md_merged_75 R n) o x1 x2 x3 x4 h at hw
    unfold b_Md_merged_75 at hw
    refine tq_iload dMd_merged_75 rfl ?_
    refine tq_aload_n dMd_merged_77 rfl rfl ?_
    obtain ⟨f1, hw⟩ := hw
    refine te_geti dMd_merged_78 fMd_162 rfl rfl f1 ?_
    refine tq_icmpge (tgt := 142) dMd_merged_81 (by decide) (fun c2 => ?_) (fun c2 => ?_)
    · have hw := hw.1 c2
      refine tq_aload_n dMd_merged_142 rfl rfl ?_
      refine tq_bipush (v := (41 : Int32)) dMd_merged_143 tnb_41 ?_
      refine tq_aload_n dMd_merged_145 rfl rfl ?_
      refine te_getr dMd_merged_146 fMd_83 rfl rfl f1 ?_
      refine te_callV mv_Md_layOrder (ci := 13) (dc := 1) (as := [vI (41 : Int32), vR (hR h o 32)]) (rest := []) kMd_208 rfl (Nat.le_of_ble_eq_true rfl) (Nat.le_of_ble_eq_true rfl) rfl rfl rfl f1 (Nat.le_of_ble_eq_true rfl) dMd_merged_149 (s_Md_layOrder hw) (fun _ _ hx => False.elim hx) (tk_i fun v4 h3 hw => ?_)
      refine tq_istore (ls' := [some (vR (some o)), some (vI x1), some (vI x2), some (vI x3), some (vI v4), none]) dMd_merged_152 (Nat.le_of_ble_eq_true rfl) rfl ?_
      refine tq_iconst (v := (0 : Int32)) dMd_merged_154 tni_0 ?_
      refine tq_istore (ls' := [some (vR (some o)), some (vI x1), some (vI x2), some (vI x3), some (vI v4), some (vI (0 : Int32))]) dMd_merged_155 (Nat.le_of_ble_eq_true rfl) rfl ?_
      refine tpR.fo (ls' := [some (vR (some o)), none, none, none, some (vI v4), some (vI (0 : Int32))]) ?_ (And.intro rfl (And.intro rfl (And.intro rfl trivial)))
      obtain ⟨n, hw⟩ := hw
      exact s_Md_merged_157 n _ _ _ _ hw
    · have hw := hw.2 c2
      refine tq_aload_n dMd_merged_84 rfl rfl ?_
      refine te_getr dMd_merged_85 fMd_22 rfl rfl f1 ?_
      refine tq_sipush (v := (12300 : Int32)) dMd_merged_88 tns_12300 ?_
      refine tq_iload dMd_merged_91 rfl ?_
      refine tq_iadd dMd_merged_93 ?_
      refine tq_aload_n dMd_merged_94 rfl rfl ?_
      refine te_getr dMd_merged_95 fMd_127 rfl rfl f1 ?_
      refine tq_iload dMd_merged_98 rfl ?_
      obtain ⟨a5, e6, f7, hw⟩ := hw
      obtain ⟨f8, hw⟩ := hw
      refine te_iald dMd_merged_100 e6 (Or.inl f7) f8 ?_
      obtain ⟨a9, e10, f11, hw⟩ := hw
      obtain ⟨f12, hw⟩ := hw
      refine te_iast dMd_merged_101 e10 f11 f12 (fun h13 e14 => ?_)
      have hw := hw h13 e14
      refine tq_aload_n dMd_merged_102 rfl rfl ?_
      refine te_getr dMd_merged_103 fMd_145 rfl rfl (by rw [e14]; exact f1) ?_
      refine tq_iload dMd_merged_106 rfl ?_
      refine tq_aload_n dMd_merged_108 rfl rfl ?_
      refine te_getr dMd_merged_109 fMd_124 rfl rfl (by rw [e14]; exact f1) ?_
      refine tq_iload dMd_merged_112 rfl ?_
      obtain ⟨a15, e16, f17, hw⟩ := hw
      obtain ⟨f18, hw⟩ := hw
      refine te_zald dMd_merged_114 e16 f17 f18 ?_
      refine tq_ifeq (tgt := 134) dMd_merged_115 (by decide) (fun c19 => ?_) (fun c19 => ?_)
      · have hw := hw.1 c19
        refine tq_iconst (v := (0 : Int32)) dMd_merged_134 tni_0 ?_
        refine tpR.fo (ls' := [some (vR (some o)), some (vI x1), some (vI x2), some (vI x3), some (vI x4), none]) ?_ (And.intro rfl (And.intro rfl (And.intro rfl (And.intro rfl (And.intro rfl trivial)))))
        exact s_Md_merged_135 ih _ _ _ _ _ _ _ _ _ hw
      · have hw := hw.2 c19
        refine tq_aload_n dMd_merged_118 rfl rfl ?_
        refine tq_iload_n dMd_merged_119 rfl rfl ?_
        refine tq_iload_n dMd_merged_120 rfl rfl ?_
        refine tq_iload_n dMd_merged_121 rfl rfl ?_
        refine tq_iload dMd_merged_122 rfl ?_
        refine te_callV mv_Md_hangChildren (ci := 13) (dc := 6) (as := [vI x1, vI x2, vI x3, vI x4]) (rest := [vI x4, vR (hR h13 o 56)]) kMd_410 rfl (Nat.le_of_ble_eq_true rfl) (Nat.le_of_ble_eq_true rfl) rfl rfl rfl (by rw [e14]; exact f1) (Nat.le_of_ble_eq_true rfl) dMd_merged_124 (s_Md_hangChildren hw) (fun _ _ hx => False.elim hx) (tk_i fun v21 h20 hw => ?_)
        refine tq_ifeq (tgt := 134) dMd_merged_127 (by decide) (fun c22 => ?_) (fun c22 => ?_)
        · have hw := hw.1 c22
          refine tq_iconst (v := (0 : Int32)) dMd_merged_134 tni_0 ?_
          refine tpR.fo (ls' := [some (vR (some o)), some (vI x1), some (vI x2), some (vI x3), some (vI x4), none]) ?_ (And.intro rfl (And.intro rfl (And.intro rfl (And.intro rfl (And.intro rfl trivial)))))
          exact s_Md_merged_135 ih _ _ _ _ _ _ _ _ _ hw
        · have hw := hw.2 c22
          refine tq_iconst (v := (1 : Int32)) dMd_merged_130 tni_1 ?_
          refine tq_goto (tgt := 135) dMd_merged_131 (by decide) ?_
          refine tpR.fo (ls' := [some (vR (some o)), some (vI x1), some (vI x2), some (vI x3), some (vI x4), none]) ?_ (And.intro rfl (And.intro rfl (And.intro rfl (And.intro rfl (And.intro rfl trivial)))))
          exact s_Md_merged_135 ih _ _ _ _ _ _ _ _ _ hw
theorem s_Md_merged_8 {h0 : tpH} {av : List tpV} {R : Int32 → tpH → Prop} : ∀ (n : Nat) (o : Nat) (x1 : Int32) (x2 : Int32) (x3 : Int32) (x4 : Int32) (h : tpH), w_Md_merged_8 R n o x1 x2 x3 x4 h → tpR Md_merged 7 h0 av (tpOi R (fun _ _ => False)) 8 [some (vR (some o)), some (vI x1), some (vI x2), some (vI x3), some (vI x4), none] [] h := by
  intro n
  induction n with
  | zero => intro o x1 x2 x3 x4 h hw; exact False.elim hw
  | succ n ih =>
    intro o x1 x2 x3 x4 h hw
    change b_Md_merged_8 R (w_Md_merged_8 R n) o x1 x2 x3 x4 h at hw
    unfold b_Md_merged_8 at hw
    refine tq_iload dMd_merged_8 rfl ?_
    refine tq_aload_n dMd_merged_10 rfl rfl ?_
    obtain ⟨f1, hw⟩ := hw
    refine te_geti dMd_merged_11 fMd_162 rfl rfl f1 ?_
    refine tq_icmpge (tgt := 32) dMd_merged_14 (by decide) (fun c2 => ?_) (fun c2 => ?_)
    · have hw := hw.1 c2
      refine tq_aload_n dMd_merged_32 rfl rfl ?_
      refine tq_iload_n dMd_merged_33 rfl rfl ?_
      refine te_callV mv_Md_mend (ci := 13) (dc := 4) (as := [vI x1]) (rest := []) kMd_407 rfl (Nat.le_of_ble_eq_true rfl) (Nat.le_of_ble_eq_true rfl) rfl rfl rfl f1 (Nat.le_of_ble_eq_true rfl) dMd_merged_34 (s_Md_mend hw) (fun _ _ hx => False.elim hx) (tk_v fun h3 hw => ?_)
      refine tq_aload_n dMd_merged_37 rfl rfl ?_
      refine tq_bipush (v := (41 : Int32)) dMd_merged_38 tnb_41 ?_
      obtain ⟨f4, hw⟩ := hw
      refine te_callV mv_Md_clear (ci := 13) (dc := 0) (as := [vI (41 : Int32)]) (rest := []) kMd_189 rfl (Nat.le_of_ble_eq_true rfl) (Nat.le_of_ble_eq_true rfl) rfl rfl rfl f4 (Nat.le_of_ble_eq_true rfl) dMd_merged_40 (s_Md_clear hw) (fun _ _ hx => False.elim hx) (tk_v fun h5 hw => ?_)
      refine tq_aload_n dMd_merged_43 rfl rfl ?_
      obtain ⟨f6, hw⟩ := hw
      refine te_getr dMd_merged_44 fMd_16 rfl rfl f6 ?_
      refine tq_bipush (v := (41 : Int32)) dMd_merged_47 tnb_41 ?_
      refine tq_aload_n dMd_merged_49 rfl rfl ?_
      refine te_getr dMd_merged_50 fMd_16 rfl rfl f6 ?_
      refine tq_iload_n dMd_merged_53 rfl rfl ?_
      obtain ⟨a7, e8, f9, hw⟩ := hw
      obtain ⟨f10, hw⟩ := hw
      refine te_iald dMd_merged_54 e8 (Or.inl f9) f10 ?_
      obtain ⟨f11, hw⟩ := hw
      refine te_iast dMd_merged_55 e8 f9 f11 (fun h12 e13 => ?_)
      have hw := hw h12 e13
      refine tq_aload_n dMd_merged_56 rfl rfl ?_
      refine te_getr dMd_merged_57 fMd_19 rfl rfl (by rw [e13]; exact f6) ?_
      refine tq_sipush (v := (12300 : Int32)) dMd_merged_60 tns_12300 ?_
      refine tq_aload_n dMd_merged_63 rfl rfl ?_
      refine te_getr dMd_merged_64 fMd_16 rfl rfl (by rw [e13]; exact f6) ?_
      refine tq_iload_n dMd_merged_67 rfl rfl ?_
      obtain ⟨a14, e15, f16, hw⟩ := hw
      obtain ⟨f17, hw⟩ := hw
      refine te_iald dMd_merged_68 e15 (Or.inl f16) f17 ?_
      refine tq_iadd dMd_merged_69 ?_
      refine tq_iconst (v := (-1 : Int32)) dMd_merged_70 tni_m1 ?_
      obtain ⟨a18, e19, f20, hw⟩ := hw
      obtain ⟨f21, hw⟩ := hw
      refine te_iast dMd_merged_71 e19 f20 f21 (fun h22 e23 => ?_)
      have hw := hw h22 e23
      refine tq_iconst (v := (0 : Int32)) dMd_merged_72 tni_0 ?_
      refine tq_istore (ls' := [some (vR (some o)), some (vI x1), some (vI x2), some (vI x3), some (vI (0 : Int32)), none]) dMd_merged_73 (Nat.le_of_ble_eq_true rfl) rfl ?_
      refine tpR.fo (ls' := [some (vR (some o)), some (vI x1), some (vI x2), some (vI x3), some (vI (0 : Int32)), none]) ?_ (And.intro rfl (And.intro rfl (And.intro rfl (And.intro rfl (And.intro rfl trivial)))))
      obtain ⟨n, hw⟩ := hw
      exact s_Md_merged_75 n _ _ _ _ _ _ hw
    · have hw := hw.2 c2
      refine tq_aload_n dMd_merged_17 rfl rfl ?_
      refine tq_iload_n dMd_merged_18 rfl rfl ?_
      refine tq_iload_n dMd_merged_19 rfl rfl ?_
      refine tq_iload_n dMd_merged_20 rfl rfl ?_
      refine tq_iload dMd_merged_21 rfl ?_
      refine te_callV mv_Md_mergeMark (ci := 13) (dc := 5) (as := [vI x1, vI x2, vI x3, vI x4]) (rest := []) kMd_404 rfl (Nat.le_of_ble_eq_true rfl) (Nat.le_of_ble_eq_true rfl) rfl rfl rfl f1 (Nat.le_of_ble_eq_true rfl) dMd_merged_23 (s_Md_mergeMark hw) (fun _ _ hx => False.elim hx) (tk_v fun h24 hw => ?_)
      refine tq_inc (k := (1 : Int32)) (ls' := [some (vR (some o)), some (vI x1), some (vI x2), some (vI x3), some (vI (x4 + (1 : Int32))), none]) dMd_merged_26 rfl tni_1 (Nat.le_of_ble_eq_true rfl) rfl ?_
      refine tq_goto (tgt := 8) dMd_merged_29 (by decide) ?_
      refine tpR.fo (ls' := [some (vR (some o)), some (vI x1), some (vI x2), some (vI x3), some (vI (x4 + (1 : Int32))), none]) ?_ (And.intro rfl (And.intro rfl (And.intro rfl (And.intro rfl (And.intro rfl trivial)))))
      exact ih _ _ _ _ _ _ hw
theorem s_Md_merged {o : Nat} {x1 : Int32} {x2 : Int32} {x3 : Int32} {h : tpH} {R : Int32 → tpH → Prop} (hw : w_Md_merged o x1 x2 x3 h R) : tpC Md_merged 7 [vR (some o), vI x1, vI x2, vI x3] h (tpOi R (fun _ _ => False)) := by
  refine tpC_of mv_Md_merged.2.2.2.1 rfl rfl (Nat.le_of_ble_eq_true rfl) ?_
  show tpR Md_merged 7 h _ _ 0 [some (vR (some o)), some (vI x1), some (vI x2), some (vI x3), none, none] [] h
  unfold w_Md_merged at hw
  refine tq_aload_n dMd_merged_0 rfl rfl ?_
  refine tq_iconst (v := (0 : Int32)) dMd_merged_1 tni_0 ?_
  obtain ⟨f1, hw⟩ := hw
  refine te_puti dMd_merged_2 pMd_343 rfl rfl rfl f1 ⟨rfl, rfl⟩ (fun h2 e3 => ?_)
  have hw := hw h2 e3
  refine tq_iconst (v := (0 : Int32)) dMd_merged_5 tni_0 ?_
  refine tq_istore (ls' := [some (vR (some o)), some (vI x1), some (vI x2), some (vI x3), some (vI (0 : Int32)), none]) dMd_merged_6 (Nat.le_of_ble_eq_true rfl) rfl ?_
  refine tpR.fo (ls' := [some (vR (some o)), some (vI x1), some (vI x2), some (vI x3), some (vI (0 : Int32)), none]) ?_ (And.intro rfl (And.intro rfl (And.intro rfl (And.intro rfl (And.intro rfl trivial)))))
  obtain ⟨n, hw⟩ := hw
  exact s_Md_merged_8 n _ _ _ _ _ _ hw
/-! TModel.areRootsSame -/
theorem dMd_areRootsSame_0 : decode (mB Md_areRootsSame) 0 = .ok (.aload_n 0, 1) := by decide +kernel
theorem dMd_areRootsSame_1 : decode (mB Md_areRootsSame) 1 = .ok (.getfield 16, 3) := by decide +kernel
theorem dMd_areRootsSame_4 : decode (mB Md_areRootsSame) 4 = .ok (.iload_n 1, 1) := by decide +kernel
theorem dMd_areRootsSame_5 : decode (mB Md_areRootsSame) 5 = .ok (.iaload, 1) := by decide +kernel
theorem dMd_areRootsSame_6 : decode (mB Md_areRootsSame) 6 = .ok (.aload_n 0, 1) := by decide +kernel
theorem dMd_areRootsSame_7 : decode (mB Md_areRootsSame) 7 = .ok (.getfield 16, 3) := by decide +kernel
theorem dMd_areRootsSame_10 : decode (mB Md_areRootsSame) 10 = .ok (.iload_n 2, 1) := by decide +kernel
theorem dMd_areRootsSame_11 : decode (mB Md_areRootsSame) 11 = .ok (.iaload, 1) := by decide +kernel
theorem dMd_areRootsSame_12 : decode (mB Md_areRootsSame) 12 = .ok (.if_icmp .ne 22, 3) := by decide +kernel
theorem dMd_areRootsSame_15 : decode (mB Md_areRootsSame) 15 = .ok (.aload_n 0, 1) := by decide +kernel
theorem dMd_areRootsSame_16 : decode (mB Md_areRootsSame) 16 = .ok (.getfield 16, 3) := by decide +kernel
theorem dMd_areRootsSame_19 : decode (mB Md_areRootsSame) 19 = .ok (.iload_n 1, 1) := by decide +kernel
theorem dMd_areRootsSame_20 : decode (mB Md_areRootsSame) 20 = .ok (.iaload, 1) := by decide +kernel
theorem dMd_areRootsSame_21 : decode (mB Md_areRootsSame) 21 = .ok (.aload_n 0, 1) := by decide +kernel
theorem dMd_areRootsSame_22 : decode (mB Md_areRootsSame) 22 = .ok (.getfield 16, 3) := by decide +kernel
theorem dMd_areRootsSame_25 : decode (mB Md_areRootsSame) 25 = .ok (.iload_n 3, 1) := by decide +kernel
theorem dMd_areRootsSame_26 : decode (mB Md_areRootsSame) 26 = .ok (.iaload, 1) := by decide +kernel
theorem dMd_areRootsSame_27 : decode (mB Md_areRootsSame) 27 = .ok (.if_icmp .ne 7, 3) := by decide +kernel
theorem dMd_areRootsSame_30 : decode (mB Md_areRootsSame) 30 = .ok (.iconst 1, 1) := by decide +kernel
theorem dMd_areRootsSame_31 : decode (mB Md_areRootsSame) 31 = .ok (.goto 4, 3) := by decide +kernel
theorem dMd_areRootsSame_34 : decode (mB Md_areRootsSame) 34 = .ok (.iconst 0, 1) := by decide +kernel
theorem dMd_areRootsSame_35 : decode (mB Md_areRootsSame) 35 = .ok (.ireturn, 1) := by decide +kernel
def w_Md_areRootsSame (o : Nat) (x1 : Int32) (x2 : Int32) (x3 : Int32) (h : tpH) (R : Int32 → tpH → Prop) : Prop :=
  hT h o = 14 ∧ (∃ a2, (hR h o 5) = some a2 ∧ hT h a2 = 15 ∧ (vp_in x1 (hL h a2) ∧ (vp_in x2 (hL h a2) ∧ ((¬ (hI h a2 x1.toNatClampNeg) = (hI h a2 x2.toNatClampNeg) → (R (0 : Int32) h)) ∧ ((hI h a2 x1.toNatClampNeg) = (hI h a2 x2.toNatClampNeg) → (vp_in x1 (hL h a2) ∧ (vp_in x3 (hL h a2) ∧ ((¬ (hI h a2 x1.toNatClampNeg) = (hI h a2 x3.toNatClampNeg) → (R (0 : Int32) h)) ∧ ((hI h a2 x1.toNatClampNeg) = (hI h a2 x3.toNatClampNeg) → (R (1 : Int32) h))))))))))
theorem s_Md_areRootsSame {o : Nat} {x1 : Int32} {x2 : Int32} {x3 : Int32} {h : tpH} {R : Int32 → tpH → Prop} (hw : w_Md_areRootsSame o x1 x2 x3 h R) : tpC Md_areRootsSame 0 [vR (some o), vI x1, vI x2, vI x3] h (tpOi R (fun _ _ => False)) := by
  refine tpC_of mv_Md_areRootsSame.2.2.2.1 rfl rfl (Nat.le_of_ble_eq_true rfl) ?_
  show tpR Md_areRootsSame 0 h _ _ 0 [some (vR (some o)), some (vI x1), some (vI x2), some (vI x3)] [] h
  unfold w_Md_areRootsSame at hw
  refine tq_aload_n dMd_areRootsSame_0 rfl rfl ?_
  obtain ⟨f1, hw⟩ := hw
  refine te_getr dMd_areRootsSame_1 fMd_16 rfl rfl f1 ?_
  refine tq_iload_n dMd_areRootsSame_4 rfl rfl ?_
  obtain ⟨a2, e3, f4, hw⟩ := hw
  obtain ⟨f5, hw⟩ := hw
  refine te_iald dMd_areRootsSame_5 e3 (Or.inl f4) f5 ?_
  refine tq_aload_n dMd_areRootsSame_6 rfl rfl ?_
  refine te_getr dMd_areRootsSame_7 fMd_16 rfl rfl f1 ?_
  refine tq_iload_n dMd_areRootsSame_10 rfl rfl ?_
  obtain ⟨f6, hw⟩ := hw
  refine te_iald dMd_areRootsSame_11 e3 (Or.inl f4) f6 ?_
  refine tq_icmpne (tgt := 34) dMd_areRootsSame_12 (by decide) (fun c7 => ?_) (fun c7 => ?_)
  · have hw := hw.1 c7
    refine tq_iconst (v := (0 : Int32)) dMd_areRootsSame_34 tni_0 ?_
    exact tq_iret rfl (by decide) dMd_areRootsSame_35 hw
  · have hw := hw.2 c7
    refine tq_aload_n dMd_areRootsSame_15 rfl rfl ?_
    refine te_getr dMd_areRootsSame_16 fMd_16 rfl rfl f1 ?_
    refine tq_iload_n dMd_areRootsSame_19 rfl rfl ?_
    obtain ⟨f8, hw⟩ := hw
    refine te_iald dMd_areRootsSame_20 e3 (Or.inl f4) f8 ?_
    refine tq_aload_n dMd_areRootsSame_21 rfl rfl ?_
    refine te_getr dMd_areRootsSame_22 fMd_16 rfl rfl f1 ?_
    refine tq_iload_n dMd_areRootsSame_25 rfl rfl ?_
    obtain ⟨f9, hw⟩ := hw
    refine te_iald dMd_areRootsSame_26 e3 (Or.inl f4) f9 ?_
    refine tq_icmpne (tgt := 34) dMd_areRootsSame_27 (by decide) (fun c10 => ?_) (fun c10 => ?_)
    · have hw := hw.1 c10
      refine tq_iconst (v := (0 : Int32)) dMd_areRootsSame_34 tni_0 ?_
      exact tq_iret rfl (by decide) dMd_areRootsSame_35 hw
    · have hw := hw.2 c10
      refine tq_iconst (v := (1 : Int32)) dMd_areRootsSame_30 tni_1 ?_
      refine tq_goto (tgt := 35) dMd_areRootsSame_31 (by decide) ?_
      exact tq_iret rfl (by decide) dMd_areRootsSame_35 hw
/-! TModel.merge -/
theorem dMd_merge_0 : decode (mB Md_merge) 0 = .ok (.aload_n 0, 1) := by decide +kernel
theorem dMd_merge_1 : decode (mB Md_merge) 1 = .ok (.aload_n 0, 1) := by decide +kernel
theorem dMd_merge_2 : decode (mB Md_merge) 2 = .ok (.iload_n 1, 1) := by decide +kernel
theorem dMd_merge_3 : decode (mB Md_merge) 3 = .ok (.invokevirtual 201, 3) := by decide +kernel
theorem dMd_merge_6 : decode (mB Md_merge) 6 = .ok (.ifCond .eq 19, 3) := by decide +kernel
theorem dMd_merge_9 : decode (mB Md_merge) 9 = .ok (.aload_n 0, 1) := by decide +kernel
theorem dMd_merge_10 : decode (mB Md_merge) 10 = .ok (.iload_n 2, 1) := by decide +kernel
theorem dMd_merge_11 : decode (mB Md_merge) 11 = .ok (.invokevirtual 201, 3) := by decide +kernel
theorem dMd_merge_14 : decode (mB Md_merge) 14 = .ok (.ifCond .eq 11, 3) := by decide +kernel
theorem dMd_merge_17 : decode (mB Md_merge) 17 = .ok (.aload_n 0, 1) := by decide +kernel
theorem dMd_merge_18 : decode (mB Md_merge) 18 = .ok (.iload_n 3, 1) := by decide +kernel
theorem dMd_merge_19 : decode (mB Md_merge) 19 = .ok (.invokevirtual 201, 3) := by decide +kernel
theorem dMd_merge_22 : decode (mB Md_merge) 22 = .ok (.ifCond .ne 7, 3) := by decide +kernel
theorem dMd_merge_25 : decode (mB Md_merge) 25 = .ok (.iconst 1, 1) := by decide +kernel
theorem dMd_merge_26 : decode (mB Md_merge) 26 = .ok (.goto 27, 3) := by decide +kernel
theorem dMd_merge_29 : decode (mB Md_merge) 29 = .ok (.aload_n 0, 1) := by decide +kernel
theorem dMd_merge_30 : decode (mB Md_merge) 30 = .ok (.iload_n 1, 1) := by decide +kernel
theorem dMd_merge_31 : decode (mB Md_merge) 31 = .ok (.iload_n 2, 1) := by decide +kernel
theorem dMd_merge_32 : decode (mB Md_merge) 32 = .ok (.iload_n 3, 1) := by decide +kernel
theorem dMd_merge_33 : decode (mB Md_merge) 33 = .ok (.invokevirtual 413, 3) := by decide +kernel
theorem dMd_merge_36 : decode (mB Md_merge) 36 = .ok (.ifCond .eq 12, 3) := by decide +kernel
theorem dMd_merge_39 : decode (mB Md_merge) 39 = .ok (.aload_n 0, 1) := by decide +kernel
theorem dMd_merge_40 : decode (mB Md_merge) 40 = .ok (.getfield 155, 3) := by decide +kernel
theorem dMd_merge_43 : decode (mB Md_merge) 43 = .ok (.bipush 40, 2) := by decide +kernel
theorem dMd_merge_45 : decode (mB Md_merge) 45 = .ok (.if_icmp .ne 7, 3) := by decide +kernel
theorem dMd_merge_48 : decode (mB Md_merge) 48 = .ok (.iconst 2, 1) := by decide +kernel
theorem dMd_merge_49 : decode (mB Md_merge) 49 = .ok (.goto 4, 3) := by decide +kernel
theorem dMd_merge_52 : decode (mB Md_merge) 52 = .ok (.iconst 0, 1) := by decide +kernel
theorem dMd_merge_53 : decode (mB Md_merge) 53 = .ok (.putfield 151, 3) := by decide +kernel
theorem dMd_merge_56 : decode (mB Md_merge) 56 = .ok (.aload_n 0, 1) := by decide +kernel
theorem dMd_merge_57 : decode (mB Md_merge) 57 = .ok (.getfield 151, 3) := by decide +kernel
theorem dMd_merge_60 : decode (mB Md_merge) 60 = .ok (.ifCond .ne 13, 3) := by decide +kernel
theorem dMd_merge_63 : decode (mB Md_merge) 63 = .ok (.aload_n 0, 1) := by decide +kernel
theorem dMd_merge_64 : decode (mB Md_merge) 64 = .ok (.iload_n 1, 1) := by decide +kernel
theorem dMd_merge_65 : decode (mB Md_merge) 65 = .ok (.iload_n 2, 1) := by decide +kernel
theorem dMd_merge_66 : decode (mB Md_merge) 66 = .ok (.iload_n 3, 1) := by decide +kernel
theorem dMd_merge_67 : decode (mB Md_merge) 67 = .ok (.invokevirtual 416, 3) := by decide +kernel
theorem dMd_merge_70 : decode (mB Md_merge) 70 = .ok (.goto 4, 3) := by decide +kernel
theorem dMd_merge_73 : decode (mB Md_merge) 73 = .ok (.iconst 0, 1) := by decide +kernel
theorem dMd_merge_74 : decode (mB Md_merge) 74 = .ok (.ireturn, 1) := by decide +kernel
def w_Md_merge_53 (R : Int32 → tpH → Prop) (o : Nat) (x1 : Int32) (x2 : Int32) (x3 : Int32) (t0 : Int32) (t1 : Option Nat) (h : tpH) : Prop :=
  ∃ a1, t1 = some a1 ∧ hT h a1 = 14 ∧ (∀ h4, h4 = sI h a1 31 t0 → (hT h4 o = 14 ∧ ((¬ (hI h4 o 31) = 0 → (R (0 : Int32) h4)) ∧ ((hI h4 o 31) = 0 → (w_Md_merged o x1 x2 x3 h4 (fun v9 h8 => R v9 h8))))))
def w_Md_merge (o : Nat) (x1 : Int32) (x2 : Int32) (x3 : Int32) (h : tpH) (R : Int32 → tpH → Prop) : Prop :=
  hT h o = 14 ∧ (w_Md_isTree o x1 h (fun v3 h2 => (v3 = 0 → (w_Md_merge_53 R o x1 x2 x3 (1 : Int32) (some o) h2)) ∧ (¬ v3 = 0 → (hT h2 o = 14 ∧ (w_Md_isTree o x2 h2 (fun v7 h6 => (v7 = 0 → (w_Md_merge_53 R o x1 x2 x3 (1 : Int32) (some o) h6)) ∧ (¬ v7 = 0 → (hT h6 o = 14 ∧ (w_Md_isTree o x3 h6 (fun v11 h10 => (¬ v11 = 0 → (hT h10 o = 14 ∧ (w_Md_areRootsSame o x1 x2 x3 h10 (fun v15 h14 => (v15 = 0 → (w_Md_merge_53 R o x1 x2 x3 (2 : Int32) (some o) h14)) ∧ (¬ v15 = 0 → (hT h14 o = 14 ∧ ((¬ (hI h14 o 3) = (40 : Int32) → (w_Md_merge_53 R o x1 x2 x3 (0 : Int32) (some o) h14)) ∧ ((hI h14 o 3) = (40 : Int32) → (w_Md_merge_53 R o x1 x2 x3 (2 : Int32) (some o) h14))))))))) ∧ (v11 = 0 → (w_Md_merge_53 R o x1 x2 x3 (1 : Int32) (some o) h10))))))))))))
theorem s_Md_merge_53 {h0 : tpH} {av : List tpV} {R : Int32 → tpH → Prop} : ∀ (o : Nat) (x1 : Int32) (x2 : Int32) (x3 : Int32) (t0 : Int32) (t1 : Option Nat) (h : tpH), w_Md_merge_53 R o x1 x2 x3 t0 t1 h → tpR Md_merge 8 h0 av (tpOi R (fun _ _ => False)) 53 [some (vR (some o)), some (vI x1), some (vI x2), some (vI x3)] [vI t0, vR t1] h := by
  intro o x1 x2 x3 t0 t1 h hw
  unfold w_Md_merge_53 at hw
  obtain ⟨a1, e2, f3, hw⟩ := hw
  refine te_puti dMd_merge_53 pMd_151 rfl rfl e2 f3 ⟨rfl, rfl⟩ (fun h4 e5 => ?_)
  have hw := hw h4 e5
  refine tq_aload_n dMd_merge_56 rfl rfl ?_
  obtain ⟨f6, hw⟩ := hw
  refine te_geti dMd_merge_57 fMd_151 rfl rfl f6 ?_
  refine tq_ifne (tgt := 73) dMd_merge_60 (by decide) (fun c7 => ?_) (fun c7 => ?_)
  · have hw := hw.1 c7
    refine tq_iconst (v := (0 : Int32)) dMd_merge_73 tni_0 ?_
    exact tq_iret rfl rfl dMd_merge_74 hw
  · have hw := hw.2 c7
    refine tq_aload_n dMd_merge_63 rfl rfl ?_
    refine tq_iload_n dMd_merge_64 rfl rfl ?_
    refine tq_iload_n dMd_merge_65 rfl rfl ?_
    refine tq_iload_n dMd_merge_66 rfl rfl ?_
    refine te_callV mv_Md_merged (ci := 13) (dc := 7) (as := [vI x1, vI x2, vI x3]) (rest := []) kMd_416 rfl (Nat.le_of_ble_eq_true rfl) (Nat.le_of_ble_eq_true rfl) rfl rfl rfl f6 (Nat.le_of_ble_eq_true rfl) dMd_merge_67 (s_Md_merged hw) (fun _ _ hx => False.elim hx) (tk_i fun v9 h8 hw => ?_)
    refine tq_goto (tgt := 74) dMd_merge_70 (by decide) ?_
    exact tq_iret rfl rfl dMd_merge_74 hw
theorem s_Md_merge {o : Nat} {x1 : Int32} {x2 : Int32} {x3 : Int32} {h : tpH} {R : Int32 → tpH → Prop} (hw : w_Md_merge o x1 x2 x3 h R) : tpC Md_merge 8 [vR (some o), vI x1, vI x2, vI x3] h (tpOi R (fun _ _ => False)) := by
  refine tpC_of mv_Md_merge.2.2.2.1 rfl rfl (Nat.le_of_ble_eq_true rfl) ?_
  show tpR Md_merge 8 h _ _ 0 [some (vR (some o)), some (vI x1), some (vI x2), some (vI x3)] [] h
  unfold w_Md_merge at hw
  refine tq_aload_n dMd_merge_0 rfl rfl ?_
  refine tq_aload_n dMd_merge_1 rfl rfl ?_
  refine tq_iload_n dMd_merge_2 rfl rfl ?_
  obtain ⟨f1, hw⟩ := hw
  refine te_callV mv_Md_isTree (ci := 13) (dc := 1) (as := [vI x1]) (rest := [vR (some o)]) kMd_201 rfl (Nat.le_of_ble_eq_true rfl) (Nat.le_of_ble_eq_true rfl) rfl rfl rfl f1 (Nat.le_of_ble_eq_true rfl) dMd_merge_3 (s_Md_isTree hw) (fun _ _ hx => False.elim hx) (tk_i fun v3 h2 hw => ?_)
  refine tq_ifeq (tgt := 25) dMd_merge_6 (by decide) (fun c4 => ?_) (fun c4 => ?_)
  · have hw := hw.1 c4
    refine tq_iconst (v := (1 : Int32)) dMd_merge_25 tni_1 ?_
    refine tq_goto (tgt := 53) dMd_merge_26 (by decide) ?_
    refine tpR.fo (ls' := [some (vR (some o)), some (vI x1), some (vI x2), some (vI x3)]) ?_ (And.intro rfl (And.intro rfl (And.intro rfl (And.intro rfl trivial))))
    exact s_Md_merge_53 _ _ _ _ _ _ _ hw
  · have hw := hw.2 c4
    refine tq_aload_n dMd_merge_9 rfl rfl ?_
    refine tq_iload_n dMd_merge_10 rfl rfl ?_
    obtain ⟨f5, hw⟩ := hw
    refine te_callV mv_Md_isTree (ci := 13) (dc := 1) (as := [vI x2]) (rest := [vR (some o)]) kMd_201 rfl (Nat.le_of_ble_eq_true rfl) (Nat.le_of_ble_eq_true rfl) rfl rfl rfl f5 (Nat.le_of_ble_eq_true rfl) dMd_merge_11 (s_Md_isTree hw) (fun _ _ hx => False.elim hx) (tk_i fun v7 h6 hw => ?_)
    refine tq_ifeq (tgt := 25) dMd_merge_14 (by decide) (fun c8 => ?_) (fun c8 => ?_)
    · have hw := hw.1 c8
      refine tq_iconst (v := (1 : Int32)) dMd_merge_25 tni_1 ?_
      refine tq_goto (tgt := 53) dMd_merge_26 (by decide) ?_
      refine tpR.fo (ls' := [some (vR (some o)), some (vI x1), some (vI x2), some (vI x3)]) ?_ (And.intro rfl (And.intro rfl (And.intro rfl (And.intro rfl trivial))))
      exact s_Md_merge_53 _ _ _ _ _ _ _ hw
    · have hw := hw.2 c8
      refine tq_aload_n dMd_merge_17 rfl rfl ?_
      refine tq_iload_n dMd_merge_18 rfl rfl ?_
      obtain ⟨f9, hw⟩ := hw
      refine te_callV mv_Md_isTree (ci := 13) (dc := 1) (as := [vI x3]) (rest := [vR (some o)]) kMd_201 rfl (Nat.le_of_ble_eq_true rfl) (Nat.le_of_ble_eq_true rfl) rfl rfl rfl f9 (Nat.le_of_ble_eq_true rfl) dMd_merge_19 (s_Md_isTree hw) (fun _ _ hx => False.elim hx) (tk_i fun v11 h10 hw => ?_)
      refine tq_ifne (tgt := 29) dMd_merge_22 (by decide) (fun c12 => ?_) (fun c12 => ?_)
      · have hw := hw.1 c12
        refine tq_aload_n dMd_merge_29 rfl rfl ?_
        refine tq_iload_n dMd_merge_30 rfl rfl ?_
        refine tq_iload_n dMd_merge_31 rfl rfl ?_
        refine tq_iload_n dMd_merge_32 rfl rfl ?_
        obtain ⟨f13, hw⟩ := hw
        refine te_callV mv_Md_areRootsSame (ci := 13) (dc := 0) (as := [vI x1, vI x2, vI x3]) (rest := [vR (some o)]) kMd_413 rfl (Nat.le_of_ble_eq_true rfl) (Nat.le_of_ble_eq_true rfl) rfl rfl rfl f13 (Nat.le_of_ble_eq_true rfl) dMd_merge_33 (s_Md_areRootsSame hw) (fun _ _ hx => False.elim hx) (tk_i fun v15 h14 hw => ?_)
        refine tq_ifeq (tgt := 48) dMd_merge_36 (by decide) (fun c16 => ?_) (fun c16 => ?_)
        · have hw := hw.1 c16
          refine tq_iconst (v := (2 : Int32)) dMd_merge_48 tni_2 ?_
          refine tq_goto (tgt := 53) dMd_merge_49 (by decide) ?_
          refine tpR.fo (ls' := [some (vR (some o)), some (vI x1), some (vI x2), some (vI x3)]) ?_ (And.intro rfl (And.intro rfl (And.intro rfl (And.intro rfl trivial))))
          exact s_Md_merge_53 _ _ _ _ _ _ _ hw
        · have hw := hw.2 c16
          refine tq_aload_n dMd_merge_39 rfl rfl ?_
          obtain ⟨f17, hw⟩ := hw
          refine te_geti dMd_merge_40 fMd_155 rfl rfl f17 ?_
          refine tq_bipush (v := (40 : Int32)) dMd_merge_43 tnb_40 ?_
          refine tq_icmpne (tgt := 52) dMd_merge_45 (by decide) (fun c18 => ?_) (fun c18 => ?_)
          · have hw := hw.1 c18
            refine tq_iconst (v := (0 : Int32)) dMd_merge_52 tni_0 ?_
            refine tpR.fo (ls' := [some (vR (some o)), some (vI x1), some (vI x2), some (vI x3)]) ?_ (And.intro rfl (And.intro rfl (And.intro rfl (And.intro rfl trivial))))
            exact s_Md_merge_53 _ _ _ _ _ _ _ hw
          · have hw := hw.2 c18
            refine tq_iconst (v := (2 : Int32)) dMd_merge_48 tni_2 ?_
            refine tq_goto (tgt := 53) dMd_merge_49 (by decide) ?_
            refine tpR.fo (ls' := [some (vR (some o)), some (vI x1), some (vI x2), some (vI x3)]) ?_ (And.intro rfl (And.intro rfl (And.intro rfl (And.intro rfl trivial))))
            exact s_Md_merge_53 _ _ _ _ _ _ _ hw
      · have hw := hw.2 c12
        refine tq_iconst (v := (1 : Int32)) dMd_merge_25 tni_1 ?_
        refine tq_goto (tgt := 53) dMd_merge_26 (by decide) ?_
        refine tpR.fo (ls' := [some (vR (some o)), some (vI x1), some (vI x2), some (vI x3)]) ?_ (And.intro rfl (And.intro rfl (And.intro rfl (And.intro rfl trivial))))
        exact s_Md_merge_53 _ _ _ _ _ _ _ hw
/-! TModel.isVersion -/
theorem dMd_isVersion_0 : decode (mB Md_isVersion) 0 = .ok (.iload_n 1, 1) := by decide +kernel
theorem dMd_isVersion_1 : decode (mB Md_isVersion) 1 = .ok (.iconst 0, 1) := by decide +kernel
theorem dMd_isVersion_2 : decode (mB Md_isVersion) 2 = .ok (.aload_n 0, 1) := by decide +kernel
theorem dMd_isVersion_3 : decode (mB Md_isVersion) 3 = .ok (.getfield 419, 3) := by decide +kernel
theorem dMd_isVersion_6 : decode (mB Md_isVersion) 6 = .ok (.iconst 1, 1) := by decide +kernel
theorem dMd_isVersion_7 : decode (mB Md_isVersion) 7 = .ok (.isub, 1) := by decide +kernel
theorem dMd_isVersion_8 : decode (mB Md_isVersion) 8 = .ok (.invokestatic 158, 3) := by decide +kernel
theorem dMd_isVersion_11 : decode (mB Md_isVersion) 11 = .ok (.ireturn, 1) := by decide +kernel
def w_Md_isVersion (o : Nat) (x1 : Int32) (h : tpH) (R : Int32 → tpH → Prop) : Prop :=
  hT h o = 14 ∧ (w_Md_in x1 (0 : Int32) ((hI h o 26) - (1 : Int32)) h (fun v3 h2 => tpB v3 ∧ (R v3 h2)))
theorem s_Md_isVersion {o : Nat} {x1 : Int32} {h : tpH} {R : Int32 → tpH → Prop} (hw : w_Md_isVersion o x1 h R) : tpC Md_isVersion 1 [vR (some o), vI x1] h (tpOi R (fun _ _ => False)) := by
  refine tpC_of mv_Md_isVersion.2.2.2.1 rfl rfl (Nat.le_of_ble_eq_true rfl) ?_
  show tpR Md_isVersion 1 h _ _ 0 [some (vR (some o)), some (vI x1)] [] h
  unfold w_Md_isVersion at hw
  refine tq_iload_n dMd_isVersion_0 rfl rfl ?_
  refine tq_iconst (v := (0 : Int32)) dMd_isVersion_1 tni_0 ?_
  refine tq_aload_n dMd_isVersion_2 rfl rfl ?_
  obtain ⟨f1, hw⟩ := hw
  refine te_geti dMd_isVersion_3 fMd_419 rfl rfl f1 ?_
  refine tq_iconst (v := (1 : Int32)) dMd_isVersion_6 tni_1 ?_
  refine tq_isub dMd_isVersion_7 ?_
  refine tq_callS ms_Md_in (dc := 0) (as := [vI x1, vI (0 : Int32), vI ((hI h o 26) - (1 : Int32))]) (rest := []) kMd_158 (Nat.le_of_ble_eq_true rfl) (Nat.le_of_ble_eq_true rfl) rfl rfl (Nat.le_of_ble_eq_true rfl) dMd_isVersion_8 (s_Md_in hw) (fun _ _ hx => False.elim hx) (tk_i fun v3 h2 hw => ?_)
  obtain ⟨f4, hw⟩ := hw
  exact tq_iret rfl (tpB_n f4) dMd_isVersion_11 hw
/-! TModel.newVersion -/
theorem dMd_newVersion_0 : decode (mB Md_newVersion) 0 = .ok (.aload_n 0, 1) := by decide +kernel
theorem dMd_newVersion_1 : decode (mB Md_newVersion) 1 = .ok (.getfield 419, 3) := by decide +kernel
theorem dMd_newVersion_4 : decode (mB Md_newVersion) 4 = .ok (.istore 4, 2) := by decide +kernel
theorem dMd_newVersion_6 : decode (mB Md_newVersion) 6 = .ok (.aload_n 0, 1) := by decide +kernel
theorem dMd_newVersion_7 : decode (mB Md_newVersion) 7 = .ok (.getfield 71, 3) := by decide +kernel
theorem dMd_newVersion_10 : decode (mB Md_newVersion) 10 = .ok (.iload 4, 2) := by decide +kernel
theorem dMd_newVersion_12 : decode (mB Md_newVersion) 12 = .ok (.iload_n 1, 1) := by decide +kernel
theorem dMd_newVersion_13 : decode (mB Md_newVersion) 13 = .ok (.iastore, 1) := by decide +kernel
theorem dMd_newVersion_14 : decode (mB Md_newVersion) 14 = .ok (.aload_n 0, 1) := by decide +kernel
theorem dMd_newVersion_15 : decode (mB Md_newVersion) 15 = .ok (.getfield 74, 3) := by decide +kernel
theorem dMd_newVersion_18 : decode (mB Md_newVersion) 18 = .ok (.iload 4, 2) := by decide +kernel
theorem dMd_newVersion_20 : decode (mB Md_newVersion) 20 = .ok (.iload_n 2, 1) := by decide +kernel
theorem dMd_newVersion_21 : decode (mB Md_newVersion) 21 = .ok (.iastore, 1) := by decide +kernel
theorem dMd_newVersion_22 : decode (mB Md_newVersion) 22 = .ok (.aload_n 0, 1) := by decide +kernel
theorem dMd_newVersion_23 : decode (mB Md_newVersion) 23 = .ok (.getfield 77, 3) := by decide +kernel
theorem dMd_newVersion_26 : decode (mB Md_newVersion) 26 = .ok (.iload 4, 2) := by decide +kernel
theorem dMd_newVersion_28 : decode (mB Md_newVersion) 28 = .ok (.iload_n 3, 1) := by decide +kernel
theorem dMd_newVersion_29 : decode (mB Md_newVersion) 29 = .ok (.iastore, 1) := by decide +kernel
theorem dMd_newVersion_30 : decode (mB Md_newVersion) 30 = .ok (.aload_n 0, 1) := by decide +kernel
theorem dMd_newVersion_31 : decode (mB Md_newVersion) 31 = .ok (.getfield 80, 3) := by decide +kernel
theorem dMd_newVersion_34 : decode (mB Md_newVersion) 34 = .ok (.iload 4, 2) := by decide +kernel
theorem dMd_newVersion_36 : decode (mB Md_newVersion) 36 = .ok (.iload_n 2, 1) := by decide +kernel
theorem dMd_newVersion_37 : decode (mB Md_newVersion) 37 = .ok (.iconst (-1), 1) := by decide +kernel
theorem dMd_newVersion_38 : decode (mB Md_newVersion) 38 = .ok (.if_icmp .ne 7, 3) := by decide +kernel
theorem dMd_newVersion_41 : decode (mB Md_newVersion) 41 = .ok (.iconst 0, 1) := by decide +kernel
theorem dMd_newVersion_42 : decode (mB Md_newVersion) 42 = .ok (.goto 13, 3) := by decide +kernel
theorem dMd_newVersion_45 : decode (mB Md_newVersion) 45 = .ok (.aload_n 0, 1) := by decide +kernel
theorem dMd_newVersion_46 : decode (mB Md_newVersion) 46 = .ok (.getfield 80, 3) := by decide +kernel
theorem dMd_newVersion_49 : decode (mB Md_newVersion) 49 = .ok (.iload_n 2, 1) := by decide +kernel
theorem dMd_newVersion_50 : decode (mB Md_newVersion) 50 = .ok (.iaload, 1) := by decide +kernel
theorem dMd_newVersion_51 : decode (mB Md_newVersion) 51 = .ok (.iconst 1, 1) := by decide +kernel
theorem dMd_newVersion_52 : decode (mB Md_newVersion) 52 = .ok (.iload_n 2, 1) := by decide +kernel
theorem dMd_newVersion_53 : decode (mB Md_newVersion) 53 = .ok (.ishl, 1) := by decide +kernel
theorem dMd_newVersion_54 : decode (mB Md_newVersion) 54 = .ok (.ior, 1) := by decide +kernel
theorem dMd_newVersion_55 : decode (mB Md_newVersion) 55 = .ok (.iastore, 1) := by decide +kernel
theorem dMd_newVersion_56 : decode (mB Md_newVersion) 56 = .ok (.aload_n 0, 1) := by decide +kernel
theorem dMd_newVersion_57 : decode (mB Md_newVersion) 57 = .ok (.getfield 80, 3) := by decide +kernel
theorem dMd_newVersion_60 : decode (mB Md_newVersion) 60 = .ok (.iload 4, 2) := by decide +kernel
theorem dMd_newVersion_62 : decode (mB Md_newVersion) 62 = .ok (.dup2, 1) := by decide +kernel
theorem dMd_newVersion_63 : decode (mB Md_newVersion) 63 = .ok (.iaload, 1) := by decide +kernel
theorem dMd_newVersion_64 : decode (mB Md_newVersion) 64 = .ok (.iload_n 3, 1) := by decide +kernel
theorem dMd_newVersion_65 : decode (mB Md_newVersion) 65 = .ok (.iconst (-1), 1) := by decide +kernel
theorem dMd_newVersion_66 : decode (mB Md_newVersion) 66 = .ok (.if_icmp .ne 7, 3) := by decide +kernel
theorem dMd_newVersion_69 : decode (mB Md_newVersion) 69 = .ok (.iconst 0, 1) := by decide +kernel
theorem dMd_newVersion_70 : decode (mB Md_newVersion) 70 = .ok (.goto 13, 3) := by decide +kernel
theorem dMd_newVersion_73 : decode (mB Md_newVersion) 73 = .ok (.aload_n 0, 1) := by decide +kernel
theorem dMd_newVersion_74 : decode (mB Md_newVersion) 74 = .ok (.getfield 80, 3) := by decide +kernel
theorem dMd_newVersion_77 : decode (mB Md_newVersion) 77 = .ok (.iload_n 3, 1) := by decide +kernel
theorem dMd_newVersion_78 : decode (mB Md_newVersion) 78 = .ok (.iaload, 1) := by decide +kernel
theorem dMd_newVersion_79 : decode (mB Md_newVersion) 79 = .ok (.iconst 1, 1) := by decide +kernel
theorem dMd_newVersion_80 : decode (mB Md_newVersion) 80 = .ok (.iload_n 3, 1) := by decide +kernel
theorem dMd_newVersion_81 : decode (mB Md_newVersion) 81 = .ok (.ishl, 1) := by decide +kernel
theorem dMd_newVersion_82 : decode (mB Md_newVersion) 82 = .ok (.ior, 1) := by decide +kernel
theorem dMd_newVersion_83 : decode (mB Md_newVersion) 83 = .ok (.ior, 1) := by decide +kernel
theorem dMd_newVersion_84 : decode (mB Md_newVersion) 84 = .ok (.iastore, 1) := by decide +kernel
theorem dMd_newVersion_85 : decode (mB Md_newVersion) 85 = .ok (.aload_n 0, 1) := by decide +kernel
theorem dMd_newVersion_86 : decode (mB Md_newVersion) 86 = .ok (.dup, 1) := by decide +kernel
theorem dMd_newVersion_87 : decode (mB Md_newVersion) 87 = .ok (.getfield 419, 3) := by decide +kernel
theorem dMd_newVersion_90 : decode (mB Md_newVersion) 90 = .ok (.iconst 1, 1) := by decide +kernel
theorem dMd_newVersion_91 : decode (mB Md_newVersion) 91 = .ok (.iadd, 1) := by decide +kernel
theorem dMd_newVersion_92 : decode (mB Md_newVersion) 92 = .ok (.putfield 419, 3) := by decide +kernel
theorem dMd_newVersion_95 : decode (mB Md_newVersion) 95 = .ok (.iload 4, 2) := by decide +kernel
theorem dMd_newVersion_97 : decode (mB Md_newVersion) 97 = .ok (.ireturn, 1) := by decide +kernel
def w_Md_newVersion_83 (R : Int32 → tpH → Prop) (o : Nat) (x4 : Int32) (t0 : Int32) (t1 : Int32) (t2 : Int32) (t3 : Option Nat) (h : tpH) : Prop :=
  ∃ a1, t3 = some a1 ∧ hT h a1 = 15 ∧ (vp_in t2 (hL h a1) ∧ (∀ h5, h5 = sI h a1 t2.toNatClampNeg (t1 ||| t0) → (hT h5 o = 14 ∧ (∀ h8, h8 = sI h5 o 26 ((hI h5 o 26) + (1 : Int32)) → (R x4 h8)))))
def w_Md_newVersion_55 (R : Int32 → tpH → Prop) (o : Nat) (x3 : Int32) (x4 : Int32) (t0 : Int32) (t1 : Int32) (t2 : Option Nat) (h : tpH) : Prop :=
  ∃ a1, t2 = some a1 ∧ hT h a1 = 15 ∧ (vp_in t1 (hL h a1) ∧ (∀ h5, h5 = sI h a1 t1.toNatClampNeg t0 → (hT h5 o = 14 ∧ (∃ a8, (hR h5 o 30) = some a8 ∧ hT h5 a8 = 15 ∧ (vp_in x4 (hL h5 a8) ∧ ((¬ x3 = (-1 : Int32) → (vp_in x3 (hL h5 a8) ∧ (w_Md_newVersion_83 R o x4 ((hI h5 a8 x3.toNatClampNeg) ||| ((1 : Int32) <<< (x3 &&& 31))) (hI h5 a8 x4.toNatClampNeg) x4 (hR h5 o 30) h5))) ∧ (x3 = (-1 : Int32) → (w_Md_newVersion_83 R o x4 (0 : Int32) (hI h5 a8 x4.toNatClampNeg) x4 (hR h5 o 30) h5))))))))
def w_Md_newVersion (o : Nat) (x1 : Int32) (x2 : Int32) (x3 : Int32) (h : tpH) (R : Int32 → tpH → Prop) : Prop :=
  hT h o = 14 ∧ (∃ a2, (hR h o 27) = some a2 ∧ hT h a2 = 15 ∧ (vp_in (hI h o 26) (hL h a2) ∧ (∀ h6, h6 = sI h a2 (hI h o 26).toNatClampNeg x1 → (∃ a8, (hR h6 o 28) = some a8 ∧ hT h6 a8 = 15 ∧ (vp_in (hI h o 26) (hL h6 a8) ∧ (∀ h12, h12 = sI h6 a8 (hI h o 26).toNatClampNeg x2 → (∃ a14, (hR h12 o 29) = some a14 ∧ hT h12 a14 = 15 ∧ (vp_in (hI h o 26) (hL h12 a14) ∧ (∀ h18, h18 = sI h12 a14 (hI h o 26).toNatClampNeg x3 → ((¬ x2 = (-1 : Int32) → (∃ a21, (hR h18 o 30) = some a21 ∧ hT h18 a21 = 15 ∧ (vp_in x2 (hL h18 a21) ∧ (w_Md_newVersion_55 R o x3 (hI h o 26) ((hI h18 a21 x2.toNatClampNeg) ||| ((1 : Int32) <<< (x2 &&& 31))) (hI h o 26) (hR h18 o 30) h18)))) ∧ (x2 = (-1 : Int32) → (w_Md_newVersion_55 R o x3 (hI h o 26) (0 : Int32) (hI h o 26) (hR h18 o 30) h18))))))))))))
theorem s_Md_newVersion_83 {h0 : tpH} {av : List tpV} {R : Int32 → tpH → Prop} : ∀ (o : Nat) (x4 : Int32) (t0 : Int32) (t1 : Int32) (t2 : Int32) (t3 : Option Nat) (h : tpH), w_Md_newVersion_83 R o x4 t0 t1 t2 t3 h → tpR Md_newVersion 0 h0 av (tpOi R (fun _ _ => False)) 83 [some (vR (some o)), none, none, none, some (vI x4)] [vI t0, vI t1, vI t2, vR t3] h := by
  intro o x4 t0 t1 t2 t3 h hw
  unfold w_Md_newVersion_83 at hw
  refine tq_ior dMd_newVersion_83 ?_
  obtain ⟨a1, e2, f3, hw⟩ := hw
  obtain ⟨f4, hw⟩ := hw
  refine te_iast dMd_newVersion_84 e2 f3 f4 (fun h5 e6 => ?_)
  have hw := hw h5 e6
  refine tq_aload_n dMd_newVersion_85 rfl rfl ?_
  refine tq_dup dMd_newVersion_86 rfl ?_
  obtain ⟨f7, hw⟩ := hw
  refine te_geti dMd_newVersion_87 fMd_419 rfl rfl f7 ?_
  refine tq_iconst (v := (1 : Int32)) dMd_newVersion_90 tni_1 ?_
  refine tq_iadd dMd_newVersion_91 ?_
  refine te_puti dMd_newVersion_92 pMd_419 rfl rfl rfl f7 ⟨rfl, rfl⟩ (fun h8 e9 => ?_)
  have hw := hw h8 e9
  refine tq_iload dMd_newVersion_95 rfl ?_
  exact tq_iret rfl rfl dMd_newVersion_97 hw
theorem s_Md_newVersion_55 {h0 : tpH} {av : List tpV} {R : Int32 → tpH → Prop} : ∀ (o : Nat) (x3 : Int32) (x4 : Int32) (t0 : Int32) (t1 : Int32) (t2 : Option Nat) (h : tpH), w_Md_newVersion_55 R o x3 x4 t0 t1 t2 h → tpR Md_newVersion 0 h0 av (tpOi R (fun _ _ => False)) 55 [some (vR (some o)), none, none, some (vI x3), some (vI x4)] [vI t0, vI t1, vR t2] h := by
  intro o x3 x4 t0 t1 t2 h hw
  unfold w_Md_newVersion_55 at hw
  obtain ⟨a1, e2, f3, hw⟩ := hw
  obtain ⟨f4, hw⟩ := hw
  refine te_iast dMd_newVersion_55 e2 f3 f4 (fun h5 e6 => ?_)
  have hw := hw h5 e6
  refine tq_aload_n dMd_newVersion_56 rfl rfl ?_
  obtain ⟨f7, hw⟩ := hw
  refine te_getr dMd_newVersion_57 fMd_80 rfl rfl f7 ?_
  refine tq_iload dMd_newVersion_60 rfl ?_
  refine tq_dup2 dMd_newVersion_62 rfl rfl ?_
  obtain ⟨a8, e9, f10, hw⟩ := hw
  obtain ⟨f11, hw⟩ := hw
  refine te_iald dMd_newVersion_63 e9 (Or.inl f10) f11 ?_
  refine tq_iload_n dMd_newVersion_64 rfl rfl ?_
  refine tq_iconst (v := (-1 : Int32)) dMd_newVersion_65 tni_m1 ?_
  refine tq_icmpne (tgt := 73) dMd_newVersion_66 (by decide) (fun c12 => ?_) (fun c12 => ?_)
  · have hw := hw.1 c12
    refine tq_aload_n dMd_newVersion_73 rfl rfl ?_
    refine te_getr dMd_newVersion_74 fMd_80 rfl rfl f7 ?_
    refine tq_iload_n dMd_newVersion_77 rfl rfl ?_
    obtain ⟨f13, hw⟩ := hw
    refine te_iald dMd_newVersion_78 e9 (Or.inl f10) f13 ?_
    refine tq_iconst (v := (1 : Int32)) dMd_newVersion_79 tni_1 ?_
    refine tq_iload_n dMd_newVersion_80 rfl rfl ?_
    refine tq_ishl dMd_newVersion_81 ?_
    refine tq_ior dMd_newVersion_82 ?_
    refine tpR.fo (ls' := [some (vR (some o)), none, none, none, some (vI x4)]) ?_ (And.intro rfl (And.intro rfl trivial))
    exact s_Md_newVersion_83 _ _ _ _ _ _ _ hw
  · have hw := hw.2 c12
    refine tq_iconst (v := (0 : Int32)) dMd_newVersion_69 tni_0 ?_
    refine tq_goto (tgt := 83) dMd_newVersion_70 (by decide) ?_
    refine tpR.fo (ls' := [some (vR (some o)), none, none, none, some (vI x4)]) ?_ (And.intro rfl (And.intro rfl trivial))
    exact s_Md_newVersion_83 _ _ _ _ _ _ _ hw
theorem s_Md_newVersion {o : Nat} {x1 : Int32} {x2 : Int32} {x3 : Int32} {h : tpH} {R : Int32 → tpH → Prop} (hw : w_Md_newVersion o x1 x2 x3 h R) : tpC Md_newVersion 0 [vR (some o), vI x1, vI x2, vI x3] h (tpOi R (fun _ _ => False)) := by
  refine tpC_of mv_Md_newVersion.2.2.2.1 rfl rfl (Nat.le_of_ble_eq_true rfl) ?_
  show tpR Md_newVersion 0 h _ _ 0 [some (vR (some o)), some (vI x1), some (vI x2), some (vI x3), none] [] h
  unfold w_Md_newVersion at hw
  refine tq_aload_n dMd_newVersion_0 rfl rfl ?_
  obtain ⟨f1, hw⟩ := hw
  refine te_geti dMd_newVersion_1 fMd_419 rfl rfl f1 ?_
  refine tq_istore (ls' := [some (vR (some o)), some (vI x1), some (vI x2), some (vI x3), some (vI (hI h o 26))]) dMd_newVersion_4 (Nat.le_of_ble_eq_true rfl) rfl ?_
  refine tq_aload_n dMd_newVersion_6 rfl rfl ?_
  refine te_getr dMd_newVersion_7 fMd_71 rfl rfl f1 ?_
  refine tq_iload dMd_newVersion_10 rfl ?_
  refine tq_iload_n dMd_newVersion_12 rfl rfl ?_
  obtain ⟨a2, e3, f4, hw⟩ := hw
  obtain ⟨f5, hw⟩ := hw
  refine te_iast dMd_newVersion_13 e3 f4 f5 (fun h6 e7 => ?_)
  have hw := hw h6 e7
  refine tq_aload_n dMd_newVersion_14 rfl rfl ?_
  refine te_getr dMd_newVersion_15 fMd_74 rfl rfl (by rw [e7]; exact f1) ?_
  refine tq_iload dMd_newVersion_18 rfl ?_
  refine tq_iload_n dMd_newVersion_20 rfl rfl ?_
  obtain ⟨a8, e9, f10, hw⟩ := hw
  obtain ⟨f11, hw⟩ := hw
  refine te_iast dMd_newVersion_21 e9 f10 f11 (fun h12 e13 => ?_)
  have hw := hw h12 e13
  refine tq_aload_n dMd_newVersion_22 rfl rfl ?_
  refine te_getr dMd_newVersion_23 fMd_77 rfl rfl (by rw [e13]; exact (by rw [e7]; exact f1)) ?_
  refine tq_iload dMd_newVersion_26 rfl ?_
  refine tq_iload_n dMd_newVersion_28 rfl rfl ?_
  obtain ⟨a14, e15, f16, hw⟩ := hw
  obtain ⟨f17, hw⟩ := hw
  refine te_iast dMd_newVersion_29 e15 f16 f17 (fun h18 e19 => ?_)
  have hw := hw h18 e19
  refine tq_aload_n dMd_newVersion_30 rfl rfl ?_
  refine te_getr dMd_newVersion_31 fMd_80 rfl rfl (by rw [e19]; exact (by rw [e13]; exact (by rw [e7]; exact f1))) ?_
  refine tq_iload dMd_newVersion_34 rfl ?_
  refine tq_iload_n dMd_newVersion_36 rfl rfl ?_
  refine tq_iconst (v := (-1 : Int32)) dMd_newVersion_37 tni_m1 ?_
  refine tq_icmpne (tgt := 45) dMd_newVersion_38 (by decide) (fun c20 => ?_) (fun c20 => ?_)
  · have hw := hw.1 c20
    refine tq_aload_n dMd_newVersion_45 rfl rfl ?_
    refine te_getr dMd_newVersion_46 fMd_80 rfl rfl (by rw [e19]; exact (by rw [e13]; exact (by rw [e7]; exact f1))) ?_
    refine tq_iload_n dMd_newVersion_49 rfl rfl ?_
    obtain ⟨a21, e22, f23, hw⟩ := hw
    obtain ⟨f24, hw⟩ := hw
    refine te_iald dMd_newVersion_50 e22 (Or.inl f23) f24 ?_
    refine tq_iconst (v := (1 : Int32)) dMd_newVersion_51 tni_1 ?_
    refine tq_iload_n dMd_newVersion_52 rfl rfl ?_
    refine tq_ishl dMd_newVersion_53 ?_
    refine tq_ior dMd_newVersion_54 ?_
    refine tpR.fo (ls' := [some (vR (some o)), none, none, some (vI x3), some (vI (hI h o 26))]) ?_ (And.intro rfl (And.intro rfl (And.intro rfl trivial)))
    exact s_Md_newVersion_55 _ _ _ _ _ _ _ hw
  · have hw := hw.2 c20
    refine tq_iconst (v := (0 : Int32)) dMd_newVersion_41 tni_0 ?_
    refine tq_goto (tgt := 55) dMd_newVersion_42 (by decide) ?_
    refine tpR.fo (ls' := [some (vR (some o)), none, none, some (vI x3), some (vI (hI h o 26))]) ?_ (And.intro rfl (And.intro rfl (And.intro rfl trivial)))
    exact s_Md_newVersion_55 _ _ _ _ _ _ _ hw
