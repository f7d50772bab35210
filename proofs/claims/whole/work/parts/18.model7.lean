/-! TModel.hasNode -/
theorem dMd_hasNode_0 : decode (mB Md_hasNode) 0 = .ok (.aload_n 0, 1) := by decide +kernel
theorem dMd_hasNode_1 : decode (mB Md_hasNode) 1 = .ok (.getfield 71, 3) := by decide +kernel
theorem dMd_hasNode_4 : decode (mB Md_hasNode) 4 = .ok (.iload_n 1, 1) := by decide +kernel
theorem dMd_hasNode_5 : decode (mB Md_hasNode) 5 = .ok (.iaload, 1) := by decide +kernel
theorem dMd_hasNode_6 : decode (mB Md_hasNode) 6 = .ok (.istore 4, 2) := by decide +kernel
theorem dMd_hasNode_8 : decode (mB Md_hasNode) 8 = .ok (.iconst 0, 1) := by decide +kernel
theorem dMd_hasNode_9 : decode (mB Md_hasNode) 9 = .ok (.istore 5, 2) := by decide +kernel
theorem dMd_hasNode_11 : decode (mB Md_hasNode) 11 = .ok (.iconst 0, 1) := by decide +kernel
theorem dMd_hasNode_12 : decode (mB Md_hasNode) 12 = .ok (.istore 6, 2) := by decide +kernel
theorem dMd_hasNode_14 : decode (mB Md_hasNode) 14 = .ok (.iload 6, 2) := by decide +kernel
theorem dMd_hasNode_16 : decode (mB Md_hasNode) 16 = .ok (.aload_n 0, 1) := by decide +kernel
theorem dMd_hasNode_17 : decode (mB Md_hasNode) 17 = .ok (.getfield 162, 3) := by decide +kernel
theorem dMd_hasNode_20 : decode (mB Md_hasNode) 20 = .ok (.if_icmp .ge 55, 3) := by decide +kernel
theorem dMd_hasNode_23 : decode (mB Md_hasNode) 23 = .ok (.iload 5, 2) := by decide +kernel
theorem dMd_hasNode_25 : decode (mB Md_hasNode) 25 = .ok (.ifCond .ne 37, 3) := by decide +kernel
theorem dMd_hasNode_28 : decode (mB Md_hasNode) 28 = .ok (.aload_n 0, 1) := by decide +kernel
theorem dMd_hasNode_29 : decode (mB Md_hasNode) 29 = .ok (.iload 4, 2) := by decide +kernel
theorem dMd_hasNode_31 : decode (mB Md_hasNode) 31 = .ok (.iload 6, 2) := by decide +kernel
theorem dMd_hasNode_33 : decode (mB Md_hasNode) 33 = .ok (.invokevirtual 212, 3) := by decide +kernel
theorem dMd_hasNode_36 : decode (mB Md_hasNode) 36 = .ok (.ifCond .eq 30, 3) := by decide +kernel
theorem dMd_hasNode_39 : decode (mB Md_hasNode) 39 = .ok (.aload_n 0, 1) := by decide +kernel
theorem dMd_hasNode_40 : decode (mB Md_hasNode) 40 = .ok (.getfield 7, 3) := by decide +kernel
theorem dMd_hasNode_43 : decode (mB Md_hasNode) 43 = .ok (.iload 6, 2) := by decide +kernel
theorem dMd_hasNode_45 : decode (mB Md_hasNode) 45 = .ok (.iaload, 1) := by decide +kernel
theorem dMd_hasNode_46 : decode (mB Md_hasNode) 46 = .ok (.iload_n 2, 1) := by decide +kernel
theorem dMd_hasNode_47 : decode (mB Md_hasNode) 47 = .ok (.if_icmp .ne 19, 3) := by decide +kernel
theorem dMd_hasNode_50 : decode (mB Md_hasNode) 50 = .ok (.aload_n 0, 1) := by decide +kernel
theorem dMd_hasNode_51 : decode (mB Md_hasNode) 51 = .ok (.iload 4, 2) := by decide +kernel
theorem dMd_hasNode_53 : decode (mB Md_hasNode) 53 = .ok (.iload 6, 2) := by decide +kernel
theorem dMd_hasNode_55 : decode (mB Md_hasNode) 55 = .ok (.invokevirtual 226, 3) := by decide +kernel
theorem dMd_hasNode_58 : decode (mB Md_hasNode) 58 = .ok (.iload_n 3, 1) := by decide +kernel
theorem dMd_hasNode_59 : decode (mB Md_hasNode) 59 = .ok (.if_icmp .ne 7, 3) := by decide +kernel
theorem dMd_hasNode_62 : decode (mB Md_hasNode) 62 = .ok (.iconst 1, 1) := by decide +kernel
theorem dMd_hasNode_63 : decode (mB Md_hasNode) 63 = .ok (.goto 4, 3) := by decide +kernel
theorem dMd_hasNode_66 : decode (mB Md_hasNode) 66 = .ok (.iconst 0, 1) := by decide +kernel
theorem dMd_hasNode_67 : decode (mB Md_hasNode) 67 = .ok (.istore 5, 2) := by decide +kernel
theorem dMd_hasNode_69 : decode (mB Md_hasNode) 69 = .ok (.iinc 6 1, 3) := by decide +kernel
theorem dMd_hasNode_72 : decode (mB Md_hasNode) 72 = .ok (.goto (-58), 3) := by decide +kernel
theorem dMd_hasNode_75 : decode (mB Md_hasNode) 75 = .ok (.iload 5, 2) := by decide +kernel
theorem dMd_hasNode_77 : decode (mB Md_hasNode) 77 = .ok (.ireturn, 1) := by decide +kernel
def b_Md_hasNode_14 (R : Int32 → tpH → Prop) (Y : Nat → Int32 → Int32 → Int32 → Int32 → Int32 → tpH → Prop) (o : Nat) (x2 : Int32) (x3 : Int32) (x4 : Int32) (x5 : Int32) (x6 : Int32) (h : tpH) : Prop :=
  hT h o = 14 ∧ (((hI h o 0) ≤ x6 → (tpB x5 ∧ (R x5 h))) ∧ (¬ (hI h o 0) ≤ x6 → ((¬ x5 = 0 → (Y o x2 x3 x4 (1 : Int32) (x6 + (1 : Int32)) h)) ∧ (x5 = 0 → (w_Md_has o x4 x6 h (fun v6 h5 => (v6 = 0 → (Y o x2 x3 x4 (0 : Int32) (x6 + (1 : Int32)) h5)) ∧ (¬ v6 = 0 → (hT h5 o = 14 ∧ (∃ a9, (hR h5 o 1) = some a9 ∧ hT h5 a9 = 15 ∧ (vp_in x6 (hL h5 a9) ∧ ((¬ (hI h5 a9 x6.toNatClampNeg) = x2 → (Y o x2 x3 x4 (0 : Int32) (x6 + (1 : Int32)) h5)) ∧ ((hI h5 a9 x6.toNatClampNeg) = x2 → (w_Md_valueIn o x4 x6 h5 (fun v15 h14 => (¬ v15 = x3 → (Y o x2 x3 x4 (0 : Int32) (x6 + (1 : Int32)) h14)) ∧ (v15 = x3 → (Y o x2 x3 x4 (1 : Int32) (x6 + (1 : Int32)) h14))))))))))))))))
def w_Md_hasNode_14 (R : Int32 → tpH → Prop) : Nat → Nat → Int32 → Int32 → Int32 → Int32 → Int32 → tpH → Prop
  | 0 => fun _ _ _ _ _ _ _ => False
  | n + 1 => b_Md_hasNode_14 R (w_Md_hasNode_14 R n)
def w_Md_hasNode (o : Nat) (x1 : Int32) (x2 : Int32) (x3 : Int32) (h : tpH) (R : Int32 → tpH → Prop) : Prop :=
  hT h o = 14 ∧ (∃ a2, (hR h o 27) = some a2 ∧ hT h a2 = 15 ∧ (vp_in x1 (hL h a2) ∧ (∃ n, w_Md_hasNode_14 R n o x2 x3 (hI h a2 x1.toNatClampNeg) (0 : Int32) (0 : Int32) h)))
theorem s_Md_hasNode_14 {h0 : tpH} {av : List tpV} {R : Int32 → tpH → Prop} : ∀ (n : Nat) (o : Nat) (x2 : Int32) (x3 : Int32) (x4 : Int32) (x5 : Int32) (x6 : Int32) (h : tpH), w_Md_hasNode_14 R n o x2 x3 x4 x5 x6 h → tpR Md_hasNode 3 h0 av (tpOi R (fun _ _ => False)) 14 [some (vR (some o)), none, some (vI x2), some (vI x3), some (vI x4), some (vI x5), some (vI x6)] [] h := by
  intro n
  induction n with
  | zero => intro o x2 x3 x4 x5 x6 h hw; exact False.elim hw
  | succ n ih =>
    intro o x2 x3 x4 x5 x6 h hw
    change b_Md_hasNode_14 R (w_Md_hasNode_14 R n) o x2 x3 x4 x5 x6 h at hw
    unfold b_Md_hasNode_14 at hw
    refine tq_iload dMd_hasNode_14 rfl ?_
    refine tq_aload_n dMd_hasNode_16 rfl rfl ?_
    obtain ⟨f1, hw⟩ := hw
    refine te_geti dMd_hasNode_17 fMd_162 rfl rfl f1 ?_
    refine tq_icmpge (tgt := 75) dMd_hasNode_20 (by decide) (fun c2 => ?_) (fun c2 => ?_)
    · have hw := hw.1 c2
      refine tq_iload dMd_hasNode_75 rfl ?_
      obtain ⟨f3, hw⟩ := hw
      exact tq_iret rfl (tpB_n f3) dMd_hasNode_77 hw
    · have hw := hw.2 c2
      refine tq_iload dMd_hasNode_23 rfl ?_
      refine tq_ifne (tgt := 62) dMd_hasNode_25 (by decide) (fun c4 => ?_) (fun c4 => ?_)
      · have hw := hw.1 c4
        refine tq_iconst (v := (1 : Int32)) dMd_hasNode_62 tni_1 ?_
        refine tq_goto (tgt := 67) dMd_hasNode_63 (by decide) ?_
        refine tq_istore (ls' := [some (vR (some o)), none, some (vI x2), some (vI x3), some (vI x4), some (vI (1 : Int32)), some (vI x6)]) dMd_hasNode_67 (Nat.le_of_ble_eq_true rfl) rfl ?_
        refine tq_inc (k := (1 : Int32)) (ls' := [some (vR (some o)), none, some (vI x2), some (vI x3), some (vI x4), some (vI (1 : Int32)), some (vI (x6 + (1 : Int32)))]) dMd_hasNode_69 rfl tni_1 (Nat.le_of_ble_eq_true rfl) rfl ?_
        refine tq_goto (tgt := 14) dMd_hasNode_72 (by decide) ?_
        refine tpR.fo (ls' := [some (vR (some o)), none, some (vI x2), some (vI x3), some (vI x4), some (vI (1 : Int32)), some (vI (x6 + (1 : Int32)))]) ?_ (And.intro rfl (And.intro rfl (And.intro rfl (And.intro rfl (And.intro rfl (And.intro rfl trivial))))))
        exact ih _ _ _ _ _ _ _ hw
      · have hw := hw.2 c4
        refine tq_aload_n dMd_hasNode_28 rfl rfl ?_
        refine tq_iload dMd_hasNode_29 rfl ?_
        refine tq_iload dMd_hasNode_31 rfl ?_
        refine te_callV mv_Md_has (ci := 13) (dc := 2) (as := [vI x4, vI x6]) (rest := []) kMd_212 rfl (Nat.le_of_ble_eq_true rfl) (Nat.le_of_ble_eq_true rfl) rfl rfl rfl f1 (Nat.le_of_ble_eq_true rfl) dMd_hasNode_33 (s_Md_has hw) (fun _ _ hx => False.elim hx) (tk_i fun v6 h5 hw => ?_)
        refine tq_ifeq (tgt := 66) dMd_hasNode_36 (by decide) (fun c7 => ?_) (fun c7 => ?_)
        · have hw := hw.1 c7
          refine tq_iconst (v := (0 : Int32)) dMd_hasNode_66 tni_0 ?_
          refine tq_istore (ls' := [some (vR (some o)), none, some (vI x2), some (vI x3), some (vI x4), some (vI (0 : Int32)), some (vI x6)]) dMd_hasNode_67 (Nat.le_of_ble_eq_true rfl) rfl ?_
          refine tq_inc (k := (1 : Int32)) (ls' := [some (vR (some o)), none, some (vI x2), some (vI x3), some (vI x4), some (vI (0 : Int32)), some (vI (x6 + (1 : Int32)))]) dMd_hasNode_69 rfl tni_1 (Nat.le_of_ble_eq_true rfl) rfl ?_
          refine tq_goto (tgt := 14) dMd_hasNode_72 (by decide) ?_
          refine tpR.fo (ls' := [some (vR (some o)), none, some (vI x2), some (vI x3), some (vI x4), some (vI (0 : Int32)), some (vI (x6 + (1 : Int32)))]) ?_ (And.intro rfl (And.intro rfl (And.intro rfl (And.intro rfl (And.intro rfl (And.intro rfl trivial))))))
          exact ih _ _ _ _ _ _ _ hw
        · have hw := hw.2 c7
          refine tq_aload_n dMd_hasNode_39 rfl rfl ?_
          obtain ⟨f8, hw⟩ := hw
          refine te_getr dMd_hasNode_40 fMd_7 rfl rfl f8 ?_
          refine tq_iload dMd_hasNode_43 rfl ?_
          obtain ⟨a9, e10, f11, hw⟩ := hw
          obtain ⟨f12, hw⟩ := hw
          refine te_iald dMd_hasNode_45 e10 (Or.inl f11) f12 ?_
          refine tq_iload_n dMd_hasNode_46 rfl rfl ?_
          refine tq_icmpne (tgt := 66) dMd_hasNode_47 (by decide) (fun c13 => ?_) (fun c13 => ?_)
          · have hw := hw.1 c13
            refine tq_iconst (v := (0 : Int32)) dMd_hasNode_66 tni_0 ?_
            refine tq_istore (ls' := [some (vR (some o)), none, some (vI x2), some (vI x3), some (vI x4), some (vI (0 : Int32)), some (vI x6)]) dMd_hasNode_67 (Nat.le_of_ble_eq_true rfl) rfl ?_
            refine tq_inc (k := (1 : Int32)) (ls' := [some (vR (some o)), none, some (vI x2), some (vI x3), some (vI x4), some (vI (0 : Int32)), some (vI (x6 + (1 : Int32)))]) dMd_hasNode_69 rfl tni_1 (Nat.le_of_ble_eq_true rfl) rfl ?_
            refine tq_goto (tgt := 14) dMd_hasNode_72 (by decide) ?_
            refine tpR.fo (ls' := [some (vR (some o)), none, some (vI x2), some (vI x3), some (vI x4), some (vI (0 : Int32)), some (vI (x6 + (1 : Int32)))]) ?_ (And.intro rfl (And.intro rfl (And.intro rfl (And.intro rfl (And.intro rfl (And.intro rfl trivial))))))
            exact ih _ _ _ _ _ _ _ hw
          · have hw := hw.2 c13
            refine tq_aload_n dMd_hasNode_50 rfl rfl ?_
            refine tq_iload dMd_hasNode_51 rfl ?_
            refine tq_iload dMd_hasNode_53 rfl ?_
            refine te_callV mv_Md_valueIn (ci := 13) (dc := 0) (as := [vI x4, vI x6]) (rest := []) kMd_226 rfl (Nat.le_of_ble_eq_true rfl) (Nat.le_of_ble_eq_true rfl) rfl rfl rfl f8 (Nat.le_of_ble_eq_true rfl) dMd_hasNode_55 (s_Md_valueIn hw) (fun _ _ hx => False.elim hx) (tk_i fun v15 h14 hw => ?_)
            refine tq_iload_n dMd_hasNode_58 rfl rfl ?_
            refine tq_icmpne (tgt := 66) dMd_hasNode_59 (by decide) (fun c16 => ?_) (fun c16 => ?_)
            · have hw := hw.1 c16
              refine tq_iconst (v := (0 : Int32)) dMd_hasNode_66 tni_0 ?_
              refine tq_istore (ls' := [some (vR (some o)), none, some (vI x2), some (vI x3), some (vI x4), some (vI (0 : Int32)), some (vI x6)]) dMd_hasNode_67 (Nat.le_of_ble_eq_true rfl) rfl ?_
              refine tq_inc (k := (1 : Int32)) (ls' := [some (vR (some o)), none, some (vI x2), some (vI x3), some (vI x4), some (vI (0 : Int32)), some (vI (x6 + (1 : Int32)))]) dMd_hasNode_69 rfl tni_1 (Nat.le_of_ble_eq_true rfl) rfl ?_
              refine tq_goto (tgt := 14) dMd_hasNode_72 (by decide) ?_
              refine tpR.fo (ls' := [some (vR (some o)), none, some (vI x2), some (vI x3), some (vI x4), some (vI (0 : Int32)), some (vI (x6 + (1 : Int32)))]) ?_ (And.intro rfl (And.intro rfl (And.intro rfl (And.intro rfl (And.intro rfl (And.intro rfl trivial))))))
              exact ih _ _ _ _ _ _ _ hw
            · have hw := hw.2 c16
              refine tq_iconst (v := (1 : Int32)) dMd_hasNode_62 tni_1 ?_
              refine tq_goto (tgt := 67) dMd_hasNode_63 (by decide) ?_
              refine tq_istore (ls' := [some (vR (some o)), none, some (vI x2), some (vI x3), some (vI x4), some (vI (1 : Int32)), some (vI x6)]) dMd_hasNode_67 (Nat.le_of_ble_eq_true rfl) rfl ?_
              refine tq_inc (k := (1 : Int32)) (ls' := [some (vR (some o)), none, some (vI x2), some (vI x3), some (vI x4), some (vI (1 : Int32)), some (vI (x6 + (1 : Int32)))]) dMd_hasNode_69 rfl tni_1 (Nat.le_of_ble_eq_true rfl) rfl ?_
              refine tq_goto (tgt := 14) dMd_hasNode_72 (by decide) ?_
              refine tpR.fo (ls' := [some (vR (some o)), none, some (vI x2), some (vI x3), some (vI x4), some (vI (1 : Int32)), some (vI (x6 + (1 : Int32)))]) ?_ (And.intro rfl (And.intro rfl (And.intro rfl (And.intro rfl (And.intro rfl (And.intro rfl trivial))))))
              exact ih _ _ _ _ _ _ _ hw
theorem s_Md_hasNode {o : Nat} {x1 : Int32} {x2 : Int32} {x3 : Int32} {h : tpH} {R : Int32 → tpH → Prop} (hw : w_Md_hasNode o x1 x2 x3 h R) : tpC Md_hasNode 3 [vR (some o), vI x1, vI x2, vI x3] h (tpOi R (fun _ _ => False)) := by
  refine tpC_of mv_Md_hasNode.2.2.2.1 rfl rfl (Nat.le_of_ble_eq_true rfl) ?_
  show tpR Md_hasNode 3 h _ _ 0 [some (vR (some o)), some (vI x1), some (vI x2), some (vI x3), none, none, none] [] h
  unfold w_Md_hasNode at hw
  refine tq_aload_n dMd_hasNode_0 rfl rfl ?_
  obtain ⟨f1, hw⟩ := hw
  refine te_getr dMd_hasNode_1 fMd_71 rfl rfl f1 ?_
  refine tq_iload_n dMd_hasNode_4 rfl rfl ?_
  obtain ⟨a2, e3, f4, hw⟩ := hw
  obtain ⟨f5, hw⟩ := hw
  refine te_iald dMd_hasNode_5 e3 (Or.inl f4) f5 ?_
  refine tq_istore (ls' := [some (vR (some o)), some (vI x1), some (vI x2), some (vI x3), some (vI (hI h a2 x1.toNatClampNeg)), none, none]) dMd_hasNode_6 (Nat.le_of_ble_eq_true rfl) rfl ?_
  refine tq_iconst (v := (0 : Int32)) dMd_hasNode_8 tni_0 ?_
  refine tq_istore (ls' := [some (vR (some o)), some (vI x1), some (vI x2), some (vI x3), some (vI (hI h a2 x1.toNatClampNeg)), some (vI (0 : Int32)), none]) dMd_hasNode_9 (Nat.le_of_ble_eq_true rfl) rfl ?_
  refine tq_iconst (v := (0 : Int32)) dMd_hasNode_11 tni_0 ?_
  refine tq_istore (ls' := [some (vR (some o)), some (vI x1), some (vI x2), some (vI x3), some (vI (hI h a2 x1.toNatClampNeg)), some (vI (0 : Int32)), some (vI (0 : Int32))]) dMd_hasNode_12 (Nat.le_of_ble_eq_true rfl) rfl ?_
  refine tpR.fo (ls' := [some (vR (some o)), none, some (vI x2), some (vI x3), some (vI (hI h a2 x1.toNatClampNeg)), some (vI (0 : Int32)), some (vI (0 : Int32))]) ?_ (And.intro rfl (And.intro rfl (And.intro rfl (And.intro rfl (And.intro rfl (And.intro rfl trivial))))))
  obtain ⟨n, hw⟩ := hw
  exact s_Md_hasNode_14 n _ _ _ _ _ _ _ hw
/-! TModel.look -/
theorem dMd_look_0 : decode (mB Md_look) 0 = .ok (.aload_n 0, 1) := by decide +kernel
theorem dMd_look_1 : decode (mB Md_look) 1 = .ok (.aload_n 0, 1) := by decide +kernel
theorem dMd_look_2 : decode (mB Md_look) 2 = .ok (.iload_n 1, 1) := by decide +kernel
theorem dMd_look_3 : decode (mB Md_look) 3 = .ok (.invokevirtual 422, 3) := by decide +kernel
theorem dMd_look_6 : decode (mB Md_look) 6 = .ok (.ifCond .eq 11, 3) := by decide +kernel
theorem dMd_look_9 : decode (mB Md_look) 9 = .ok (.aload_n 0, 1) := by decide +kernel
theorem dMd_look_10 : decode (mB Md_look) 10 = .ok (.iload_n 2, 1) := by decide +kernel
theorem dMd_look_11 : decode (mB Md_look) 11 = .ok (.invokevirtual 422, 3) := by decide +kernel
theorem dMd_look_14 : decode (mB Md_look) 14 = .ok (.ifCond .ne 7, 3) := by decide +kernel
theorem dMd_look_17 : decode (mB Md_look) 17 = .ok (.iconst 1, 1) := by decide +kernel
theorem dMd_look_18 : decode (mB Md_look) 18 = .ok (.goto 28, 3) := by decide +kernel
theorem dMd_look_21 : decode (mB Md_look) 21 = .ok (.iload_n 3, 1) := by decide +kernel
theorem dMd_look_22 : decode (mB Md_look) 22 = .ok (.iconst 0, 1) := by decide +kernel
theorem dMd_look_23 : decode (mB Md_look) 23 = .ok (.iconst 5, 1) := by decide +kernel
theorem dMd_look_24 : decode (mB Md_look) 24 = .ok (.invokestatic 158, 3) := by decide +kernel
theorem dMd_look_27 : decode (mB Md_look) 27 = .ok (.ifCond .eq 14, 3) := by decide +kernel
theorem dMd_look_30 : decode (mB Md_look) 30 = .ok (.iload 4, 2) := by decide +kernel
theorem dMd_look_32 : decode (mB Md_look) 32 = .ok (.iconst 0, 1) := by decide +kernel
theorem dMd_look_33 : decode (mB Md_look) 33 = .ok (.bipush 99, 2) := by decide +kernel
theorem dMd_look_35 : decode (mB Md_look) 35 = .ok (.invokestatic 158, 3) := by decide +kernel
theorem dMd_look_38 : decode (mB Md_look) 38 = .ok (.ifCond .ne 7, 3) := by decide +kernel
theorem dMd_look_41 : decode (mB Md_look) 41 = .ok (.iconst 2, 1) := by decide +kernel
theorem dMd_look_42 : decode (mB Md_look) 42 = .ok (.goto 4, 3) := by decide +kernel
theorem dMd_look_45 : decode (mB Md_look) 45 = .ok (.iconst 0, 1) := by decide +kernel
theorem dMd_look_46 : decode (mB Md_look) 46 = .ok (.putfield 151, 3) := by decide +kernel
theorem dMd_look_49 : decode (mB Md_look) 49 = .ok (.aload_n 0, 1) := by decide +kernel
theorem dMd_look_50 : decode (mB Md_look) 50 = .ok (.getfield 151, 3) := by decide +kernel
theorem dMd_look_53 : decode (mB Md_look) 53 = .ok (.ifCond .le 5, 3) := by decide +kernel
theorem dMd_look_56 : decode (mB Md_look) 56 = .ok (.iconst 0, 1) := by decide +kernel
theorem dMd_look_57 : decode (mB Md_look) 57 = .ok (.ireturn, 1) := by decide +kernel
theorem dMd_look_58 : decode (mB Md_look) 58 = .ok (.iconst 0, 1) := by decide +kernel
theorem dMd_look_59 : decode (mB Md_look) 59 = .ok (.istore 5, 2) := by decide +kernel
theorem dMd_look_61 : decode (mB Md_look) 61 = .ok (.iload_n 2, 1) := by decide +kernel
theorem dMd_look_62 : decode (mB Md_look) 62 = .ok (.istore 6, 2) := by decide +kernel
theorem dMd_look_64 : decode (mB Md_look) 64 = .ok (.iload 6, 2) := by decide +kernel
theorem dMd_look_66 : decode (mB Md_look) 66 = .ok (.iload_n 1, 1) := by decide +kernel
theorem dMd_look_67 : decode (mB Md_look) 67 = .ok (.if_icmp .eq 33, 3) := by decide +kernel
theorem dMd_look_70 : decode (mB Md_look) 70 = .ok (.iload 6, 2) := by decide +kernel
theorem dMd_look_72 : decode (mB Md_look) 72 = .ok (.iconst (-1), 1) := by decide +kernel
theorem dMd_look_73 : decode (mB Md_look) 73 = .ok (.if_icmp .eq 27, 3) := by decide +kernel
theorem dMd_look_76 : decode (mB Md_look) 76 = .ok (.aload_n 0, 1) := by decide +kernel
theorem dMd_look_77 : decode (mB Md_look) 77 = .ok (.getfield 148, 3) := by decide +kernel
theorem dMd_look_80 : decode (mB Md_look) 80 = .ok (.iload 5, 2) := by decide +kernel
theorem dMd_look_82 : decode (mB Md_look) 82 = .ok (.iload 6, 2) := by decide +kernel
theorem dMd_look_84 : decode (mB Md_look) 84 = .ok (.iastore, 1) := by decide +kernel
theorem dMd_look_85 : decode (mB Md_look) 85 = .ok (.iinc 5 1, 3) := by decide +kernel
theorem dMd_look_88 : decode (mB Md_look) 88 = .ok (.aload_n 0, 1) := by decide +kernel
theorem dMd_look_89 : decode (mB Md_look) 89 = .ok (.getfield 74, 3) := by decide +kernel
theorem dMd_look_92 : decode (mB Md_look) 92 = .ok (.iload 6, 2) := by decide +kernel
theorem dMd_look_94 : decode (mB Md_look) 94 = .ok (.iaload, 1) := by decide +kernel
theorem dMd_look_95 : decode (mB Md_look) 95 = .ok (.istore 6, 2) := by decide +kernel
theorem dMd_look_97 : decode (mB Md_look) 97 = .ok (.goto (-33), 3) := by decide +kernel
theorem dMd_look_100 : decode (mB Md_look) 100 = .ok (.aload_n 0, 1) := by decide +kernel
theorem dMd_look_101 : decode (mB Md_look) 101 = .ok (.iload 6, 2) := by decide +kernel
theorem dMd_look_103 : decode (mB Md_look) 103 = .ok (.iconst (-1), 1) := by decide +kernel
theorem dMd_look_104 : decode (mB Md_look) 104 = .ok (.if_icmp .ne 7, 3) := by decide +kernel
theorem dMd_look_107 : decode (mB Md_look) 107 = .ok (.iconst 3, 1) := by decide +kernel
theorem dMd_look_108 : decode (mB Md_look) 108 = .ok (.goto 4, 3) := by decide +kernel
theorem dMd_look_111 : decode (mB Md_look) 111 = .ok (.iconst 0, 1) := by decide +kernel
theorem dMd_look_112 : decode (mB Md_look) 112 = .ok (.putfield 151, 3) := by decide +kernel
theorem dMd_look_115 : decode (mB Md_look) 115 = .ok (.aload_n 0, 1) := by decide +kernel
theorem dMd_look_116 : decode (mB Md_look) 116 = .ok (.getfield 151, 3) := by decide +kernel
theorem dMd_look_119 : decode (mB Md_look) 119 = .ok (.ifCond .le 5, 3) := by decide +kernel
theorem dMd_look_122 : decode (mB Md_look) 122 = .ok (.iconst 0, 1) := by decide +kernel
theorem dMd_look_123 : decode (mB Md_look) 123 = .ok (.ireturn, 1) := by decide +kernel
theorem dMd_look_124 : decode (mB Md_look) 124 = .ok (.aload_n 0, 1) := by decide +kernel
theorem dMd_look_125 : decode (mB Md_look) 125 = .ok (.getfield 148, 3) := by decide +kernel
theorem dMd_look_128 : decode (mB Md_look) 128 = .ok (.iload 5, 2) := by decide +kernel
theorem dMd_look_130 : decode (mB Md_look) 130 = .ok (.iload_n 1, 1) := by decide +kernel
theorem dMd_look_131 : decode (mB Md_look) 131 = .ok (.iastore, 1) := by decide +kernel
theorem dMd_look_132 : decode (mB Md_look) 132 = .ok (.iload 5, 2) := by decide +kernel
theorem dMd_look_134 : decode (mB Md_look) 134 = .ok (.istore 7, 2) := by decide +kernel
theorem dMd_look_136 : decode (mB Md_look) 136 = .ok (.iconst 0, 1) := by decide +kernel
theorem dMd_look_137 : decode (mB Md_look) 137 = .ok (.istore 8, 2) := by decide +kernel
theorem dMd_look_139 : decode (mB Md_look) 139 = .ok (.iload 7, 2) := by decide +kernel
theorem dMd_look_141 : decode (mB Md_look) 141 = .ok (.iload 8, 2) := by decide +kernel
theorem dMd_look_143 : decode (mB Md_look) 143 = .ok (.if_icmp .le 48, 3) := by decide +kernel
theorem dMd_look_146 : decode (mB Md_look) 146 = .ok (.iload 7, 2) := by decide +kernel
theorem dMd_look_148 : decode (mB Md_look) 148 = .ok (.iload 7, 2) := by decide +kernel
theorem dMd_look_150 : decode (mB Md_look) 150 = .ok (.iload 8, 2) := by decide +kernel
theorem dMd_look_152 : decode (mB Md_look) 152 = .ok (.isub, 1) := by decide +kernel
theorem dMd_look_153 : decode (mB Md_look) 153 = .ok (.iconst 2, 1) := by decide +kernel
theorem dMd_look_154 : decode (mB Md_look) 154 = .ok (.idiv, 1) := by decide +kernel
theorem dMd_look_155 : decode (mB Md_look) 155 = .ok (.isub, 1) := by decide +kernel
theorem dMd_look_156 : decode (mB Md_look) 156 = .ok (.istore 9, 2) := by decide +kernel
theorem dMd_look_158 : decode (mB Md_look) 158 = .ok (.aload_n 0, 1) := by decide +kernel
theorem dMd_look_159 : decode (mB Md_look) 159 = .ok (.aload_n 0, 1) := by decide +kernel
theorem dMd_look_160 : decode (mB Md_look) 160 = .ok (.getfield 148, 3) := by decide +kernel
theorem dMd_look_163 : decode (mB Md_look) 163 = .ok (.iload 9, 2) := by decide +kernel
theorem dMd_look_165 : decode (mB Md_look) 165 = .ok (.iaload, 1) := by decide +kernel
theorem dMd_look_166 : decode (mB Md_look) 166 = .ok (.iload_n 3, 1) := by decide +kernel
theorem dMd_look_167 : decode (mB Md_look) 167 = .ok (.iload 4, 2) := by decide +kernel
theorem dMd_look_169 : decode (mB Md_look) 169 = .ok (.invokevirtual 448, 3) := by decide +kernel
theorem dMd_look_172 : decode (mB Md_look) 172 = .ok (.ifCond .eq 10, 3) := by decide +kernel
theorem dMd_look_175 : decode (mB Md_look) 175 = .ok (.iload 9, 2) := by decide +kernel
theorem dMd_look_177 : decode (mB Md_look) 177 = .ok (.istore 8, 2) := by decide +kernel
theorem dMd_look_179 : decode (mB Md_look) 179 = .ok (.goto 9, 3) := by decide +kernel
theorem dMd_look_182 : decode (mB Md_look) 182 = .ok (.iload 9, 2) := by decide +kernel
theorem dMd_look_184 : decode (mB Md_look) 184 = .ok (.iconst 1, 1) := by decide +kernel
theorem dMd_look_185 : decode (mB Md_look) 185 = .ok (.isub, 1) := by decide +kernel
theorem dMd_look_186 : decode (mB Md_look) 186 = .ok (.istore 7, 2) := by decide +kernel
theorem dMd_look_188 : decode (mB Md_look) 188 = .ok (.goto (-49), 3) := by decide +kernel
theorem dMd_look_191 : decode (mB Md_look) 191 = .ok (.aload_n 0, 1) := by decide +kernel
theorem dMd_look_192 : decode (mB Md_look) 192 = .ok (.aload_n 0, 1) := by decide +kernel
theorem dMd_look_193 : decode (mB Md_look) 193 = .ok (.getfield 148, 3) := by decide +kernel
theorem dMd_look_196 : decode (mB Md_look) 196 = .ok (.iload 7, 2) := by decide +kernel
theorem dMd_look_198 : decode (mB Md_look) 198 = .ok (.iaload, 1) := by decide +kernel
theorem dMd_look_199 : decode (mB Md_look) 199 = .ok (.iload_n 3, 1) := by decide +kernel
theorem dMd_look_200 : decode (mB Md_look) 200 = .ok (.iload 4, 2) := by decide +kernel
theorem dMd_look_202 : decode (mB Md_look) 202 = .ok (.invokevirtual 448, 3) := by decide +kernel
theorem dMd_look_205 : decode (mB Md_look) 205 = .ok (.ifCond .eq 13, 3) := by decide +kernel
theorem dMd_look_208 : decode (mB Md_look) 208 = .ok (.aload_n 0, 1) := by decide +kernel
theorem dMd_look_209 : decode (mB Md_look) 209 = .ok (.getfield 148, 3) := by decide +kernel
theorem dMd_look_212 : decode (mB Md_look) 212 = .ok (.iload 7, 2) := by decide +kernel
theorem dMd_look_214 : decode (mB Md_look) 214 = .ok (.iaload, 1) := by decide +kernel
theorem dMd_look_215 : decode (mB Md_look) 215 = .ok (.goto 4, 3) := by decide +kernel
theorem dMd_look_218 : decode (mB Md_look) 218 = .ok (.iconst (-1), 1) := by decide +kernel
theorem dMd_look_219 : decode (mB Md_look) 219 = .ok (.ireturn, 1) := by decide +kernel
def b_Md_look_139 (R : Int32 → tpH → Prop) (Y : Nat → Int32 → Int32 → Int32 → Int32 → tpH → Prop) (o : Nat) (x3 : Int32) (x4 : Int32) (x7 : Int32) (x8 : Int32) (h : tpH) : Prop :=
  (x7 ≤ x8 → (hT h o = 14 ∧ (∃ a3, (hR h o 57) = some a3 ∧ hT h a3 = 15 ∧ (vp_in x7 (hL h a3) ∧ (w_Md_hasNode o (hI h a3 x7.toNatClampNeg) x3 x4 h (fun v8 h7 => (v8 = 0 → (R (-1 : Int32) h7)) ∧ (¬ v8 = 0 → (hT h7 o = 14 ∧ (∃ a11, (hR h7 o 57) = some a11 ∧ hT h7 a11 = 15 ∧ (vp_in x7 (hL h7 a11) ∧ (R (hI h7 a11 x7.toNatClampNeg) h7))))))))))) ∧ (¬ x7 ≤ x8 → (hT h o = 14 ∧ (∃ a16, (hR h o 57) = some a16 ∧ hT h a16 = 15 ∧ (vp_in (x7 - ((x7 - x8) / (2 : Int32))) (hL h a16) ∧ (w_Md_hasNode o (hI h a16 (x7 - ((x7 - x8) / (2 : Int32))).toNatClampNeg) x3 x4 h (fun v21 h20 => (v21 = 0 → (Y o x3 x4 ((x7 - ((x7 - x8) / (2 : Int32))) - (1 : Int32)) x8 h20)) ∧ (¬ v21 = 0 → (Y o x3 x4 x7 (x7 - ((x7 - x8) / (2 : Int32))) h20))))))))
def w_Md_look_139 (R : Int32 → tpH → Prop) : Nat → Nat → Int32 → Int32 → Int32 → Int32 → tpH → Prop
  | 0 => fun _ _ _ _ _ _ => False
  | n + 1 => b_Md_look_139 R (w_Md_look_139 R n)
def w_Md_look_112 (R : Int32 → tpH → Prop) (o : Nat) (x1 : Int32) (x3 : Int32) (x4 : Int32) (x5 : Int32) (t0 : Int32) (t1 : Option Nat) (h : tpH) : Prop :=
  ∃ a1, t1 = some a1 ∧ hT h a1 = 14 ∧ (∀ h4, h4 = sI h a1 31 t0 → (hT h4 o = 14 ∧ (((hI h4 o 31) ≤ 0 → (∃ a8, (hR h4 o 57) = some a8 ∧ hT h4 a8 = 15 ∧ (vp_in x5 (hL h4 a8) ∧ (∀ h12, h12 = sI h4 a8 x5.toNatClampNeg x1 → (∃ n, w_Md_look_139 R n o x3 x4 x5 (0 : Int32) h12))))) ∧ (¬ (hI h4 o 31) ≤ 0 → (R (0 : Int32) h4)))))
def w_Md_look_100 (R : Int32 → tpH → Prop) (o : Nat) (x1 : Int32) (x3 : Int32) (x4 : Int32) (x5 : Int32) (x6 : Int32) (h : tpH) : Prop :=
  (¬ x6 = (-1 : Int32) → (w_Md_look_112 R o x1 x3 x4 x5 (0 : Int32) (some o) h)) ∧ (x6 = (-1 : Int32) → (w_Md_look_112 R o x1 x3 x4 x5 (3 : Int32) (some o) h))
def b_Md_look_64 (R : Int32 → tpH → Prop) (Y : Nat → Int32 → Int32 → Int32 → Int32 → Int32 → tpH → Prop) (o : Nat) (x1 : Int32) (x3 : Int32) (x4 : Int32) (x5 : Int32) (x6 : Int32) (h : tpH) : Prop :=
  (x6 = x1 → (w_Md_look_100 R o x1 x3 x4 x5 x6 h)) ∧ (¬ x6 = x1 → ((x6 = (-1 : Int32) → (w_Md_look_100 R o x1 x3 x4 x5 x6 h)) ∧ (¬ x6 = (-1 : Int32) → (hT h o = 14 ∧ (∃ a4, (hR h o 57) = some a4 ∧ hT h a4 = 15 ∧ (vp_in x5 (hL h a4) ∧ (∀ h8, h8 = sI h a4 x5.toNatClampNeg x6 → (∃ a10, (hR h8 o 28) = some a10 ∧ hT h8 a10 = 15 ∧ (vp_in x6 (hL h8 a10) ∧ (Y o x1 x3 x4 (x5 + (1 : Int32)) (hI h8 a10 x6.toNatClampNeg) h8))))))))))
def w_Md_look_64 (R : Int32 → tpH → Prop) : Nat → Nat → Int32 → Int32 → Int32 → Int32 → Int32 → tpH → Prop
  | 0 => fun _ _ _ _ _ _ _ => False
  | n + 1 => b_Md_look_64 R (w_Md_look_64 R n)
def w_Md_look_46 (R : Int32 → tpH → Prop) (o : Nat) (x1 : Int32) (x2 : Int32) (x3 : Int32) (x4 : Int32) (t0 : Int32) (t1 : Option Nat) (h : tpH) : Prop :=
  ∃ a1, t1 = some a1 ∧ hT h a1 = 14 ∧ (∀ h4, h4 = sI h a1 31 t0 → (hT h4 o = 14 ∧ (((hI h4 o 31) ≤ 0 → (∃ n, w_Md_look_64 R n o x1 x3 x4 (0 : Int32) x2 h4)) ∧ (¬ (hI h4 o 31) ≤ 0 → (R (0 : Int32) h4)))))
def w_Md_look (o : Nat) (x1 : Int32) (x2 : Int32) (x3 : Int32) (x4 : Int32) (h : tpH) (R : Int32 → tpH → Prop) : Prop :=
  hT h o = 14 ∧ (w_Md_isVersion o x1 h (fun v3 h2 => (v3 = 0 → (w_Md_look_46 R o x1 x2 x3 x4 (1 : Int32) (some o) h2)) ∧ (¬ v3 = 0 → (hT h2 o = 14 ∧ (w_Md_isVersion o x2 h2 (fun v7 h6 => (¬ v7 = 0 → (w_Md_in x3 (0 : Int32) (5 : Int32) h6 (fun v10 h9 => (v10 = 0 → (w_Md_look_46 R o x1 x2 x3 x4 (2 : Int32) (some o) h9)) ∧ (¬ v10 = 0 → (w_Md_in x4 (0 : Int32) (99 : Int32) h9 (fun v13 h12 => (¬ v13 = 0 → (w_Md_look_46 R o x1 x2 x3 x4 (0 : Int32) (some o) h12)) ∧ (v13 = 0 → (w_Md_look_46 R o x1 x2 x3 x4 (2 : Int32) (some o) h12)))))))) ∧ (v7 = 0 → (w_Md_look_46 R o x1 x2 x3 x4 (1 : Int32) (some o) h6))))))))
theorem s_Md_look_139 {h0 : tpH} {av : List tpV} {R : Int32 → tpH → Prop} : ∀ (n : Nat) (o : Nat) (x3 : Int32) (x4 : Int32) (x7 : Int32) (x8 : Int32) (h : tpH), w_Md_look_139 R n o x3 x4 x7 x8 h → tpR Md_look 4 h0 av (tpOi R (fun _ _ => False)) 139 [some (vR (some o)), none, none, some (vI x3), some (vI x4), none, none, some (vI x7), some (vI x8), none] [] h := by
  intro n
  induction n with
  | zero => intro o x3 x4 x7 x8 h hw; exact False.elim hw
  | succ n ih =>
    intro o x3 x4 x7 x8 h hw
    change b_Md_look_139 R (w_Md_look_139 R n) o x3 x4 x7 x8 h at hw
    unfold b_Md_look_139 at hw
    refine tq_iload dMd_look_139 rfl ?_
    refine tq_iload dMd_look_141 rfl ?_
    refine tq_icmple (tgt := 191) dMd_look_143 (by decide) (fun c1 => ?_) (fun c1 => ?_)
    · have hw := hw.1 c1
      refine tq_aload_n dMd_look_191 rfl rfl ?_
      refine tq_aload_n dMd_look_192 rfl rfl ?_
      obtain ⟨f2, hw⟩ := hw
      refine te_getr dMd_look_193 fMd_148 rfl rfl f2 ?_
      refine tq_iload dMd_look_196 rfl ?_
      obtain ⟨a3, e4, f5, hw⟩ := hw
      obtain ⟨f6, hw⟩ := hw
      refine te_iald dMd_look_198 e4 (Or.inl f5) f6 ?_
      refine tq_iload_n dMd_look_199 rfl rfl ?_
      refine tq_iload dMd_look_200 rfl ?_
      refine te_callV mv_Md_hasNode (ci := 13) (dc := 3) (as := [vI (hI h a3 x7.toNatClampNeg), vI x3, vI x4]) (rest := []) kMd_448 rfl (Nat.le_of_ble_eq_true rfl) (Nat.le_of_ble_eq_true rfl) rfl rfl rfl f2 (Nat.le_of_ble_eq_true rfl) dMd_look_202 (s_Md_hasNode hw) (fun _ _ hx => False.elim hx) (tk_i fun v8 h7 hw => ?_)
      refine tq_ifeq (tgt := 218) dMd_look_205 (by decide) (fun c9 => ?_) (fun c9 => ?_)
      · have hw := hw.1 c9
        refine tq_iconst (v := (-1 : Int32)) dMd_look_218 tni_m1 ?_
        exact tq_iret rfl rfl dMd_look_219 hw
      · have hw := hw.2 c9
        refine tq_aload_n dMd_look_208 rfl rfl ?_
        obtain ⟨f10, hw⟩ := hw
        refine te_getr dMd_look_209 fMd_148 rfl rfl f10 ?_
        refine tq_iload dMd_look_212 rfl ?_
        obtain ⟨a11, e12, f13, hw⟩ := hw
        obtain ⟨f14, hw⟩ := hw
        refine te_iald dMd_look_214 e12 (Or.inl f13) f14 ?_
        refine tq_goto (tgt := 219) dMd_look_215 (by decide) ?_
        exact tq_iret rfl rfl dMd_look_219 hw
    · have hw := hw.2 c1
      refine tq_iload dMd_look_146 rfl ?_
      refine tq_iload dMd_look_148 rfl ?_
      refine tq_iload dMd_look_150 rfl ?_
      refine tq_isub dMd_look_152 ?_
      refine tq_iconst (v := (2 : Int32)) dMd_look_153 tni_2 ?_
      refine tq_idiv dMd_look_154 (by decide) ?_
      refine tq_isub dMd_look_155 ?_
      refine tq_istore (ls' := [some (vR (some o)), none, none, some (vI x3), some (vI x4), none, none, some (vI x7), some (vI x8), some (vI (x7 - ((x7 - x8) / (2 : Int32))))]) dMd_look_156 (Nat.le_of_ble_eq_true rfl) rfl ?_
      refine tq_aload_n dMd_look_158 rfl rfl ?_
      refine tq_aload_n dMd_look_159 rfl rfl ?_
      obtain ⟨f15, hw⟩ := hw
      refine te_getr dMd_look_160 fMd_148 rfl rfl f15 ?_
      refine tq_iload dMd_look_163 rfl ?_
      obtain ⟨a16, e17, f18, hw⟩ := hw
      obtain ⟨f19, hw⟩ := hw
      refine te_iald dMd_look_165 e17 (Or.inl f18) f19 ?_
      refine tq_iload_n dMd_look_166 rfl rfl ?_
      refine tq_iload dMd_look_167 rfl ?_
      refine te_callV mv_Md_hasNode (ci := 13) (dc := 3) (as := [vI (hI h a16 (x7 - ((x7 - x8) / (2 : Int32))).toNatClampNeg), vI x3, vI x4]) (rest := []) kMd_448 rfl (Nat.le_of_ble_eq_true rfl) (Nat.le_of_ble_eq_true rfl) rfl rfl rfl f15 (Nat.le_of_ble_eq_true rfl) dMd_look_169 (s_Md_hasNode hw) (fun _ _ hx => False.elim hx) (tk_i fun v21 h20 hw => ?_)
      refine tq_ifeq (tgt := 182) dMd_look_172 (by decide) (fun c22 => ?_) (fun c22 => ?_)
      · have hw := hw.1 c22
        refine tq_iload dMd_look_182 rfl ?_
        refine tq_iconst (v := (1 : Int32)) dMd_look_184 tni_1 ?_
        refine tq_isub dMd_look_185 ?_
        refine tq_istore (ls' := [some (vR (some o)), none, none, some (vI x3), some (vI x4), none, none, some (vI ((x7 - ((x7 - x8) / (2 : Int32))) - (1 : Int32))), some (vI x8), some (vI (x7 - ((x7 - x8) / (2 : Int32))))]) dMd_look_186 (Nat.le_of_ble_eq_true rfl) rfl ?_
        refine tq_goto (tgt := 139) dMd_look_188 (by decide) ?_
        refine tpR.fo (ls' := [some (vR (some o)), none, none, some (vI x3), some (vI x4), none, none, some (vI ((x7 - ((x7 - x8) / (2 : Int32))) - (1 : Int32))), some (vI x8), none]) ?_ (And.intro rfl (And.intro rfl (And.intro rfl (And.intro rfl (And.intro rfl trivial)))))
        exact ih _ _ _ _ _ _ hw
      · have hw := hw.2 c22
        refine tq_iload dMd_look_175 rfl ?_
        refine tq_istore (ls' := [some (vR (some o)), none, none, some (vI x3), some (vI x4), none, none, some (vI x7), some (vI (x7 - ((x7 - x8) / (2 : Int32)))), some (vI (x7 - ((x7 - x8) / (2 : Int32))))]) dMd_look_177 (Nat.le_of_ble_eq_true rfl) rfl ?_
        refine tq_goto (tgt := 188) dMd_look_179 (by decide) ?_
        refine tq_goto (tgt := 139) dMd_look_188 (by decide) ?_
        refine tpR.fo (ls' := [some (vR (some o)), none, none, some (vI x3), some (vI x4), none, none, some (vI x7), some (vI (x7 - ((x7 - x8) / (2 : Int32)))), none]) ?_ (And.intro rfl (And.intro rfl (And.intro rfl (And.intro rfl (And.intro rfl trivial)))))
        exact ih _ _ _ _ _ _ hw
theorem s_Md_look_112 {h0 : tpH} {av : List tpV} {R : Int32 → tpH → Prop} : ∀ (o : Nat) (x1 : Int32) (x3 : Int32) (x4 : Int32) (x5 : Int32) (t0 : Int32) (t1 : Option Nat) (h : tpH), w_Md_look_112 R o x1 x3 x4 x5 t0 t1 h → tpR Md_look 4 h0 av (tpOi R (fun _ _ => False)) 112 [some (vR (some o)), some (vI x1), none, some (vI x3), some (vI x4), some (vI x5), none, none, none, none] [vI t0, vR t1] h := by
  intro o x1 x3 x4 x5 t0 t1 h hw
  unfold w_Md_look_112 at hw
  obtain ⟨a1, e2, f3, hw⟩ := hw
  refine te_puti dMd_look_112 pMd_151 rfl rfl e2 f3 ⟨rfl, rfl⟩ (fun h4 e5 => ?_)
  have hw := hw h4 e5
  refine tq_aload_n dMd_look_115 rfl rfl ?_
  obtain ⟨f6, hw⟩ := hw
  refine te_geti dMd_look_116 fMd_151 rfl rfl f6 ?_
  refine tq_ifle (tgt := 124) dMd_look_119 (by decide) (fun c7 => ?_) (fun c7 => ?_)
  · have hw := hw.1 c7
    refine tq_aload_n dMd_look_124 rfl rfl ?_
    refine te_getr dMd_look_125 fMd_148 rfl rfl f6 ?_
    refine tq_iload dMd_look_128 rfl ?_
    refine tq_iload_n dMd_look_130 rfl rfl ?_
    obtain ⟨a8, e9, f10, hw⟩ := hw
    obtain ⟨f11, hw⟩ := hw
    refine te_iast dMd_look_131 e9 f10 f11 (fun h12 e13 => ?_)
    have hw := hw h12 e13
    refine tq_iload dMd_look_132 rfl ?_
    refine tq_istore (ls' := [some (vR (some o)), some (vI x1), none, some (vI x3), some (vI x4), some (vI x5), none, some (vI x5), none, none]) dMd_look_134 (Nat.le_of_ble_eq_true rfl) rfl ?_
    refine tq_iconst (v := (0 : Int32)) dMd_look_136 tni_0 ?_
    refine tq_istore (ls' := [some (vR (some o)), some (vI x1), none, some (vI x3), some (vI x4), some (vI x5), none, some (vI x5), some (vI (0 : Int32)), none]) dMd_look_137 (Nat.le_of_ble_eq_true rfl) rfl ?_
    refine tpR.fo (ls' := [some (vR (some o)), none, none, some (vI x3), some (vI x4), none, none, some (vI x5), some (vI (0 : Int32)), none]) ?_ (And.intro rfl (And.intro rfl (And.intro rfl (And.intro rfl (And.intro rfl trivial)))))
    obtain ⟨n, hw⟩ := hw
    exact s_Md_look_139 n _ _ _ _ _ _ hw
  · have hw := hw.2 c7
    refine tq_iconst (v := (0 : Int32)) dMd_look_122 tni_0 ?_
    exact tq_iret rfl rfl dMd_look_123 hw
theorem s_Md_look_100 {h0 : tpH} {av : List tpV} {R : Int32 → tpH → Prop} : ∀ (o : Nat) (x1 : Int32) (x3 : Int32) (x4 : Int32) (x5 : Int32) (x6 : Int32) (h : tpH), w_Md_look_100 R o x1 x3 x4 x5 x6 h → tpR Md_look 4 h0 av (tpOi R (fun _ _ => False)) 100 [some (vR (some o)), some (vI x1), none, some (vI x3), some (vI x4), some (vI x5), some (vI x6), none, none, none] [] h := by
  intro o x1 x3 x4 x5 x6 h hw
  unfold w_Md_look_100 at hw
  refine tq_aload_n dMd_look_100 rfl rfl ?_
  refine tq_iload dMd_look_101 rfl ?_
  refine tq_iconst (v := (-1 : Int32)) dMd_look_103 tni_m1 ?_
  refine tq_icmpne (tgt := 111) dMd_look_104 (by decide) (fun c1 => ?_) (fun c1 => ?_)
  · have hw := hw.1 c1
    refine tq_iconst (v := (0 : Int32)) dMd_look_111 tni_0 ?_
    refine tpR.fo (ls' := [some (vR (some o)), some (vI x1), none, some (vI x3), some (vI x4), some (vI x5), none, none, none, none]) ?_ (And.intro rfl (And.intro rfl (And.intro rfl (And.intro rfl (And.intro rfl trivial)))))
    exact s_Md_look_112 _ _ _ _ _ _ _ _ hw
  · have hw := hw.2 c1
    refine tq_iconst (v := (3 : Int32)) dMd_look_107 tni_3 ?_
    refine tq_goto (tgt := 112) dMd_look_108 (by decide) ?_
    refine tpR.fo (ls' := [some (vR (some o)), some (vI x1), none, some (vI x3), some (vI x4), some (vI x5), none, none, none, none]) ?_ (And.intro rfl (And.intro rfl (And.intro rfl (And.intro rfl (And.intro rfl trivial)))))
    exact s_Md_look_112 _ _ _ _ _ _ _ _ hw
theorem s_Md_look_64 {h0 : tpH} {av : List tpV} {R : Int32 → tpH → Prop} : ∀ (n : Nat) (o : Nat) (x1 : Int32) (x3 : Int32) (x4 : Int32) (x5 : Int32) (x6 : Int32) (h : tpH), w_Md_look_64 R n o x1 x3 x4 x5 x6 h → tpR Md_look 4 h0 av (tpOi R (fun _ _ => False)) 64 [some (vR (some o)), some (vI x1), none, some (vI x3), some (vI x4), some (vI x5), some (vI x6), none, none, none] [] h := by
  intro n
  induction n with
  | zero => intro o x1 x3 x4 x5 x6 h hw; exact False.elim hw
  | succ n ih =>
    intro o x1 x3 x4 x5 x6 h hw
    change b_Md_look_64 R (w_Md_look_64 R n) o x1 x3 x4 x5 x6 h at hw
    unfold b_Md_look_64 at hw
    refine tq_iload dMd_look_64 rfl ?_
    refine tq_iload_n dMd_look_66 rfl rfl ?_
    refine tq_icmpeq (tgt := 100) dMd_look_67 (by decide) (fun c1 => ?_) (fun c1 => ?_)
    · have hw := hw.1 c1
      refine tpR.fo (ls' := [some (vR (some o)), some (vI x1), none, some (vI x3), some (vI x4), some (vI x5), some (vI x6), none, none, none]) ?_ (And.intro rfl (And.intro rfl (And.intro rfl (And.intro rfl (And.intro rfl (And.intro rfl trivial))))))
      exact s_Md_look_100 _ _ _ _ _ _ _ hw
    · have hw := hw.2 c1
      refine tq_iload dMd_look_70 rfl ?_
      refine tq_iconst (v := (-1 : Int32)) dMd_look_72 tni_m1 ?_
      refine tq_icmpeq (tgt := 100) dMd_look_73 (by decide) (fun c2 => ?_) (fun c2 => ?_)
      · have hw := hw.1 c2
        refine tpR.fo (ls' := [some (vR (some o)), some (vI x1), none, some (vI x3), some (vI x4), some (vI x5), some (vI x6), none, none, none]) ?_ (And.intro rfl (And.intro rfl (And.intro rfl (And.intro rfl (And.intro rfl (And.intro rfl trivial))))))
        exact s_Md_look_100 _ _ _ _ _ _ _ hw
      · have hw := hw.2 c2
        refine tq_aload_n dMd_look_76 rfl rfl ?_
        obtain ⟨f3, hw⟩ := hw
        refine te_getr dMd_look_77 fMd_148 rfl rfl f3 ?_
        refine tq_iload dMd_look_80 rfl ?_
        refine tq_iload dMd_look_82 rfl ?_
        obtain ⟨a4, e5, f6, hw⟩ := hw
        obtain ⟨f7, hw⟩ := hw
        refine te_iast dMd_look_84 e5 f6 f7 (fun h8 e9 => ?_)
        have hw := hw h8 e9
        refine tq_inc (k := (1 : Int32)) (ls' := [some (vR (some o)), some (vI x1), none, some (vI x3), some (vI x4), some (vI (x5 + (1 : Int32))), some (vI x6), none, none, none]) dMd_look_85 rfl tni_1 (Nat.le_of_ble_eq_true rfl) rfl ?_
        refine tq_aload_n dMd_look_88 rfl rfl ?_
        refine te_getr dMd_look_89 fMd_74 rfl rfl (by rw [e9]; exact f3) ?_
        refine tq_iload dMd_look_92 rfl ?_
        obtain ⟨a10, e11, f12, hw⟩ := hw
        obtain ⟨f13, hw⟩ := hw
        refine te_iald dMd_look_94 e11 (Or.inl f12) f13 ?_
        refine tq_istore (ls' := [some (vR (some o)), some (vI x1), none, some (vI x3), some (vI x4), some (vI (x5 + (1 : Int32))), some (vI (hI h8 a10 x6.toNatClampNeg)), none, none, none]) dMd_look_95 (Nat.le_of_ble_eq_true rfl) rfl ?_
        refine tq_goto (tgt := 64) dMd_look_97 (by decide) ?_
        refine tpR.fo (ls' := [some (vR (some o)), some (vI x1), none, some (vI x3), some (vI x4), some (vI (x5 + (1 : Int32))), some (vI (hI h8 a10 x6.toNatClampNeg)), none, none, none]) ?_ (And.intro rfl (And.intro rfl (And.intro rfl (And.intro rfl (And.intro rfl (And.intro rfl trivial))))))
        exact ih _ _ _ _ _ _ _ hw
theorem s_Md_look_46 {h0 : tpH} {av : List tpV} {R : Int32 → tpH → Prop} : ∀ (o : Nat) (x1 : Int32) (x2 : Int32) (x3 : Int32) (x4 : Int32) (t0 : Int32) (t1 : Option Nat) (h : tpH), w_Md_look_46 R o x1 x2 x3 x4 t0 t1 h → tpR Md_look 4 h0 av (tpOi R (fun _ _ => False)) 46 [some (vR (some o)), some (vI x1), some (vI x2), some (vI x3), some (vI x4), none, none, none, none, none] [vI t0, vR t1] h := by
  intro o x1 x2 x3 x4 t0 t1 h hw
  unfold w_Md_look_46 at hw
  obtain ⟨a1, e2, f3, hw⟩ := hw
  refine te_puti dMd_look_46 pMd_151 rfl rfl e2 f3 ⟨rfl, rfl⟩ (fun h4 e5 => ?_)
  have hw := hw h4 e5
  refine tq_aload_n dMd_look_49 rfl rfl ?_
  obtain ⟨f6, hw⟩ := hw
  refine te_geti dMd_look_50 fMd_151 rfl rfl f6 ?_
  refine tq_ifle (tgt := 58) dMd_look_53 (by decide) (fun c7 => ?_) (fun c7 => ?_)
  · have hw := hw.1 c7
    refine tq_iconst (v := (0 : Int32)) dMd_look_58 tni_0 ?_
    refine tq_istore (ls' := [some (vR (some o)), some (vI x1), some (vI x2), some (vI x3), some (vI x4), some (vI (0 : Int32)), none, none, none, none]) dMd_look_59 (Nat.le_of_ble_eq_true rfl) rfl ?_
    refine tq_iload_n dMd_look_61 rfl rfl ?_
    refine tq_istore (ls' := [some (vR (some o)), some (vI x1), some (vI x2), some (vI x3), some (vI x4), some (vI (0 : Int32)), some (vI x2), none, none, none]) dMd_look_62 (Nat.le_of_ble_eq_true rfl) rfl ?_
    refine tpR.fo (ls' := [some (vR (some o)), some (vI x1), none, some (vI x3), some (vI x4), some (vI (0 : Int32)), some (vI x2), none, none, none]) ?_ (And.intro rfl (And.intro rfl (And.intro rfl (And.intro rfl (And.intro rfl (And.intro rfl trivial))))))
    obtain ⟨n, hw⟩ := hw
    exact s_Md_look_64 n _ _ _ _ _ _ _ hw
  · have hw := hw.2 c7
    refine tq_iconst (v := (0 : Int32)) dMd_look_56 tni_0 ?_
    exact tq_iret rfl rfl dMd_look_57 hw
theorem s_Md_look {o : Nat} {x1 : Int32} {x2 : Int32} {x3 : Int32} {x4 : Int32} {h : tpH} {R : Int32 → tpH → Prop} (hw : w_Md_look o x1 x2 x3 x4 h R) : tpC Md_look 4 [vR (some o), vI x1, vI x2, vI x3, vI x4] h (tpOi R (fun _ _ => False)) := by
  refine tpC_of mv_Md_look.2.2.2.1 rfl rfl (Nat.le_of_ble_eq_true rfl) ?_
  show tpR Md_look 4 h _ _ 0 [some (vR (some o)), some (vI x1), some (vI x2), some (vI x3), some (vI x4), none, none, none, none, none] [] h
  unfold w_Md_look at hw
  refine tq_aload_n dMd_look_0 rfl rfl ?_
  refine tq_aload_n dMd_look_1 rfl rfl ?_
  refine tq_iload_n dMd_look_2 rfl rfl ?_
  obtain ⟨f1, hw⟩ := hw
  refine te_callV mv_Md_isVersion (ci := 13) (dc := 1) (as := [vI x1]) (rest := [vR (some o)]) kMd_422 rfl (Nat.le_of_ble_eq_true rfl) (Nat.le_of_ble_eq_true rfl) rfl rfl rfl f1 (Nat.le_of_ble_eq_true rfl) dMd_look_3 (s_Md_isVersion hw) (fun _ _ hx => False.elim hx) (tk_i fun v3 h2 hw => ?_)
  refine tq_ifeq (tgt := 17) dMd_look_6 (by decide) (fun c4 => ?_) (fun c4 => ?_)
  · have hw := hw.1 c4
    refine tq_iconst (v := (1 : Int32)) dMd_look_17 tni_1 ?_
    refine tq_goto (tgt := 46) dMd_look_18 (by decide) ?_
    refine tpR.fo (ls' := [some (vR (some o)), some (vI x1), some (vI x2), some (vI x3), some (vI x4), none, none, none, none, none]) ?_ (And.intro rfl (And.intro rfl (And.intro rfl (And.intro rfl (And.intro rfl trivial)))))
    exact s_Md_look_46 _ _ _ _ _ _ _ _ hw
  · have hw := hw.2 c4
    refine tq_aload_n dMd_look_9 rfl rfl ?_
    refine tq_iload_n dMd_look_10 rfl rfl ?_
    obtain ⟨f5, hw⟩ := hw
    refine te_callV mv_Md_isVersion (ci := 13) (dc := 1) (as := [vI x2]) (rest := [vR (some o)]) kMd_422 rfl (Nat.le_of_ble_eq_true rfl) (Nat.le_of_ble_eq_true rfl) rfl rfl rfl f5 (Nat.le_of_ble_eq_true rfl) dMd_look_11 (s_Md_isVersion hw) (fun _ _ hx => False.elim hx) (tk_i fun v7 h6 hw => ?_)
    refine tq_ifne (tgt := 21) dMd_look_14 (by decide) (fun c8 => ?_) (fun c8 => ?_)
    · have hw := hw.1 c8
      refine tq_iload_n dMd_look_21 rfl rfl ?_
      refine tq_iconst (v := (0 : Int32)) dMd_look_22 tni_0 ?_
      refine tq_iconst (v := (5 : Int32)) dMd_look_23 tni_5 ?_
      refine tq_callS ms_Md_in (dc := 0) (as := [vI x3, vI (0 : Int32), vI (5 : Int32)]) (rest := [vR (some o)]) kMd_158 (Nat.le_of_ble_eq_true rfl) (Nat.le_of_ble_eq_true rfl) rfl rfl (Nat.le_of_ble_eq_true rfl) dMd_look_24 (s_Md_in hw) (fun _ _ hx => False.elim hx) (tk_i fun v10 h9 hw => ?_)
      refine tq_ifeq (tgt := 41) dMd_look_27 (by decide) (fun c11 => ?_) (fun c11 => ?_)
      · have hw := hw.1 c11
        refine tq_iconst (v := (2 : Int32)) dMd_look_41 tni_2 ?_
        refine tq_goto (tgt := 46) dMd_look_42 (by decide) ?_
        refine tpR.fo (ls' := [some (vR (some o)), some (vI x1), some (vI x2), some (vI x3), some (vI x4), none, none, none, none, none]) ?_ (And.intro rfl (And.intro rfl (And.intro rfl (And.intro rfl (And.intro rfl trivial)))))
        exact s_Md_look_46 _ _ _ _ _ _ _ _ hw
      · have hw := hw.2 c11
        refine tq_iload dMd_look_30 rfl ?_
        refine tq_iconst (v := (0 : Int32)) dMd_look_32 tni_0 ?_
        refine tq_bipush (v := (99 : Int32)) dMd_look_33 tnb_99 ?_
        refine tq_callS ms_Md_in (dc := 0) (as := [vI x4, vI (0 : Int32), vI (99 : Int32)]) (rest := [vR (some o)]) kMd_158 (Nat.le_of_ble_eq_true rfl) (Nat.le_of_ble_eq_true rfl) rfl rfl (Nat.le_of_ble_eq_true rfl) dMd_look_35 (s_Md_in hw) (fun _ _ hx => False.elim hx) (tk_i fun v13 h12 hw => ?_)
        refine tq_ifne (tgt := 45) dMd_look_38 (by decide) (fun c14 => ?_) (fun c14 => ?_)
        · have hw := hw.1 c14
          refine tq_iconst (v := (0 : Int32)) dMd_look_45 tni_0 ?_
          refine tpR.fo (ls' := [some (vR (some o)), some (vI x1), some (vI x2), some (vI x3), some (vI x4), none, none, none, none, none]) ?_ (And.intro rfl (And.intro rfl (And.intro rfl (And.intro rfl (And.intro rfl trivial)))))
          exact s_Md_look_46 _ _ _ _ _ _ _ _ hw
        · have hw := hw.2 c14
          refine tq_iconst (v := (2 : Int32)) dMd_look_41 tni_2 ?_
          refine tq_goto (tgt := 46) dMd_look_42 (by decide) ?_
          refine tpR.fo (ls' := [some (vR (some o)), some (vI x1), some (vI x2), some (vI x3), some (vI x4), none, none, none, none, none]) ?_ (And.intro rfl (And.intro rfl (And.intro rfl (And.intro rfl (And.intro rfl trivial)))))
          exact s_Md_look_46 _ _ _ _ _ _ _ _ hw
    · have hw := hw.2 c8
      refine tq_iconst (v := (1 : Int32)) dMd_look_17 tni_1 ?_
      refine tq_goto (tgt := 46) dMd_look_18 (by decide) ?_
      refine tpR.fo (ls' := [some (vR (some o)), some (vI x1), some (vI x2), some (vI x3), some (vI x4), none, none, none, none, none]) ?_ (And.intro rfl (And.intro rfl (And.intro rfl (And.intro rfl (And.intro rfl trivial)))))
      exact s_Md_look_46 _ _ _ _ _ _ _ _ hw
