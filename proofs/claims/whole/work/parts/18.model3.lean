/-! TModel.belowMany -/
theorem dMd_belowMany_0 : decode (mB Md_belowMany) 0 = .ok (.iconst 0, 1) := by decide +kernel
theorem dMd_belowMany_1 : decode (mB Md_belowMany) 1 = .ok (.istore 5, 2) := by decide +kernel
theorem dMd_belowMany_3 : decode (mB Md_belowMany) 3 = .ok (.iconst 0, 1) := by decide +kernel
theorem dMd_belowMany_4 : decode (mB Md_belowMany) 4 = .ok (.istore 6, 2) := by decide +kernel
theorem dMd_belowMany_6 : decode (mB Md_belowMany) 6 = .ok (.iload 6, 2) := by decide +kernel
theorem dMd_belowMany_8 : decode (mB Md_belowMany) 8 = .ok (.iload_n 3, 1) := by decide +kernel
theorem dMd_belowMany_9 : decode (mB Md_belowMany) 9 = .ok (.if_icmp .ge 42, 3) := by decide +kernel
theorem dMd_belowMany_12 : decode (mB Md_belowMany) 12 = .ok (.iload 5, 2) := by decide +kernel
theorem dMd_belowMany_14 : decode (mB Md_belowMany) 14 = .ok (.aload_n 2, 1) := by decide +kernel
theorem dMd_belowMany_15 : decode (mB Md_belowMany) 15 = .ok (.iload 6, 2) := by decide +kernel
theorem dMd_belowMany_17 : decode (mB Md_belowMany) 17 = .ok (.iaload, 1) := by decide +kernel
theorem dMd_belowMany_18 : decode (mB Md_belowMany) 18 = .ok (.iload 4, 2) := by decide +kernel
theorem dMd_belowMany_20 : decode (mB Md_belowMany) 20 = .ok (.if_icmp .eq 21, 3) := by decide +kernel
theorem dMd_belowMany_23 : decode (mB Md_belowMany) 23 = .ok (.aload_n 0, 1) := by decide +kernel
theorem dMd_belowMany_24 : decode (mB Md_belowMany) 24 = .ok (.iload_n 1, 1) := by decide +kernel
theorem dMd_belowMany_25 : decode (mB Md_belowMany) 25 = .ok (.aload_n 2, 1) := by decide +kernel
theorem dMd_belowMany_26 : decode (mB Md_belowMany) 26 = .ok (.iload 6, 2) := by decide +kernel
theorem dMd_belowMany_28 : decode (mB Md_belowMany) 28 = .ok (.iaload, 1) := by decide +kernel
theorem dMd_belowMany_29 : decode (mB Md_belowMany) 29 = .ok (.iload 4, 2) := by decide +kernel
theorem dMd_belowMany_31 : decode (mB Md_belowMany) 31 = .ok (.invokevirtual 229, 3) := by decide +kernel
theorem dMd_belowMany_34 : decode (mB Md_belowMany) 34 = .ok (.ifCond .eq 7, 3) := by decide +kernel
theorem dMd_belowMany_37 : decode (mB Md_belowMany) 37 = .ok (.iconst 1, 1) := by decide +kernel
theorem dMd_belowMany_38 : decode (mB Md_belowMany) 38 = .ok (.goto 4, 3) := by decide +kernel
theorem dMd_belowMany_41 : decode (mB Md_belowMany) 41 = .ok (.iconst 0, 1) := by decide +kernel
theorem dMd_belowMany_42 : decode (mB Md_belowMany) 42 = .ok (.iadd, 1) := by decide +kernel
theorem dMd_belowMany_43 : decode (mB Md_belowMany) 43 = .ok (.istore 5, 2) := by decide +kernel
theorem dMd_belowMany_45 : decode (mB Md_belowMany) 45 = .ok (.iinc 6 1, 3) := by decide +kernel
theorem dMd_belowMany_48 : decode (mB Md_belowMany) 48 = .ok (.goto (-42), 3) := by decide +kernel
theorem dMd_belowMany_51 : decode (mB Md_belowMany) 51 = .ok (.iload 5, 2) := by decide +kernel
theorem dMd_belowMany_53 : decode (mB Md_belowMany) 53 = .ok (.ireturn, 1) := by decide +kernel
def b_Md_belowMany_6 (R : Int32 → tpH → Prop) (Y : Nat → Int32 → (Option Nat) → Int32 → Int32 → Int32 → Int32 → tpH → Prop) (o : Nat) (x1 : Int32) (x2 : Option Nat) (x3 : Int32) (x4 : Int32) (x5 : Int32) (x6 : Int32) (h : tpH) : Prop :=
  (x3 ≤ x6 → (R x5 h)) ∧ (¬ x3 ≤ x6 → (∃ a2, x2 = some a2 ∧ hT h a2 = 15 ∧ (vp_in x6 (hL h a2) ∧ (((hI h a2 x6.toNatClampNeg) = x4 → (Y o x1 x2 x3 x4 (x5 + (0 : Int32)) (x6 + (1 : Int32)) h)) ∧ (¬ (hI h a2 x6.toNatClampNeg) = x4 → (vp_in x6 (hL h a2) ∧ (hT h o = 14 ∧ (w_Md_isWithin o x1 (hI h a2 x6.toNatClampNeg) x4 h (fun v10 h9 => (v10 = 0 → (Y o x1 x2 x3 x4 (x5 + (0 : Int32)) (x6 + (1 : Int32)) h9)) ∧ (¬ v10 = 0 → (Y o x1 x2 x3 x4 (x5 + (1 : Int32)) (x6 + (1 : Int32)) h9)))))))))))
def w_Md_belowMany_6 (R : Int32 → tpH → Prop) : Nat → Nat → Int32 → (Option Nat) → Int32 → Int32 → Int32 → Int32 → tpH → Prop
  | 0 => fun _ _ _ _ _ _ _ _ => False
  | n + 1 => b_Md_belowMany_6 R (w_Md_belowMany_6 R n)
def w_Md_belowMany (o : Nat) (x1 : Int32) (x2 : Option Nat) (x3 : Int32) (x4 : Int32) (h : tpH) (R : Int32 → tpH → Prop) : Prop :=
  ∃ n, w_Md_belowMany_6 R n o x1 x2 x3 x4 (0 : Int32) (0 : Int32) h
theorem s_Md_belowMany_6 {h0 : tpH} {av : List tpV} {R : Int32 → tpH → Prop} : ∀ (n : Nat) (o : Nat) (x1 : Int32) (x2 : Option Nat) (x3 : Int32) (x4 : Int32) (x5 : Int32) (x6 : Int32) (h : tpH), w_Md_belowMany_6 R n o x1 x2 x3 x4 x5 x6 h → tpR Md_belowMany 2 h0 av (tpOi R (fun _ _ => False)) 6 [some (vR (some o)), some (vI x1), some (vR x2), some (vI x3), some (vI x4), some (vI x5), some (vI x6)] [] h := by
  intro n
  induction n with
  | zero => intro o x1 x2 x3 x4 x5 x6 h hw; exact False.elim hw
  | succ n ih =>
    intro o x1 x2 x3 x4 x5 x6 h hw
    change b_Md_belowMany_6 R (w_Md_belowMany_6 R n) o x1 x2 x3 x4 x5 x6 h at hw
    unfold b_Md_belowMany_6 at hw
    refine tq_iload dMd_belowMany_6 rfl ?_
    refine tq_iload_n dMd_belowMany_8 rfl rfl ?_
    refine tq_icmpge (tgt := 51) dMd_belowMany_9 (by decide) (fun c1 => ?_) (fun c1 => ?_)
    · have hw := hw.1 c1
      refine tq_iload dMd_belowMany_51 rfl ?_
      exact tq_iret rfl rfl dMd_belowMany_53 hw
    · have hw := hw.2 c1
      refine tq_iload dMd_belowMany_12 rfl ?_
      refine tq_aload_n dMd_belowMany_14 rfl rfl ?_
      refine tq_iload dMd_belowMany_15 rfl ?_
      obtain ⟨a2, e3, f4, hw⟩ := hw
      obtain ⟨f5, hw⟩ := hw
      refine te_iald dMd_belowMany_17 e3 (Or.inl f4) f5 ?_
      refine tq_iload dMd_belowMany_18 rfl ?_
      refine tq_icmpeq (tgt := 41) dMd_belowMany_20 (by decide) (fun c6 => ?_) (fun c6 => ?_)
      · have hw := hw.1 c6
        refine tq_iconst (v := (0 : Int32)) dMd_belowMany_41 tni_0 ?_
        refine tq_iadd dMd_belowMany_42 ?_
        refine tq_istore (ls' := [some (vR (some o)), some (vI x1), some (vR x2), some (vI x3), some (vI x4), some (vI (x5 + (0 : Int32))), some (vI x6)]) dMd_belowMany_43 (Nat.le_of_ble_eq_true rfl) rfl ?_
        refine tq_inc (k := (1 : Int32)) (ls' := [some (vR (some o)), some (vI x1), some (vR x2), some (vI x3), some (vI x4), some (vI (x5 + (0 : Int32))), some (vI (x6 + (1 : Int32)))]) dMd_belowMany_45 rfl tni_1 (Nat.le_of_ble_eq_true rfl) rfl ?_
        refine tq_goto (tgt := 6) dMd_belowMany_48 (by decide) ?_
        refine tpR.fo (ls' := [some (vR (some o)), some (vI x1), some (vR x2), some (vI x3), some (vI x4), some (vI (x5 + (0 : Int32))), some (vI (x6 + (1 : Int32)))]) ?_ (And.intro rfl (And.intro rfl (And.intro rfl (And.intro rfl (And.intro rfl (And.intro rfl (And.intro rfl trivial)))))))
        exact ih _ _ _ _ _ _ _ _ hw
      · have hw := hw.2 c6
        refine tq_aload_n dMd_belowMany_23 rfl rfl ?_
        refine tq_iload_n dMd_belowMany_24 rfl rfl ?_
        refine tq_aload_n dMd_belowMany_25 rfl rfl ?_
        refine tq_iload dMd_belowMany_26 rfl ?_
        obtain ⟨f7, hw⟩ := hw
        refine te_iald dMd_belowMany_28 e3 (Or.inl f4) f7 ?_
        refine tq_iload dMd_belowMany_29 rfl ?_
        obtain ⟨f8, hw⟩ := hw
        refine te_callV mv_Md_isWithin (ci := 13) (dc := 1) (as := [vI x1, vI (hI h a2 x6.toNatClampNeg), vI x4]) (rest := [vI x5]) kMd_229 rfl (Nat.le_of_ble_eq_true rfl) (Nat.le_of_ble_eq_true rfl) rfl rfl rfl f8 (Nat.le_of_ble_eq_true rfl) dMd_belowMany_31 (s_Md_isWithin hw) (fun _ _ hx => False.elim hx) (tk_i fun v10 h9 hw => ?_)
        refine tq_ifeq (tgt := 41) dMd_belowMany_34 (by decide) (fun c11 => ?_) (fun c11 => ?_)
        · have hw := hw.1 c11
          refine tq_iconst (v := (0 : Int32)) dMd_belowMany_41 tni_0 ?_
          refine tq_iadd dMd_belowMany_42 ?_
          refine tq_istore (ls' := [some (vR (some o)), some (vI x1), some (vR x2), some (vI x3), some (vI x4), some (vI (x5 + (0 : Int32))), some (vI x6)]) dMd_belowMany_43 (Nat.le_of_ble_eq_true rfl) rfl ?_
          refine tq_inc (k := (1 : Int32)) (ls' := [some (vR (some o)), some (vI x1), some (vR x2), some (vI x3), some (vI x4), some (vI (x5 + (0 : Int32))), some (vI (x6 + (1 : Int32)))]) dMd_belowMany_45 rfl tni_1 (Nat.le_of_ble_eq_true rfl) rfl ?_
          refine tq_goto (tgt := 6) dMd_belowMany_48 (by decide) ?_
          refine tpR.fo (ls' := [some (vR (some o)), some (vI x1), some (vR x2), some (vI x3), some (vI x4), some (vI (x5 + (0 : Int32))), some (vI (x6 + (1 : Int32)))]) ?_ (And.intro rfl (And.intro rfl (And.intro rfl (And.intro rfl (And.intro rfl (And.intro rfl (And.intro rfl trivial)))))))
          exact ih _ _ _ _ _ _ _ _ hw
        · have hw := hw.2 c11
          refine tq_iconst (v := (1 : Int32)) dMd_belowMany_37 tni_1 ?_
          refine tq_goto (tgt := 42) dMd_belowMany_38 (by decide) ?_
          refine tq_iadd dMd_belowMany_42 ?_
          refine tq_istore (ls' := [some (vR (some o)), some (vI x1), some (vR x2), some (vI x3), some (vI x4), some (vI (x5 + (1 : Int32))), some (vI x6)]) dMd_belowMany_43 (Nat.le_of_ble_eq_true rfl) rfl ?_
          refine tq_inc (k := (1 : Int32)) (ls' := [some (vR (some o)), some (vI x1), some (vR x2), some (vI x3), some (vI x4), some (vI (x5 + (1 : Int32))), some (vI (x6 + (1 : Int32)))]) dMd_belowMany_45 rfl tni_1 (Nat.le_of_ble_eq_true rfl) rfl ?_
          refine tq_goto (tgt := 6) dMd_belowMany_48 (by decide) ?_
          refine tpR.fo (ls' := [some (vR (some o)), some (vI x1), some (vR x2), some (vI x3), some (vI x4), some (vI (x5 + (1 : Int32))), some (vI (x6 + (1 : Int32)))]) ?_ (And.intro rfl (And.intro rfl (And.intro rfl (And.intro rfl (And.intro rfl (And.intro rfl (And.intro rfl trivial)))))))
          exact ih _ _ _ _ _ _ _ _ hw
theorem s_Md_belowMany {o : Nat} {x1 : Int32} {x2 : Option Nat} {x3 : Int32} {x4 : Int32} {h : tpH} {R : Int32 → tpH → Prop} (hw : w_Md_belowMany o x1 x2 x3 x4 h R) : tpC Md_belowMany 2 [vR (some o), vI x1, vR x2, vI x3, vI x4] h (tpOi R (fun _ _ => False)) := by
  refine tpC_of mv_Md_belowMany.2.2.2.1 rfl rfl (Nat.le_of_ble_eq_true rfl) ?_
  show tpR Md_belowMany 2 h _ _ 0 [some (vR (some o)), some (vI x1), some (vR x2), some (vI x3), some (vI x4), none, none] [] h
  unfold w_Md_belowMany at hw
  refine tq_iconst (v := (0 : Int32)) dMd_belowMany_0 tni_0 ?_
  refine tq_istore (ls' := [some (vR (some o)), some (vI x1), some (vR x2), some (vI x3), some (vI x4), some (vI (0 : Int32)), none]) dMd_belowMany_1 (Nat.le_of_ble_eq_true rfl) rfl ?_
  refine tq_iconst (v := (0 : Int32)) dMd_belowMany_3 tni_0 ?_
  refine tq_istore (ls' := [some (vR (some o)), some (vI x1), some (vR x2), some (vI x3), some (vI x4), some (vI (0 : Int32)), some (vI (0 : Int32))]) dMd_belowMany_4 (Nat.le_of_ble_eq_true rfl) rfl ?_
  refine tpR.fo (ls' := [some (vR (some o)), some (vI x1), some (vR x2), some (vI x3), some (vI x4), some (vI (0 : Int32)), some (vI (0 : Int32))]) ?_ (And.intro rfl (And.intro rfl (And.intro rfl (And.intro rfl (And.intro rfl (And.intro rfl (And.intro rfl trivial)))))))
  obtain ⟨n, hw⟩ := hw
  exact s_Md_belowMany_6 n _ _ _ _ _ _ _ _ hw
/-! TModel.likenessOf -/
theorem dMd_likenessOf_0 : decode (mB Md_likenessOf) 0 = .ok (.aload_n 0, 1) := by decide +kernel
theorem dMd_likenessOf_1 : decode (mB Md_likenessOf) 1 = .ok (.iload_n 1, 1) := by decide +kernel
theorem dMd_likenessOf_2 : decode (mB Md_likenessOf) 2 = .ok (.aload_n 0, 1) := by decide +kernel
theorem dMd_likenessOf_3 : decode (mB Md_likenessOf) 3 = .ok (.getfield 83, 3) := by decide +kernel
theorem dMd_likenessOf_6 : decode (mB Md_likenessOf) 6 = .ok (.aload_n 0, 1) := by decide +kernel
theorem dMd_likenessOf_7 : decode (mB Md_likenessOf) 7 = .ok (.getfield 246, 3) := by decide +kernel
theorem dMd_likenessOf_10 : decode (mB Md_likenessOf) 10 = .ok (.iload_n 3, 1) := by decide +kernel
theorem dMd_likenessOf_11 : decode (mB Md_likenessOf) 11 = .ok (.invokevirtual 273, 3) := by decide +kernel
theorem dMd_likenessOf_14 : decode (mB Md_likenessOf) 14 = .ok (.aload_n 0, 1) := by decide +kernel
theorem dMd_likenessOf_15 : decode (mB Md_likenessOf) 15 = .ok (.iload_n 2, 1) := by decide +kernel
theorem dMd_likenessOf_16 : decode (mB Md_likenessOf) 16 = .ok (.aload_n 0, 1) := by decide +kernel
theorem dMd_likenessOf_17 : decode (mB Md_likenessOf) 17 = .ok (.getfield 86, 3) := by decide +kernel
theorem dMd_likenessOf_20 : decode (mB Md_likenessOf) 20 = .ok (.aload_n 0, 1) := by decide +kernel
theorem dMd_likenessOf_21 : decode (mB Md_likenessOf) 21 = .ok (.getfield 249, 3) := by decide +kernel
theorem dMd_likenessOf_24 : decode (mB Md_likenessOf) 24 = .ok (.iload 4, 2) := by decide +kernel
theorem dMd_likenessOf_26 : decode (mB Md_likenessOf) 26 = .ok (.invokevirtual 273, 3) := by decide +kernel
theorem dMd_likenessOf_29 : decode (mB Md_likenessOf) 29 = .ok (.iadd, 1) := by decide +kernel
theorem dMd_likenessOf_30 : decode (mB Md_likenessOf) 30 = .ok (.istore 5, 2) := by decide +kernel
theorem dMd_likenessOf_32 : decode (mB Md_likenessOf) 32 = .ok (.iconst 0, 1) := by decide +kernel
theorem dMd_likenessOf_33 : decode (mB Md_likenessOf) 33 = .ok (.istore 6, 2) := by decide +kernel
theorem dMd_likenessOf_35 : decode (mB Md_likenessOf) 35 = .ok (.iconst 0, 1) := by decide +kernel
theorem dMd_likenessOf_36 : decode (mB Md_likenessOf) 36 = .ok (.istore 7, 2) := by decide +kernel
theorem dMd_likenessOf_38 : decode (mB Md_likenessOf) 38 = .ok (.iload 7, 2) := by decide +kernel
theorem dMd_likenessOf_40 : decode (mB Md_likenessOf) 40 = .ok (.aload_n 0, 1) := by decide +kernel
theorem dMd_likenessOf_41 : decode (mB Md_likenessOf) 41 = .ok (.getfield 246, 3) := by decide +kernel
theorem dMd_likenessOf_44 : decode (mB Md_likenessOf) 44 = .ok (.if_icmp .ge 97, 3) := by decide +kernel
theorem dMd_likenessOf_47 : decode (mB Md_likenessOf) 47 = .ok (.aload_n 0, 1) := by decide +kernel
theorem dMd_likenessOf_48 : decode (mB Md_likenessOf) 48 = .ok (.getfield 83, 3) := by decide +kernel
theorem dMd_likenessOf_51 : decode (mB Md_likenessOf) 51 = .ok (.iload 7, 2) := by decide +kernel
theorem dMd_likenessOf_53 : decode (mB Md_likenessOf) 53 = .ok (.iaload, 1) := by decide +kernel
theorem dMd_likenessOf_54 : decode (mB Md_likenessOf) 54 = .ok (.istore 8, 2) := by decide +kernel
theorem dMd_likenessOf_56 : decode (mB Md_likenessOf) 56 = .ok (.iload 8, 2) := by decide +kernel
theorem dMd_likenessOf_58 : decode (mB Md_likenessOf) 58 = .ok (.iload_n 3, 1) := by decide +kernel
theorem dMd_likenessOf_59 : decode (mB Md_likenessOf) 59 = .ok (.if_icmp .eq 30, 3) := by decide +kernel
theorem dMd_likenessOf_62 : decode (mB Md_likenessOf) 62 = .ok (.aload_n 0, 1) := by decide +kernel
theorem dMd_likenessOf_63 : decode (mB Md_likenessOf) 63 = .ok (.getfield 106, 3) := by decide +kernel
theorem dMd_likenessOf_66 : decode (mB Md_likenessOf) 66 = .ok (.iload 8, 2) := by decide +kernel
theorem dMd_likenessOf_68 : decode (mB Md_likenessOf) 68 = .ok (.iaload, 1) := by decide +kernel
theorem dMd_likenessOf_69 : decode (mB Md_likenessOf) 69 = .ok (.iconst (-1), 1) := by decide +kernel
theorem dMd_likenessOf_70 : decode (mB Md_likenessOf) 70 = .ok (.if_icmp .eq 19, 3) := by decide +kernel
theorem dMd_likenessOf_73 : decode (mB Md_likenessOf) 73 = .ok (.aload_n 0, 1) := by decide +kernel
theorem dMd_likenessOf_74 : decode (mB Md_likenessOf) 74 = .ok (.getfield 106, 3) := by decide +kernel
theorem dMd_likenessOf_77 : decode (mB Md_likenessOf) 77 = .ok (.iload 8, 2) := by decide +kernel
theorem dMd_likenessOf_79 : decode (mB Md_likenessOf) 79 = .ok (.iaload, 1) := by decide +kernel
theorem dMd_likenessOf_80 : decode (mB Md_likenessOf) 80 = .ok (.iload 4, 2) := by decide +kernel
theorem dMd_likenessOf_82 : decode (mB Md_likenessOf) 82 = .ok (.if_icmp .eq 7, 3) := by decide +kernel
theorem dMd_likenessOf_85 : decode (mB Md_likenessOf) 85 = .ok (.iconst 1, 1) := by decide +kernel
theorem dMd_likenessOf_86 : decode (mB Md_likenessOf) 86 = .ok (.goto 4, 3) := by decide +kernel
theorem dMd_likenessOf_89 : decode (mB Md_likenessOf) 89 = .ok (.iconst 0, 1) := by decide +kernel
theorem dMd_likenessOf_90 : decode (mB Md_likenessOf) 90 = .ok (.istore 9, 2) := by decide +kernel
theorem dMd_likenessOf_92 : decode (mB Md_likenessOf) 92 = .ok (.iload 6, 2) := by decide +kernel
theorem dMd_likenessOf_94 : decode (mB Md_likenessOf) 94 = .ok (.iload 9, 2) := by decide +kernel
theorem dMd_likenessOf_96 : decode (mB Md_likenessOf) 96 = .ok (.ifCond .eq 35, 3) := by decide +kernel
theorem dMd_likenessOf_99 : decode (mB Md_likenessOf) 99 = .ok (.aload_n 0, 1) := by decide +kernel
theorem dMd_likenessOf_100 : decode (mB Md_likenessOf) 100 = .ok (.iload_n 1, 1) := by decide +kernel
theorem dMd_likenessOf_101 : decode (mB Md_likenessOf) 101 = .ok (.iload 8, 2) := by decide +kernel
theorem dMd_likenessOf_103 : decode (mB Md_likenessOf) 103 = .ok (.iload_n 3, 1) := by decide +kernel
theorem dMd_likenessOf_104 : decode (mB Md_likenessOf) 104 = .ok (.invokevirtual 229, 3) := by decide +kernel
theorem dMd_likenessOf_107 : decode (mB Md_likenessOf) 107 = .ok (.ifCond .eq 24, 3) := by decide +kernel
theorem dMd_likenessOf_110 : decode (mB Md_likenessOf) 110 = .ok (.aload_n 0, 1) := by decide +kernel
theorem dMd_likenessOf_111 : decode (mB Md_likenessOf) 111 = .ok (.iload_n 2, 1) := by decide +kernel
theorem dMd_likenessOf_112 : decode (mB Md_likenessOf) 112 = .ok (.aload_n 0, 1) := by decide +kernel
theorem dMd_likenessOf_113 : decode (mB Md_likenessOf) 113 = .ok (.getfield 106, 3) := by decide +kernel
theorem dMd_likenessOf_116 : decode (mB Md_likenessOf) 116 = .ok (.iload 8, 2) := by decide +kernel
theorem dMd_likenessOf_118 : decode (mB Md_likenessOf) 118 = .ok (.iaload, 1) := by decide +kernel
theorem dMd_likenessOf_119 : decode (mB Md_likenessOf) 119 = .ok (.iload 4, 2) := by decide +kernel
theorem dMd_likenessOf_121 : decode (mB Md_likenessOf) 121 = .ok (.invokevirtual 229, 3) := by decide +kernel
theorem dMd_likenessOf_124 : decode (mB Md_likenessOf) 124 = .ok (.ifCond .eq 7, 3) := by decide +kernel
theorem dMd_likenessOf_127 : decode (mB Md_likenessOf) 127 = .ok (.iconst 1, 1) := by decide +kernel
theorem dMd_likenessOf_128 : decode (mB Md_likenessOf) 128 = .ok (.goto 4, 3) := by decide +kernel
theorem dMd_likenessOf_131 : decode (mB Md_likenessOf) 131 = .ok (.iconst 0, 1) := by decide +kernel
theorem dMd_likenessOf_132 : decode (mB Md_likenessOf) 132 = .ok (.iadd, 1) := by decide +kernel
theorem dMd_likenessOf_133 : decode (mB Md_likenessOf) 133 = .ok (.istore 6, 2) := by decide +kernel
theorem dMd_likenessOf_135 : decode (mB Md_likenessOf) 135 = .ok (.iinc 7 1, 3) := by decide +kernel
theorem dMd_likenessOf_138 : decode (mB Md_likenessOf) 138 = .ok (.goto (-100), 3) := by decide +kernel
theorem dMd_likenessOf_141 : decode (mB Md_likenessOf) 141 = .ok (.iload 5, 2) := by decide +kernel
theorem dMd_likenessOf_143 : decode (mB Md_likenessOf) 143 = .ok (.ifCond .ne 7, 3) := by decide +kernel
theorem dMd_likenessOf_146 : decode (mB Md_likenessOf) 146 = .ok (.fconst 0, 1) := by decide +kernel
theorem dMd_likenessOf_147 : decode (mB Md_likenessOf) 147 = .ok (.goto 12, 3) := by decide +kernel
theorem dMd_likenessOf_150 : decode (mB Md_likenessOf) 150 = .ok (.iconst 2, 1) := by decide +kernel
theorem dMd_likenessOf_151 : decode (mB Md_likenessOf) 151 = .ok (.iload 6, 2) := by decide +kernel
theorem dMd_likenessOf_153 : decode (mB Md_likenessOf) 153 = .ok (.imul, 1) := by decide +kernel
theorem dMd_likenessOf_154 : decode (mB Md_likenessOf) 154 = .ok (.i2f, 1) := by decide +kernel
theorem dMd_likenessOf_155 : decode (mB Md_likenessOf) 155 = .ok (.iload 5, 2) := by decide +kernel
theorem dMd_likenessOf_157 : decode (mB Md_likenessOf) 157 = .ok (.i2f, 1) := by decide +kernel
theorem dMd_likenessOf_158 : decode (mB Md_likenessOf) 158 = .ok (.fdiv, 1) := by decide +kernel
theorem dMd_likenessOf_159 : decode (mB Md_likenessOf) 159 = .ok (.freturn, 1) := by decide +kernel
def w_Md_likenessOf_90 (R : UInt32 → tpH → Prop) (K38 : Nat → Int32 → Int32 → Int32 → Int32 → Int32 → Int32 → Int32 → tpH → Prop) (o : Nat) (x1 : Int32) (x2 : Int32) (x3 : Int32) (x4 : Int32) (x5 : Int32) (x6 : Int32) (x7 : Int32) (x8 : Int32) (t0 : Int32) (h : tpH) : Prop :=
  (t0 = 0 → (K38 o x1 x2 x3 x4 x5 (x6 + (0 : Int32)) (x7 + (1 : Int32)) h)) ∧ (¬ t0 = 0 → (hT h o = 14 ∧ (w_Md_isWithin o x1 x8 x3 h (fun v4 h3 => (v4 = 0 → (K38 o x1 x2 x3 x4 x5 (x6 + (0 : Int32)) (x7 + (1 : Int32)) h3)) ∧ (¬ v4 = 0 → (hT h3 o = 14 ∧ (∃ a7, (hR h3 o 41) = some a7 ∧ hT h3 a7 = 15 ∧ (vp_in x8 (hL h3 a7) ∧ (w_Md_isWithin o x2 (hI h3 a7 x8.toNatClampNeg) x4 h3 (fun v12 h11 => (v12 = 0 → (K38 o x1 x2 x3 x4 x5 (x6 + (0 : Int32)) (x7 + (1 : Int32)) h11)) ∧ (¬ v12 = 0 → (K38 o x1 x2 x3 x4 x5 (x6 + (1 : Int32)) (x7 + (1 : Int32)) h11))))))))))))
def b_Md_likenessOf_38 (R : UInt32 → tpH → Prop) (Y : Nat → Int32 → Int32 → Int32 → Int32 → Int32 → Int32 → Int32 → tpH → Prop) (o : Nat) (x1 : Int32) (x2 : Int32) (x3 : Int32) (x4 : Int32) (x5 : Int32) (x6 : Int32) (x7 : Int32) (h : tpH) : Prop :=
  hT h o = 14 ∧ (((hI h o 34) ≤ x7 → ((¬ x5 = 0 → (vf_n32 (FP.fdiv (FP.i2f ((2 : Int32) * x6)) (FP.i2f x5)) ∧ (R (FP.fdiv (FP.i2f ((2 : Int32) * x6)) (FP.i2f x5)) h))) ∧ (x5 = 0 → (R (FP.fconst0) h)))) ∧ (¬ (hI h o 34) ≤ x7 → (∃ a5, (hR h o 32) = some a5 ∧ hT h a5 = 15 ∧ (vp_in x7 (hL h a5) ∧ (((hI h a5 x7.toNatClampNeg) = x3 → (w_Md_likenessOf_90 R Y o x1 x2 x3 x4 x5 x6 x7 (hI h a5 x7.toNatClampNeg) (0 : Int32) h)) ∧ (¬ (hI h a5 x7.toNatClampNeg) = x3 → (∃ a10, (hR h o 41) = some a10 ∧ hT h a10 = 15 ∧ (vp_in (hI h a5 x7.toNatClampNeg) (hL h a10) ∧ (((hI h a10 (hI h a5 x7.toNatClampNeg).toNatClampNeg) = (-1 : Int32) → (w_Md_likenessOf_90 R Y o x1 x2 x3 x4 x5 x6 x7 (hI h a5 x7.toNatClampNeg) (0 : Int32) h)) ∧ (¬ (hI h a10 (hI h a5 x7.toNatClampNeg).toNatClampNeg) = (-1 : Int32) → (vp_in (hI h a5 x7.toNatClampNeg) (hL h a10) ∧ (((hI h a10 (hI h a5 x7.toNatClampNeg).toNatClampNeg) = x4 → (w_Md_likenessOf_90 R Y o x1 x2 x3 x4 x5 x6 x7 (hI h a5 x7.toNatClampNeg) (0 : Int32) h)) ∧ (¬ (hI h a10 (hI h a5 x7.toNatClampNeg).toNatClampNeg) = x4 → (w_Md_likenessOf_90 R Y o x1 x2 x3 x4 x5 x6 x7 (hI h a5 x7.toNatClampNeg) (1 : Int32) h))))))))))))))
def w_Md_likenessOf_38 (R : UInt32 → tpH → Prop) : Nat → Nat → Int32 → Int32 → Int32 → Int32 → Int32 → Int32 → Int32 → tpH → Prop
  | 0 => fun _ _ _ _ _ _ _ _ _ => False
  | n + 1 => b_Md_likenessOf_38 R (w_Md_likenessOf_38 R n)
def w_Md_likenessOf (o : Nat) (x1 : Int32) (x2 : Int32) (x3 : Int32) (x4 : Int32) (h : tpH) (R : UInt32 → tpH → Prop) : Prop :=
  hT h o = 14 ∧ (w_Md_belowMany o x1 (hR h o 32) (hI h o 34) x3 h (fun v3 h2 => hT h2 o = 14 ∧ (w_Md_belowMany o x2 (hR h2 o 33) (hI h2 o 35) x4 h2 (fun v6 h5 => ∃ n, w_Md_likenessOf_38 R n o x1 x2 x3 x4 (v3 + v6) (0 : Int32) (0 : Int32) h5))))
theorem s_Md_likenessOf_90 {h0 : tpH} {av : List tpV} {R : UInt32 → tpH → Prop} {K38 : Nat → Int32 → Int32 → Int32 → Int32 → Int32 → Int32 → Int32 → tpH → Prop} (k38 : ∀ (o : Nat) (x1 : Int32) (x2 : Int32) (x3 : Int32) (x4 : Int32) (x5 : Int32) (x6 : Int32) (x7 : Int32) (h : tpH), K38 o x1 x2 x3 x4 x5 x6 x7 h → tpR Md_likenessOf 3 h0 av (tpOf R (fun _ _ => False)) 38 [some (vR (some o)), some (vI x1), some (vI x2), some (vI x3), some (vI x4), some (vI x5), some (vI x6), some (vI x7), none, none] [] h) : ∀ (o : Nat) (x1 : Int32) (x2 : Int32) (x3 : Int32) (x4 : Int32) (x5 : Int32) (x6 : Int32) (x7 : Int32) (x8 : Int32) (t0 : Int32) (h : tpH), w_Md_likenessOf_90 R K38 o x1 x2 x3 x4 x5 x6 x7 x8 t0 h → tpR Md_likenessOf 3 h0 av (tpOf R (fun _ _ => False)) 90 [some (vR (some o)), some (vI x1), some (vI x2), some (vI x3), some (vI x4), some (vI x5), some (vI x6), some (vI x7), some (vI x8), none] [vI t0] h := by
  intro o x1 x2 x3 x4 x5 x6 x7 x8 t0 h hw
  unfold w_Md_likenessOf_90 at hw
  refine tq_istore (ls' := [some (vR (some o)), some (vI x1), some (vI x2), some (vI x3), some (vI x4), some (vI x5), some (vI x6), some (vI x7), some (vI x8), some (vI t0)]) dMd_likenessOf_90 (Nat.le_of_ble_eq_true rfl) rfl ?_
  refine tq_iload dMd_likenessOf_92 rfl ?_
  refine tq_iload dMd_likenessOf_94 rfl ?_
  refine tq_ifeq (tgt := 131) dMd_likenessOf_96 (by decide) (fun c1 => ?_) (fun c1 => ?_)
  · have hw := hw.1 c1
    refine tq_iconst (v := (0 : Int32)) dMd_likenessOf_131 tni_0 ?_
    refine tq_iadd dMd_likenessOf_132 ?_
    refine tq_istore (ls' := [some (vR (some o)), some (vI x1), some (vI x2), some (vI x3), some (vI x4), some (vI x5), some (vI (x6 + (0 : Int32))), some (vI x7), some (vI x8), some (vI t0)]) dMd_likenessOf_133 (Nat.le_of_ble_eq_true rfl) rfl ?_
    refine tq_inc (k := (1 : Int32)) (ls' := [some (vR (some o)), some (vI x1), some (vI x2), some (vI x3), some (vI x4), some (vI x5), some (vI (x6 + (0 : Int32))), some (vI (x7 + (1 : Int32))), some (vI x8), some (vI t0)]) dMd_likenessOf_135 rfl tni_1 (Nat.le_of_ble_eq_true rfl) rfl ?_
    refine tq_goto (tgt := 38) dMd_likenessOf_138 (by decide) ?_
    refine tpR.fo (ls' := [some (vR (some o)), some (vI x1), some (vI x2), some (vI x3), some (vI x4), some (vI x5), some (vI (x6 + (0 : Int32))), some (vI (x7 + (1 : Int32))), none, none]) ?_ (And.intro rfl (And.intro rfl (And.intro rfl (And.intro rfl (And.intro rfl (And.intro rfl (And.intro rfl (And.intro rfl trivial))))))))
    exact k38 _ _ _ _ _ _ _ _ _ hw
  · have hw := hw.2 c1
    refine tq_aload_n dMd_likenessOf_99 rfl rfl ?_
    refine tq_iload_n dMd_likenessOf_100 rfl rfl ?_
    refine tq_iload dMd_likenessOf_101 rfl ?_
    refine tq_iload_n dMd_likenessOf_103 rfl rfl ?_
    obtain ⟨f2, hw⟩ := hw
    refine te_callV mv_Md_isWithin (ci := 13) (dc := 1) (as := [vI x1, vI x8, vI x3]) (rest := [vI x6]) kMd_229 rfl (Nat.le_of_ble_eq_true rfl) (Nat.le_of_ble_eq_true rfl) rfl rfl rfl f2 (Nat.le_of_ble_eq_true rfl) dMd_likenessOf_104 (s_Md_isWithin hw) (fun _ _ hx => False.elim hx) (tk_i fun v4 h3 hw => ?_)
    refine tq_ifeq (tgt := 131) dMd_likenessOf_107 (by decide) (fun c5 => ?_) (fun c5 => ?_)
    · have hw := hw.1 c5
      refine tq_iconst (v := (0 : Int32)) dMd_likenessOf_131 tni_0 ?_
      refine tq_iadd dMd_likenessOf_132 ?_
      refine tq_istore (ls' := [some (vR (some o)), some (vI x1), some (vI x2), some (vI x3), some (vI x4), some (vI x5), some (vI (x6 + (0 : Int32))), some (vI x7), some (vI x8), some (vI t0)]) dMd_likenessOf_133 (Nat.le_of_ble_eq_true rfl) rfl ?_
      refine tq_inc (k := (1 : Int32)) (ls' := [some (vR (some o)), some (vI x1), some (vI x2), some (vI x3), some (vI x4), some (vI x5), some (vI (x6 + (0 : Int32))), some (vI (x7 + (1 : Int32))), some (vI x8), some (vI t0)]) dMd_likenessOf_135 rfl tni_1 (Nat.le_of_ble_eq_true rfl) rfl ?_
      refine tq_goto (tgt := 38) dMd_likenessOf_138 (by decide) ?_
      refine tpR.fo (ls' := [some (vR (some o)), some (vI x1), some (vI x2), some (vI x3), some (vI x4), some (vI x5), some (vI (x6 + (0 : Int32))), some (vI (x7 + (1 : Int32))), none, none]) ?_ (And.intro rfl (And.intro rfl (And.intro rfl (And.intro rfl (And.intro rfl (And.intro rfl (And.intro rfl (And.intro rfl trivial))))))))
      exact k38 _ _ _ _ _ _ _ _ _ hw
    · have hw := hw.2 c5
      refine tq_aload_n dMd_likenessOf_110 rfl rfl ?_
      refine tq_iload_n dMd_likenessOf_111 rfl rfl ?_
      refine tq_aload_n dMd_likenessOf_112 rfl rfl ?_
      obtain ⟨f6, hw⟩ := hw
      refine te_getr dMd_likenessOf_113 fMd_106 rfl rfl f6 ?_
      refine tq_iload dMd_likenessOf_116 rfl ?_
      obtain ⟨a7, e8, f9, hw⟩ := hw
      obtain ⟨f10, hw⟩ := hw
      refine te_iald dMd_likenessOf_118 e8 (Or.inl f9) f10 ?_
      refine tq_iload dMd_likenessOf_119 rfl ?_
      refine te_callV mv_Md_isWithin (ci := 13) (dc := 1) (as := [vI x2, vI (hI h3 a7 x8.toNatClampNeg), vI x4]) (rest := [vI x6]) kMd_229 rfl (Nat.le_of_ble_eq_true rfl) (Nat.le_of_ble_eq_true rfl) rfl rfl rfl f6 (Nat.le_of_ble_eq_true rfl) dMd_likenessOf_121 (s_Md_isWithin hw) (fun _ _ hx => False.elim hx) (tk_i fun v12 h11 hw => ?_)
      refine tq_ifeq (tgt := 131) dMd_likenessOf_124 (by decide) (fun c13 => ?_) (fun c13 => ?_)
      · have hw := hw.1 c13
        refine tq_iconst (v := (0 : Int32)) dMd_likenessOf_131 tni_0 ?_
        refine tq_iadd dMd_likenessOf_132 ?_
        refine tq_istore (ls' := [some (vR (some o)), some (vI x1), some (vI x2), some (vI x3), some (vI x4), some (vI x5), some (vI (x6 + (0 : Int32))), some (vI x7), some (vI x8), some (vI t0)]) dMd_likenessOf_133 (Nat.le_of_ble_eq_true rfl) rfl ?_
        refine tq_inc (k := (1 : Int32)) (ls' := [some (vR (some o)), some (vI x1), some (vI x2), some (vI x3), some (vI x4), some (vI x5), some (vI (x6 + (0 : Int32))), some (vI (x7 + (1 : Int32))), some (vI x8), some (vI t0)]) dMd_likenessOf_135 rfl tni_1 (Nat.le_of_ble_eq_true rfl) rfl ?_
        refine tq_goto (tgt := 38) dMd_likenessOf_138 (by decide) ?_
        refine tpR.fo (ls' := [some (vR (some o)), some (vI x1), some (vI x2), some (vI x3), some (vI x4), some (vI x5), some (vI (x6 + (0 : Int32))), some (vI (x7 + (1 : Int32))), none, none]) ?_ (And.intro rfl (And.intro rfl (And.intro rfl (And.intro rfl (And.intro rfl (And.intro rfl (And.intro rfl (And.intro rfl trivial))))))))
        exact k38 _ _ _ _ _ _ _ _ _ hw
      · have hw := hw.2 c13
        refine tq_iconst (v := (1 : Int32)) dMd_likenessOf_127 tni_1 ?_
        refine tq_goto (tgt := 132) dMd_likenessOf_128 (by decide) ?_
        refine tq_iadd dMd_likenessOf_132 ?_
        refine tq_istore (ls' := [some (vR (some o)), some (vI x1), some (vI x2), some (vI x3), some (vI x4), some (vI x5), some (vI (x6 + (1 : Int32))), some (vI x7), some (vI x8), some (vI t0)]) dMd_likenessOf_133 (Nat.le_of_ble_eq_true rfl) rfl ?_
        refine tq_inc (k := (1 : Int32)) (ls' := [some (vR (some o)), some (vI x1), some (vI x2), some (vI x3), some (vI x4), some (vI x5), some (vI (x6 + (1 : Int32))), some (vI (x7 + (1 : Int32))), some (vI x8), some (vI t0)]) dMd_likenessOf_135 rfl tni_1 (Nat.le_of_ble_eq_true rfl) rfl ?_
        refine tq_goto (tgt := 38) dMd_likenessOf_138 (by decide) ?_
        refine tpR.fo (ls' := [some (vR (some o)), some (vI x1), some (vI x2), some (vI x3), some (vI x4), some (vI x5), some (vI (x6 + (1 : Int32))), some (vI (x7 + (1 : Int32))), none, none]) ?_ (And.intro rfl (And.intro rfl (And.intro rfl (And.intro rfl (And.intro rfl (And.intro rfl (And.intro rfl (And.intro rfl trivial))))))))
        exact k38 _ _ _ _ _ _ _ _ _ hw
theorem s_Md_likenessOf_38 {h0 : tpH} {av : List tpV} {R : UInt32 → tpH → Prop} : ∀ (n : Nat) (o : Nat) (x1 : Int32) (x2 : Int32) (x3 : Int32) (x4 : Int32) (x5 : Int32) (x6 : Int32) (x7 : Int32) (h : tpH), w_Md_likenessOf_38 R n o x1 x2 x3 x4 x5 x6 x7 h → tpR Md_likenessOf 3 h0 av (tpOf R (fun _ _ => False)) 38 [some (vR (some o)), some (vI x1), some (vI x2), some (vI x3), some (vI x4), some (vI x5), some (vI x6), some (vI x7), none, none] [] h := by
  intro n
  induction n with
  | zero => intro o x1 x2 x3 x4 x5 x6 x7 h hw; exact False.elim hw
  | succ n ih =>
    intro o x1 x2 x3 x4 x5 x6 x7 h hw
    change b_Md_likenessOf_38 R (w_Md_likenessOf_38 R n) o x1 x2 x3 x4 x5 x6 x7 h at hw
    unfold b_Md_likenessOf_38 at hw
    refine tq_iload dMd_likenessOf_38 rfl ?_
    refine tq_aload_n dMd_likenessOf_40 rfl rfl ?_
    obtain ⟨f1, hw⟩ := hw
    refine te_geti dMd_likenessOf_41 fMd_246 rfl rfl f1 ?_
    refine tq_icmpge (tgt := 141) dMd_likenessOf_44 (by decide) (fun c2 => ?_) (fun c2 => ?_)
    · have hw := hw.1 c2
      refine tq_iload dMd_likenessOf_141 rfl ?_
      refine tq_ifne (tgt := 150) dMd_likenessOf_143 (by decide) (fun c3 => ?_) (fun c3 => ?_)
      · have hw := hw.1 c3
        refine tq_iconst (v := (2 : Int32)) dMd_likenessOf_150 tni_2 ?_
        refine tq_iload dMd_likenessOf_151 rfl ?_
        refine tq_imul dMd_likenessOf_153 ?_
        refine tq_i2f dMd_likenessOf_154 ?_
        refine tq_iload dMd_likenessOf_155 rfl ?_
        refine tq_i2f dMd_likenessOf_157 ?_
        obtain ⟨f4, hw⟩ := hw
        refine tq_fdiv dMd_likenessOf_158 f4 ?_
        exact tq_fret rfl dMd_likenessOf_159 hw
      · have hw := hw.2 c3
        refine tq_fconst0 dMd_likenessOf_146 ?_
        refine tq_goto (tgt := 159) dMd_likenessOf_147 (by decide) ?_
        exact tq_fret rfl dMd_likenessOf_159 hw
    · have hw := hw.2 c2
      refine tq_aload_n dMd_likenessOf_47 rfl rfl ?_
      refine te_getr dMd_likenessOf_48 fMd_83 rfl rfl f1 ?_
      refine tq_iload dMd_likenessOf_51 rfl ?_
      obtain ⟨a5, e6, f7, hw⟩ := hw
      obtain ⟨f8, hw⟩ := hw
      refine te_iald dMd_likenessOf_53 e6 (Or.inl f7) f8 ?_
      refine tq_istore (ls' := [some (vR (some o)), some (vI x1), some (vI x2), some (vI x3), some (vI x4), some (vI x5), some (vI x6), some (vI x7), some (vI (hI h a5 x7.toNatClampNeg)), none]) dMd_likenessOf_54 (Nat.le_of_ble_eq_true rfl) rfl ?_
      refine tq_iload dMd_likenessOf_56 rfl ?_
      refine tq_iload_n dMd_likenessOf_58 rfl rfl ?_
      refine tq_icmpeq (tgt := 89) dMd_likenessOf_59 (by decide) (fun c9 => ?_) (fun c9 => ?_)
      · have hw := hw.1 c9
        refine tq_iconst (v := (0 : Int32)) dMd_likenessOf_89 tni_0 ?_
        refine tpR.fo (ls' := [some (vR (some o)), some (vI x1), some (vI x2), some (vI x3), some (vI x4), some (vI x5), some (vI x6), some (vI x7), some (vI (hI h a5 x7.toNatClampNeg)), none]) ?_ (And.intro rfl (And.intro rfl (And.intro rfl (And.intro rfl (And.intro rfl (And.intro rfl (And.intro rfl (And.intro rfl (And.intro rfl trivial)))))))))
        exact s_Md_likenessOf_90 ih _ _ _ _ _ _ _ _ _ _ _ hw
      · have hw := hw.2 c9
        refine tq_aload_n dMd_likenessOf_62 rfl rfl ?_
        refine te_getr dMd_likenessOf_63 fMd_106 rfl rfl f1 ?_
        refine tq_iload dMd_likenessOf_66 rfl ?_
        obtain ⟨a10, e11, f12, hw⟩ := hw
        obtain ⟨f13, hw⟩ := hw
        refine te_iald dMd_likenessOf_68 e11 (Or.inl f12) f13 ?_
        refine tq_iconst (v := (-1 : Int32)) dMd_likenessOf_69 tni_m1 ?_
        refine tq_icmpeq (tgt := 89) dMd_likenessOf_70 (by decide) (fun c14 => ?_) (fun c14 => ?_)
        · have hw := hw.1 c14
          refine tq_iconst (v := (0 : Int32)) dMd_likenessOf_89 tni_0 ?_
          refine tpR.fo (ls' := [some (vR (some o)), some (vI x1), some (vI x2), some (vI x3), some (vI x4), some (vI x5), some (vI x6), some (vI x7), some (vI (hI h a5 x7.toNatClampNeg)), none]) ?_ (And.intro rfl (And.intro rfl (And.intro rfl (And.intro rfl (And.intro rfl (And.intro rfl (And.intro rfl (And.intro rfl (And.intro rfl trivial)))))))))
          exact s_Md_likenessOf_90 ih _ _ _ _ _ _ _ _ _ _ _ hw
        · have hw := hw.2 c14
          refine tq_aload_n dMd_likenessOf_73 rfl rfl ?_
          refine te_getr dMd_likenessOf_74 fMd_106 rfl rfl f1 ?_
          refine tq_iload dMd_likenessOf_77 rfl ?_
          obtain ⟨f15, hw⟩ := hw
          refine te_iald dMd_likenessOf_79 e11 (Or.inl f12) f15 ?_
          refine tq_iload dMd_likenessOf_80 rfl ?_
          refine tq_icmpeq (tgt := 89) dMd_likenessOf_82 (by decide) (fun c16 => ?_) (fun c16 => ?_)
          · have hw := hw.1 c16
            refine tq_iconst (v := (0 : Int32)) dMd_likenessOf_89 tni_0 ?_
            refine tpR.fo (ls' := [some (vR (some o)), some (vI x1), some (vI x2), some (vI x3), some (vI x4), some (vI x5), some (vI x6), some (vI x7), some (vI (hI h a5 x7.toNatClampNeg)), none]) ?_ (And.intro rfl (And.intro rfl (And.intro rfl (And.intro rfl (And.intro rfl (And.intro rfl (And.intro rfl (And.intro rfl (And.intro rfl trivial)))))))))
            exact s_Md_likenessOf_90 ih _ _ _ _ _ _ _ _ _ _ _ hw
          · have hw := hw.2 c16
            refine tq_iconst (v := (1 : Int32)) dMd_likenessOf_85 tni_1 ?_
            refine tq_goto (tgt := 90) dMd_likenessOf_86 (by decide) ?_
            refine tpR.fo (ls' := [some (vR (some o)), some (vI x1), some (vI x2), some (vI x3), some (vI x4), some (vI x5), some (vI x6), some (vI x7), some (vI (hI h a5 x7.toNatClampNeg)), none]) ?_ (And.intro rfl (And.intro rfl (And.intro rfl (And.intro rfl (And.intro rfl (And.intro rfl (And.intro rfl (And.intro rfl (And.intro rfl trivial)))))))))
            exact s_Md_likenessOf_90 ih _ _ _ _ _ _ _ _ _ _ _ hw
theorem s_Md_likenessOf {o : Nat} {x1 : Int32} {x2 : Int32} {x3 : Int32} {x4 : Int32} {h : tpH} {R : UInt32 → tpH → Prop} (hw : w_Md_likenessOf o x1 x2 x3 x4 h R) : tpC Md_likenessOf 3 [vR (some o), vI x1, vI x2, vI x3, vI x4] h (tpOf R (fun _ _ => False)) := by
  refine tpC_of mv_Md_likenessOf.2.2.2.1 rfl rfl (Nat.le_of_ble_eq_true rfl) ?_
  show tpR Md_likenessOf 3 h _ _ 0 [some (vR (some o)), some (vI x1), some (vI x2), some (vI x3), some (vI x4), none, none, none, none, none] [] h
  unfold w_Md_likenessOf at hw
  refine tq_aload_n dMd_likenessOf_0 rfl rfl ?_
  refine tq_iload_n dMd_likenessOf_1 rfl rfl ?_
  refine tq_aload_n dMd_likenessOf_2 rfl rfl ?_
  obtain ⟨f1, hw⟩ := hw
  refine te_getr dMd_likenessOf_3 fMd_83 rfl rfl f1 ?_
  refine tq_aload_n dMd_likenessOf_6 rfl rfl ?_
  refine te_geti dMd_likenessOf_7 fMd_246 rfl rfl f1 ?_
  refine tq_iload_n dMd_likenessOf_10 rfl rfl ?_
  refine te_callV mv_Md_belowMany (ci := 13) (dc := 2) (as := [vI x1, vR (hR h o 32), vI (hI h o 34), vI x3]) (rest := []) kMd_273 rfl (Nat.le_of_ble_eq_true rfl) (Nat.le_of_ble_eq_true rfl) rfl rfl rfl f1 (Nat.le_of_ble_eq_true rfl) dMd_likenessOf_11 (s_Md_belowMany hw) (fun _ _ hx => False.elim hx) (tk_i fun v3 h2 hw => ?_)
  refine tq_aload_n dMd_likenessOf_14 rfl rfl ?_
  refine tq_iload_n dMd_likenessOf_15 rfl rfl ?_
  refine tq_aload_n dMd_likenessOf_16 rfl rfl ?_
  obtain ⟨f4, hw⟩ := hw
  refine te_getr dMd_likenessOf_17 fMd_86 rfl rfl f4 ?_
  refine tq_aload_n dMd_likenessOf_20 rfl rfl ?_
  refine te_geti dMd_likenessOf_21 fMd_249 rfl rfl f4 ?_
  refine tq_iload dMd_likenessOf_24 rfl ?_
  refine te_callV mv_Md_belowMany (ci := 13) (dc := 2) (as := [vI x2, vR (hR h2 o 33), vI (hI h2 o 35), vI x4]) (rest := [vI v3]) kMd_273 rfl (Nat.le_of_ble_eq_true rfl) (Nat.le_of_ble_eq_true rfl) rfl rfl rfl f4 (Nat.le_of_ble_eq_true rfl) dMd_likenessOf_26 (s_Md_belowMany hw) (fun _ _ hx => False.elim hx) (tk_i fun v6 h5 hw => ?_)
  refine tq_iadd dMd_likenessOf_29 ?_
  refine tq_istore (ls' := [some (vR (some o)), some (vI x1), some (vI x2), some (vI x3), some (vI x4), some (vI (v3 + v6)), none, none, none, none]) dMd_likenessOf_30 (Nat.le_of_ble_eq_true rfl) rfl ?_
  refine tq_iconst (v := (0 : Int32)) dMd_likenessOf_32 tni_0 ?_
  refine tq_istore (ls' := [some (vR (some o)), some (vI x1), some (vI x2), some (vI x3), some (vI x4), some (vI (v3 + v6)), some (vI (0 : Int32)), none, none, none]) dMd_likenessOf_33 (Nat.le_of_ble_eq_true rfl) rfl ?_
  refine tq_iconst (v := (0 : Int32)) dMd_likenessOf_35 tni_0 ?_
  refine tq_istore (ls' := [some (vR (some o)), some (vI x1), some (vI x2), some (vI x3), some (vI x4), some (vI (v3 + v6)), some (vI (0 : Int32)), some (vI (0 : Int32)), none, none]) dMd_likenessOf_36 (Nat.le_of_ble_eq_true rfl) rfl ?_
  refine tpR.fo (ls' := [some (vR (some o)), some (vI x1), some (vI x2), some (vI x3), some (vI x4), some (vI (v3 + v6)), some (vI (0 : Int32)), some (vI (0 : Int32)), none, none]) ?_ (And.intro rfl (And.intro rfl (And.intro rfl (And.intro rfl (And.intro rfl (And.intro rfl (And.intro rfl (And.intro rfl trivial))))))))
  obtain ⟨n, hw⟩ := hw
  exact s_Md_likenessOf_38 n _ _ _ _ _ _ _ _ _ hw
/-! TModel.matchByLikeness -/
theorem dMd_matchByLikeness_0 : decode (mB Md_matchByLikeness) 0 = .ok (.aload_n 0, 1) := by decide +kernel
theorem dMd_matchByLikeness_1 : decode (mB Md_matchByLikeness) 1 = .ok (.getfield 246, 3) := by decide +kernel
theorem dMd_matchByLikeness_4 : decode (mB Md_matchByLikeness) 4 = .ok (.iconst 1, 1) := by decide +kernel
theorem dMd_matchByLikeness_5 : decode (mB Md_matchByLikeness) 5 = .ok (.isub, 1) := by decide +kernel
theorem dMd_matchByLikeness_6 : decode (mB Md_matchByLikeness) 6 = .ok (.istore_n 3, 1) := by decide +kernel
theorem dMd_matchByLikeness_7 : decode (mB Md_matchByLikeness) 7 = .ok (.iload_n 3, 1) := by decide +kernel
theorem dMd_matchByLikeness_8 : decode (mB Md_matchByLikeness) 8 = .ok (.ifCond .lt 126, 3) := by decide +kernel
theorem dMd_matchByLikeness_11 : decode (mB Md_matchByLikeness) 11 = .ok (.iconst (-1), 1) := by decide +kernel
theorem dMd_matchByLikeness_12 : decode (mB Md_matchByLikeness) 12 = .ok (.istore 4, 2) := by decide +kernel
theorem dMd_matchByLikeness_14 : decode (mB Md_matchByLikeness) 14 = .ok (.fconst 0, 1) := by decide +kernel
theorem dMd_matchByLikeness_15 : decode (mB Md_matchByLikeness) 15 = .ok (.fstore 5, 2) := by decide +kernel
theorem dMd_matchByLikeness_17 : decode (mB Md_matchByLikeness) 17 = .ok (.iconst 0, 1) := by decide +kernel
theorem dMd_matchByLikeness_18 : decode (mB Md_matchByLikeness) 18 = .ok (.istore 6, 2) := by decide +kernel
theorem dMd_matchByLikeness_20 : decode (mB Md_matchByLikeness) 20 = .ok (.iload 6, 2) := by decide +kernel
theorem dMd_matchByLikeness_22 : decode (mB Md_matchByLikeness) 22 = .ok (.aload_n 0, 1) := by decide +kernel
theorem dMd_matchByLikeness_23 : decode (mB Md_matchByLikeness) 23 = .ok (.getfield 249, 3) := by decide +kernel
theorem dMd_matchByLikeness_26 : decode (mB Md_matchByLikeness) 26 = .ok (.if_icmp .ge 84, 3) := by decide +kernel
theorem dMd_matchByLikeness_29 : decode (mB Md_matchByLikeness) 29 = .ok (.aload_n 0, 1) := by decide +kernel
theorem dMd_matchByLikeness_30 : decode (mB Md_matchByLikeness) 30 = .ok (.aload_n 0, 1) := by decide +kernel
theorem dMd_matchByLikeness_31 : decode (mB Md_matchByLikeness) 31 = .ok (.getfield 83, 3) := by decide +kernel
theorem dMd_matchByLikeness_34 : decode (mB Md_matchByLikeness) 34 = .ok (.iload_n 3, 1) := by decide +kernel
theorem dMd_matchByLikeness_35 : decode (mB Md_matchByLikeness) 35 = .ok (.iaload, 1) := by decide +kernel
theorem dMd_matchByLikeness_36 : decode (mB Md_matchByLikeness) 36 = .ok (.aload_n 0, 1) := by decide +kernel
theorem dMd_matchByLikeness_37 : decode (mB Md_matchByLikeness) 37 = .ok (.getfield 86, 3) := by decide +kernel
theorem dMd_matchByLikeness_40 : decode (mB Md_matchByLikeness) 40 = .ok (.iload 6, 2) := by decide +kernel
theorem dMd_matchByLikeness_42 : decode (mB Md_matchByLikeness) 42 = .ok (.iaload, 1) := by decide +kernel
theorem dMd_matchByLikeness_43 : decode (mB Md_matchByLikeness) 43 = .ok (.invokevirtual 270, 3) := by decide +kernel
theorem dMd_matchByLikeness_46 : decode (mB Md_matchByLikeness) 46 = .ok (.ifCond .eq 25, 3) := by decide +kernel
theorem dMd_matchByLikeness_49 : decode (mB Md_matchByLikeness) 49 = .ok (.aload_n 0, 1) := by decide +kernel
theorem dMd_matchByLikeness_50 : decode (mB Md_matchByLikeness) 50 = .ok (.iload_n 1, 1) := by decide +kernel
theorem dMd_matchByLikeness_51 : decode (mB Md_matchByLikeness) 51 = .ok (.iload_n 2, 1) := by decide +kernel
theorem dMd_matchByLikeness_52 : decode (mB Md_matchByLikeness) 52 = .ok (.aload_n 0, 1) := by decide +kernel
theorem dMd_matchByLikeness_53 : decode (mB Md_matchByLikeness) 53 = .ok (.getfield 83, 3) := by decide +kernel
theorem dMd_matchByLikeness_56 : decode (mB Md_matchByLikeness) 56 = .ok (.iload_n 3, 1) := by decide +kernel
theorem dMd_matchByLikeness_57 : decode (mB Md_matchByLikeness) 57 = .ok (.iaload, 1) := by decide +kernel
theorem dMd_matchByLikeness_58 : decode (mB Md_matchByLikeness) 58 = .ok (.aload_n 0, 1) := by decide +kernel
theorem dMd_matchByLikeness_59 : decode (mB Md_matchByLikeness) 59 = .ok (.getfield 86, 3) := by decide +kernel
theorem dMd_matchByLikeness_62 : decode (mB Md_matchByLikeness) 62 = .ok (.iload 6, 2) := by decide +kernel
theorem dMd_matchByLikeness_64 : decode (mB Md_matchByLikeness) 64 = .ok (.iaload, 1) := by decide +kernel
theorem dMd_matchByLikeness_65 : decode (mB Md_matchByLikeness) 65 = .ok (.invokevirtual 277, 3) := by decide +kernel
theorem dMd_matchByLikeness_68 : decode (mB Md_matchByLikeness) 68 = .ok (.goto 4, 3) := by decide +kernel
theorem dMd_matchByLikeness_71 : decode (mB Md_matchByLikeness) 71 = .ok (.fconst 0, 1) := by decide +kernel
theorem dMd_matchByLikeness_72 : decode (mB Md_matchByLikeness) 72 = .ok (.fstore 7, 2) := by decide +kernel
theorem dMd_matchByLikeness_74 : decode (mB Md_matchByLikeness) 74 = .ok (.fload 7, 2) := by decide +kernel
theorem dMd_matchByLikeness_76 : decode (mB Md_matchByLikeness) 76 = .ok (.ldc_w 281, 3) := by decide +kernel
theorem dMd_matchByLikeness_79 : decode (mB Md_matchByLikeness) 79 = .ok (.fcmp .l, 1) := by decide +kernel
theorem dMd_matchByLikeness_80 : decode (mB Md_matchByLikeness) 80 = .ok (.ifCond .lt 24, 3) := by decide +kernel
theorem dMd_matchByLikeness_83 : decode (mB Md_matchByLikeness) 83 = .ok (.fload 7, 2) := by decide +kernel
theorem dMd_matchByLikeness_85 : decode (mB Md_matchByLikeness) 85 = .ok (.fload 5, 2) := by decide +kernel
theorem dMd_matchByLikeness_87 : decode (mB Md_matchByLikeness) 87 = .ok (.fcmp .l, 1) := by decide +kernel
theorem dMd_matchByLikeness_88 : decode (mB Md_matchByLikeness) 88 = .ok (.ifCond .le 16, 3) := by decide +kernel
theorem dMd_matchByLikeness_91 : decode (mB Md_matchByLikeness) 91 = .ok (.aload_n 0, 1) := by decide +kernel
theorem dMd_matchByLikeness_92 : decode (mB Md_matchByLikeness) 92 = .ok (.getfield 86, 3) := by decide +kernel
theorem dMd_matchByLikeness_95 : decode (mB Md_matchByLikeness) 95 = .ok (.iload 6, 2) := by decide +kernel
theorem dMd_matchByLikeness_97 : decode (mB Md_matchByLikeness) 97 = .ok (.iaload, 1) := by decide +kernel
theorem dMd_matchByLikeness_98 : decode (mB Md_matchByLikeness) 98 = .ok (.istore 4, 2) := by decide +kernel
theorem dMd_matchByLikeness_100 : decode (mB Md_matchByLikeness) 100 = .ok (.fload 7, 2) := by decide +kernel
theorem dMd_matchByLikeness_102 : decode (mB Md_matchByLikeness) 102 = .ok (.fstore 5, 2) := by decide +kernel
theorem dMd_matchByLikeness_104 : decode (mB Md_matchByLikeness) 104 = .ok (.iinc 6 1, 3) := by decide +kernel
theorem dMd_matchByLikeness_107 : decode (mB Md_matchByLikeness) 107 = .ok (.goto (-87), 3) := by decide +kernel
theorem dMd_matchByLikeness_110 : decode (mB Md_matchByLikeness) 110 = .ok (.iload 4, 2) := by decide +kernel
theorem dMd_matchByLikeness_112 : decode (mB Md_matchByLikeness) 112 = .ok (.iconst (-1), 1) := by decide +kernel
theorem dMd_matchByLikeness_113 : decode (mB Md_matchByLikeness) 113 = .ok (.if_icmp .eq 15, 3) := by decide +kernel
theorem dMd_matchByLikeness_116 : decode (mB Md_matchByLikeness) 116 = .ok (.aload_n 0, 1) := by decide +kernel
theorem dMd_matchByLikeness_117 : decode (mB Md_matchByLikeness) 117 = .ok (.aload_n 0, 1) := by decide +kernel
theorem dMd_matchByLikeness_118 : decode (mB Md_matchByLikeness) 118 = .ok (.getfield 83, 3) := by decide +kernel
theorem dMd_matchByLikeness_121 : decode (mB Md_matchByLikeness) 121 = .ok (.iload_n 3, 1) := by decide +kernel
theorem dMd_matchByLikeness_122 : decode (mB Md_matchByLikeness) 122 = .ok (.iaload, 1) := by decide +kernel
theorem dMd_matchByLikeness_123 : decode (mB Md_matchByLikeness) 123 = .ok (.iload 4, 2) := by decide +kernel
theorem dMd_matchByLikeness_125 : decode (mB Md_matchByLikeness) 125 = .ok (.invokevirtual 260, 3) := by decide +kernel
theorem dMd_matchByLikeness_128 : decode (mB Md_matchByLikeness) 128 = .ok (.iinc 3 (-1), 3) := by decide +kernel
theorem dMd_matchByLikeness_131 : decode (mB Md_matchByLikeness) 131 = .ok (.goto (-124), 3) := by decide +kernel
theorem dMd_matchByLikeness_134 : decode (mB Md_matchByLikeness) 134 = .ok (.return_, 1) := by decide +kernel
def w_Md_matchByLikeness_72 (R : tpH → Prop) (K20 : Nat → Int32 → Int32 → Int32 → Int32 → UInt32 → Int32 → tpH → Prop) (o : Nat) (x1 : Int32) (x2 : Int32) (x3 : Int32) (x4 : Int32) (x5 : UInt32) (x6 : Int32) (t0 : UInt32) (h : tpH) : Prop :=
  ((Op.cmpValue (FP.fcmp t0 (1056964608 : UInt32)) .l) < 0 → (K20 o x1 x2 x3 x4 x5 (x6 + (1 : Int32)) h)) ∧ (¬ (Op.cmpValue (FP.fcmp t0 (1056964608 : UInt32)) .l) < 0 → (((Op.cmpValue (FP.fcmp t0 x5) .l) ≤ 0 → (K20 o x1 x2 x3 x4 x5 (x6 + (1 : Int32)) h)) ∧ (¬ (Op.cmpValue (FP.fcmp t0 x5) .l) ≤ 0 → (hT h o = 14 ∧ (∃ a4, (hR h o 33) = some a4 ∧ hT h a4 = 15 ∧ (vp_in x6 (hL h a4) ∧ (K20 o x1 x2 x3 (hI h a4 x6.toNatClampNeg) t0 (x6 + (1 : Int32)) h)))))))
def b_Md_matchByLikeness_20 (R : tpH → Prop) (K7 : Nat → Int32 → Int32 → Int32 → tpH → Prop) (Y : Nat → Int32 → Int32 → Int32 → Int32 → UInt32 → Int32 → tpH → Prop) (o : Nat) (x1 : Int32) (x2 : Int32) (x3 : Int32) (x4 : Int32) (x5 : UInt32) (x6 : Int32) (h : tpH) : Prop :=
  hT h o = 14 ∧ (((hI h o 35) ≤ x6 → ((x4 = (-1 : Int32) → (K7 o x1 x2 (x3 + (-1 : Int32)) h)) ∧ (¬ x4 = (-1 : Int32) → (∃ a4, (hR h o 32) = some a4 ∧ hT h a4 = 15 ∧ (vp_in x3 (hL h a4) ∧ (w_Md_pair o (hI h a4 x3.toNatClampNeg) x4 h (fun h8 => K7 o x1 x2 (x3 + (-1 : Int32)) h8))))))) ∧ (¬ (hI h o 35) ≤ x6 → (∃ a9, (hR h o 32) = some a9 ∧ hT h a9 = 15 ∧ (vp_in x3 (hL h a9) ∧ (∃ a13, (hR h o 33) = some a13 ∧ hT h a13 = 15 ∧ (vp_in x6 (hL h a13) ∧ (w_Md_canPair o (hI h a9 x3.toNatClampNeg) (hI h a13 x6.toNatClampNeg) h (fun v18 h17 => (v18 = 0 → (w_Md_matchByLikeness_72 R Y o x1 x2 x3 x4 x5 x6 (FP.fconst0) h17)) ∧ (¬ v18 = 0 → (hT h17 o = 14 ∧ (∃ a21, (hR h17 o 32) = some a21 ∧ hT h17 a21 = 15 ∧ (vp_in x3 (hL h17 a21) ∧ (∃ a25, (hR h17 o 33) = some a25 ∧ hT h17 a25 = 15 ∧ (vp_in x6 (hL h17 a25) ∧ (w_Md_likenessOf o x1 x2 (hI h17 a21 x3.toNatClampNeg) (hI h17 a25 x6.toNatClampNeg) h17 (fun v30 h29 => w_Md_matchByLikeness_72 R Y o x1 x2 x3 x4 x5 x6 v30 h29))))))))))))))))
def w_Md_matchByLikeness_20 (R : tpH → Prop) (K7 : Nat → Int32 → Int32 → Int32 → tpH → Prop) : Nat → Nat → Int32 → Int32 → Int32 → Int32 → UInt32 → Int32 → tpH → Prop
  | 0 => fun _ _ _ _ _ _ _ _ => False
  | n + 1 => b_Md_matchByLikeness_20 R K7 (w_Md_matchByLikeness_20 R K7 n)
def b_Md_matchByLikeness_7 (R : tpH → Prop) (Y : Nat → Int32 → Int32 → Int32 → tpH → Prop) (o : Nat) (x1 : Int32) (x2 : Int32) (x3 : Int32) (h : tpH) : Prop :=
  (x3 < 0 → (R h)) ∧ (¬ x3 < 0 → (∃ n, w_Md_matchByLikeness_20 R Y n o x1 x2 x3 (-1 : Int32) (FP.fconst0) (0 : Int32) h))
def w_Md_matchByLikeness_7 (R : tpH → Prop) : Nat → Nat → Int32 → Int32 → Int32 → tpH → Prop
  | 0 => fun _ _ _ _ _ => False
  | n + 1 => b_Md_matchByLikeness_7 R (w_Md_matchByLikeness_7 R n)
def w_Md_matchByLikeness (o : Nat) (x1 : Int32) (x2 : Int32) (h : tpH) (R : tpH → Prop) : Prop :=
  hT h o = 14 ∧ (∃ n, w_Md_matchByLikeness_7 R n o x1 x2 ((hI h o 34) - (1 : Int32)) h)
theorem s_Md_matchByLikeness_72 {h0 : tpH} {av : List tpV} {R : tpH → Prop} {K20 : Nat → Int32 → Int32 → Int32 → Int32 → UInt32 → Int32 → tpH → Prop} (k20 : ∀ (o : Nat) (x1 : Int32) (x2 : Int32) (x3 : Int32) (x4 : Int32) (x5 : UInt32) (x6 : Int32) (h : tpH), K20 o x1 x2 x3 x4 x5 x6 h → tpR Md_matchByLikeness 4 h0 av (tpOv R (fun _ _ => False)) 20 [some (vR (some o)), some (vI x1), some (vI x2), some (vI x3), some (vI x4), some (vF x5), some (vI x6), none] [] h) : ∀ (o : Nat) (x1 : Int32) (x2 : Int32) (x3 : Int32) (x4 : Int32) (x5 : UInt32) (x6 : Int32) (t0 : UInt32) (h : tpH), w_Md_matchByLikeness_72 R K20 o x1 x2 x3 x4 x5 x6 t0 h → tpR Md_matchByLikeness 4 h0 av (tpOv R (fun _ _ => False)) 72 [some (vR (some o)), some (vI x1), some (vI x2), some (vI x3), some (vI x4), some (vF x5), some (vI x6), none] [vF t0] h := by
  intro o x1 x2 x3 x4 x5 x6 t0 h hw
  unfold w_Md_matchByLikeness_72 at hw
  refine tq_fstore (ls' := [some (vR (some o)), some (vI x1), some (vI x2), some (vI x3), some (vI x4), some (vF x5), some (vI x6), some (vF t0)]) dMd_matchByLikeness_72 (Nat.le_of_ble_eq_true rfl) rfl ?_
  refine tq_fload dMd_matchByLikeness_74 rfl ?_
  refine tq_ldcfw dMd_matchByLikeness_76 nMd_281 ?_
  refine tq_fcmp dMd_matchByLikeness_79 ?_
  refine tq_iflt (tgt := 104) dMd_matchByLikeness_80 (by decide) (fun c1 => ?_) (fun c1 => ?_)
  · have hw := hw.1 c1
    refine tq_inc (k := (1 : Int32)) (ls' := [some (vR (some o)), some (vI x1), some (vI x2), some (vI x3), some (vI x4), some (vF x5), some (vI (x6 + (1 : Int32))), some (vF t0)]) dMd_matchByLikeness_104 rfl tni_1 (Nat.le_of_ble_eq_true rfl) rfl ?_
    refine tq_goto (tgt := 20) dMd_matchByLikeness_107 (by decide) ?_
    refine tpR.fo (ls' := [some (vR (some o)), some (vI x1), some (vI x2), some (vI x3), some (vI x4), some (vF x5), some (vI (x6 + (1 : Int32))), none]) ?_ (And.intro rfl (And.intro rfl (And.intro rfl (And.intro rfl (And.intro rfl (And.intro rfl (And.intro rfl trivial)))))))
    exact k20 _ _ _ _ _ _ _ _ hw
  · have hw := hw.2 c1
    refine tq_fload dMd_matchByLikeness_83 rfl ?_
    refine tq_fload dMd_matchByLikeness_85 rfl ?_
    refine tq_fcmp dMd_matchByLikeness_87 ?_
    refine tq_ifle (tgt := 104) dMd_matchByLikeness_88 (by decide) (fun c2 => ?_) (fun c2 => ?_)
    · have hw := hw.1 c2
      refine tq_inc (k := (1 : Int32)) (ls' := [some (vR (some o)), some (vI x1), some (vI x2), some (vI x3), some (vI x4), some (vF x5), some (vI (x6 + (1 : Int32))), some (vF t0)]) dMd_matchByLikeness_104 rfl tni_1 (Nat.le_of_ble_eq_true rfl) rfl ?_
      refine tq_goto (tgt := 20) dMd_matchByLikeness_107 (by decide) ?_
      refine tpR.fo (ls' := [some (vR (some o)), some (vI x1), some (vI x2), some (vI x3), some (vI x4), some (vF x5), some (vI (x6 + (1 : Int32))), none]) ?_ (And.intro rfl (And.intro rfl (And.intro rfl (And.intro rfl (And.intro rfl (And.intro rfl (And.intro rfl trivial)))))))
      exact k20 _ _ _ _ _ _ _ _ hw
    · have hw := hw.2 c2
      refine tq_aload_n dMd_matchByLikeness_91 rfl rfl ?_
      obtain ⟨f3, hw⟩ := hw
      refine te_getr dMd_matchByLikeness_92 fMd_86 rfl rfl f3 ?_
      refine tq_iload dMd_matchByLikeness_95 rfl ?_
      obtain ⟨a4, e5, f6, hw⟩ := hw
      obtain ⟨f7, hw⟩ := hw
      refine te_iald dMd_matchByLikeness_97 e5 (Or.inl f6) f7 ?_
      refine tq_istore (ls' := [some (vR (some o)), some (vI x1), some (vI x2), some (vI x3), some (vI (hI h a4 x6.toNatClampNeg)), some (vF x5), some (vI x6), some (vF t0)]) dMd_matchByLikeness_98 (Nat.le_of_ble_eq_true rfl) rfl ?_
      refine tq_fload dMd_matchByLikeness_100 rfl ?_
      refine tq_fstore (ls' := [some (vR (some o)), some (vI x1), some (vI x2), some (vI x3), some (vI (hI h a4 x6.toNatClampNeg)), some (vF t0), some (vI x6), some (vF t0)]) dMd_matchByLikeness_102 (Nat.le_of_ble_eq_true rfl) rfl ?_
      refine tq_inc (k := (1 : Int32)) (ls' := [some (vR (some o)), some (vI x1), some (vI x2), some (vI x3), some (vI (hI h a4 x6.toNatClampNeg)), some (vF t0), some (vI (x6 + (1 : Int32))), some (vF t0)]) dMd_matchByLikeness_104 rfl tni_1 (Nat.le_of_ble_eq_true rfl) rfl ?_
      refine tq_goto (tgt := 20) dMd_matchByLikeness_107 (by decide) ?_
      refine tpR.fo (ls' := [some (vR (some o)), some (vI x1), some (vI x2), some (vI x3), some (vI (hI h a4 x6.toNatClampNeg)), some (vF t0), some (vI (x6 + (1 : Int32))), none]) ?_ (And.intro rfl (And.intro rfl (And.intro rfl (And.intro rfl (And.intro rfl (And.intro rfl (And.intro rfl trivial)))))))
      exact k20 _ _ _ _ _ _ _ _ hw
theorem s_Md_matchByLikeness_20 {h0 : tpH} {av : List tpV} {R : tpH → Prop} {K7 : Nat → Int32 → Int32 → Int32 → tpH → Prop} (k7 : ∀ (o : Nat) (x1 : Int32) (x2 : Int32) (x3 : Int32) (h : tpH), K7 o x1 x2 x3 h → tpR Md_matchByLikeness 4 h0 av (tpOv R (fun _ _ => False)) 7 [some (vR (some o)), some (vI x1), some (vI x2), some (vI x3), none, none, none, none] [] h) : ∀ (n : Nat) (o : Nat) (x1 : Int32) (x2 : Int32) (x3 : Int32) (x4 : Int32) (x5 : UInt32) (x6 : Int32) (h : tpH), w_Md_matchByLikeness_20 R K7 n o x1 x2 x3 x4 x5 x6 h → tpR Md_matchByLikeness 4 h0 av (tpOv R (fun _ _ => False)) 20 [some (vR (some o)), some (vI x1), some (vI x2), some (vI x3), some (vI x4), some (vF x5), some (vI x6), none] [] h := by
  intro n
  induction n with
  | zero => intro o x1 x2 x3 x4 x5 x6 h hw; exact False.elim hw
  | succ n ih =>
    intro o x1 x2 x3 x4 x5 x6 h hw
    change b_Md_matchByLikeness_20 R K7 (w_Md_matchByLikeness_20 R K7 n) o x1 x2 x3 x4 x5 x6 h at hw
    unfold b_Md_matchByLikeness_20 at hw
    refine tq_iload dMd_matchByLikeness_20 rfl ?_
    refine tq_aload_n dMd_matchByLikeness_22 rfl rfl ?_
    obtain ⟨f1, hw⟩ := hw
    refine te_geti dMd_matchByLikeness_23 fMd_249 rfl rfl f1 ?_
    refine tq_icmpge (tgt := 110) dMd_matchByLikeness_26 (by decide) (fun c2 => ?_) (fun c2 => ?_)
    · have hw := hw.1 c2
      refine tq_iload dMd_matchByLikeness_110 rfl ?_
      refine tq_iconst (v := (-1 : Int32)) dMd_matchByLikeness_112 tni_m1 ?_
      refine tq_icmpeq (tgt := 128) dMd_matchByLikeness_113 (by decide) (fun c3 => ?_) (fun c3 => ?_)
      · have hw := hw.1 c3
        refine tq_inc (k := (-1 : Int32)) (ls' := [some (vR (some o)), some (vI x1), some (vI x2), some (vI (x3 + (-1 : Int32))), some (vI x4), some (vF x5), some (vI x6), none]) dMd_matchByLikeness_128 rfl tni_m1 (Nat.le_of_ble_eq_true rfl) rfl ?_
        refine tq_goto (tgt := 7) dMd_matchByLikeness_131 (by decide) ?_
        refine tpR.fo (ls' := [some (vR (some o)), some (vI x1), some (vI x2), some (vI (x3 + (-1 : Int32))), none, none, none, none]) ?_ (And.intro rfl (And.intro rfl (And.intro rfl (And.intro rfl trivial))))
        exact k7 _ _ _ _ _ hw
      · have hw := hw.2 c3
        refine tq_aload_n dMd_matchByLikeness_116 rfl rfl ?_
        refine tq_aload_n dMd_matchByLikeness_117 rfl rfl ?_
        refine te_getr dMd_matchByLikeness_118 fMd_83 rfl rfl f1 ?_
        refine tq_iload_n dMd_matchByLikeness_121 rfl rfl ?_
        obtain ⟨a4, e5, f6, hw⟩ := hw
        obtain ⟨f7, hw⟩ := hw
        refine te_iald dMd_matchByLikeness_122 e5 (Or.inl f6) f7 ?_
        refine tq_iload dMd_matchByLikeness_123 rfl ?_
        refine te_callV mv_Md_pair (ci := 13) (dc := 0) (as := [vI (hI h a4 x3.toNatClampNeg), vI x4]) (rest := []) kMd_260 rfl (Nat.le_of_ble_eq_true rfl) (Nat.le_of_ble_eq_true rfl) rfl rfl rfl f1 (Nat.le_of_ble_eq_true rfl) dMd_matchByLikeness_125 (s_Md_pair hw) (fun _ _ hx => False.elim hx) (tk_v fun h8 hw => ?_)
        refine tq_inc (k := (-1 : Int32)) (ls' := [some (vR (some o)), some (vI x1), some (vI x2), some (vI (x3 + (-1 : Int32))), some (vI x4), some (vF x5), some (vI x6), none]) dMd_matchByLikeness_128 rfl tni_m1 (Nat.le_of_ble_eq_true rfl) rfl ?_
        refine tq_goto (tgt := 7) dMd_matchByLikeness_131 (by decide) ?_
        refine tpR.fo (ls' := [some (vR (some o)), some (vI x1), some (vI x2), some (vI (x3 + (-1 : Int32))), none, none, none, none]) ?_ (And.intro rfl (And.intro rfl (And.intro rfl (And.intro rfl trivial))))
        exact k7 _ _ _ _ _ hw
    · have hw := hw.2 c2
      refine tq_aload_n dMd_matchByLikeness_29 rfl rfl ?_
      refine tq_aload_n dMd_matchByLikeness_30 rfl rfl ?_
      refine te_getr dMd_matchByLikeness_31 fMd_83 rfl rfl f1 ?_
      refine tq_iload_n dMd_matchByLikeness_34 rfl rfl ?_
      obtain ⟨a9, e10, f11, hw⟩ := hw
      obtain ⟨f12, hw⟩ := hw
      refine te_iald dMd_matchByLikeness_35 e10 (Or.inl f11) f12 ?_
      refine tq_aload_n dMd_matchByLikeness_36 rfl rfl ?_
      refine te_getr dMd_matchByLikeness_37 fMd_86 rfl rfl f1 ?_
      refine tq_iload dMd_matchByLikeness_40 rfl ?_
      obtain ⟨a13, e14, f15, hw⟩ := hw
      obtain ⟨f16, hw⟩ := hw
      refine te_iald dMd_matchByLikeness_42 e14 (Or.inl f15) f16 ?_
      refine te_callV mv_Md_canPair (ci := 13) (dc := 1) (as := [vI (hI h a9 x3.toNatClampNeg), vI (hI h a13 x6.toNatClampNeg)]) (rest := []) kMd_270 rfl (Nat.le_of_ble_eq_true rfl) (Nat.le_of_ble_eq_true rfl) rfl rfl rfl f1 (Nat.le_of_ble_eq_true rfl) dMd_matchByLikeness_43 (s_Md_canPair hw) (fun _ _ hx => False.elim hx) (tk_i fun v18 h17 hw => ?_)
      refine tq_ifeq (tgt := 71) dMd_matchByLikeness_46 (by decide) (fun c19 => ?_) (fun c19 => ?_)
      · have hw := hw.1 c19
        refine tq_fconst0 dMd_matchByLikeness_71 ?_
        refine tpR.fo (ls' := [some (vR (some o)), some (vI x1), some (vI x2), some (vI x3), some (vI x4), some (vF x5), some (vI x6), none]) ?_ (And.intro rfl (And.intro rfl (And.intro rfl (And.intro rfl (And.intro rfl (And.intro rfl (And.intro rfl trivial)))))))
        exact s_Md_matchByLikeness_72 ih _ _ _ _ _ _ _ _ _ hw
      · have hw := hw.2 c19
        refine tq_aload_n dMd_matchByLikeness_49 rfl rfl ?_
        refine tq_iload_n dMd_matchByLikeness_50 rfl rfl ?_
        refine tq_iload_n dMd_matchByLikeness_51 rfl rfl ?_
        refine tq_aload_n dMd_matchByLikeness_52 rfl rfl ?_
        obtain ⟨f20, hw⟩ := hw
        refine te_getr dMd_matchByLikeness_53 fMd_83 rfl rfl f20 ?_
        refine tq_iload_n dMd_matchByLikeness_56 rfl rfl ?_
        obtain ⟨a21, e22, f23, hw⟩ := hw
        obtain ⟨f24, hw⟩ := hw
        refine te_iald dMd_matchByLikeness_57 e22 (Or.inl f23) f24 ?_
        refine tq_aload_n dMd_matchByLikeness_58 rfl rfl ?_
        refine te_getr dMd_matchByLikeness_59 fMd_86 rfl rfl f20 ?_
        refine tq_iload dMd_matchByLikeness_62 rfl ?_
        obtain ⟨a25, e26, f27, hw⟩ := hw
        obtain ⟨f28, hw⟩ := hw
        refine te_iald dMd_matchByLikeness_64 e26 (Or.inl f27) f28 ?_
        refine te_callV mv_Md_likenessOf (ci := 13) (dc := 3) (as := [vI x1, vI x2, vI (hI h17 a21 x3.toNatClampNeg), vI (hI h17 a25 x6.toNatClampNeg)]) (rest := []) kMd_277 rfl (Nat.le_of_ble_eq_true rfl) (Nat.le_of_ble_eq_true rfl) rfl rfl rfl f20 (Nat.le_of_ble_eq_true rfl) dMd_matchByLikeness_65 (s_Md_likenessOf hw) (fun _ _ hx => False.elim hx) (tk_f fun v30 h29 hw => ?_)
        refine tq_goto (tgt := 72) dMd_matchByLikeness_68 (by decide) ?_
        refine tpR.fo (ls' := [some (vR (some o)), some (vI x1), some (vI x2), some (vI x3), some (vI x4), some (vF x5), some (vI x6), none]) ?_ (And.intro rfl (And.intro rfl (And.intro rfl (And.intro rfl (And.intro rfl (And.intro rfl (And.intro rfl trivial)))))))
        exact s_Md_matchByLikeness_72 ih _ _ _ _ _ _ _ _ _ hw
theorem s_Md_matchByLikeness_7 {h0 : tpH} {av : List tpV} {R : tpH → Prop} : ∀ (n : Nat) (o : Nat) (x1 : Int32) (x2 : Int32) (x3 : Int32) (h : tpH), w_Md_matchByLikeness_7 R n o x1 x2 x3 h → tpR Md_matchByLikeness 4 h0 av (tpOv R (fun _ _ => False)) 7 [some (vR (some o)), some (vI x1), some (vI x2), some (vI x3), none, none, none, none] [] h := by
  intro n
  induction n with
  | zero => intro o x1 x2 x3 h hw; exact False.elim hw
  | succ n ih =>
    intro o x1 x2 x3 h hw
    change b_Md_matchByLikeness_7 R (w_Md_matchByLikeness_7 R n) o x1 x2 x3 h at hw
    unfold b_Md_matchByLikeness_7 at hw
    refine tq_iload_n dMd_matchByLikeness_7 rfl rfl ?_
    refine tq_iflt (tgt := 134) dMd_matchByLikeness_8 (by decide) (fun c1 => ?_) (fun c1 => ?_)
    · have hw := hw.1 c1
      exact tq_vret rfl dMd_matchByLikeness_134 hw
    · have hw := hw.2 c1
      refine tq_iconst (v := (-1 : Int32)) dMd_matchByLikeness_11 tni_m1 ?_
      refine tq_istore (ls' := [some (vR (some o)), some (vI x1), some (vI x2), some (vI x3), some (vI (-1 : Int32)), none, none, none]) dMd_matchByLikeness_12 (Nat.le_of_ble_eq_true rfl) rfl ?_
      refine tq_fconst0 dMd_matchByLikeness_14 ?_
      refine tq_fstore (ls' := [some (vR (some o)), some (vI x1), some (vI x2), some (vI x3), some (vI (-1 : Int32)), some (vF (FP.fconst0)), none, none]) dMd_matchByLikeness_15 (Nat.le_of_ble_eq_true rfl) rfl ?_
      refine tq_iconst (v := (0 : Int32)) dMd_matchByLikeness_17 tni_0 ?_
      refine tq_istore (ls' := [some (vR (some o)), some (vI x1), some (vI x2), some (vI x3), some (vI (-1 : Int32)), some (vF (FP.fconst0)), some (vI (0 : Int32)), none]) dMd_matchByLikeness_18 (Nat.le_of_ble_eq_true rfl) rfl ?_
      refine tpR.fo (ls' := [some (vR (some o)), some (vI x1), some (vI x2), some (vI x3), some (vI (-1 : Int32)), some (vF (FP.fconst0)), some (vI (0 : Int32)), none]) ?_ (And.intro rfl (And.intro rfl (And.intro rfl (And.intro rfl (And.intro rfl (And.intro rfl (And.intro rfl trivial)))))))
      obtain ⟨n, hw⟩ := hw
      exact s_Md_matchByLikeness_20 ih n _ _ _ _ _ _ _ _ hw
theorem s_Md_matchByLikeness {o : Nat} {x1 : Int32} {x2 : Int32} {h : tpH} {R : tpH → Prop} (hw : w_Md_matchByLikeness o x1 x2 h R) : tpC Md_matchByLikeness 4 [vR (some o), vI x1, vI x2] h (tpOv R (fun _ _ => False)) := by
  refine tpC_of mv_Md_matchByLikeness.2.2.2.1 rfl rfl (Nat.le_of_ble_eq_true rfl) ?_
  show tpR Md_matchByLikeness 4 h _ _ 0 [some (vR (some o)), some (vI x1), some (vI x2), none, none, none, none, none] [] h
  unfold w_Md_matchByLikeness at hw
  refine tq_aload_n dMd_matchByLikeness_0 rfl rfl ?_
  obtain ⟨f1, hw⟩ := hw
  refine te_geti dMd_matchByLikeness_1 fMd_246 rfl rfl f1 ?_
  refine tq_iconst (v := (1 : Int32)) dMd_matchByLikeness_4 tni_1 ?_
  refine tq_isub dMd_matchByLikeness_5 ?_
  refine tq_istore_n (ls' := [some (vR (some o)), some (vI x1), some (vI x2), some (vI ((hI h o 34) - (1 : Int32))), none, none, none, none]) dMd_matchByLikeness_6 rfl (Nat.le_of_ble_eq_true rfl) rfl ?_
  refine tpR.fo (ls' := [some (vR (some o)), some (vI x1), some (vI x2), some (vI ((hI h o 34) - (1 : Int32))), none, none, none, none]) ?_ (And.intro rfl (And.intro rfl (And.intro rfl (And.intro rfl trivial))))
  obtain ⟨n, hw⟩ := hw
  exact s_Md_matchByLikeness_7 n _ _ _ _ _ hw
/-! TModel.areRootsLike -/
theorem dMd_areRootsLike_0 : decode (mB Md_areRootsLike) 0 = .ok (.aload_n 0, 1) := by decide +kernel
theorem dMd_areRootsLike_1 : decode (mB Md_areRootsLike) 1 = .ok (.getfield 7, 3) := by decide +kernel
theorem dMd_areRootsLike_4 : decode (mB Md_areRootsLike) 4 = .ok (.aload_n 0, 1) := by decide +kernel
theorem dMd_areRootsLike_5 : decode (mB Md_areRootsLike) 5 = .ok (.getfield 13, 3) := by decide +kernel
theorem dMd_areRootsLike_8 : decode (mB Md_areRootsLike) 8 = .ok (.aload_n 0, 1) := by decide +kernel
theorem dMd_areRootsLike_9 : decode (mB Md_areRootsLike) 9 = .ok (.getfield 16, 3) := by decide +kernel
theorem dMd_areRootsLike_12 : decode (mB Md_areRootsLike) 12 = .ok (.iload_n 1, 1) := by decide +kernel
theorem dMd_areRootsLike_13 : decode (mB Md_areRootsLike) 13 = .ok (.iaload, 1) := by decide +kernel
theorem dMd_areRootsLike_14 : decode (mB Md_areRootsLike) 14 = .ok (.aload_n 0, 1) := by decide +kernel
theorem dMd_areRootsLike_15 : decode (mB Md_areRootsLike) 15 = .ok (.getfield 16, 3) := by decide +kernel
theorem dMd_areRootsLike_18 : decode (mB Md_areRootsLike) 18 = .ok (.iload_n 2, 1) := by decide +kernel
theorem dMd_areRootsLike_19 : decode (mB Md_areRootsLike) 19 = .ok (.iaload, 1) := by decide +kernel
theorem dMd_areRootsLike_20 : decode (mB Md_areRootsLike) 20 = .ok (.invokestatic 256, 3) := by decide +kernel
theorem dMd_areRootsLike_23 : decode (mB Md_areRootsLike) 23 = .ok (.ireturn, 1) := by decide +kernel
def w_Md_areRootsLike (o : Nat) (x1 : Int32) (x2 : Int32) (h : tpH) (R : Int32 → tpH → Prop) : Prop :=
  hT h o = 14 ∧ (∃ a2, (hR h o 5) = some a2 ∧ hT h a2 = 15 ∧ (vp_in x1 (hL h a2) ∧ (vp_in x2 (hL h a2) ∧ (w_Md_areOfOneKind (hR h o 1) (hR h o 2) (hI h a2 x1.toNatClampNeg) (hI h a2 x2.toNatClampNeg) h (fun v8 h7 => tpB v8 ∧ (R v8 h7))))))
theorem s_Md_areRootsLike {o : Nat} {x1 : Int32} {x2 : Int32} {h : tpH} {R : Int32 → tpH → Prop} (hw : w_Md_areRootsLike o x1 x2 h R) : tpC Md_areRootsLike 1 [vR (some o), vI x1, vI x2] h (tpOi R (fun _ _ => False)) := by
  refine tpC_of mv_Md_areRootsLike.2.2.2.1 rfl rfl (Nat.le_of_ble_eq_true rfl) ?_
  show tpR Md_areRootsLike 1 h _ _ 0 [some (vR (some o)), some (vI x1), some (vI x2)] [] h
  unfold w_Md_areRootsLike at hw
  refine tq_aload_n dMd_areRootsLike_0 rfl rfl ?_
  obtain ⟨f1, hw⟩ := hw
  refine te_getr dMd_areRootsLike_1 fMd_7 rfl rfl f1 ?_
  refine tq_aload_n dMd_areRootsLike_4 rfl rfl ?_
  refine te_getr dMd_areRootsLike_5 fMd_13 rfl rfl f1 ?_
  refine tq_aload_n dMd_areRootsLike_8 rfl rfl ?_
  refine te_getr dMd_areRootsLike_9 fMd_16 rfl rfl f1 ?_
  refine tq_iload_n dMd_areRootsLike_12 rfl rfl ?_
  obtain ⟨a2, e3, f4, hw⟩ := hw
  obtain ⟨f5, hw⟩ := hw
  refine te_iald dMd_areRootsLike_13 e3 (Or.inl f4) f5 ?_
  refine tq_aload_n dMd_areRootsLike_14 rfl rfl ?_
  refine te_getr dMd_areRootsLike_15 fMd_16 rfl rfl f1 ?_
  refine tq_iload_n dMd_areRootsLike_18 rfl rfl ?_
  obtain ⟨f6, hw⟩ := hw
  refine te_iald dMd_areRootsLike_19 e3 (Or.inl f4) f6 ?_
  refine tq_callS ms_Md_areOfOneKind (dc := 0) (as := [vR (hR h o 1), vR (hR h o 2), vI (hI h a2 x1.toNatClampNeg), vI (hI h a2 x2.toNatClampNeg)]) (rest := []) kMd_256 (Nat.le_of_ble_eq_true rfl) (Nat.le_of_ble_eq_true rfl) rfl rfl (Nat.le_of_ble_eq_true rfl) dMd_areRootsLike_20 (s_Md_areOfOneKind hw) (fun _ _ hx => False.elim hx) (tk_i fun v8 h7 hw => ?_)
  obtain ⟨f9, hw⟩ := hw
  exact tq_iret rfl (tpB_n f9) dMd_areRootsLike_23 hw
/-! TModel.matchTrees -/
theorem dMd_matchTrees_0 : decode (mB Md_matchTrees) 0 = .ok (.aload_n 0, 1) := by decide +kernel
theorem dMd_matchTrees_1 : decode (mB Md_matchTrees) 1 = .ok (.iload_n 1, 1) := by decide +kernel
theorem dMd_matchTrees_2 : decode (mB Md_matchTrees) 2 = .ok (.iload_n 2, 1) := by decide +kernel
theorem dMd_matchTrees_3 : decode (mB Md_matchTrees) 3 = .ok (.invokevirtual 282, 3) := by decide +kernel
theorem dMd_matchTrees_6 : decode (mB Md_matchTrees) 6 = .ok (.iconst 0, 1) := by decide +kernel
theorem dMd_matchTrees_7 : decode (mB Md_matchTrees) 7 = .ok (.istore_n 3, 1) := by decide +kernel
theorem dMd_matchTrees_8 : decode (mB Md_matchTrees) 8 = .ok (.iload_n 3, 1) := by decide +kernel
theorem dMd_matchTrees_9 : decode (mB Md_matchTrees) 9 = .ok (.sipush 300, 3) := by decide +kernel
theorem dMd_matchTrees_12 : decode (mB Md_matchTrees) 12 = .ok (.if_icmp .ge 23, 3) := by decide +kernel
theorem dMd_matchTrees_15 : decode (mB Md_matchTrees) 15 = .ok (.aload_n 0, 1) := by decide +kernel
theorem dMd_matchTrees_16 : decode (mB Md_matchTrees) 16 = .ok (.getfield 106, 3) := by decide +kernel
theorem dMd_matchTrees_19 : decode (mB Md_matchTrees) 19 = .ok (.iload_n 3, 1) := by decide +kernel
theorem dMd_matchTrees_20 : decode (mB Md_matchTrees) 20 = .ok (.iconst (-1), 1) := by decide +kernel
theorem dMd_matchTrees_21 : decode (mB Md_matchTrees) 21 = .ok (.iastore, 1) := by decide +kernel
theorem dMd_matchTrees_22 : decode (mB Md_matchTrees) 22 = .ok (.aload_n 0, 1) := by decide +kernel
theorem dMd_matchTrees_23 : decode (mB Md_matchTrees) 23 = .ok (.getfield 109, 3) := by decide +kernel
theorem dMd_matchTrees_26 : decode (mB Md_matchTrees) 26 = .ok (.iload_n 3, 1) := by decide +kernel
theorem dMd_matchTrees_27 : decode (mB Md_matchTrees) 27 = .ok (.iconst (-1), 1) := by decide +kernel
theorem dMd_matchTrees_28 : decode (mB Md_matchTrees) 28 = .ok (.iastore, 1) := by decide +kernel
theorem dMd_matchTrees_29 : decode (mB Md_matchTrees) 29 = .ok (.iinc 3 1, 3) := by decide +kernel
theorem dMd_matchTrees_32 : decode (mB Md_matchTrees) 32 = .ok (.goto (-24), 3) := by decide +kernel
theorem dMd_matchTrees_35 : decode (mB Md_matchTrees) 35 = .ok (.iconst 0, 1) := by decide +kernel
theorem dMd_matchTrees_36 : decode (mB Md_matchTrees) 36 = .ok (.istore_n 3, 1) := by decide +kernel
theorem dMd_matchTrees_37 : decode (mB Md_matchTrees) 37 = .ok (.iload_n 3, 1) := by decide +kernel
theorem dMd_matchTrees_38 : decode (mB Md_matchTrees) 38 = .ok (.aload_n 0, 1) := by decide +kernel
theorem dMd_matchTrees_39 : decode (mB Md_matchTrees) 39 = .ok (.getfield 246, 3) := by decide +kernel
theorem dMd_matchTrees_42 : decode (mB Md_matchTrees) 42 = .ok (.if_icmp .ge 39, 3) := by decide +kernel
theorem dMd_matchTrees_45 : decode (mB Md_matchTrees) 45 = .ok (.aload_n 0, 1) := by decide +kernel
theorem dMd_matchTrees_46 : decode (mB Md_matchTrees) 46 = .ok (.iload_n 2, 1) := by decide +kernel
theorem dMd_matchTrees_47 : decode (mB Md_matchTrees) 47 = .ok (.aload_n 0, 1) := by decide +kernel
theorem dMd_matchTrees_48 : decode (mB Md_matchTrees) 48 = .ok (.getfield 83, 3) := by decide +kernel
theorem dMd_matchTrees_51 : decode (mB Md_matchTrees) 51 = .ok (.iload_n 3, 1) := by decide +kernel
theorem dMd_matchTrees_52 : decode (mB Md_matchTrees) 52 = .ok (.iaload, 1) := by decide +kernel
theorem dMd_matchTrees_53 : decode (mB Md_matchTrees) 53 = .ok (.invokevirtual 212, 3) := by decide +kernel
theorem dMd_matchTrees_56 : decode (mB Md_matchTrees) 56 = .ok (.ifCond .eq 19, 3) := by decide +kernel
theorem dMd_matchTrees_59 : decode (mB Md_matchTrees) 59 = .ok (.aload_n 0, 1) := by decide +kernel
theorem dMd_matchTrees_60 : decode (mB Md_matchTrees) 60 = .ok (.aload_n 0, 1) := by decide +kernel
theorem dMd_matchTrees_61 : decode (mB Md_matchTrees) 61 = .ok (.getfield 83, 3) := by decide +kernel
theorem dMd_matchTrees_64 : decode (mB Md_matchTrees) 64 = .ok (.iload_n 3, 1) := by decide +kernel
theorem dMd_matchTrees_65 : decode (mB Md_matchTrees) 65 = .ok (.iaload, 1) := by decide +kernel
theorem dMd_matchTrees_66 : decode (mB Md_matchTrees) 66 = .ok (.aload_n 0, 1) := by decide +kernel
theorem dMd_matchTrees_67 : decode (mB Md_matchTrees) 67 = .ok (.getfield 83, 3) := by decide +kernel
theorem dMd_matchTrees_70 : decode (mB Md_matchTrees) 70 = .ok (.iload_n 3, 1) := by decide +kernel
theorem dMd_matchTrees_71 : decode (mB Md_matchTrees) 71 = .ok (.iaload, 1) := by decide +kernel
theorem dMd_matchTrees_72 : decode (mB Md_matchTrees) 72 = .ok (.invokevirtual 260, 3) := by decide +kernel
theorem dMd_matchTrees_75 : decode (mB Md_matchTrees) 75 = .ok (.iinc 3 1, 3) := by decide +kernel
theorem dMd_matchTrees_78 : decode (mB Md_matchTrees) 78 = .ok (.goto (-41), 3) := by decide +kernel
theorem dMd_matchTrees_81 : decode (mB Md_matchTrees) 81 = .ok (.aload_n 0, 1) := by decide +kernel
theorem dMd_matchTrees_82 : decode (mB Md_matchTrees) 82 = .ok (.aload_n 0, 1) := by decide +kernel
theorem dMd_matchTrees_83 : decode (mB Md_matchTrees) 83 = .ok (.getfield 16, 3) := by decide +kernel
theorem dMd_matchTrees_86 : decode (mB Md_matchTrees) 86 = .ok (.iload_n 1, 1) := by decide +kernel
theorem dMd_matchTrees_87 : decode (mB Md_matchTrees) 87 = .ok (.iaload, 1) := by decide +kernel
theorem dMd_matchTrees_88 : decode (mB Md_matchTrees) 88 = .ok (.aload_n 0, 1) := by decide +kernel
theorem dMd_matchTrees_89 : decode (mB Md_matchTrees) 89 = .ok (.getfield 16, 3) := by decide +kernel
theorem dMd_matchTrees_92 : decode (mB Md_matchTrees) 92 = .ok (.iload_n 2, 1) := by decide +kernel
theorem dMd_matchTrees_93 : decode (mB Md_matchTrees) 93 = .ok (.iaload, 1) := by decide +kernel
theorem dMd_matchTrees_94 : decode (mB Md_matchTrees) 94 = .ok (.invokevirtual 270, 3) := by decide +kernel
theorem dMd_matchTrees_97 : decode (mB Md_matchTrees) 97 = .ok (.ifCond .eq 19, 3) := by decide +kernel
theorem dMd_matchTrees_100 : decode (mB Md_matchTrees) 100 = .ok (.aload_n 0, 1) := by decide +kernel
theorem dMd_matchTrees_101 : decode (mB Md_matchTrees) 101 = .ok (.aload_n 0, 1) := by decide +kernel
theorem dMd_matchTrees_102 : decode (mB Md_matchTrees) 102 = .ok (.getfield 16, 3) := by decide +kernel
theorem dMd_matchTrees_105 : decode (mB Md_matchTrees) 105 = .ok (.iload_n 1, 1) := by decide +kernel
theorem dMd_matchTrees_106 : decode (mB Md_matchTrees) 106 = .ok (.iaload, 1) := by decide +kernel
theorem dMd_matchTrees_107 : decode (mB Md_matchTrees) 107 = .ok (.aload_n 0, 1) := by decide +kernel
theorem dMd_matchTrees_108 : decode (mB Md_matchTrees) 108 = .ok (.getfield 16, 3) := by decide +kernel
theorem dMd_matchTrees_111 : decode (mB Md_matchTrees) 111 = .ok (.iload_n 2, 1) := by decide +kernel
theorem dMd_matchTrees_112 : decode (mB Md_matchTrees) 112 = .ok (.iaload, 1) := by decide +kernel
theorem dMd_matchTrees_113 : decode (mB Md_matchTrees) 113 = .ok (.invokevirtual 260, 3) := by decide +kernel
theorem dMd_matchTrees_116 : decode (mB Md_matchTrees) 116 = .ok (.iconst 0, 1) := by decide +kernel
theorem dMd_matchTrees_117 : decode (mB Md_matchTrees) 117 = .ok (.istore_n 3, 1) := by decide +kernel
theorem dMd_matchTrees_118 : decode (mB Md_matchTrees) 118 = .ok (.iload_n 3, 1) := by decide +kernel
theorem dMd_matchTrees_119 : decode (mB Md_matchTrees) 119 = .ok (.aload_n 0, 1) := by decide +kernel
theorem dMd_matchTrees_120 : decode (mB Md_matchTrees) 120 = .ok (.getfield 246, 3) := by decide +kernel
theorem dMd_matchTrees_123 : decode (mB Md_matchTrees) 123 = .ok (.if_icmp .ge 79, 3) := by decide +kernel
theorem dMd_matchTrees_126 : decode (mB Md_matchTrees) 126 = .ok (.iconst 0, 1) := by decide +kernel
theorem dMd_matchTrees_127 : decode (mB Md_matchTrees) 127 = .ok (.istore 4, 2) := by decide +kernel
theorem dMd_matchTrees_129 : decode (mB Md_matchTrees) 129 = .ok (.iload 4, 2) := by decide +kernel
theorem dMd_matchTrees_131 : decode (mB Md_matchTrees) 131 = .ok (.aload_n 0, 1) := by decide +kernel
theorem dMd_matchTrees_132 : decode (mB Md_matchTrees) 132 = .ok (.getfield 249, 3) := by decide +kernel
theorem dMd_matchTrees_135 : decode (mB Md_matchTrees) 135 = .ok (.if_icmp .ge 61, 3) := by decide +kernel
theorem dMd_matchTrees_138 : decode (mB Md_matchTrees) 138 = .ok (.aload_n 0, 1) := by decide +kernel
theorem dMd_matchTrees_139 : decode (mB Md_matchTrees) 139 = .ok (.getfield 13, 3) := by decide +kernel
theorem dMd_matchTrees_142 : decode (mB Md_matchTrees) 142 = .ok (.aload_n 0, 1) := by decide +kernel
theorem dMd_matchTrees_143 : decode (mB Md_matchTrees) 143 = .ok (.getfield 83, 3) := by decide +kernel
theorem dMd_matchTrees_146 : decode (mB Md_matchTrees) 146 = .ok (.iload_n 3, 1) := by decide +kernel
theorem dMd_matchTrees_147 : decode (mB Md_matchTrees) 147 = .ok (.iaload, 1) := by decide +kernel
theorem dMd_matchTrees_148 : decode (mB Md_matchTrees) 148 = .ok (.iaload, 1) := by decide +kernel
theorem dMd_matchTrees_149 : decode (mB Md_matchTrees) 149 = .ok (.iconst (-1), 1) := by decide +kernel
theorem dMd_matchTrees_150 : decode (mB Md_matchTrees) 150 = .ok (.if_icmp .eq 46, 3) := by decide +kernel
theorem dMd_matchTrees_153 : decode (mB Md_matchTrees) 153 = .ok (.aload_n 0, 1) := by decide +kernel
theorem dMd_matchTrees_154 : decode (mB Md_matchTrees) 154 = .ok (.aload_n 0, 1) := by decide +kernel
theorem dMd_matchTrees_155 : decode (mB Md_matchTrees) 155 = .ok (.getfield 83, 3) := by decide +kernel
theorem dMd_matchTrees_158 : decode (mB Md_matchTrees) 158 = .ok (.iload_n 3, 1) := by decide +kernel
theorem dMd_matchTrees_159 : decode (mB Md_matchTrees) 159 = .ok (.iaload, 1) := by decide +kernel
theorem dMd_matchTrees_160 : decode (mB Md_matchTrees) 160 = .ok (.aload_n 0, 1) := by decide +kernel
theorem dMd_matchTrees_161 : decode (mB Md_matchTrees) 161 = .ok (.getfield 86, 3) := by decide +kernel
theorem dMd_matchTrees_164 : decode (mB Md_matchTrees) 164 = .ok (.iload 4, 2) := by decide +kernel
theorem dMd_matchTrees_166 : decode (mB Md_matchTrees) 166 = .ok (.iaload, 1) := by decide +kernel
theorem dMd_matchTrees_167 : decode (mB Md_matchTrees) 167 = .ok (.invokevirtual 270, 3) := by decide +kernel
theorem dMd_matchTrees_170 : decode (mB Md_matchTrees) 170 = .ok (.ifCond .eq 20, 3) := by decide +kernel
theorem dMd_matchTrees_173 : decode (mB Md_matchTrees) 173 = .ok (.aload_n 0, 1) := by decide +kernel
theorem dMd_matchTrees_174 : decode (mB Md_matchTrees) 174 = .ok (.aload_n 0, 1) := by decide +kernel
theorem dMd_matchTrees_175 : decode (mB Md_matchTrees) 175 = .ok (.getfield 83, 3) := by decide +kernel
theorem dMd_matchTrees_178 : decode (mB Md_matchTrees) 178 = .ok (.iload_n 3, 1) := by decide +kernel
theorem dMd_matchTrees_179 : decode (mB Md_matchTrees) 179 = .ok (.iaload, 1) := by decide +kernel
theorem dMd_matchTrees_180 : decode (mB Md_matchTrees) 180 = .ok (.aload_n 0, 1) := by decide +kernel
theorem dMd_matchTrees_181 : decode (mB Md_matchTrees) 181 = .ok (.getfield 86, 3) := by decide +kernel
theorem dMd_matchTrees_184 : decode (mB Md_matchTrees) 184 = .ok (.iload 4, 2) := by decide +kernel
theorem dMd_matchTrees_186 : decode (mB Md_matchTrees) 186 = .ok (.iaload, 1) := by decide +kernel
theorem dMd_matchTrees_187 : decode (mB Md_matchTrees) 187 = .ok (.invokevirtual 260, 3) := by decide +kernel
theorem dMd_matchTrees_190 : decode (mB Md_matchTrees) 190 = .ok (.iinc 4 1, 3) := by decide +kernel
theorem dMd_matchTrees_193 : decode (mB Md_matchTrees) 193 = .ok (.goto (-64), 3) := by decide +kernel
theorem dMd_matchTrees_196 : decode (mB Md_matchTrees) 196 = .ok (.iinc 3 1, 3) := by decide +kernel
theorem dMd_matchTrees_199 : decode (mB Md_matchTrees) 199 = .ok (.goto (-81), 3) := by decide +kernel
theorem dMd_matchTrees_202 : decode (mB Md_matchTrees) 202 = .ok (.aload_n 0, 1) := by decide +kernel
theorem dMd_matchTrees_203 : decode (mB Md_matchTrees) 203 = .ok (.iload_n 1, 1) := by decide +kernel
theorem dMd_matchTrees_204 : decode (mB Md_matchTrees) 204 = .ok (.iload_n 2, 1) := by decide +kernel
theorem dMd_matchTrees_205 : decode (mB Md_matchTrees) 205 = .ok (.invokevirtual 285, 3) := by decide +kernel
theorem dMd_matchTrees_208 : decode (mB Md_matchTrees) 208 = .ok (.aload_n 0, 1) := by decide +kernel
theorem dMd_matchTrees_209 : decode (mB Md_matchTrees) 209 = .ok (.iload_n 1, 1) := by decide +kernel
theorem dMd_matchTrees_210 : decode (mB Md_matchTrees) 210 = .ok (.iload_n 2, 1) := by decide +kernel
theorem dMd_matchTrees_211 : decode (mB Md_matchTrees) 211 = .ok (.iconst 1, 1) := by decide +kernel
theorem dMd_matchTrees_212 : decode (mB Md_matchTrees) 212 = .ok (.invokevirtual 288, 3) := by decide +kernel
theorem dMd_matchTrees_215 : decode (mB Md_matchTrees) 215 = .ok (.aload_n 0, 1) := by decide +kernel
theorem dMd_matchTrees_216 : decode (mB Md_matchTrees) 216 = .ok (.iload_n 1, 1) := by decide +kernel
theorem dMd_matchTrees_217 : decode (mB Md_matchTrees) 217 = .ok (.iload_n 2, 1) := by decide +kernel
theorem dMd_matchTrees_218 : decode (mB Md_matchTrees) 218 = .ok (.iconst 0, 1) := by decide +kernel
theorem dMd_matchTrees_219 : decode (mB Md_matchTrees) 219 = .ok (.invokevirtual 288, 3) := by decide +kernel
theorem dMd_matchTrees_222 : decode (mB Md_matchTrees) 222 = .ok (.aload_n 0, 1) := by decide +kernel
theorem dMd_matchTrees_223 : decode (mB Md_matchTrees) 223 = .ok (.iload_n 1, 1) := by decide +kernel
theorem dMd_matchTrees_224 : decode (mB Md_matchTrees) 224 = .ok (.iload_n 2, 1) := by decide +kernel
theorem dMd_matchTrees_225 : decode (mB Md_matchTrees) 225 = .ok (.invokevirtual 292, 3) := by decide +kernel
theorem dMd_matchTrees_228 : decode (mB Md_matchTrees) 228 = .ok (.return_, 1) := by decide +kernel
def b_Md_matchTrees_129 (R : tpH → Prop) (K118 : Nat → Int32 → Int32 → Int32 → tpH → Prop) (Y : Nat → Int32 → Int32 → Int32 → Int32 → tpH → Prop) (o : Nat) (x1 : Int32) (x2 : Int32) (x3 : Int32) (x4 : Int32) (h : tpH) : Prop :=
  hT h o = 14 ∧ (((hI h o 35) ≤ x4 → (K118 o x1 x2 (x3 + (1 : Int32)) h)) ∧ (¬ (hI h o 35) ≤ x4 → (∃ a3, (hR h o 32) = some a3 ∧ hT h a3 = 15 ∧ (vp_in x3 (hL h a3) ∧ (∃ a7, (hR h o 2) = some a7 ∧ hT h a7 = 15 ∧ (vp_in (hI h a3 x3.toNatClampNeg) (hL h a7) ∧ (((hI h a7 (hI h a3 x3.toNatClampNeg).toNatClampNeg) = (-1 : Int32) → (K118 o x1 x2 (x3 + (1 : Int32)) h)) ∧ (¬ (hI h a7 (hI h a3 x3.toNatClampNeg).toNatClampNeg) = (-1 : Int32) → (vp_in x3 (hL h a3) ∧ (∃ a13, (hR h o 33) = some a13 ∧ hT h a13 = 15 ∧ (vp_in x4 (hL h a13) ∧ (w_Md_canPair o (hI h a3 x3.toNatClampNeg) (hI h a13 x4.toNatClampNeg) h (fun v18 h17 => (v18 = 0 → (Y o x1 x2 x3 (x4 + (1 : Int32)) h17)) ∧ (¬ v18 = 0 → (hT h17 o = 14 ∧ (∃ a21, (hR h17 o 32) = some a21 ∧ hT h17 a21 = 15 ∧ (vp_in x3 (hL h17 a21) ∧ (∃ a25, (hR h17 o 33) = some a25 ∧ hT h17 a25 = 15 ∧ (vp_in x4 (hL h17 a25) ∧ (w_Md_pair o (hI h17 a21 x3.toNatClampNeg) (hI h17 a25 x4.toNatClampNeg) h17 (fun h29 => Y o x1 x2 x3 (x4 + (1 : Int32)) h29)))))))))))))))))))))
def w_Md_matchTrees_129 (R : tpH → Prop) (K118 : Nat → Int32 → Int32 → Int32 → tpH → Prop) : Nat → Nat → Int32 → Int32 → Int32 → Int32 → tpH → Prop
  | 0 => fun _ _ _ _ _ _ => False
  | n + 1 => b_Md_matchTrees_129 R K118 (w_Md_matchTrees_129 R K118 n)
def b_Md_matchTrees_118 (R : tpH → Prop) (Y : Nat → Int32 → Int32 → Int32 → tpH → Prop) (o : Nat) (x1 : Int32) (x2 : Int32) (x3 : Int32) (h : tpH) : Prop :=
  hT h o = 14 ∧ (((hI h o 34) ≤ x3 → (w_Md_matchAlike o x1 x2 h (fun h3 => hT h3 o = 14 ∧ (w_Md_matchChildren o x1 x2 (1 : Int32) h3 (fun h5 => hT h5 o = 14 ∧ (w_Md_matchChildren o x1 x2 (0 : Int32) h5 (fun h7 => hT h7 o = 14 ∧ (w_Md_matchByLikeness o x1 x2 h7 (fun h9 => R h9))))))))) ∧ (¬ (hI h o 34) ≤ x3 → (∃ n, w_Md_matchTrees_129 R Y n o x1 x2 x3 (0 : Int32) h)))
def w_Md_matchTrees_118 (R : tpH → Prop) : Nat → Nat → Int32 → Int32 → Int32 → tpH → Prop
  | 0 => fun _ _ _ _ _ => False
  | n + 1 => b_Md_matchTrees_118 R (w_Md_matchTrees_118 R n)
def b_Md_matchTrees_37 (R : tpH → Prop) (Y : Nat → Int32 → Int32 → Int32 → tpH → Prop) (o : Nat) (x1 : Int32) (x2 : Int32) (x3 : Int32) (h : tpH) : Prop :=
  hT h o = 14 ∧ (((hI h o 34) ≤ x3 → (∃ a3, (hR h o 5) = some a3 ∧ hT h a3 = 15 ∧ (vp_in x1 (hL h a3) ∧ (vp_in x2 (hL h a3) ∧ (w_Md_canPair o (hI h a3 x1.toNatClampNeg) (hI h a3 x2.toNatClampNeg) h (fun v9 h8 => (v9 = 0 → (∃ n, w_Md_matchTrees_118 R n o x1 x2 (0 : Int32) h8)) ∧ (¬ v9 = 0 → (hT h8 o = 14 ∧ (∃ a12, (hR h8 o 5) = some a12 ∧ hT h8 a12 = 15 ∧ (vp_in x1 (hL h8 a12) ∧ (vp_in x2 (hL h8 a12) ∧ (w_Md_pair o (hI h8 a12 x1.toNatClampNeg) (hI h8 a12 x2.toNatClampNeg) h8 (fun h17 => ∃ n, w_Md_matchTrees_118 R n o x1 x2 (0 : Int32) h17))))))))))))) ∧ (¬ (hI h o 34) ≤ x3 → (∃ a18, (hR h o 32) = some a18 ∧ hT h a18 = 15 ∧ (vp_in x3 (hL h a18) ∧ (w_Md_has o x2 (hI h a18 x3.toNatClampNeg) h (fun v23 h22 => (v23 = 0 → (Y o x1 x2 (x3 + (1 : Int32)) h22)) ∧ (¬ v23 = 0 → (hT h22 o = 14 ∧ (∃ a26, (hR h22 o 32) = some a26 ∧ hT h22 a26 = 15 ∧ (vp_in x3 (hL h22 a26) ∧ (vp_in x3 (hL h22 a26) ∧ (w_Md_pair o (hI h22 a26 x3.toNatClampNeg) (hI h22 a26 x3.toNatClampNeg) h22 (fun h31 => Y o x1 x2 (x3 + (1 : Int32)) h31)))))))))))))
def w_Md_matchTrees_37 (R : tpH → Prop) : Nat → Nat → Int32 → Int32 → Int32 → tpH → Prop
  | 0 => fun _ _ _ _ _ => False
  | n + 1 => b_Md_matchTrees_37 R (w_Md_matchTrees_37 R n)
def b_Md_matchTrees_8 (R : tpH → Prop) (Y : Nat → Int32 → Int32 → Int32 → tpH → Prop) (o : Nat) (x1 : Int32) (x2 : Int32) (x3 : Int32) (h : tpH) : Prop :=
  ((300 : Int32) ≤ x3 → (∃ n, w_Md_matchTrees_37 R n o x1 x2 (0 : Int32) h)) ∧ (¬ (300 : Int32) ≤ x3 → (hT h o = 14 ∧ (∃ a3, (hR h o 41) = some a3 ∧ hT h a3 = 15 ∧ (vp_in x3 (hL h a3) ∧ (∀ h7, h7 = sI h a3 x3.toNatClampNeg (-1 : Int32) → (∃ a9, (hR h7 o 42) = some a9 ∧ hT h7 a9 = 15 ∧ (vp_in x3 (hL h7 a9) ∧ (∀ h13, h13 = sI h7 a9 x3.toNatClampNeg (-1 : Int32) → (Y o x1 x2 (x3 + (1 : Int32)) h13)))))))))
def w_Md_matchTrees_8 (R : tpH → Prop) : Nat → Nat → Int32 → Int32 → Int32 → tpH → Prop
  | 0 => fun _ _ _ _ _ => False
  | n + 1 => b_Md_matchTrees_8 R (w_Md_matchTrees_8 R n)
def w_Md_matchTrees (o : Nat) (x1 : Int32) (x2 : Int32) (h : tpH) (R : tpH → Prop) : Prop :=
  hT h o = 14 ∧ (w_Md_layAlike o x1 x2 h (fun h2 => ∃ n, w_Md_matchTrees_8 R n o x1 x2 (0 : Int32) h2))
theorem s_Md_matchTrees_129 {h0 : tpH} {av : List tpV} {R : tpH → Prop} {K118 : Nat → Int32 → Int32 → Int32 → tpH → Prop} (k118 : ∀ (o : Nat) (x1 : Int32) (x2 : Int32) (x3 : Int32) (h : tpH), K118 o x1 x2 x3 h → tpR Md_matchTrees 5 h0 av (tpOv R (fun _ _ => False)) 118 [some (vR (some o)), some (vI x1), some (vI x2), some (vI x3), none] [] h) : ∀ (n : Nat) (o : Nat) (x1 : Int32) (x2 : Int32) (x3 : Int32) (x4 : Int32) (h : tpH), w_Md_matchTrees_129 R K118 n o x1 x2 x3 x4 h → tpR Md_matchTrees 5 h0 av (tpOv R (fun _ _ => False)) 129 [some (vR (some o)), some (vI x1), some (vI x2), some (vI x3), some (vI x4)] [] h := by
  intro n
  induction n with
  | zero => intro o x1 x2 x3 x4 h hw; exact False.elim hw
  | succ n ih =>
    intro o x1 x2 x3 x4 h hw
    change b_Md_matchTrees_129 R K118 (w_Md_matchTrees_129 R K118 n) o x1 x2 x3 x4 h at hw
    unfold b_Md_matchTrees_129 at hw
    refine tq_iload dMd_matchTrees_129 rfl ?_
    refine tq_aload_n dMd_matchTrees_131 rfl rfl ?_
    obtain ⟨f1, hw⟩ := hw
    refine te_geti dMd_matchTrees_132 fMd_249 rfl rfl f1 ?_
    refine tq_icmpge (tgt := 196) dMd_matchTrees_135 (by decide) (fun c2 => ?_) (fun c2 => ?_)
    · have hw := hw.1 c2
      refine tq_inc (k := (1 : Int32)) (ls' := [some (vR (some o)), some (vI x1), some (vI x2), some (vI (x3 + (1 : Int32))), some (vI x4)]) dMd_matchTrees_196 rfl tni_1 (Nat.le_of_ble_eq_true rfl) rfl ?_
      refine tq_goto (tgt := 118) dMd_matchTrees_199 (by decide) ?_
      refine tpR.fo (ls' := [some (vR (some o)), some (vI x1), some (vI x2), some (vI (x3 + (1 : Int32))), none]) ?_ (And.intro rfl (And.intro rfl (And.intro rfl (And.intro rfl trivial))))
      exact k118 _ _ _ _ _ hw
    · have hw := hw.2 c2
      refine tq_aload_n dMd_matchTrees_138 rfl rfl ?_
      refine te_getr dMd_matchTrees_139 fMd_13 rfl rfl f1 ?_
      refine tq_aload_n dMd_matchTrees_142 rfl rfl ?_
      refine te_getr dMd_matchTrees_143 fMd_83 rfl rfl f1 ?_
      refine tq_iload_n dMd_matchTrees_146 rfl rfl ?_
      obtain ⟨a3, e4, f5, hw⟩ := hw
      obtain ⟨f6, hw⟩ := hw
      refine te_iald dMd_matchTrees_147 e4 (Or.inl f5) f6 ?_
      obtain ⟨a7, e8, f9, hw⟩ := hw
      obtain ⟨f10, hw⟩ := hw
      refine te_iald dMd_matchTrees_148 e8 (Or.inl f9) f10 ?_
      refine tq_iconst (v := (-1 : Int32)) dMd_matchTrees_149 tni_m1 ?_
      refine tq_icmpeq (tgt := 196) dMd_matchTrees_150 (by decide) (fun c11 => ?_) (fun c11 => ?_)
      · have hw := hw.1 c11
        refine tq_inc (k := (1 : Int32)) (ls' := [some (vR (some o)), some (vI x1), some (vI x2), some (vI (x3 + (1 : Int32))), some (vI x4)]) dMd_matchTrees_196 rfl tni_1 (Nat.le_of_ble_eq_true rfl) rfl ?_
        refine tq_goto (tgt := 118) dMd_matchTrees_199 (by decide) ?_
        refine tpR.fo (ls' := [some (vR (some o)), some (vI x1), some (vI x2), some (vI (x3 + (1 : Int32))), none]) ?_ (And.intro rfl (And.intro rfl (And.intro rfl (And.intro rfl trivial))))
        exact k118 _ _ _ _ _ hw
      · have hw := hw.2 c11
        refine tq_aload_n dMd_matchTrees_153 rfl rfl ?_
        refine tq_aload_n dMd_matchTrees_154 rfl rfl ?_
        refine te_getr dMd_matchTrees_155 fMd_83 rfl rfl f1 ?_
        refine tq_iload_n dMd_matchTrees_158 rfl rfl ?_
        obtain ⟨f12, hw⟩ := hw
        refine te_iald dMd_matchTrees_159 e4 (Or.inl f5) f12 ?_
        refine tq_aload_n dMd_matchTrees_160 rfl rfl ?_
        refine te_getr dMd_matchTrees_161 fMd_86 rfl rfl f1 ?_
        refine tq_iload dMd_matchTrees_164 rfl ?_
        obtain ⟨a13, e14, f15, hw⟩ := hw
        obtain ⟨f16, hw⟩ := hw
        refine te_iald dMd_matchTrees_166 e14 (Or.inl f15) f16 ?_
        refine te_callV mv_Md_canPair (ci := 13) (dc := 1) (as := [vI (hI h a3 x3.toNatClampNeg), vI (hI h a13 x4.toNatClampNeg)]) (rest := []) kMd_270 rfl (Nat.le_of_ble_eq_true rfl) (Nat.le_of_ble_eq_true rfl) rfl rfl rfl f1 (Nat.le_of_ble_eq_true rfl) dMd_matchTrees_167 (s_Md_canPair hw) (fun _ _ hx => False.elim hx) (tk_i fun v18 h17 hw => ?_)
        refine tq_ifeq (tgt := 190) dMd_matchTrees_170 (by decide) (fun c19 => ?_) (fun c19 => ?_)
        · have hw := hw.1 c19
          refine tq_inc (k := (1 : Int32)) (ls' := [some (vR (some o)), some (vI x1), some (vI x2), some (vI x3), some (vI (x4 + (1 : Int32)))]) dMd_matchTrees_190 rfl tni_1 (Nat.le_of_ble_eq_true rfl) rfl ?_
          refine tq_goto (tgt := 129) dMd_matchTrees_193 (by decide) ?_
          refine tpR.fo (ls' := [some (vR (some o)), some (vI x1), some (vI x2), some (vI x3), some (vI (x4 + (1 : Int32)))]) ?_ (And.intro rfl (And.intro rfl (And.intro rfl (And.intro rfl (And.intro rfl trivial)))))
          exact ih _ _ _ _ _ _ hw
        · have hw := hw.2 c19
          refine tq_aload_n dMd_matchTrees_173 rfl rfl ?_
          refine tq_aload_n dMd_matchTrees_174 rfl rfl ?_
          obtain ⟨f20, hw⟩ := hw
          refine te_getr dMd_matchTrees_175 fMd_83 rfl rfl f20 ?_
          refine tq_iload_n dMd_matchTrees_178 rfl rfl ?_
          obtain ⟨a21, e22, f23, hw⟩ := hw
          obtain ⟨f24, hw⟩ := hw
          refine te_iald dMd_matchTrees_179 e22 (Or.inl f23) f24 ?_
          refine tq_aload_n dMd_matchTrees_180 rfl rfl ?_
          refine te_getr dMd_matchTrees_181 fMd_86 rfl rfl f20 ?_
          refine tq_iload dMd_matchTrees_184 rfl ?_
          obtain ⟨a25, e26, f27, hw⟩ := hw
          obtain ⟨f28, hw⟩ := hw
          refine te_iald dMd_matchTrees_186 e26 (Or.inl f27) f28 ?_
          refine te_callV mv_Md_pair (ci := 13) (dc := 0) (as := [vI (hI h17 a21 x3.toNatClampNeg), vI (hI h17 a25 x4.toNatClampNeg)]) (rest := []) kMd_260 rfl (Nat.le_of_ble_eq_true rfl) (Nat.le_of_ble_eq_true rfl) rfl rfl rfl f20 (Nat.le_of_ble_eq_true rfl) dMd_matchTrees_187 (s_Md_pair hw) (fun _ _ hx => False.elim hx) (tk_v fun h29 hw => ?_)
          refine tq_inc (k := (1 : Int32)) (ls' := [some (vR (some o)), some (vI x1), some (vI x2), some (vI x3), some (vI (x4 + (1 : Int32)))]) dMd_matchTrees_190 rfl tni_1 (Nat.le_of_ble_eq_true rfl) rfl ?_
          refine tq_goto (tgt := 129) dMd_matchTrees_193 (by decide) ?_
          refine tpR.fo (ls' := [some (vR (some o)), some (vI x1), some (vI x2), some (vI x3), some (vI (x4 + (1 : Int32)))]) ?_ (And.intro rfl (And.intro rfl (And.intro rfl (And.intro rfl (And.intro rfl trivial)))))
          exact ih _ _ _ _ _ _ hw
theorem s_Md_matchTrees_118 {h0 : tpH} {av : List tpV} {R : tpH → Prop} : ∀ (n : Nat) (o : Nat) (x1 : Int32) (x2 : Int32) (x3 : Int32) (h : tpH), w_Md_matchTrees_118 R n o x1 x2 x3 h → tpR Md_matchTrees 5 h0 av (tpOv R (fun _ _ => False)) 118 [some (vR (some o)), some (vI x1), some (vI x2), some (vI x3), none] [] h := by
  intro n
  induction n with
  | zero => intro o x1 x2 x3 h hw; exact False.elim hw
  | succ n ih =>
    intro o x1 x2 x3 h hw
    change b_Md_matchTrees_118 R (w_Md_matchTrees_118 R n) o x1 x2 x3 h at hw
    unfold b_Md_matchTrees_118 at hw
    refine tq_iload_n dMd_matchTrees_118 rfl rfl ?_
    refine tq_aload_n dMd_matchTrees_119 rfl rfl ?_
    obtain ⟨f1, hw⟩ := hw
    refine te_geti dMd_matchTrees_120 fMd_246 rfl rfl f1 ?_
    refine tq_icmpge (tgt := 202) dMd_matchTrees_123 (by decide) (fun c2 => ?_) (fun c2 => ?_)
    · have hw := hw.1 c2
      refine tq_aload_n dMd_matchTrees_202 rfl rfl ?_
      refine tq_iload_n dMd_matchTrees_203 rfl rfl ?_
      refine tq_iload_n dMd_matchTrees_204 rfl rfl ?_
      refine te_callV mv_Md_matchAlike (ci := 13) (dc := 3) (as := [vI x1, vI x2]) (rest := []) kMd_285 rfl (Nat.le_of_ble_eq_true rfl) (Nat.le_of_ble_eq_true rfl) rfl rfl rfl f1 (Nat.le_of_ble_eq_true rfl) dMd_matchTrees_205 (s_Md_matchAlike hw) (fun _ _ hx => False.elim hx) (tk_v fun h3 hw => ?_)
      refine tq_aload_n dMd_matchTrees_208 rfl rfl ?_
      refine tq_iload_n dMd_matchTrees_209 rfl rfl ?_
      refine tq_iload_n dMd_matchTrees_210 rfl rfl ?_
      refine tq_iconst (v := (1 : Int32)) dMd_matchTrees_211 tni_1 ?_
      obtain ⟨f4, hw⟩ := hw
      refine te_callV mv_Md_matchChildren (ci := 13) (dc := 2) (as := [vI x1, vI x2, vI (1 : Int32)]) (rest := []) kMd_288 rfl (Nat.le_of_ble_eq_true rfl) (Nat.le_of_ble_eq_true rfl) rfl rfl rfl f4 (Nat.le_of_ble_eq_true rfl) dMd_matchTrees_212 (s_Md_matchChildren hw) (fun _ _ hx => False.elim hx) (tk_v fun h5 hw => ?_)
      refine tq_aload_n dMd_matchTrees_215 rfl rfl ?_
      refine tq_iload_n dMd_matchTrees_216 rfl rfl ?_
      refine tq_iload_n dMd_matchTrees_217 rfl rfl ?_
      refine tq_iconst (v := (0 : Int32)) dMd_matchTrees_218 tni_0 ?_
      obtain ⟨f6, hw⟩ := hw
      refine te_callV mv_Md_matchChildren (ci := 13) (dc := 2) (as := [vI x1, vI x2, vI (0 : Int32)]) (rest := []) kMd_288 rfl (Nat.le_of_ble_eq_true rfl) (Nat.le_of_ble_eq_true rfl) rfl rfl rfl f6 (Nat.le_of_ble_eq_true rfl) dMd_matchTrees_219 (s_Md_matchChildren hw) (fun _ _ hx => False.elim hx) (tk_v fun h7 hw => ?_)
      refine tq_aload_n dMd_matchTrees_222 rfl rfl ?_
      refine tq_iload_n dMd_matchTrees_223 rfl rfl ?_
      refine tq_iload_n dMd_matchTrees_224 rfl rfl ?_
      obtain ⟨f8, hw⟩ := hw
      refine te_callV mv_Md_matchByLikeness (ci := 13) (dc := 4) (as := [vI x1, vI x2]) (rest := []) kMd_292 rfl (Nat.le_of_ble_eq_true rfl) (Nat.le_of_ble_eq_true rfl) rfl rfl rfl f8 (Nat.le_of_ble_eq_true rfl) dMd_matchTrees_225 (s_Md_matchByLikeness hw) (fun _ _ hx => False.elim hx) (tk_v fun h9 hw => ?_)
      exact tq_vret rfl dMd_matchTrees_228 hw
    · have hw := hw.2 c2
      refine tq_iconst (v := (0 : Int32)) dMd_matchTrees_126 tni_0 ?_
      refine tq_istore (ls' := [some (vR (some o)), some (vI x1), some (vI x2), some (vI x3), some (vI (0 : Int32))]) dMd_matchTrees_127 (Nat.le_of_ble_eq_true rfl) rfl ?_
      refine tpR.fo (ls' := [some (vR (some o)), some (vI x1), some (vI x2), some (vI x3), some (vI (0 : Int32))]) ?_ (And.intro rfl (And.intro rfl (And.intro rfl (And.intro rfl (And.intro rfl trivial)))))
      obtain ⟨n, hw⟩ := hw
      exact s_Md_matchTrees_129 ih n _ _ _ _ _ _ hw
theorem s_Md_matchTrees_37 {h0 : tpH} {av : List tpV} {R : tpH → Prop} : ∀ (n : Nat) (o : Nat) (x1 : Int32) (x2 : Int32) (x3 : Int32) (h : tpH), w_Md_matchTrees_37 R n o x1 x2 x3 h → tpR Md_matchTrees 5 h0 av (tpOv R (fun _ _ => False)) 37 [some (vR (some o)), some (vI x1), some (vI x2), some (vI x3), none] [] h := by
  intro n
  induction n with
  | zero => intro o x1 x2 x3 h hw; exact False.elim hw
  | succ n ih =>
    intro o x1 x2 x3 h hw
    change b_Md_matchTrees_37 R (w_Md_matchTrees_37 R n) o x1 x2 x3 h at hw
    unfold b_Md_matchTrees_37 at hw
    refine tq_iload_n dMd_matchTrees_37 rfl rfl ?_
    refine tq_aload_n dMd_matchTrees_38 rfl rfl ?_
    obtain ⟨f1, hw⟩ := hw
    refine te_geti dMd_matchTrees_39 fMd_246 rfl rfl f1 ?_
    refine tq_icmpge (tgt := 81) dMd_matchTrees_42 (by decide) (fun c2 => ?_) (fun c2 => ?_)
    · have hw := hw.1 c2
      refine tq_aload_n dMd_matchTrees_81 rfl rfl ?_
      refine tq_aload_n dMd_matchTrees_82 rfl rfl ?_
      refine te_getr dMd_matchTrees_83 fMd_16 rfl rfl f1 ?_
      refine tq_iload_n dMd_matchTrees_86 rfl rfl ?_
      obtain ⟨a3, e4, f5, hw⟩ := hw
      obtain ⟨f6, hw⟩ := hw
      refine te_iald dMd_matchTrees_87 e4 (Or.inl f5) f6 ?_
      refine tq_aload_n dMd_matchTrees_88 rfl rfl ?_
      refine te_getr dMd_matchTrees_89 fMd_16 rfl rfl f1 ?_
      refine tq_iload_n dMd_matchTrees_92 rfl rfl ?_
      obtain ⟨f7, hw⟩ := hw
      refine te_iald dMd_matchTrees_93 e4 (Or.inl f5) f7 ?_
      refine te_callV mv_Md_canPair (ci := 13) (dc := 1) (as := [vI (hI h a3 x1.toNatClampNeg), vI (hI h a3 x2.toNatClampNeg)]) (rest := []) kMd_270 rfl (Nat.le_of_ble_eq_true rfl) (Nat.le_of_ble_eq_true rfl) rfl rfl rfl f1 (Nat.le_of_ble_eq_true rfl) dMd_matchTrees_94 (s_Md_canPair hw) (fun _ _ hx => False.elim hx) (tk_i fun v9 h8 hw => ?_)
      refine tq_ifeq (tgt := 116) dMd_matchTrees_97 (by decide) (fun c10 => ?_) (fun c10 => ?_)
      · have hw := hw.1 c10
        refine tq_iconst (v := (0 : Int32)) dMd_matchTrees_116 tni_0 ?_
        refine tq_istore_n (ls' := [some (vR (some o)), some (vI x1), some (vI x2), some (vI (0 : Int32)), none]) dMd_matchTrees_117 rfl (Nat.le_of_ble_eq_true rfl) rfl ?_
        refine tpR.fo (ls' := [some (vR (some o)), some (vI x1), some (vI x2), some (vI (0 : Int32)), none]) ?_ (And.intro rfl (And.intro rfl (And.intro rfl (And.intro rfl trivial))))
        obtain ⟨n, hw⟩ := hw
        exact s_Md_matchTrees_118 n _ _ _ _ _ hw
      · have hw := hw.2 c10
        refine tq_aload_n dMd_matchTrees_100 rfl rfl ?_
        refine tq_aload_n dMd_matchTrees_101 rfl rfl ?_
        obtain ⟨f11, hw⟩ := hw
        refine te_getr dMd_matchTrees_102 fMd_16 rfl rfl f11 ?_
        refine tq_iload_n dMd_matchTrees_105 rfl rfl ?_
        obtain ⟨a12, e13, f14, hw⟩ := hw
        obtain ⟨f15, hw⟩ := hw
        refine te_iald dMd_matchTrees_106 e13 (Or.inl f14) f15 ?_
        refine tq_aload_n dMd_matchTrees_107 rfl rfl ?_
        refine te_getr dMd_matchTrees_108 fMd_16 rfl rfl f11 ?_
        refine tq_iload_n dMd_matchTrees_111 rfl rfl ?_
        obtain ⟨f16, hw⟩ := hw
        refine te_iald dMd_matchTrees_112 e13 (Or.inl f14) f16 ?_
        refine te_callV mv_Md_pair (ci := 13) (dc := 0) (as := [vI (hI h8 a12 x1.toNatClampNeg), vI (hI h8 a12 x2.toNatClampNeg)]) (rest := []) kMd_260 rfl (Nat.le_of_ble_eq_true rfl) (Nat.le_of_ble_eq_true rfl) rfl rfl rfl f11 (Nat.le_of_ble_eq_true rfl) dMd_matchTrees_113 (s_Md_pair hw) (fun _ _ hx => False.elim hx) (tk_v fun h17 hw => ?_)
        refine tq_iconst (v := (0 : Int32)) dMd_matchTrees_116 tni_0 ?_
        refine tq_istore_n (ls' := [some (vR (some o)), some (vI x1), some (vI x2), some (vI (0 : Int32)), none]) dMd_matchTrees_117 rfl (Nat.le_of_ble_eq_true rfl) rfl ?_
        refine tpR.fo (ls' := [some (vR (some o)), some (vI x1), some (vI x2), some (vI (0 : Int32)), none]) ?_ (And.intro rfl (And.intro rfl (And.intro rfl (And.intro rfl trivial))))
        obtain ⟨n, hw⟩ := hw
        exact s_Md_matchTrees_118 n _ _ _ _ _ hw
    · have hw := hw.2 c2
      refine tq_aload_n dMd_matchTrees_45 rfl rfl ?_
      refine tq_iload_n dMd_matchTrees_46 rfl rfl ?_
      refine tq_aload_n dMd_matchTrees_47 rfl rfl ?_
      refine te_getr dMd_matchTrees_48 fMd_83 rfl rfl f1 ?_
      refine tq_iload_n dMd_matchTrees_51 rfl rfl ?_
      obtain ⟨a18, e19, f20, hw⟩ := hw
      obtain ⟨f21, hw⟩ := hw
      refine te_iald dMd_matchTrees_52 e19 (Or.inl f20) f21 ?_
      refine te_callV mv_Md_has (ci := 13) (dc := 2) (as := [vI x2, vI (hI h a18 x3.toNatClampNeg)]) (rest := []) kMd_212 rfl (Nat.le_of_ble_eq_true rfl) (Nat.le_of_ble_eq_true rfl) rfl rfl rfl f1 (Nat.le_of_ble_eq_true rfl) dMd_matchTrees_53 (s_Md_has hw) (fun _ _ hx => False.elim hx) (tk_i fun v23 h22 hw => ?_)
      refine tq_ifeq (tgt := 75) dMd_matchTrees_56 (by decide) (fun c24 => ?_) (fun c24 => ?_)
      · have hw := hw.1 c24
        refine tq_inc (k := (1 : Int32)) (ls' := [some (vR (some o)), some (vI x1), some (vI x2), some (vI (x3 + (1 : Int32))), none]) dMd_matchTrees_75 rfl tni_1 (Nat.le_of_ble_eq_true rfl) rfl ?_
        refine tq_goto (tgt := 37) dMd_matchTrees_78 (by decide) ?_
        refine tpR.fo (ls' := [some (vR (some o)), some (vI x1), some (vI x2), some (vI (x3 + (1 : Int32))), none]) ?_ (And.intro rfl (And.intro rfl (And.intro rfl (And.intro rfl trivial))))
        exact ih _ _ _ _ _ hw
      · have hw := hw.2 c24
        refine tq_aload_n dMd_matchTrees_59 rfl rfl ?_
        refine tq_aload_n dMd_matchTrees_60 rfl rfl ?_
        obtain ⟨f25, hw⟩ := hw
        refine te_getr dMd_matchTrees_61 fMd_83 rfl rfl f25 ?_
        refine tq_iload_n dMd_matchTrees_64 rfl rfl ?_
        obtain ⟨a26, e27, f28, hw⟩ := hw
        obtain ⟨f29, hw⟩ := hw
        refine te_iald dMd_matchTrees_65 e27 (Or.inl f28) f29 ?_
        refine tq_aload_n dMd_matchTrees_66 rfl rfl ?_
        refine te_getr dMd_matchTrees_67 fMd_83 rfl rfl f25 ?_
        refine tq_iload_n dMd_matchTrees_70 rfl rfl ?_
        obtain ⟨f30, hw⟩ := hw
        refine te_iald dMd_matchTrees_71 e27 (Or.inl f28) f30 ?_
        refine te_callV mv_Md_pair (ci := 13) (dc := 0) (as := [vI (hI h22 a26 x3.toNatClampNeg), vI (hI h22 a26 x3.toNatClampNeg)]) (rest := []) kMd_260 rfl (Nat.le_of_ble_eq_true rfl) (Nat.le_of_ble_eq_true rfl) rfl rfl rfl f25 (Nat.le_of_ble_eq_true rfl) dMd_matchTrees_72 (s_Md_pair hw) (fun _ _ hx => False.elim hx) (tk_v fun h31 hw => ?_)
        refine tq_inc (k := (1 : Int32)) (ls' := [some (vR (some o)), some (vI x1), some (vI x2), some (vI (x3 + (1 : Int32))), none]) dMd_matchTrees_75 rfl tni_1 (Nat.le_of_ble_eq_true rfl) rfl ?_
        refine tq_goto (tgt := 37) dMd_matchTrees_78 (by decide) ?_
        refine tpR.fo (ls' := [some (vR (some o)), some (vI x1), some (vI x2), some (vI (x3 + (1 : Int32))), none]) ?_ (And.intro rfl (And.intro rfl (And.intro rfl (And.intro rfl trivial))))
        exact ih _ _ _ _ _ hw
theorem s_Md_matchTrees_8 {h0 : tpH} {av : List tpV} {R : tpH → Prop} : ∀ (n : Nat) (o : Nat) (x1 : Int32) (x2 : Int32) (x3 : Int32) (h : tpH), w_Md_matchTrees_8 R n o x1 x2 x3 h → tpR Md_matchTrees 5 h0 av (tpOv R (fun _ _ => False)) 8 [some (vR (some o)), some (vI x1), some (vI x2), some (vI x3), none] [] h := by
  intro n
  induction n with
  | zero => intro o x1 x2 x3 h hw; exact False.elim hw
  | succ n ih =>
    intro o x1 x2 x3 h hw
    change b_Md_matchTrees_8 R (w_Md_matchTrees_8 R n) o x1 x2 x3 h at hw
    unfold b_Md_matchTrees_8 at hw
    refine tq_iload_n dMd_matchTrees_8 rfl rfl ?_
    refine tq_sipush (v := (300 : Int32)) dMd_matchTrees_9 tns_300 ?_
    refine tq_icmpge (tgt := 35) dMd_matchTrees_12 (by decide) (fun c1 => ?_) (fun c1 => ?_)
    · have hw := hw.1 c1
      refine tq_iconst (v := (0 : Int32)) dMd_matchTrees_35 tni_0 ?_
      refine tq_istore_n (ls' := [some (vR (some o)), some (vI x1), some (vI x2), some (vI (0 : Int32)), none]) dMd_matchTrees_36 rfl (Nat.le_of_ble_eq_true rfl) rfl ?_
      refine tpR.fo (ls' := [some (vR (some o)), some (vI x1), some (vI x2), some (vI (0 : Int32)), none]) ?_ (And.intro rfl (And.intro rfl (And.intro rfl (And.intro rfl trivial))))
      obtain ⟨n, hw⟩ := hw
      exact s_Md_matchTrees_37 n _ _ _ _ _ hw
    · have hw := hw.2 c1
      refine tq_aload_n dMd_matchTrees_15 rfl rfl ?_
      obtain ⟨f2, hw⟩ := hw
      refine te_getr dMd_matchTrees_16 fMd_106 rfl rfl f2 ?_
      refine tq_iload_n dMd_matchTrees_19 rfl rfl ?_
      refine tq_iconst (v := (-1 : Int32)) dMd_matchTrees_20 tni_m1 ?_
      obtain ⟨a3, e4, f5, hw⟩ := hw
      obtain ⟨f6, hw⟩ := hw
      refine te_iast dMd_matchTrees_21 e4 f5 f6 (fun h7 e8 => ?_)
      have hw := hw h7 e8
      refine tq_aload_n dMd_matchTrees_22 rfl rfl ?_
      refine te_getr dMd_matchTrees_23 fMd_109 rfl rfl (by rw [e8]; exact f2) ?_
      refine tq_iload_n dMd_matchTrees_26 rfl rfl ?_
      refine tq_iconst (v := (-1 : Int32)) dMd_matchTrees_27 tni_m1 ?_
      obtain ⟨a9, e10, f11, hw⟩ := hw
      obtain ⟨f12, hw⟩ := hw
      refine te_iast dMd_matchTrees_28 e10 f11 f12 (fun h13 e14 => ?_)
      have hw := hw h13 e14
      refine tq_inc (k := (1 : Int32)) (ls' := [some (vR (some o)), some (vI x1), some (vI x2), some (vI (x3 + (1 : Int32))), none]) dMd_matchTrees_29 rfl tni_1 (Nat.le_of_ble_eq_true rfl) rfl ?_
      refine tq_goto (tgt := 8) dMd_matchTrees_32 (by decide) ?_
      refine tpR.fo (ls' := [some (vR (some o)), some (vI x1), some (vI x2), some (vI (x3 + (1 : Int32))), none]) ?_ (And.intro rfl (And.intro rfl (And.intro rfl (And.intro rfl trivial))))
      exact ih _ _ _ _ _ hw
theorem s_Md_matchTrees {o : Nat} {x1 : Int32} {x2 : Int32} {h : tpH} {R : tpH → Prop} (hw : w_Md_matchTrees o x1 x2 h R) : tpC Md_matchTrees 5 [vR (some o), vI x1, vI x2] h (tpOv R (fun _ _ => False)) := by
  refine tpC_of mv_Md_matchTrees.2.2.2.1 rfl rfl (Nat.le_of_ble_eq_true rfl) ?_
  show tpR Md_matchTrees 5 h _ _ 0 [some (vR (some o)), some (vI x1), some (vI x2), none, none] [] h
  unfold w_Md_matchTrees at hw
  refine tq_aload_n dMd_matchTrees_0 rfl rfl ?_
  refine tq_iload_n dMd_matchTrees_1 rfl rfl ?_
  refine tq_iload_n dMd_matchTrees_2 rfl rfl ?_
  obtain ⟨f1, hw⟩ := hw
  refine te_callV mv_Md_layAlike (ci := 13) (dc := 3) (as := [vI x1, vI x2]) (rest := []) kMd_282 rfl (Nat.le_of_ble_eq_true rfl) (Nat.le_of_ble_eq_true rfl) rfl rfl rfl f1 (Nat.le_of_ble_eq_true rfl) dMd_matchTrees_3 (s_Md_layAlike hw) (fun _ _ hx => False.elim hx) (tk_v fun h2 hw => ?_)
  refine tq_iconst (v := (0 : Int32)) dMd_matchTrees_6 tni_0 ?_
  refine tq_istore_n (ls' := [some (vR (some o)), some (vI x1), some (vI x2), some (vI (0 : Int32)), none]) dMd_matchTrees_7 rfl (Nat.le_of_ble_eq_true rfl) rfl ?_
  refine tpR.fo (ls' := [some (vR (some o)), some (vI x1), some (vI x2), some (vI (0 : Int32)), none]) ?_ (And.intro rfl (And.intro rfl (And.intro rfl (And.intro rfl trivial))))
  obtain ⟨n, hw⟩ := hw
  exact s_Md_matchTrees_8 n _ _ _ _ _ hw
/-! TModel.isScript -/
theorem dMd_isScript_0 : decode (mB Md_isScript) 0 = .ok (.iload_n 1, 1) := by decide +kernel
theorem dMd_isScript_1 : decode (mB Md_isScript) 1 = .ok (.iconst 0, 1) := by decide +kernel
theorem dMd_isScript_2 : decode (mB Md_isScript) 2 = .ok (.aload_n 0, 1) := by decide +kernel
theorem dMd_isScript_3 : decode (mB Md_isScript) 3 = .ok (.getfield 295, 3) := by decide +kernel
theorem dMd_isScript_6 : decode (mB Md_isScript) 6 = .ok (.iconst 1, 1) := by decide +kernel
theorem dMd_isScript_7 : decode (mB Md_isScript) 7 = .ok (.isub, 1) := by decide +kernel
theorem dMd_isScript_8 : decode (mB Md_isScript) 8 = .ok (.invokestatic 158, 3) := by decide +kernel
theorem dMd_isScript_11 : decode (mB Md_isScript) 11 = .ok (.ireturn, 1) := by decide +kernel
def w_Md_isScript (o : Nat) (x1 : Int32) (h : tpH) (R : Int32 → tpH → Prop) : Prop :=
  hT h o = 14 ∧ (w_Md_in x1 (0 : Int32) ((hI h o 10) - (1 : Int32)) h (fun v3 h2 => tpB v3 ∧ (R v3 h2)))
theorem s_Md_isScript {o : Nat} {x1 : Int32} {h : tpH} {R : Int32 → tpH → Prop} (hw : w_Md_isScript o x1 h R) : tpC Md_isScript 1 [vR (some o), vI x1] h (tpOi R (fun _ _ => False)) := by
  refine tpC_of mv_Md_isScript.2.2.2.1 rfl rfl (Nat.le_of_ble_eq_true rfl) ?_
  show tpR Md_isScript 1 h _ _ 0 [some (vR (some o)), some (vI x1)] [] h
  unfold w_Md_isScript at hw
  refine tq_iload_n dMd_isScript_0 rfl rfl ?_
  refine tq_iconst (v := (0 : Int32)) dMd_isScript_1 tni_0 ?_
  refine tq_aload_n dMd_isScript_2 rfl rfl ?_
  obtain ⟨f1, hw⟩ := hw
  refine te_geti dMd_isScript_3 fMd_295 rfl rfl f1 ?_
  refine tq_iconst (v := (1 : Int32)) dMd_isScript_6 tni_1 ?_
  refine tq_isub dMd_isScript_7 ?_
  refine tq_callS ms_Md_in (dc := 0) (as := [vI x1, vI (0 : Int32), vI ((hI h o 10) - (1 : Int32))]) (rest := []) kMd_158 (Nat.le_of_ble_eq_true rfl) (Nat.le_of_ble_eq_true rfl) rfl rfl (Nat.le_of_ble_eq_true rfl) dMd_isScript_8 (s_Md_in hw) (fun _ _ hx => False.elim hx) (tk_i fun v3 h2 hw => ?_)
  obtain ⟨f4, hw⟩ := hw
  exact tq_iret rfl (tpB_n f4) dMd_isScript_11 hw
/-! TModel.newStep -/
theorem dMd_newStep_0 : decode (mB Md_newStep) 0 = .ok (.aload_n 0, 1) := by decide +kernel
theorem dMd_newStep_1 : decode (mB Md_newStep) 1 = .ok (.getfield 31, 3) := by decide +kernel
theorem dMd_newStep_4 : decode (mB Md_newStep) 4 = .ok (.iload_n 1, 1) := by decide +kernel
theorem dMd_newStep_5 : decode (mB Md_newStep) 5 = .ok (.iaload, 1) := by decide +kernel
theorem dMd_newStep_6 : decode (mB Md_newStep) 6 = .ok (.bipush 100, 2) := by decide +kernel
theorem dMd_newStep_8 : decode (mB Md_newStep) 8 = .ok (.if_icmp .lt 13, 3) := by decide +kernel
theorem dMd_newStep_11 : decode (mB Md_newStep) 11 = .ok (.aload_n 0, 1) := by decide +kernel
theorem dMd_newStep_12 : decode (mB Md_newStep) 12 = .ok (.getfield 31, 3) := by decide +kernel
theorem dMd_newStep_15 : decode (mB Md_newStep) 15 = .ok (.iload_n 1, 1) := by decide +kernel
theorem dMd_newStep_16 : decode (mB Md_newStep) 16 = .ok (.bipush 101, 2) := by decide +kernel
theorem dMd_newStep_18 : decode (mB Md_newStep) 18 = .ok (.iastore, 1) := by decide +kernel
theorem dMd_newStep_19 : decode (mB Md_newStep) 19 = .ok (.iconst (-1), 1) := by decide +kernel
theorem dMd_newStep_20 : decode (mB Md_newStep) 20 = .ok (.ireturn, 1) := by decide +kernel
theorem dMd_newStep_21 : decode (mB Md_newStep) 21 = .ok (.bipush 100, 2) := by decide +kernel
theorem dMd_newStep_23 : decode (mB Md_newStep) 23 = .ok (.iload_n 1, 1) := by decide +kernel
theorem dMd_newStep_24 : decode (mB Md_newStep) 24 = .ok (.imul, 1) := by decide +kernel
theorem dMd_newStep_25 : decode (mB Md_newStep) 25 = .ok (.aload_n 0, 1) := by decide +kernel
theorem dMd_newStep_26 : decode (mB Md_newStep) 26 = .ok (.getfield 31, 3) := by decide +kernel
theorem dMd_newStep_29 : decode (mB Md_newStep) 29 = .ok (.iload_n 1, 1) := by decide +kernel
theorem dMd_newStep_30 : decode (mB Md_newStep) 30 = .ok (.iaload, 1) := by decide +kernel
theorem dMd_newStep_31 : decode (mB Md_newStep) 31 = .ok (.iadd, 1) := by decide +kernel
theorem dMd_newStep_32 : decode (mB Md_newStep) 32 = .ok (.istore 4, 2) := by decide +kernel
theorem dMd_newStep_34 : decode (mB Md_newStep) 34 = .ok (.aload_n 0, 1) := by decide +kernel
theorem dMd_newStep_35 : decode (mB Md_newStep) 35 = .ok (.getfield 31, 3) := by decide +kernel
theorem dMd_newStep_38 : decode (mB Md_newStep) 38 = .ok (.iload_n 1, 1) := by decide +kernel
theorem dMd_newStep_39 : decode (mB Md_newStep) 39 = .ok (.dup2, 1) := by decide +kernel
theorem dMd_newStep_40 : decode (mB Md_newStep) 40 = .ok (.iaload, 1) := by decide +kernel
theorem dMd_newStep_41 : decode (mB Md_newStep) 41 = .ok (.iconst 1, 1) := by decide +kernel
theorem dMd_newStep_42 : decode (mB Md_newStep) 42 = .ok (.iadd, 1) := by decide +kernel
theorem dMd_newStep_43 : decode (mB Md_newStep) 43 = .ok (.iastore, 1) := by decide +kernel
theorem dMd_newStep_44 : decode (mB Md_newStep) 44 = .ok (.aload_n 0, 1) := by decide +kernel
theorem dMd_newStep_45 : decode (mB Md_newStep) 45 = .ok (.getfield 34, 3) := by decide +kernel
theorem dMd_newStep_48 : decode (mB Md_newStep) 48 = .ok (.iload 4, 2) := by decide +kernel
theorem dMd_newStep_50 : decode (mB Md_newStep) 50 = .ok (.iload_n 2, 1) := by decide +kernel
theorem dMd_newStep_51 : decode (mB Md_newStep) 51 = .ok (.iastore, 1) := by decide +kernel
theorem dMd_newStep_52 : decode (mB Md_newStep) 52 = .ok (.aload_n 0, 1) := by decide +kernel
theorem dMd_newStep_53 : decode (mB Md_newStep) 53 = .ok (.getfield 37, 3) := by decide +kernel
theorem dMd_newStep_56 : decode (mB Md_newStep) 56 = .ok (.iload 4, 2) := by decide +kernel
theorem dMd_newStep_58 : decode (mB Md_newStep) 58 = .ok (.iload_n 3, 1) := by decide +kernel
theorem dMd_newStep_59 : decode (mB Md_newStep) 59 = .ok (.iastore, 1) := by decide +kernel
theorem dMd_newStep_60 : decode (mB Md_newStep) 60 = .ok (.aload_n 0, 1) := by decide +kernel
theorem dMd_newStep_61 : decode (mB Md_newStep) 61 = .ok (.getfield 40, 3) := by decide +kernel
theorem dMd_newStep_64 : decode (mB Md_newStep) 64 = .ok (.iload 4, 2) := by decide +kernel
theorem dMd_newStep_66 : decode (mB Md_newStep) 66 = .ok (.iconst (-1), 1) := by decide +kernel
theorem dMd_newStep_67 : decode (mB Md_newStep) 67 = .ok (.iastore, 1) := by decide +kernel
theorem dMd_newStep_68 : decode (mB Md_newStep) 68 = .ok (.aload_n 0, 1) := by decide +kernel
theorem dMd_newStep_69 : decode (mB Md_newStep) 69 = .ok (.getfield 43, 3) := by decide +kernel
theorem dMd_newStep_72 : decode (mB Md_newStep) 72 = .ok (.iload 4, 2) := by decide +kernel
theorem dMd_newStep_74 : decode (mB Md_newStep) 74 = .ok (.iconst (-1), 1) := by decide +kernel
theorem dMd_newStep_75 : decode (mB Md_newStep) 75 = .ok (.iastore, 1) := by decide +kernel
theorem dMd_newStep_76 : decode (mB Md_newStep) 76 = .ok (.aload_n 0, 1) := by decide +kernel
theorem dMd_newStep_77 : decode (mB Md_newStep) 77 = .ok (.getfield 46, 3) := by decide +kernel
theorem dMd_newStep_80 : decode (mB Md_newStep) 80 = .ok (.iload 4, 2) := by decide +kernel
theorem dMd_newStep_82 : decode (mB Md_newStep) 82 = .ok (.iconst (-1), 1) := by decide +kernel
theorem dMd_newStep_83 : decode (mB Md_newStep) 83 = .ok (.iastore, 1) := by decide +kernel
theorem dMd_newStep_84 : decode (mB Md_newStep) 84 = .ok (.aload_n 0, 1) := by decide +kernel
theorem dMd_newStep_85 : decode (mB Md_newStep) 85 = .ok (.getfield 49, 3) := by decide +kernel
theorem dMd_newStep_88 : decode (mB Md_newStep) 88 = .ok (.iload 4, 2) := by decide +kernel
theorem dMd_newStep_90 : decode (mB Md_newStep) 90 = .ok (.iconst (-1), 1) := by decide +kernel
theorem dMd_newStep_91 : decode (mB Md_newStep) 91 = .ok (.iastore, 1) := by decide +kernel
theorem dMd_newStep_92 : decode (mB Md_newStep) 92 = .ok (.aload_n 0, 1) := by decide +kernel
theorem dMd_newStep_93 : decode (mB Md_newStep) 93 = .ok (.getfield 52, 3) := by decide +kernel
theorem dMd_newStep_96 : decode (mB Md_newStep) 96 = .ok (.iload 4, 2) := by decide +kernel
theorem dMd_newStep_98 : decode (mB Md_newStep) 98 = .ok (.iconst (-1), 1) := by decide +kernel
theorem dMd_newStep_99 : decode (mB Md_newStep) 99 = .ok (.iastore, 1) := by decide +kernel
theorem dMd_newStep_100 : decode (mB Md_newStep) 100 = .ok (.aload_n 0, 1) := by decide +kernel
theorem dMd_newStep_101 : decode (mB Md_newStep) 101 = .ok (.getfield 55, 3) := by decide +kernel
theorem dMd_newStep_104 : decode (mB Md_newStep) 104 = .ok (.iload 4, 2) := by decide +kernel
theorem dMd_newStep_106 : decode (mB Md_newStep) 106 = .ok (.iconst (-1), 1) := by decide +kernel
theorem dMd_newStep_107 : decode (mB Md_newStep) 107 = .ok (.iastore, 1) := by decide +kernel
theorem dMd_newStep_108 : decode (mB Md_newStep) 108 = .ok (.aload_n 0, 1) := by decide +kernel
theorem dMd_newStep_109 : decode (mB Md_newStep) 109 = .ok (.getfield 58, 3) := by decide +kernel
theorem dMd_newStep_112 : decode (mB Md_newStep) 112 = .ok (.iload 4, 2) := by decide +kernel
theorem dMd_newStep_114 : decode (mB Md_newStep) 114 = .ok (.iconst (-1), 1) := by decide +kernel
theorem dMd_newStep_115 : decode (mB Md_newStep) 115 = .ok (.iastore, 1) := by decide +kernel
theorem dMd_newStep_116 : decode (mB Md_newStep) 116 = .ok (.aload_n 0, 1) := by decide +kernel
theorem dMd_newStep_117 : decode (mB Md_newStep) 117 = .ok (.getfield 61, 3) := by decide +kernel
theorem dMd_newStep_120 : decode (mB Md_newStep) 120 = .ok (.iload 4, 2) := by decide +kernel
theorem dMd_newStep_122 : decode (mB Md_newStep) 122 = .ok (.iconst (-1), 1) := by decide +kernel
theorem dMd_newStep_123 : decode (mB Md_newStep) 123 = .ok (.iastore, 1) := by decide +kernel
theorem dMd_newStep_124 : decode (mB Md_newStep) 124 = .ok (.iload 4, 2) := by decide +kernel
theorem dMd_newStep_126 : decode (mB Md_newStep) 126 = .ok (.ireturn, 1) := by decide +kernel
def w_Md_newStep (o : Nat) (x1 : Int32) (x2 : Int32) (x3 : Int32) (h : tpH) (R : Int32 → tpH → Prop) : Prop :=
  hT h o = 14 ∧ (∃ a2, (hR h o 11) = some a2 ∧ hT h a2 = 15 ∧ (vp_in x1 (hL h a2) ∧ (((hI h a2 x1.toNatClampNeg) < (100 : Int32) → (vp_in x1 (hL h a2) ∧ (vp_in x1 (hL h a2) ∧ (vp_in x1 (hL h a2) ∧ (∀ h10, h10 = sI h a2 x1.toNatClampNeg ((hI h a2 x1.toNatClampNeg) + (1 : Int32)) → (∃ a12, (hR h10 o 12) = some a12 ∧ hT h10 a12 = 15 ∧ (vp_in (((100 : Int32) * x1) + (hI h a2 x1.toNatClampNeg)) (hL h10 a12) ∧ (∀ h16, h16 = sI h10 a12 (((100 : Int32) * x1) + (hI h a2 x1.toNatClampNeg)).toNatClampNeg x2 → (∃ a18, (hR h16 o 13) = some a18 ∧ hT h16 a18 = 15 ∧ (vp_in (((100 : Int32) * x1) + (hI h a2 x1.toNatClampNeg)) (hL h16 a18) ∧ (∀ h22, h22 = sI h16 a18 (((100 : Int32) * x1) + (hI h a2 x1.toNatClampNeg)).toNatClampNeg x3 → (∃ a24, (hR h22 o 14) = some a24 ∧ hT h22 a24 = 15 ∧ (vp_in (((100 : Int32) * x1) + (hI h a2 x1.toNatClampNeg)) (hL h22 a24) ∧ (∀ h28, h28 = sI h22 a24 (((100 : Int32) * x1) + (hI h a2 x1.toNatClampNeg)).toNatClampNeg (-1 : Int32) → (∃ a30, (hR h28 o 15) = some a30 ∧ hT h28 a30 = 15 ∧ (vp_in (((100 : Int32) * x1) + (hI h a2 x1.toNatClampNeg)) (hL h28 a30) ∧ (∀ h34, h34 = sI h28 a30 (((100 : Int32) * x1) + (hI h a2 x1.toNatClampNeg)).toNatClampNeg (-1 : Int32) → (∃ a36, (hR h34 o 16) = some a36 ∧ hT h34 a36 = 15 ∧ (vp_in (((100 : Int32) * x1) + (hI h a2 x1.toNatClampNeg)) (hL h34 a36) ∧ (∀ h40, h40 = sI h34 a36 (((100 : Int32) * x1) + (hI h a2 x1.toNatClampNeg)).toNatClampNeg (-1 : Int32) → (∃ a42, (hR h40 o 17) = some a42 ∧ hT h40 a42 = 15 ∧ (vp_in (((100 : Int32) * x1) + (hI h a2 x1.toNatClampNeg)) (hL h40 a42) ∧ (∀ h46, h46 = sI h40 a42 (((100 : Int32) * x1) + (hI h a2 x1.toNatClampNeg)).toNatClampNeg (-1 : Int32) → (∃ a48, (hR h46 o 18) = some a48 ∧ hT h46 a48 = 15 ∧ (vp_in (((100 : Int32) * x1) + (hI h a2 x1.toNatClampNeg)) (hL h46 a48) ∧ (∀ h52, h52 = sI h46 a48 (((100 : Int32) * x1) + (hI h a2 x1.toNatClampNeg)).toNatClampNeg (-1 : Int32) → (∃ a54, (hR h52 o 19) = some a54 ∧ hT h52 a54 = 15 ∧ (vp_in (((100 : Int32) * x1) + (hI h a2 x1.toNatClampNeg)) (hL h52 a54) ∧ (∀ h58, h58 = sI h52 a54 (((100 : Int32) * x1) + (hI h a2 x1.toNatClampNeg)).toNatClampNeg (-1 : Int32) → (∃ a60, (hR h58 o 20) = some a60 ∧ hT h58 a60 = 15 ∧ (vp_in (((100 : Int32) * x1) + (hI h a2 x1.toNatClampNeg)) (hL h58 a60) ∧ (∀ h64, h64 = sI h58 a60 (((100 : Int32) * x1) + (hI h a2 x1.toNatClampNeg)).toNatClampNeg (-1 : Int32) → (∃ a66, (hR h64 o 21) = some a66 ∧ hT h64 a66 = 15 ∧ (vp_in (((100 : Int32) * x1) + (hI h a2 x1.toNatClampNeg)) (hL h64 a66) ∧ (∀ h70, h70 = sI h64 a66 (((100 : Int32) * x1) + (hI h a2 x1.toNatClampNeg)).toNatClampNeg (-1 : Int32) → (R (((100 : Int32) * x1) + (hI h a2 x1.toNatClampNeg)) h70)))))))))))))))))))))))))))))))))))) ∧ (¬ (hI h a2 x1.toNatClampNeg) < (100 : Int32) → (vp_in x1 (hL h a2) ∧ (∀ h73, h73 = sI h a2 x1.toNatClampNeg (101 : Int32) → (R (-1 : Int32) h73)))))))
theorem s_Md_newStep {o : Nat} {x1 : Int32} {x2 : Int32} {x3 : Int32} {h : tpH} {R : Int32 → tpH → Prop} (hw : w_Md_newStep o x1 x2 x3 h R) : tpC Md_newStep 0 [vR (some o), vI x1, vI x2, vI x3] h (tpOi R (fun _ _ => False)) := by
  refine tpC_of mv_Md_newStep.2.2.2.1 rfl rfl (Nat.le_of_ble_eq_true rfl) ?_
  show tpR Md_newStep 0 h _ _ 0 [some (vR (some o)), some (vI x1), some (vI x2), some (vI x3), none] [] h
  unfold w_Md_newStep at hw
  refine tq_aload_n dMd_newStep_0 rfl rfl ?_
  obtain ⟨f1, hw⟩ := hw
  refine te_getr dMd_newStep_1 fMd_31 rfl rfl f1 ?_
  refine tq_iload_n dMd_newStep_4 rfl rfl ?_
  obtain ⟨a2, e3, f4, hw⟩ := hw
  obtain ⟨f5, hw⟩ := hw
  refine te_iald dMd_newStep_5 e3 (Or.inl f4) f5 ?_
  refine tq_bipush (v := (100 : Int32)) dMd_newStep_6 tnb_100 ?_
  refine tq_icmplt (tgt := 21) dMd_newStep_8 (by decide) (fun c6 => ?_) (fun c6 => ?_)
  · have hw := hw.1 c6
    refine tq_bipush (v := (100 : Int32)) dMd_newStep_21 tnb_100 ?_
    refine tq_iload_n dMd_newStep_23 rfl rfl ?_
    refine tq_imul dMd_newStep_24 ?_
    refine tq_aload_n dMd_newStep_25 rfl rfl ?_
    refine te_getr dMd_newStep_26 fMd_31 rfl rfl f1 ?_
    refine tq_iload_n dMd_newStep_29 rfl rfl ?_
    obtain ⟨f7, hw⟩ := hw
    refine te_iald dMd_newStep_30 e3 (Or.inl f4) f7 ?_
    refine tq_iadd dMd_newStep_31 ?_
    refine tq_istore (ls' := [some (vR (some o)), some (vI x1), some (vI x2), some (vI x3), some (vI (((100 : Int32) * x1) + (hI h a2 x1.toNatClampNeg)))]) dMd_newStep_32 (Nat.le_of_ble_eq_true rfl) rfl ?_
    refine tq_aload_n dMd_newStep_34 rfl rfl ?_
    refine te_getr dMd_newStep_35 fMd_31 rfl rfl f1 ?_
    refine tq_iload_n dMd_newStep_38 rfl rfl ?_
    refine tq_dup2 dMd_newStep_39 rfl rfl ?_
    obtain ⟨f8, hw⟩ := hw
    refine te_iald dMd_newStep_40 e3 (Or.inl f4) f8 ?_
    refine tq_iconst (v := (1 : Int32)) dMd_newStep_41 tni_1 ?_
    refine tq_iadd dMd_newStep_42 ?_
    obtain ⟨f9, hw⟩ := hw
    refine te_iast dMd_newStep_43 e3 f4 f9 (fun h10 e11 => ?_)
    have hw := hw h10 e11
    refine tq_aload_n dMd_newStep_44 rfl rfl ?_
    refine te_getr dMd_newStep_45 fMd_34 rfl rfl (by rw [e11]; exact f1) ?_
    refine tq_iload dMd_newStep_48 rfl ?_
    refine tq_iload_n dMd_newStep_50 rfl rfl ?_
    obtain ⟨a12, e13, f14, hw⟩ := hw
    obtain ⟨f15, hw⟩ := hw
    refine te_iast dMd_newStep_51 e13 f14 f15 (fun h16 e17 => ?_)
    have hw := hw h16 e17
    refine tq_aload_n dMd_newStep_52 rfl rfl ?_
    refine te_getr dMd_newStep_53 fMd_37 rfl rfl (by rw [e17]; exact (by rw [e11]; exact f1)) ?_
    refine tq_iload dMd_newStep_56 rfl ?_
    refine tq_iload_n dMd_newStep_58 rfl rfl ?_
    obtain ⟨a18, e19, f20, hw⟩ := hw
    obtain ⟨f21, hw⟩ := hw
    refine te_iast dMd_newStep_59 e19 f20 f21 (fun h22 e23 => ?_)
    have hw := hw h22 e23
    refine tq_aload_n dMd_newStep_60 rfl rfl ?_
    refine te_getr dMd_newStep_61 fMd_40 rfl rfl (by rw [e23]; exact (by rw [e17]; exact (by rw [e11]; exact f1))) ?_
    refine tq_iload dMd_newStep_64 rfl ?_
    refine tq_iconst (v := (-1 : Int32)) dMd_newStep_66 tni_m1 ?_
    obtain ⟨a24, e25, f26, hw⟩ := hw
    obtain ⟨f27, hw⟩ := hw
    refine te_iast dMd_newStep_67 e25 f26 f27 (fun h28 e29 => ?_)
    have hw := hw h28 e29
    refine tq_aload_n dMd_newStep_68 rfl rfl ?_
    refine te_getr dMd_newStep_69 fMd_43 rfl rfl (by rw [e29]; exact (by rw [e23]; exact (by rw [e17]; exact (by rw [e11]; exact f1)))) ?_
    refine tq_iload dMd_newStep_72 rfl ?_
    refine tq_iconst (v := (-1 : Int32)) dMd_newStep_74 tni_m1 ?_
    obtain ⟨a30, e31, f32, hw⟩ := hw
    obtain ⟨f33, hw⟩ := hw
    refine te_iast dMd_newStep_75 e31 f32 f33 (fun h34 e35 => ?_)
    have hw := hw h34 e35
    refine tq_aload_n dMd_newStep_76 rfl rfl ?_
    refine te_getr dMd_newStep_77 fMd_46 rfl rfl (by rw [e35]; exact (by rw [e29]; exact (by rw [e23]; exact (by rw [e17]; exact (by rw [e11]; exact f1))))) ?_
    refine tq_iload dMd_newStep_80 rfl ?_
    refine tq_iconst (v := (-1 : Int32)) dMd_newStep_82 tni_m1 ?_
    obtain ⟨a36, e37, f38, hw⟩ := hw
    obtain ⟨f39, hw⟩ := hw
    refine te_iast dMd_newStep_83 e37 f38 f39 (fun h40 e41 => ?_)
    have hw := hw h40 e41
    refine tq_aload_n dMd_newStep_84 rfl rfl ?_
    refine te_getr dMd_newStep_85 fMd_49 rfl rfl (by rw [e41]; exact (by rw [e35]; exact (by rw [e29]; exact (by rw [e23]; exact (by rw [e17]; exact (by rw [e11]; exact f1)))))) ?_
    refine tq_iload dMd_newStep_88 rfl ?_
    refine tq_iconst (v := (-1 : Int32)) dMd_newStep_90 tni_m1 ?_
    obtain ⟨a42, e43, f44, hw⟩ := hw
    obtain ⟨f45, hw⟩ := hw
    refine te_iast dMd_newStep_91 e43 f44 f45 (fun h46 e47 => ?_)
    have hw := hw h46 e47
    refine tq_aload_n dMd_newStep_92 rfl rfl ?_
    refine te_getr dMd_newStep_93 fMd_52 rfl rfl (by rw [e47]; exact (by rw [e41]; exact (by rw [e35]; exact (by rw [e29]; exact (by rw [e23]; exact (by rw [e17]; exact (by rw [e11]; exact f1))))))) ?_
    refine tq_iload dMd_newStep_96 rfl ?_
    refine tq_iconst (v := (-1 : Int32)) dMd_newStep_98 tni_m1 ?_
    obtain ⟨a48, e49, f50, hw⟩ := hw
    obtain ⟨f51, hw⟩ := hw
    refine te_iast dMd_newStep_99 e49 f50 f51 (fun h52 e53 => ?_)
    have hw := hw h52 e53
    refine tq_aload_n dMd_newStep_100 rfl rfl ?_
    refine te_getr dMd_newStep_101 fMd_55 rfl rfl (by rw [e53]; exact (by rw [e47]; exact (by rw [e41]; exact (by rw [e35]; exact (by rw [e29]; exact (by rw [e23]; exact (by rw [e17]; exact (by rw [e11]; exact f1)))))))) ?_
    refine tq_iload dMd_newStep_104 rfl ?_
    refine tq_iconst (v := (-1 : Int32)) dMd_newStep_106 tni_m1 ?_
    obtain ⟨a54, e55, f56, hw⟩ := hw
    obtain ⟨f57, hw⟩ := hw
    refine te_iast dMd_newStep_107 e55 f56 f57 (fun h58 e59 => ?_)
    have hw := hw h58 e59
    refine tq_aload_n dMd_newStep_108 rfl rfl ?_
    refine te_getr dMd_newStep_109 fMd_58 rfl rfl (by rw [e59]; exact (by rw [e53]; exact (by rw [e47]; exact (by rw [e41]; exact (by rw [e35]; exact (by rw [e29]; exact (by rw [e23]; exact (by rw [e17]; exact (by rw [e11]; exact f1))))))))) ?_
    refine tq_iload dMd_newStep_112 rfl ?_
    refine tq_iconst (v := (-1 : Int32)) dMd_newStep_114 tni_m1 ?_
    obtain ⟨a60, e61, f62, hw⟩ := hw
    obtain ⟨f63, hw⟩ := hw
    refine te_iast dMd_newStep_115 e61 f62 f63 (fun h64 e65 => ?_)
    have hw := hw h64 e65
    refine tq_aload_n dMd_newStep_116 rfl rfl ?_
    refine te_getr dMd_newStep_117 fMd_61 rfl rfl (by rw [e65]; exact (by rw [e59]; exact (by rw [e53]; exact (by rw [e47]; exact (by rw [e41]; exact (by rw [e35]; exact (by rw [e29]; exact (by rw [e23]; exact (by rw [e17]; exact (by rw [e11]; exact f1)))))))))) ?_
    refine tq_iload dMd_newStep_120 rfl ?_
    refine tq_iconst (v := (-1 : Int32)) dMd_newStep_122 tni_m1 ?_
    obtain ⟨a66, e67, f68, hw⟩ := hw
    obtain ⟨f69, hw⟩ := hw
    refine te_iast dMd_newStep_123 e67 f68 f69 (fun h70 e71 => ?_)
    have hw := hw h70 e71
    refine tq_iload dMd_newStep_124 rfl ?_
    exact tq_iret rfl rfl dMd_newStep_126 hw
  · have hw := hw.2 c6
    refine tq_aload_n dMd_newStep_11 rfl rfl ?_
    refine te_getr dMd_newStep_12 fMd_31 rfl rfl f1 ?_
    refine tq_iload_n dMd_newStep_15 rfl rfl ?_
    refine tq_bipush (v := (101 : Int32)) dMd_newStep_16 tnb_101 ?_
    obtain ⟨f72, hw⟩ := hw
    refine te_iast dMd_newStep_18 e3 f4 f72 (fun h73 e74 => ?_)
    have hw := hw h73 e74
    refine tq_iconst (v := (-1 : Int32)) dMd_newStep_19 tni_m1 ?_
    exact tq_iret rfl rfl dMd_newStep_20 hw
/-! TModel.tellWas -/
theorem dMd_tellWas_0 : decode (mB Md_tellWas) 0 = .ok (.aload_n 0, 1) := by decide +kernel
theorem dMd_tellWas_1 : decode (mB Md_tellWas) 1 = .ok (.bipush 41, 2) := by decide +kernel
theorem dMd_tellWas_3 : decode (mB Md_tellWas) 3 = .ok (.iload_n 2, 1) := by decide +kernel
theorem dMd_tellWas_4 : decode (mB Md_tellWas) 4 = .ok (.invokevirtual 179, 3) := by decide +kernel
theorem dMd_tellWas_7 : decode (mB Md_tellWas) 7 = .ok (.istore_n 3, 1) := by decide +kernel
theorem dMd_tellWas_8 : decode (mB Md_tellWas) 8 = .ok (.aload_n 0, 1) := by decide +kernel
theorem dMd_tellWas_9 : decode (mB Md_tellWas) 9 = .ok (.getfield 55, 3) := by decide +kernel
theorem dMd_tellWas_12 : decode (mB Md_tellWas) 12 = .ok (.iload_n 1, 1) := by decide +kernel
theorem dMd_tellWas_13 : decode (mB Md_tellWas) 13 = .ok (.iload_n 3, 1) := by decide +kernel
theorem dMd_tellWas_14 : decode (mB Md_tellWas) 14 = .ok (.iastore, 1) := by decide +kernel
theorem dMd_tellWas_15 : decode (mB Md_tellWas) 15 = .ok (.aload_n 0, 1) := by decide +kernel
theorem dMd_tellWas_16 : decode (mB Md_tellWas) 16 = .ok (.getfield 58, 3) := by decide +kernel
theorem dMd_tellWas_19 : decode (mB Md_tellWas) 19 = .ok (.iload_n 1, 1) := by decide +kernel
theorem dMd_tellWas_20 : decode (mB Md_tellWas) 20 = .ok (.aload_n 0, 1) := by decide +kernel
theorem dMd_tellWas_21 : decode (mB Md_tellWas) 21 = .ok (.bipush 41, 2) := by decide +kernel
theorem dMd_tellWas_23 : decode (mB Md_tellWas) 23 = .ok (.iload_n 3, 1) := by decide +kernel
theorem dMd_tellWas_24 : decode (mB Md_tellWas) 24 = .ok (.iload_n 2, 1) := by decide +kernel
theorem dMd_tellWas_25 : decode (mB Md_tellWas) 25 = .ok (.iconst 1, 1) := by decide +kernel
theorem dMd_tellWas_26 : decode (mB Md_tellWas) 26 = .ok (.invokevirtual 182, 3) := by decide +kernel
theorem dMd_tellWas_29 : decode (mB Md_tellWas) 29 = .ok (.iastore, 1) := by decide +kernel
theorem dMd_tellWas_30 : decode (mB Md_tellWas) 30 = .ok (.aload_n 0, 1) := by decide +kernel
theorem dMd_tellWas_31 : decode (mB Md_tellWas) 31 = .ok (.getfield 61, 3) := by decide +kernel
theorem dMd_tellWas_34 : decode (mB Md_tellWas) 34 = .ok (.iload_n 1, 1) := by decide +kernel
theorem dMd_tellWas_35 : decode (mB Md_tellWas) 35 = .ok (.aload_n 0, 1) := by decide +kernel
theorem dMd_tellWas_36 : decode (mB Md_tellWas) 36 = .ok (.bipush 41, 2) := by decide +kernel
theorem dMd_tellWas_38 : decode (mB Md_tellWas) 38 = .ok (.iload_n 2, 1) := by decide +kernel
theorem dMd_tellWas_39 : decode (mB Md_tellWas) 39 = .ok (.invokevirtual 169, 3) := by decide +kernel
theorem dMd_tellWas_42 : decode (mB Md_tellWas) 42 = .ok (.iastore, 1) := by decide +kernel
theorem dMd_tellWas_43 : decode (mB Md_tellWas) 43 = .ok (.return_, 1) := by decide +kernel
def w_Md_tellWas (o : Nat) (x1 : Int32) (x2 : Int32) (h : tpH) (R : tpH → Prop) : Prop :=
  hT h o = 14 ∧ (w_Md_parentIn o (41 : Int32) x2 h (fun v3 h2 => hT h2 o = 14 ∧ (∃ a5, (hR h2 o 19) = some a5 ∧ hT h2 a5 = 15 ∧ (vp_in x1 (hL h2 a5) ∧ (∀ h9, h9 = sI h2 a5 x1.toNatClampNeg v3 → (w_Md_sibling o (41 : Int32) v3 x2 (1 : Int32) h9 (fun v12 h11 => ∃ a13, (hR h9 o 20) = some a13 ∧ hT h11 a13 = 15 ∧ (vp_in x1 (hL h11 a13) ∧ (∀ h17, h17 = sI h11 a13 x1.toNatClampNeg v12 → (hT h17 o = 14 ∧ (w_Md_nextIn o (41 : Int32) x2 h17 (fun v21 h20 => ∃ a22, (hR h17 o 21) = some a22 ∧ hT h20 a22 = 15 ∧ (vp_in x1 (hL h20 a22) ∧ (∀ h26, h26 = sI h20 a22 x1.toNatClampNeg v21 → (R h26)))))))))))))))
theorem s_Md_tellWas {o : Nat} {x1 : Int32} {x2 : Int32} {h : tpH} {R : tpH → Prop} (hw : w_Md_tellWas o x1 x2 h R) : tpC Md_tellWas 2 [vR (some o), vI x1, vI x2] h (tpOv R (fun _ _ => False)) := by
  refine tpC_of mv_Md_tellWas.2.2.2.1 rfl rfl (Nat.le_of_ble_eq_true rfl) ?_
  show tpR Md_tellWas 2 h _ _ 0 [some (vR (some o)), some (vI x1), some (vI x2), none] [] h
  unfold w_Md_tellWas at hw
  refine tq_aload_n dMd_tellWas_0 rfl rfl ?_
  refine tq_bipush (v := (41 : Int32)) dMd_tellWas_1 tnb_41 ?_
  refine tq_iload_n dMd_tellWas_3 rfl rfl ?_
  obtain ⟨f1, hw⟩ := hw
  refine te_callV mv_Md_parentIn (ci := 13) (dc := 0) (as := [vI (41 : Int32), vI x2]) (rest := []) kMd_179 rfl (Nat.le_of_ble_eq_true rfl) (Nat.le_of_ble_eq_true rfl) rfl rfl rfl f1 (Nat.le_of_ble_eq_true rfl) dMd_tellWas_4 (s_Md_parentIn hw) (fun _ _ hx => False.elim hx) (tk_i fun v3 h2 hw => ?_)
  refine tq_istore_n (ls' := [some (vR (some o)), some (vI x1), some (vI x2), some (vI v3)]) dMd_tellWas_7 rfl (Nat.le_of_ble_eq_true rfl) rfl ?_
  refine tq_aload_n dMd_tellWas_8 rfl rfl ?_
  obtain ⟨f4, hw⟩ := hw
  refine te_getr dMd_tellWas_9 fMd_55 rfl rfl f4 ?_
  refine tq_iload_n dMd_tellWas_12 rfl rfl ?_
  refine tq_iload_n dMd_tellWas_13 rfl rfl ?_
  obtain ⟨a5, e6, f7, hw⟩ := hw
  obtain ⟨f8, hw⟩ := hw
  refine te_iast dMd_tellWas_14 e6 f7 f8 (fun h9 e10 => ?_)
  have hw := hw h9 e10
  refine tq_aload_n dMd_tellWas_15 rfl rfl ?_
  refine te_getr dMd_tellWas_16 fMd_58 rfl rfl (by rw [e10]; exact f4) ?_
  refine tq_iload_n dMd_tellWas_19 rfl rfl ?_
  refine tq_aload_n dMd_tellWas_20 rfl rfl ?_
  refine tq_bipush (v := (41 : Int32)) dMd_tellWas_21 tnb_41 ?_
  refine tq_iload_n dMd_tellWas_23 rfl rfl ?_
  refine tq_iload_n dMd_tellWas_24 rfl rfl ?_
  refine tq_iconst (v := (1 : Int32)) dMd_tellWas_25 tni_1 ?_
  refine te_callV mv_Md_sibling (ci := 13) (dc := 1) (as := [vI (41 : Int32), vI v3, vI x2, vI (1 : Int32)]) (rest := [vI x1, vR (hR h9 o 20)]) kMd_182 rfl (Nat.le_of_ble_eq_true rfl) (Nat.le_of_ble_eq_true rfl) rfl rfl rfl (by rw [e10]; exact f4) (Nat.le_of_ble_eq_true rfl) dMd_tellWas_26 (s_Md_sibling hw) (fun _ _ hx => False.elim hx) (tk_i fun v12 h11 hw => ?_)
  obtain ⟨a13, e14, f15, hw⟩ := hw
  obtain ⟨f16, hw⟩ := hw
  refine te_iast dMd_tellWas_29 e14 f15 f16 (fun h17 e18 => ?_)
  have hw := hw h17 e18
  refine tq_aload_n dMd_tellWas_30 rfl rfl ?_
  obtain ⟨f19, hw⟩ := hw
  refine te_getr dMd_tellWas_31 fMd_61 rfl rfl f19 ?_
  refine tq_iload_n dMd_tellWas_34 rfl rfl ?_
  refine tq_aload_n dMd_tellWas_35 rfl rfl ?_
  refine tq_bipush (v := (41 : Int32)) dMd_tellWas_36 tnb_41 ?_
  refine tq_iload_n dMd_tellWas_38 rfl rfl ?_
  refine te_callV mv_Md_nextIn (ci := 13) (dc := 0) (as := [vI (41 : Int32), vI x2]) (rest := [vI x1, vR (hR h17 o 21)]) kMd_169 rfl (Nat.le_of_ble_eq_true rfl) (Nat.le_of_ble_eq_true rfl) rfl rfl rfl f19 (Nat.le_of_ble_eq_true rfl) dMd_tellWas_39 (s_Md_nextIn hw) (fun _ _ hx => False.elim hx) (tk_i fun v21 h20 hw => ?_)
  obtain ⟨a22, e23, f24, hw⟩ := hw
  obtain ⟨f25, hw⟩ := hw
  refine te_iast dMd_tellWas_42 e23 f24 f25 (fun h26 e27 => ?_)
  have hw := hw h26 e27
  exact tq_vret rfl dMd_tellWas_43 hw
/-! TModel.tellTo -/
theorem dMd_tellTo_0 : decode (mB Md_tellTo) 0 = .ok (.aload_n 0, 1) := by decide +kernel
theorem dMd_tellTo_1 : decode (mB Md_tellTo) 1 = .ok (.bipush 41, 2) := by decide +kernel
theorem dMd_tellTo_3 : decode (mB Md_tellTo) 3 = .ok (.iload_n 2, 1) := by decide +kernel
theorem dMd_tellTo_4 : decode (mB Md_tellTo) 4 = .ok (.invokevirtual 179, 3) := by decide +kernel
theorem dMd_tellTo_7 : decode (mB Md_tellTo) 7 = .ok (.istore_n 3, 1) := by decide +kernel
theorem dMd_tellTo_8 : decode (mB Md_tellTo) 8 = .ok (.aload_n 0, 1) := by decide +kernel
theorem dMd_tellTo_9 : decode (mB Md_tellTo) 9 = .ok (.getfield 46, 3) := by decide +kernel
theorem dMd_tellTo_12 : decode (mB Md_tellTo) 12 = .ok (.iload_n 1, 1) := by decide +kernel
theorem dMd_tellTo_13 : decode (mB Md_tellTo) 13 = .ok (.iload_n 3, 1) := by decide +kernel
theorem dMd_tellTo_14 : decode (mB Md_tellTo) 14 = .ok (.iastore, 1) := by decide +kernel
theorem dMd_tellTo_15 : decode (mB Md_tellTo) 15 = .ok (.aload_n 0, 1) := by decide +kernel
theorem dMd_tellTo_16 : decode (mB Md_tellTo) 16 = .ok (.getfield 49, 3) := by decide +kernel
theorem dMd_tellTo_19 : decode (mB Md_tellTo) 19 = .ok (.iload_n 1, 1) := by decide +kernel
theorem dMd_tellTo_20 : decode (mB Md_tellTo) 20 = .ok (.aload_n 0, 1) := by decide +kernel
theorem dMd_tellTo_21 : decode (mB Md_tellTo) 21 = .ok (.bipush 41, 2) := by decide +kernel
theorem dMd_tellTo_23 : decode (mB Md_tellTo) 23 = .ok (.iload_n 3, 1) := by decide +kernel
theorem dMd_tellTo_24 : decode (mB Md_tellTo) 24 = .ok (.iload_n 2, 1) := by decide +kernel
theorem dMd_tellTo_25 : decode (mB Md_tellTo) 25 = .ok (.iconst 1, 1) := by decide +kernel
theorem dMd_tellTo_26 : decode (mB Md_tellTo) 26 = .ok (.invokevirtual 182, 3) := by decide +kernel
theorem dMd_tellTo_29 : decode (mB Md_tellTo) 29 = .ok (.iastore, 1) := by decide +kernel
theorem dMd_tellTo_30 : decode (mB Md_tellTo) 30 = .ok (.aload_n 0, 1) := by decide +kernel
theorem dMd_tellTo_31 : decode (mB Md_tellTo) 31 = .ok (.getfield 52, 3) := by decide +kernel
theorem dMd_tellTo_34 : decode (mB Md_tellTo) 34 = .ok (.iload_n 1, 1) := by decide +kernel
theorem dMd_tellTo_35 : decode (mB Md_tellTo) 35 = .ok (.aload_n 0, 1) := by decide +kernel
theorem dMd_tellTo_36 : decode (mB Md_tellTo) 36 = .ok (.bipush 41, 2) := by decide +kernel
theorem dMd_tellTo_38 : decode (mB Md_tellTo) 38 = .ok (.iload_n 2, 1) := by decide +kernel
theorem dMd_tellTo_39 : decode (mB Md_tellTo) 39 = .ok (.invokevirtual 169, 3) := by decide +kernel
theorem dMd_tellTo_42 : decode (mB Md_tellTo) 42 = .ok (.iastore, 1) := by decide +kernel
theorem dMd_tellTo_43 : decode (mB Md_tellTo) 43 = .ok (.return_, 1) := by decide +kernel
def w_Md_tellTo (o : Nat) (x1 : Int32) (x2 : Int32) (h : tpH) (R : tpH → Prop) : Prop :=
  hT h o = 14 ∧ (w_Md_parentIn o (41 : Int32) x2 h (fun v3 h2 => hT h2 o = 14 ∧ (∃ a5, (hR h2 o 16) = some a5 ∧ hT h2 a5 = 15 ∧ (vp_in x1 (hL h2 a5) ∧ (∀ h9, h9 = sI h2 a5 x1.toNatClampNeg v3 → (w_Md_sibling o (41 : Int32) v3 x2 (1 : Int32) h9 (fun v12 h11 => ∃ a13, (hR h9 o 17) = some a13 ∧ hT h11 a13 = 15 ∧ (vp_in x1 (hL h11 a13) ∧ (∀ h17, h17 = sI h11 a13 x1.toNatClampNeg v12 → (hT h17 o = 14 ∧ (w_Md_nextIn o (41 : Int32) x2 h17 (fun v21 h20 => ∃ a22, (hR h17 o 18) = some a22 ∧ hT h20 a22 = 15 ∧ (vp_in x1 (hL h20 a22) ∧ (∀ h26, h26 = sI h20 a22 x1.toNatClampNeg v21 → (R h26)))))))))))))))
theorem s_Md_tellTo {o : Nat} {x1 : Int32} {x2 : Int32} {h : tpH} {R : tpH → Prop} (hw : w_Md_tellTo o x1 x2 h R) : tpC Md_tellTo 2 [vR (some o), vI x1, vI x2] h (tpOv R (fun _ _ => False)) := by
  refine tpC_of mv_Md_tellTo.2.2.2.1 rfl rfl (Nat.le_of_ble_eq_true rfl) ?_
  show tpR Md_tellTo 2 h _ _ 0 [some (vR (some o)), some (vI x1), some (vI x2), none] [] h
  unfold w_Md_tellTo at hw
  refine tq_aload_n dMd_tellTo_0 rfl rfl ?_
  refine tq_bipush (v := (41 : Int32)) dMd_tellTo_1 tnb_41 ?_
  refine tq_iload_n dMd_tellTo_3 rfl rfl ?_
  obtain ⟨f1, hw⟩ := hw
  refine te_callV mv_Md_parentIn (ci := 13) (dc := 0) (as := [vI (41 : Int32), vI x2]) (rest := []) kMd_179 rfl (Nat.le_of_ble_eq_true rfl) (Nat.le_of_ble_eq_true rfl) rfl rfl rfl f1 (Nat.le_of_ble_eq_true rfl) dMd_tellTo_4 (s_Md_parentIn hw) (fun _ _ hx => False.elim hx) (tk_i fun v3 h2 hw => ?_)
  refine tq_istore_n (ls' := [some (vR (some o)), some (vI x1), some (vI x2), some (vI v3)]) dMd_tellTo_7 rfl (Nat.le_of_ble_eq_true rfl) rfl ?_
  refine tq_aload_n dMd_tellTo_8 rfl rfl ?_
  obtain ⟨f4, hw⟩ := hw
  refine te_getr dMd_tellTo_9 fMd_46 rfl rfl f4 ?_
  refine tq_iload_n dMd_tellTo_12 rfl rfl ?_
  refine tq_iload_n dMd_tellTo_13 rfl rfl ?_
  obtain ⟨a5, e6, f7, hw⟩ := hw
  obtain ⟨f8, hw⟩ := hw
  refine te_iast dMd_tellTo_14 e6 f7 f8 (fun h9 e10 => ?_)
  have hw := hw h9 e10
  refine tq_aload_n dMd_tellTo_15 rfl rfl ?_
  refine te_getr dMd_tellTo_16 fMd_49 rfl rfl (by rw [e10]; exact f4) ?_
  refine tq_iload_n dMd_tellTo_19 rfl rfl ?_
  refine tq_aload_n dMd_tellTo_20 rfl rfl ?_
  refine tq_bipush (v := (41 : Int32)) dMd_tellTo_21 tnb_41 ?_
  refine tq_iload_n dMd_tellTo_23 rfl rfl ?_
  refine tq_iload_n dMd_tellTo_24 rfl rfl ?_
  refine tq_iconst (v := (1 : Int32)) dMd_tellTo_25 tni_1 ?_
  refine te_callV mv_Md_sibling (ci := 13) (dc := 1) (as := [vI (41 : Int32), vI v3, vI x2, vI (1 : Int32)]) (rest := [vI x1, vR (hR h9 o 17)]) kMd_182 rfl (Nat.le_of_ble_eq_true rfl) (Nat.le_of_ble_eq_true rfl) rfl rfl rfl (by rw [e10]; exact f4) (Nat.le_of_ble_eq_true rfl) dMd_tellTo_26 (s_Md_sibling hw) (fun _ _ hx => False.elim hx) (tk_i fun v12 h11 hw => ?_)
  obtain ⟨a13, e14, f15, hw⟩ := hw
  obtain ⟨f16, hw⟩ := hw
  refine te_iast dMd_tellTo_29 e14 f15 f16 (fun h17 e18 => ?_)
  have hw := hw h17 e18
  refine tq_aload_n dMd_tellTo_30 rfl rfl ?_
  obtain ⟨f19, hw⟩ := hw
  refine te_getr dMd_tellTo_31 fMd_52 rfl rfl f19 ?_
  refine tq_iload_n dMd_tellTo_34 rfl rfl ?_
  refine tq_aload_n dMd_tellTo_35 rfl rfl ?_
  refine tq_bipush (v := (41 : Int32)) dMd_tellTo_36 tnb_41 ?_
  refine tq_iload_n dMd_tellTo_38 rfl rfl ?_
  refine te_callV mv_Md_nextIn (ci := 13) (dc := 0) (as := [vI (41 : Int32), vI x2]) (rest := [vI x1, vR (hR h17 o 18)]) kMd_169 rfl (Nat.le_of_ble_eq_true rfl) (Nat.le_of_ble_eq_true rfl) rfl rfl rfl f19 (Nat.le_of_ble_eq_true rfl) dMd_tellTo_39 (s_Md_nextIn hw) (fun _ _ hx => False.elim hx) (tk_i fun v21 h20 hw => ?_)
  obtain ⟨a22, e23, f24, hw⟩ := hw
  obtain ⟨f25, hw⟩ := hw
  refine te_iast dMd_tellTo_42 e23 f24 f25 (fun h26 e27 => ?_)
  have hw := hw h26 e27
  exact tq_vret rfl dMd_tellTo_43 hw
/-! TModel.comesAhead -/
theorem dMd_comesAhead_0 : decode (mB Md_comesAhead) 0 = .ok (.aload_n 0, 1) := by decide +kernel
theorem dMd_comesAhead_1 : decode (mB Md_comesAhead) 1 = .ok (.bipush 41, 2) := by decide +kernel
theorem dMd_comesAhead_3 : decode (mB Md_comesAhead) 3 = .ok (.iload_n 1, 1) := by decide +kernel
theorem dMd_comesAhead_4 : decode (mB Md_comesAhead) 4 = .ok (.invokevirtual 169, 3) := by decide +kernel
theorem dMd_comesAhead_7 : decode (mB Md_comesAhead) 7 = .ok (.istore_n 3, 1) := by decide +kernel
theorem dMd_comesAhead_8 : decode (mB Md_comesAhead) 8 = .ok (.iload_n 3, 1) := by decide +kernel
theorem dMd_comesAhead_9 : decode (mB Md_comesAhead) 9 = .ok (.iconst (-1), 1) := by decide +kernel
theorem dMd_comesAhead_10 : decode (mB Md_comesAhead) 10 = .ok (.if_icmp .eq 21, 3) := by decide +kernel
theorem dMd_comesAhead_13 : decode (mB Md_comesAhead) 13 = .ok (.iload_n 3, 1) := by decide +kernel
theorem dMd_comesAhead_14 : decode (mB Md_comesAhead) 14 = .ok (.iload_n 2, 1) := by decide +kernel
theorem dMd_comesAhead_15 : decode (mB Md_comesAhead) 15 = .ok (.if_icmp .ne 5, 3) := by decide +kernel
theorem dMd_comesAhead_18 : decode (mB Md_comesAhead) 18 = .ok (.iconst 1, 1) := by decide +kernel
theorem dMd_comesAhead_19 : decode (mB Md_comesAhead) 19 = .ok (.ireturn, 1) := by decide +kernel
theorem dMd_comesAhead_20 : decode (mB Md_comesAhead) 20 = .ok (.aload_n 0, 1) := by decide +kernel
theorem dMd_comesAhead_21 : decode (mB Md_comesAhead) 21 = .ok (.bipush 41, 2) := by decide +kernel
theorem dMd_comesAhead_23 : decode (mB Md_comesAhead) 23 = .ok (.iload_n 3, 1) := by decide +kernel
theorem dMd_comesAhead_24 : decode (mB Md_comesAhead) 24 = .ok (.invokevirtual 169, 3) := by decide +kernel
theorem dMd_comesAhead_27 : decode (mB Md_comesAhead) 27 = .ok (.istore_n 3, 1) := by decide +kernel
theorem dMd_comesAhead_28 : decode (mB Md_comesAhead) 28 = .ok (.goto (-20), 3) := by decide +kernel
theorem dMd_comesAhead_31 : decode (mB Md_comesAhead) 31 = .ok (.iconst 0, 1) := by decide +kernel
theorem dMd_comesAhead_32 : decode (mB Md_comesAhead) 32 = .ok (.ireturn, 1) := by decide +kernel
def b_Md_comesAhead_8 (R : Int32 → tpH → Prop) (Y : Nat → Int32 → Int32 → tpH → Prop) (o : Nat) (x2 : Int32) (x3 : Int32) (h : tpH) : Prop :=
  (x3 = (-1 : Int32) → (R (0 : Int32) h)) ∧ (¬ x3 = (-1 : Int32) → ((¬ x3 = x2 → (hT h o = 14 ∧ (w_Md_nextIn o (41 : Int32) x3 h (fun v5 h4 => Y o x2 v5 h4)))) ∧ (x3 = x2 → (R (1 : Int32) h))))
def w_Md_comesAhead_8 (R : Int32 → tpH → Prop) : Nat → Nat → Int32 → Int32 → tpH → Prop
  | 0 => fun _ _ _ _ => False
  | n + 1 => b_Md_comesAhead_8 R (w_Md_comesAhead_8 R n)
def w_Md_comesAhead (o : Nat) (x1 : Int32) (x2 : Int32) (h : tpH) (R : Int32 → tpH → Prop) : Prop :=
  hT h o = 14 ∧ (w_Md_nextIn o (41 : Int32) x1 h (fun v3 h2 => ∃ n, w_Md_comesAhead_8 R n o x2 v3 h2))
theorem s_Md_comesAhead_8 {h0 : tpH} {av : List tpV} {R : Int32 → tpH → Prop} : ∀ (n : Nat) (o : Nat) (x2 : Int32) (x3 : Int32) (h : tpH), w_Md_comesAhead_8 R n o x2 x3 h → tpR Md_comesAhead 1 h0 av (tpOi R (fun _ _ => False)) 8 [some (vR (some o)), none, some (vI x2), some (vI x3)] [] h := by
  intro n
  induction n with
  | zero => intro o x2 x3 h hw; exact False.elim hw
  | succ n ih =>
    intro o x2 x3 h hw
    change b_Md_comesAhead_8 R (w_Md_comesAhead_8 R n) o x2 x3 h at hw
    unfold b_Md_comesAhead_8 at hw
    refine tq_iload_n dMd_comesAhead_8 rfl rfl ?_
    refine tq_iconst (v := (-1 : Int32)) dMd_comesAhead_9 tni_m1 ?_
    refine tq_icmpeq (tgt := 31) dMd_comesAhead_10 (by decide) (fun c1 => ?_) (fun c1 => ?_)
    · have hw := hw.1 c1
      refine tq_iconst (v := (0 : Int32)) dMd_comesAhead_31 tni_0 ?_
      exact tq_iret rfl (by decide) dMd_comesAhead_32 hw
    · have hw := hw.2 c1
      refine tq_iload_n dMd_comesAhead_13 rfl rfl ?_
      refine tq_iload_n dMd_comesAhead_14 rfl rfl ?_
      refine tq_icmpne (tgt := 20) dMd_comesAhead_15 (by decide) (fun c2 => ?_) (fun c2 => ?_)
      · have hw := hw.1 c2
        refine tq_aload_n dMd_comesAhead_20 rfl rfl ?_
        refine tq_bipush (v := (41 : Int32)) dMd_comesAhead_21 tnb_41 ?_
        refine tq_iload_n dMd_comesAhead_23 rfl rfl ?_
        obtain ⟨f3, hw⟩ := hw
        refine te_callV mv_Md_nextIn (ci := 13) (dc := 0) (as := [vI (41 : Int32), vI x3]) (rest := []) kMd_169 rfl (Nat.le_of_ble_eq_true rfl) (Nat.le_of_ble_eq_true rfl) rfl rfl rfl f3 (Nat.le_of_ble_eq_true rfl) dMd_comesAhead_24 (s_Md_nextIn hw) (fun _ _ hx => False.elim hx) (tk_i fun v5 h4 hw => ?_)
        refine tq_istore_n (ls' := [some (vR (some o)), none, some (vI x2), some (vI v5)]) dMd_comesAhead_27 rfl (Nat.le_of_ble_eq_true rfl) rfl ?_
        refine tq_goto (tgt := 8) dMd_comesAhead_28 (by decide) ?_
        refine tpR.fo (ls' := [some (vR (some o)), none, some (vI x2), some (vI v5)]) ?_ (And.intro rfl (And.intro rfl (And.intro rfl trivial)))
        exact ih _ _ _ _ hw
      · have hw := hw.2 c2
        refine tq_iconst (v := (1 : Int32)) dMd_comesAhead_18 tni_1 ?_
        exact tq_iret rfl (by decide) dMd_comesAhead_19 hw
theorem s_Md_comesAhead {o : Nat} {x1 : Int32} {x2 : Int32} {h : tpH} {R : Int32 → tpH → Prop} (hw : w_Md_comesAhead o x1 x2 h R) : tpC Md_comesAhead 1 [vR (some o), vI x1, vI x2] h (tpOi R (fun _ _ => False)) := by
  refine tpC_of mv_Md_comesAhead.2.2.2.1 rfl rfl (Nat.le_of_ble_eq_true rfl) ?_
  show tpR Md_comesAhead 1 h _ _ 0 [some (vR (some o)), some (vI x1), some (vI x2), none] [] h
  unfold w_Md_comesAhead at hw
  refine tq_aload_n dMd_comesAhead_0 rfl rfl ?_
  refine tq_bipush (v := (41 : Int32)) dMd_comesAhead_1 tnb_41 ?_
  refine tq_iload_n dMd_comesAhead_3 rfl rfl ?_
  obtain ⟨f1, hw⟩ := hw
  refine te_callV mv_Md_nextIn (ci := 13) (dc := 0) (as := [vI (41 : Int32), vI x1]) (rest := []) kMd_169 rfl (Nat.le_of_ble_eq_true rfl) (Nat.le_of_ble_eq_true rfl) rfl rfl rfl f1 (Nat.le_of_ble_eq_true rfl) dMd_comesAhead_4 (s_Md_nextIn hw) (fun _ _ hx => False.elim hx) (tk_i fun v3 h2 hw => ?_)
  refine tq_istore_n (ls' := [some (vR (some o)), some (vI x1), some (vI x2), some (vI v3)]) dMd_comesAhead_7 rfl (Nat.le_of_ble_eq_true rfl) rfl ?_
  refine tpR.fo (ls' := [some (vR (some o)), none, some (vI x2), some (vI v3)]) ?_ (And.intro rfl (And.intro rfl (And.intro rfl trivial)))
  obtain ⟨n, hw⟩ := hw
  exact s_Md_comesAhead_8 n _ _ _ _ hw
/-! TModel.places -/
theorem dMd_places_0 : decode (mB Md_places) 0 = .ok (.aload_n 0, 1) := by decide +kernel
theorem dMd_places_1 : decode (mB Md_places) 1 = .ok (.getfield 109, 3) := by decide +kernel
theorem dMd_places_4 : decode (mB Md_places) 4 = .ok (.aload_n 0, 1) := by decide +kernel
theorem dMd_places_5 : decode (mB Md_places) 5 = .ok (.iload_n 1, 1) := by decide +kernel
theorem dMd_places_6 : decode (mB Md_places) 6 = .ok (.iload_n 3, 1) := by decide +kernel
theorem dMd_places_7 : decode (mB Md_places) 7 = .ok (.invokevirtual 179, 3) := by decide +kernel
theorem dMd_places_10 : decode (mB Md_places) 10 = .ok (.iaload, 1) := by decide +kernel
theorem dMd_places_11 : decode (mB Md_places) 11 = .ok (.istore 4, 2) := by decide +kernel
theorem dMd_places_13 : decode (mB Md_places) 13 = .ok (.aload_n 0, 1) := by decide +kernel
theorem dMd_places_14 : decode (mB Md_places) 14 = .ok (.iload_n 1, 1) := by decide +kernel
theorem dMd_places_15 : decode (mB Md_places) 15 = .ok (.aload_n 0, 1) := by decide +kernel
theorem dMd_places_16 : decode (mB Md_places) 16 = .ok (.iload_n 1, 1) := by decide +kernel
theorem dMd_places_17 : decode (mB Md_places) 17 = .ok (.iload_n 3, 1) := by decide +kernel
theorem dMd_places_18 : decode (mB Md_places) 18 = .ok (.invokevirtual 179, 3) := by decide +kernel
theorem dMd_places_21 : decode (mB Md_places) 21 = .ok (.iload_n 3, 1) := by decide +kernel
theorem dMd_places_22 : decode (mB Md_places) 22 = .ok (.iconst 1, 1) := by decide +kernel
theorem dMd_places_23 : decode (mB Md_places) 23 = .ok (.invokevirtual 182, 3) := by decide +kernel
theorem dMd_places_26 : decode (mB Md_places) 26 = .ok (.istore 5, 2) := by decide +kernel
theorem dMd_places_28 : decode (mB Md_places) 28 = .ok (.iload 5, 2) := by decide +kernel
theorem dMd_places_30 : decode (mB Md_places) 30 = .ok (.iconst (-1), 1) := by decide +kernel
theorem dMd_places_31 : decode (mB Md_places) 31 = .ok (.if_icmp .ne 7, 3) := by decide +kernel
theorem dMd_places_34 : decode (mB Md_places) 34 = .ok (.iconst (-1), 1) := by decide +kernel
theorem dMd_places_35 : decode (mB Md_places) 35 = .ok (.goto 10, 3) := by decide +kernel
theorem dMd_places_38 : decode (mB Md_places) 38 = .ok (.aload_n 0, 1) := by decide +kernel
theorem dMd_places_39 : decode (mB Md_places) 39 = .ok (.getfield 109, 3) := by decide +kernel
theorem dMd_places_42 : decode (mB Md_places) 42 = .ok (.iload 5, 2) := by decide +kernel
theorem dMd_places_44 : decode (mB Md_places) 44 = .ok (.iaload, 1) := by decide +kernel
theorem dMd_places_45 : decode (mB Md_places) 45 = .ok (.istore 6, 2) := by decide +kernel
theorem dMd_places_47 : decode (mB Md_places) 47 = .ok (.aload_n 0, 1) := by decide +kernel
theorem dMd_places_48 : decode (mB Md_places) 48 = .ok (.getfield 109, 3) := by decide +kernel
theorem dMd_places_51 : decode (mB Md_places) 51 = .ok (.iload_n 3, 1) := by decide +kernel
theorem dMd_places_52 : decode (mB Md_places) 52 = .ok (.iaload, 1) := by decide +kernel
theorem dMd_places_53 : decode (mB Md_places) 53 = .ok (.istore 7, 2) := by decide +kernel
theorem dMd_places_55 : decode (mB Md_places) 55 = .ok (.iload 7, 2) := by decide +kernel
theorem dMd_places_57 : decode (mB Md_places) 57 = .ok (.iconst (-1), 1) := by decide +kernel
theorem dMd_places_58 : decode (mB Md_places) 58 = .ok (.if_icmp .ne 87, 3) := by decide +kernel
theorem dMd_places_61 : decode (mB Md_places) 61 = .ok (.aload_n 0, 1) := by decide +kernel
theorem dMd_places_62 : decode (mB Md_places) 62 = .ok (.iload_n 2, 1) := by decide +kernel
theorem dMd_places_63 : decode (mB Md_places) 63 = .ok (.iconst 1, 1) := by decide +kernel
theorem dMd_places_64 : decode (mB Md_places) 64 = .ok (.iload_n 3, 1) := by decide +kernel
theorem dMd_places_65 : decode (mB Md_places) 65 = .ok (.invokevirtual 298, 3) := by decide +kernel
theorem dMd_places_68 : decode (mB Md_places) 68 = .ok (.istore 8, 2) := by decide +kernel
theorem dMd_places_70 : decode (mB Md_places) 70 = .ok (.iload 8, 2) := by decide +kernel
theorem dMd_places_72 : decode (mB Md_places) 72 = .ok (.iconst (-1), 1) := by decide +kernel
theorem dMd_places_73 : decode (mB Md_places) 73 = .ok (.if_icmp .ne 5, 3) := by decide +kernel
theorem dMd_places_76 : decode (mB Md_places) 76 = .ok (.iconst 0, 1) := by decide +kernel
theorem dMd_places_77 : decode (mB Md_places) 77 = .ok (.ireturn, 1) := by decide +kernel
theorem dMd_places_78 : decode (mB Md_places) 78 = .ok (.aload_n 0, 1) := by decide +kernel
theorem dMd_places_79 : decode (mB Md_places) 79 = .ok (.getfield 109, 3) := by decide +kernel
theorem dMd_places_82 : decode (mB Md_places) 82 = .ok (.iload_n 3, 1) := by decide +kernel
theorem dMd_places_83 : decode (mB Md_places) 83 = .ok (.iload_n 3, 1) := by decide +kernel
theorem dMd_places_84 : decode (mB Md_places) 84 = .ok (.iastore, 1) := by decide +kernel
theorem dMd_places_85 : decode (mB Md_places) 85 = .ok (.aload_n 0, 1) := by decide +kernel
theorem dMd_places_86 : decode (mB Md_places) 86 = .ok (.getfield 22, 3) := by decide +kernel
theorem dMd_places_89 : decode (mB Md_places) 89 = .ok (.sipush 12300, 3) := by decide +kernel
theorem dMd_places_92 : decode (mB Md_places) 92 = .ok (.iload_n 3, 1) := by decide +kernel
theorem dMd_places_93 : decode (mB Md_places) 93 = .ok (.iadd, 1) := by decide +kernel
theorem dMd_places_94 : decode (mB Md_places) 94 = .ok (.aload_n 0, 1) := by decide +kernel
theorem dMd_places_95 : decode (mB Md_places) 95 = .ok (.iload_n 1, 1) := by decide +kernel
theorem dMd_places_96 : decode (mB Md_places) 96 = .ok (.iload_n 3, 1) := by decide +kernel
theorem dMd_places_97 : decode (mB Md_places) 97 = .ok (.invokevirtual 226, 3) := by decide +kernel
theorem dMd_places_100 : decode (mB Md_places) 100 = .ok (.iastore, 1) := by decide +kernel
theorem dMd_places_101 : decode (mB Md_places) 101 = .ok (.aload_n 0, 1) := by decide +kernel
theorem dMd_places_102 : decode (mB Md_places) 102 = .ok (.getfield 25, 3) := by decide +kernel
theorem dMd_places_105 : decode (mB Md_places) 105 = .ok (.sipush 12300, 3) := by decide +kernel
theorem dMd_places_108 : decode (mB Md_places) 108 = .ok (.iload_n 3, 1) := by decide +kernel
theorem dMd_places_109 : decode (mB Md_places) 109 = .ok (.iadd, 1) := by decide +kernel
theorem dMd_places_110 : decode (mB Md_places) 110 = .ok (.iconst (-1), 1) := by decide +kernel
theorem dMd_places_111 : decode (mB Md_places) 111 = .ok (.iastore, 1) := by decide +kernel
theorem dMd_places_112 : decode (mB Md_places) 112 = .ok (.aload_n 0, 1) := by decide +kernel
theorem dMd_places_113 : decode (mB Md_places) 113 = .ok (.bipush 41, 2) := by decide +kernel
theorem dMd_places_115 : decode (mB Md_places) 115 = .ok (.iload_n 3, 1) := by decide +kernel
theorem dMd_places_116 : decode (mB Md_places) 116 = .ok (.iload 4, 2) := by decide +kernel
theorem dMd_places_118 : decode (mB Md_places) 118 = .ok (.iload 6, 2) := by decide +kernel
theorem dMd_places_120 : decode (mB Md_places) 120 = .ok (.invokevirtual 222, 3) := by decide +kernel
theorem dMd_places_123 : decode (mB Md_places) 123 = .ok (.aload_n 0, 1) := by decide +kernel
theorem dMd_places_124 : decode (mB Md_places) 124 = .ok (.getfield 43, 3) := by decide +kernel
theorem dMd_places_127 : decode (mB Md_places) 127 = .ok (.iload 8, 2) := by decide +kernel
theorem dMd_places_129 : decode (mB Md_places) 129 = .ok (.aload_n 0, 1) := by decide +kernel
theorem dMd_places_130 : decode (mB Md_places) 130 = .ok (.iload_n 1, 1) := by decide +kernel
theorem dMd_places_131 : decode (mB Md_places) 131 = .ok (.iload_n 3, 1) := by decide +kernel
theorem dMd_places_132 : decode (mB Md_places) 132 = .ok (.invokevirtual 226, 3) := by decide +kernel
theorem dMd_places_135 : decode (mB Md_places) 135 = .ok (.iastore, 1) := by decide +kernel
theorem dMd_places_136 : decode (mB Md_places) 136 = .ok (.aload_n 0, 1) := by decide +kernel
theorem dMd_places_137 : decode (mB Md_places) 137 = .ok (.iload 8, 2) := by decide +kernel
theorem dMd_places_139 : decode (mB Md_places) 139 = .ok (.iload_n 3, 1) := by decide +kernel
theorem dMd_places_140 : decode (mB Md_places) 140 = .ok (.invokevirtual 301, 3) := by decide +kernel
theorem dMd_places_143 : decode (mB Md_places) 143 = .ok (.iconst 1, 1) := by decide +kernel
theorem dMd_places_144 : decode (mB Md_places) 144 = .ok (.ireturn, 1) := by decide +kernel
theorem dMd_places_145 : decode (mB Md_places) 145 = .ok (.aload_n 0, 1) := by decide +kernel
theorem dMd_places_146 : decode (mB Md_places) 146 = .ok (.bipush 41, 2) := by decide +kernel
theorem dMd_places_148 : decode (mB Md_places) 148 = .ok (.iload 7, 2) := by decide +kernel
theorem dMd_places_150 : decode (mB Md_places) 150 = .ok (.invokevirtual 179, 3) := by decide +kernel
theorem dMd_places_153 : decode (mB Md_places) 153 = .ok (.iload 4, 2) := by decide +kernel
theorem dMd_places_155 : decode (mB Md_places) 155 = .ok (.if_icmp .ne 29, 3) := by decide +kernel
theorem dMd_places_158 : decode (mB Md_places) 158 = .ok (.aload_n 0, 1) := by decide +kernel
theorem dMd_places_159 : decode (mB Md_places) 159 = .ok (.iload 4, 2) := by decide +kernel
theorem dMd_places_161 : decode (mB Md_places) 161 = .ok (.invokevirtual 176, 3) := by decide +kernel
theorem dMd_places_164 : decode (mB Md_places) 164 = .ok (.ifCond .eq 24, 3) := by decide +kernel
theorem dMd_places_167 : decode (mB Md_places) 167 = .ok (.iload 6, 2) := by decide +kernel
theorem dMd_places_169 : decode (mB Md_places) 169 = .ok (.iconst (-1), 1) := by decide +kernel
theorem dMd_places_170 : decode (mB Md_places) 170 = .ok (.if_icmp .eq 18, 3) := by decide +kernel
theorem dMd_places_173 : decode (mB Md_places) 173 = .ok (.aload_n 0, 1) := by decide +kernel
theorem dMd_places_174 : decode (mB Md_places) 174 = .ok (.iload 7, 2) := by decide +kernel
theorem dMd_places_176 : decode (mB Md_places) 176 = .ok (.iload 6, 2) := by decide +kernel
theorem dMd_places_178 : decode (mB Md_places) 178 = .ok (.invokevirtual 304, 3) := by decide +kernel
theorem dMd_places_181 : decode (mB Md_places) 181 = .ok (.ifCond .eq 7, 3) := by decide +kernel
theorem dMd_places_184 : decode (mB Md_places) 184 = .ok (.iconst 1, 1) := by decide +kernel
theorem dMd_places_185 : decode (mB Md_places) 185 = .ok (.goto 4, 3) := by decide +kernel
theorem dMd_places_188 : decode (mB Md_places) 188 = .ok (.iconst 0, 1) := by decide +kernel
theorem dMd_places_189 : decode (mB Md_places) 189 = .ok (.istore 8, 2) := by decide +kernel
theorem dMd_places_191 : decode (mB Md_places) 191 = .ok (.iload 8, 2) := by decide +kernel
theorem dMd_places_193 : decode (mB Md_places) 193 = .ok (.ifCond .eq 57, 3) := by decide +kernel
theorem dMd_places_196 : decode (mB Md_places) 196 = .ok (.aload_n 0, 1) := by decide +kernel
theorem dMd_places_197 : decode (mB Md_places) 197 = .ok (.iload_n 2, 1) := by decide +kernel
theorem dMd_places_198 : decode (mB Md_places) 198 = .ok (.iconst 2, 1) := by decide +kernel
theorem dMd_places_199 : decode (mB Md_places) 199 = .ok (.iload 7, 2) := by decide +kernel
theorem dMd_places_201 : decode (mB Md_places) 201 = .ok (.invokevirtual 298, 3) := by decide +kernel
theorem dMd_places_204 : decode (mB Md_places) 204 = .ok (.istore 9, 2) := by decide +kernel
theorem dMd_places_206 : decode (mB Md_places) 206 = .ok (.iload 9, 2) := by decide +kernel
theorem dMd_places_208 : decode (mB Md_places) 208 = .ok (.iconst (-1), 1) := by decide +kernel
theorem dMd_places_209 : decode (mB Md_places) 209 = .ok (.if_icmp .ne 5, 3) := by decide +kernel
theorem dMd_places_212 : decode (mB Md_places) 212 = .ok (.iconst 0, 1) := by decide +kernel
theorem dMd_places_213 : decode (mB Md_places) 213 = .ok (.ireturn, 1) := by decide +kernel
theorem dMd_places_214 : decode (mB Md_places) 214 = .ok (.aload_n 0, 1) := by decide +kernel
theorem dMd_places_215 : decode (mB Md_places) 215 = .ok (.iload 9, 2) := by decide +kernel
theorem dMd_places_217 : decode (mB Md_places) 217 = .ok (.iload 7, 2) := by decide +kernel
theorem dMd_places_219 : decode (mB Md_places) 219 = .ok (.invokevirtual 307, 3) := by decide +kernel
theorem dMd_places_222 : decode (mB Md_places) 222 = .ok (.aload_n 0, 1) := by decide +kernel
theorem dMd_places_223 : decode (mB Md_places) 223 = .ok (.bipush 41, 2) := by decide +kernel
theorem dMd_places_225 : decode (mB Md_places) 225 = .ok (.iload 7, 2) := by decide +kernel
theorem dMd_places_227 : decode (mB Md_places) 227 = .ok (.invokevirtual 232, 3) := by decide +kernel
theorem dMd_places_230 : decode (mB Md_places) 230 = .ok (.aload_n 0, 1) := by decide +kernel
theorem dMd_places_231 : decode (mB Md_places) 231 = .ok (.bipush 41, 2) := by decide +kernel
theorem dMd_places_233 : decode (mB Md_places) 233 = .ok (.iload 7, 2) := by decide +kernel
theorem dMd_places_235 : decode (mB Md_places) 235 = .ok (.iload 4, 2) := by decide +kernel
theorem dMd_places_237 : decode (mB Md_places) 237 = .ok (.iload 6, 2) := by decide +kernel
theorem dMd_places_239 : decode (mB Md_places) 239 = .ok (.invokevirtual 222, 3) := by decide +kernel
theorem dMd_places_242 : decode (mB Md_places) 242 = .ok (.aload_n 0, 1) := by decide +kernel
theorem dMd_places_243 : decode (mB Md_places) 243 = .ok (.iload 9, 2) := by decide +kernel
theorem dMd_places_245 : decode (mB Md_places) 245 = .ok (.iload 7, 2) := by decide +kernel
theorem dMd_places_247 : decode (mB Md_places) 247 = .ok (.invokevirtual 301, 3) := by decide +kernel
theorem dMd_places_250 : decode (mB Md_places) 250 = .ok (.iconst 1, 1) := by decide +kernel
theorem dMd_places_251 : decode (mB Md_places) 251 = .ok (.ireturn, 1) := by decide +kernel
def w_Md_places_189 (R : Int32 → tpH → Prop) (o : Nat) (x2 : Int32) (x4 : Int32) (x6 : Int32) (x7 : Int32) (t0 : Int32) (h : tpH) : Prop :=
  (t0 = 0 → (R (1 : Int32) h)) ∧ (¬ t0 = 0 → (hT h o = 14 ∧ (w_Md_newStep o x2 (2 : Int32) x7 h (fun v4 h3 => (¬ v4 = (-1 : Int32) → (hT h3 o = 14 ∧ (w_Md_tellWas o v4 x7 h3 (fun h7 => hT h7 o = 14 ∧ (w_Md_unhang o (41 : Int32) x7 h7 (fun h9 => hT h9 o = 14 ∧ (w_Md_hang o (41 : Int32) x7 x4 x6 h9 (fun h11 => hT h11 o = 14 ∧ (w_Md_tellTo o v4 x7 h11 (fun h13 => R (1 : Int32) h13)))))))))) ∧ (v4 = (-1 : Int32) → (R (0 : Int32) h3))))))
def w_Md_places_45 (R : Int32 → tpH → Prop) (o : Nat) (x1 : Int32) (x2 : Int32) (x3 : Int32) (x4 : Int32) (t0 : Int32) (h : tpH) : Prop :=
  hT h o = 14 ∧ (∃ a2, (hR h o 42) = some a2 ∧ hT h a2 = 15 ∧ (vp_in x3 (hL h a2) ∧ ((¬ (hI h a2 x3.toNatClampNeg) = (-1 : Int32) → (w_Md_parentIn o (41 : Int32) (hI h a2 x3.toNatClampNeg) h (fun v8 h7 => (¬ v8 = x4 → (w_Md_places_189 R o x2 x4 t0 (hI h a2 x3.toNatClampNeg) (1 : Int32) h7)) ∧ (v8 = x4 → (hT h7 o = 14 ∧ (w_Md_isOrdered o x4 h7 (fun v12 h11 => (v12 = 0 → (w_Md_places_189 R o x2 x4 t0 (hI h a2 x3.toNatClampNeg) (0 : Int32) h11)) ∧ (¬ v12 = 0 → ((t0 = (-1 : Int32) → (w_Md_places_189 R o x2 x4 t0 (hI h a2 x3.toNatClampNeg) (0 : Int32) h11)) ∧ (¬ t0 = (-1 : Int32) → (hT h11 o = 14 ∧ (w_Md_comesAhead o (hI h a2 x3.toNatClampNeg) t0 h11 (fun v17 h16 => (v17 = 0 → (w_Md_places_189 R o x2 x4 t0 (hI h a2 x3.toNatClampNeg) (0 : Int32) h16)) ∧ (¬ v17 = 0 → (w_Md_places_189 R o x2 x4 t0 (hI h a2 x3.toNatClampNeg) (1 : Int32) h16))))))))))))))) ∧ ((hI h a2 x3.toNatClampNeg) = (-1 : Int32) → (w_Md_newStep o x2 (1 : Int32) x3 h (fun v20 h19 => (¬ v20 = (-1 : Int32) → (hT h19 o = 14 ∧ (∃ a23, (hR h19 o 42) = some a23 ∧ hT h19 a23 = 15 ∧ (vp_in x3 (hL h19 a23) ∧ (∀ h27, h27 = sI h19 a23 x3.toNatClampNeg x3 → (w_Md_valueIn o x1 x3 h27 (fun v30 h29 => ∃ a31, (hR h27 o 7) = some a31 ∧ hT h29 a31 = 15 ∧ (vp_in ((12300 : Int32) + x3) (hL h29 a31) ∧ (∀ h35, h35 = sI h29 a31 ((12300 : Int32) + x3).toNatClampNeg v30 → (hT h35 o = 14 ∧ (∃ a38, (hR h35 o 8) = some a38 ∧ hT h35 a38 = 15 ∧ (vp_in ((12300 : Int32) + x3) (hL h35 a38) ∧ (∀ h42, h42 = sI h35 a38 ((12300 : Int32) + x3).toNatClampNeg (-1 : Int32) → (w_Md_hang o (41 : Int32) x3 x4 t0 h42 (fun h44 => hT h44 o = 14 ∧ (w_Md_valueIn o x1 x3 h44 (fun v47 h46 => ∃ a48, (hR h44 o 15) = some a48 ∧ hT h46 a48 = 15 ∧ (vp_in v20 (hL h46 a48) ∧ (∀ h52, h52 = sI h46 a48 v20.toNatClampNeg v47 → (hT h52 o = 14 ∧ (w_Md_tellTo o v20 x3 h52 (fun h55 => R (1 : Int32) h55)))))))))))))))))))))) ∧ (v20 = (-1 : Int32) → (R (0 : Int32) h19))))))))
def w_Md_places (o : Nat) (x1 : Int32) (x2 : Int32) (x3 : Int32) (h : tpH) (R : Int32 → tpH → Prop) : Prop :=
  hT h o = 14 ∧ (w_Md_parentIn o x1 x3 h (fun v3 h2 => ∃ a4, (hR h o 42) = some a4 ∧ hT h2 a4 = 15 ∧ (vp_in v3 (hL h2 a4) ∧ (hT h2 o = 14 ∧ (w_Md_parentIn o x1 x3 h2 (fun v10 h9 => hT h9 o = 14 ∧ (w_Md_sibling o x1 v10 x3 (1 : Int32) h9 (fun v13 h12 => (¬ v13 = (-1 : Int32) → (hT h12 o = 14 ∧ (∃ a16, (hR h12 o 42) = some a16 ∧ hT h12 a16 = 15 ∧ (vp_in v13 (hL h12 a16) ∧ (w_Md_places_45 R o x1 x2 x3 (hI h2 a4 v3.toNatClampNeg) (hI h12 a16 v13.toNatClampNeg) h12))))) ∧ (v13 = (-1 : Int32) → (w_Md_places_45 R o x1 x2 x3 (hI h2 a4 v3.toNatClampNeg) (-1 : Int32) h12))))))))))
theorem s_Md_places_189 {h0 : tpH} {av : List tpV} {R : Int32 → tpH → Prop} : ∀ (o : Nat) (x2 : Int32) (x4 : Int32) (x6 : Int32) (x7 : Int32) (t0 : Int32) (h : tpH), w_Md_places_189 R o x2 x4 x6 x7 t0 h → tpR Md_places 3 h0 av (tpOi R (fun _ _ => False)) 189 [some (vR (some o)), none, some (vI x2), none, some (vI x4), none, some (vI x6), some (vI x7), none, none] [vI t0] h := by
  intro o x2 x4 x6 x7 t0 h hw
  unfold w_Md_places_189 at hw
  refine tq_istore (ls' := [some (vR (some o)), none, some (vI x2), none, some (vI x4), none, some (vI x6), some (vI x7), some (vI t0), none]) dMd_places_189 (Nat.le_of_ble_eq_true rfl) rfl ?_
  refine tq_iload dMd_places_191 rfl ?_
  refine tq_ifeq (tgt := 250) dMd_places_193 (by decide) (fun c1 => ?_) (fun c1 => ?_)
  · have hw := hw.1 c1
    refine tq_iconst (v := (1 : Int32)) dMd_places_250 tni_1 ?_
    exact tq_iret rfl (by decide) dMd_places_251 hw
  · have hw := hw.2 c1
    refine tq_aload_n dMd_places_196 rfl rfl ?_
    refine tq_iload_n dMd_places_197 rfl rfl ?_
    refine tq_iconst (v := (2 : Int32)) dMd_places_198 tni_2 ?_
    refine tq_iload dMd_places_199 rfl ?_
    obtain ⟨f2, hw⟩ := hw
    refine te_callV mv_Md_newStep (ci := 13) (dc := 0) (as := [vI x2, vI (2 : Int32), vI x7]) (rest := []) kMd_298 rfl (Nat.le_of_ble_eq_true rfl) (Nat.le_of_ble_eq_true rfl) rfl rfl rfl f2 (Nat.le_of_ble_eq_true rfl) dMd_places_201 (s_Md_newStep hw) (fun _ _ hx => False.elim hx) (tk_i fun v4 h3 hw => ?_)
    refine tq_istore (ls' := [some (vR (some o)), none, some (vI x2), none, some (vI x4), none, some (vI x6), some (vI x7), some (vI t0), some (vI v4)]) dMd_places_204 (Nat.le_of_ble_eq_true rfl) rfl ?_
    refine tq_iload dMd_places_206 rfl ?_
    refine tq_iconst (v := (-1 : Int32)) dMd_places_208 tni_m1 ?_
    refine tq_icmpne (tgt := 214) dMd_places_209 (by decide) (fun c5 => ?_) (fun c5 => ?_)
    · have hw := hw.1 c5
      refine tq_aload_n dMd_places_214 rfl rfl ?_
      refine tq_iload dMd_places_215 rfl ?_
      refine tq_iload dMd_places_217 rfl ?_
      obtain ⟨f6, hw⟩ := hw
      refine te_callV mv_Md_tellWas (ci := 13) (dc := 2) (as := [vI v4, vI x7]) (rest := []) kMd_307 rfl (Nat.le_of_ble_eq_true rfl) (Nat.le_of_ble_eq_true rfl) rfl rfl rfl f6 (Nat.le_of_ble_eq_true rfl) dMd_places_219 (s_Md_tellWas hw) (fun _ _ hx => False.elim hx) (tk_v fun h7 hw => ?_)
      refine tq_aload_n dMd_places_222 rfl rfl ?_
      refine tq_bipush (v := (41 : Int32)) dMd_places_223 tnb_41 ?_
      refine tq_iload dMd_places_225 rfl ?_
      obtain ⟨f8, hw⟩ := hw
      refine te_callV mv_Md_unhang (ci := 13) (dc := 2) (as := [vI (41 : Int32), vI x7]) (rest := []) kMd_232 rfl (Nat.le_of_ble_eq_true rfl) (Nat.le_of_ble_eq_true rfl) rfl rfl rfl f8 (Nat.le_of_ble_eq_true rfl) dMd_places_227 (s_Md_unhang hw) (fun _ _ hx => False.elim hx) (tk_v fun h9 hw => ?_)
      refine tq_aload_n dMd_places_230 rfl rfl ?_
      refine tq_bipush (v := (41 : Int32)) dMd_places_231 tnb_41 ?_
      refine tq_iload dMd_places_233 rfl ?_
      refine tq_iload dMd_places_235 rfl ?_
      refine tq_iload dMd_places_237 rfl ?_
      obtain ⟨f10, hw⟩ := hw
      refine te_callV mv_Md_hang (ci := 13) (dc := 1) (as := [vI (41 : Int32), vI x7, vI x4, vI x6]) (rest := []) kMd_222 rfl (Nat.le_of_ble_eq_true rfl) (Nat.le_of_ble_eq_true rfl) rfl rfl rfl f10 (Nat.le_of_ble_eq_true rfl) dMd_places_239 (s_Md_hang hw) (fun _ _ hx => False.elim hx) (tk_v fun h11 hw => ?_)
      refine tq_aload_n dMd_places_242 rfl rfl ?_
      refine tq_iload dMd_places_243 rfl ?_
      refine tq_iload dMd_places_245 rfl ?_
      obtain ⟨f12, hw⟩ := hw
      refine te_callV mv_Md_tellTo (ci := 13) (dc := 2) (as := [vI v4, vI x7]) (rest := []) kMd_301 rfl (Nat.le_of_ble_eq_true rfl) (Nat.le_of_ble_eq_true rfl) rfl rfl rfl f12 (Nat.le_of_ble_eq_true rfl) dMd_places_247 (s_Md_tellTo hw) (fun _ _ hx => False.elim hx) (tk_v fun h13 hw => ?_)
      refine tq_iconst (v := (1 : Int32)) dMd_places_250 tni_1 ?_
      exact tq_iret rfl (by decide) dMd_places_251 hw
    · have hw := hw.2 c5
      refine tq_iconst (v := (0 : Int32)) dMd_places_212 tni_0 ?_
      exact tq_iret rfl (by decide) dMd_places_213 hw
theorem s_Md_places_45 {h0 : tpH} {av : List tpV} {R : Int32 → tpH → Prop} : ∀ (o : Nat) (x1 : Int32) (x2 : Int32) (x3 : Int32) (x4 : Int32) (t0 : Int32) (h : tpH), w_Md_places_45 R o x1 x2 x3 x4 t0 h → tpR Md_places 3 h0 av (tpOi R (fun _ _ => False)) 45 [some (vR (some o)), some (vI x1), some (vI x2), some (vI x3), some (vI x4), none, none, none, none, none] [vI t0] h := by
  intro o x1 x2 x3 x4 t0 h hw
  unfold w_Md_places_45 at hw
  refine tq_istore (ls' := [some (vR (some o)), some (vI x1), some (vI x2), some (vI x3), some (vI x4), none, some (vI t0), none, none, none]) dMd_places_45 (Nat.le_of_ble_eq_true rfl) rfl ?_
  refine tq_aload_n dMd_places_47 rfl rfl ?_
  obtain ⟨f1, hw⟩ := hw
  refine te_getr dMd_places_48 fMd_109 rfl rfl f1 ?_
  refine tq_iload_n dMd_places_51 rfl rfl ?_
  obtain ⟨a2, e3, f4, hw⟩ := hw
  obtain ⟨f5, hw⟩ := hw
  refine te_iald dMd_places_52 e3 (Or.inl f4) f5 ?_
  refine tq_istore (ls' := [some (vR (some o)), some (vI x1), some (vI x2), some (vI x3), some (vI x4), none, some (vI t0), some (vI (hI h a2 x3.toNatClampNeg)), none, none]) dMd_places_53 (Nat.le_of_ble_eq_true rfl) rfl ?_
  refine tq_iload dMd_places_55 rfl ?_
  refine tq_iconst (v := (-1 : Int32)) dMd_places_57 tni_m1 ?_
  refine tq_icmpne (tgt := 145) dMd_places_58 (by decide) (fun c6 => ?_) (fun c6 => ?_)
  · have hw := hw.1 c6
    refine tq_aload_n dMd_places_145 rfl rfl ?_
    refine tq_bipush (v := (41 : Int32)) dMd_places_146 tnb_41 ?_
    refine tq_iload dMd_places_148 rfl ?_
    refine te_callV mv_Md_parentIn (ci := 13) (dc := 0) (as := [vI (41 : Int32), vI (hI h a2 x3.toNatClampNeg)]) (rest := []) kMd_179 rfl (Nat.le_of_ble_eq_true rfl) (Nat.le_of_ble_eq_true rfl) rfl rfl rfl f1 (Nat.le_of_ble_eq_true rfl) dMd_places_150 (s_Md_parentIn hw) (fun _ _ hx => False.elim hx) (tk_i fun v8 h7 hw => ?_)
    refine tq_iload dMd_places_153 rfl ?_
    refine tq_icmpne (tgt := 184) dMd_places_155 (by decide) (fun c9 => ?_) (fun c9 => ?_)
    · have hw := hw.1 c9
      refine tq_iconst (v := (1 : Int32)) dMd_places_184 tni_1 ?_
      refine tq_goto (tgt := 189) dMd_places_185 (by decide) ?_
      refine tpR.fo (ls' := [some (vR (some o)), none, some (vI x2), none, some (vI x4), none, some (vI t0), some (vI (hI h a2 x3.toNatClampNeg)), none, none]) ?_ (And.intro rfl (And.intro rfl (And.intro rfl (And.intro rfl (And.intro rfl trivial)))))
      exact s_Md_places_189 _ _ _ _ _ _ _ hw
    · have hw := hw.2 c9
      refine tq_aload_n dMd_places_158 rfl rfl ?_
      refine tq_iload dMd_places_159 rfl ?_
      obtain ⟨f10, hw⟩ := hw
      refine te_callV mv_Md_isOrdered (ci := 13) (dc := 0) (as := [vI x4]) (rest := []) kMd_176 rfl (Nat.le_of_ble_eq_true rfl) (Nat.le_of_ble_eq_true rfl) rfl rfl rfl f10 (Nat.le_of_ble_eq_true rfl) dMd_places_161 (s_Md_isOrdered hw) (fun _ _ hx => False.elim hx) (tk_i fun v12 h11 hw => ?_)
      refine tq_ifeq (tgt := 188) dMd_places_164 (by decide) (fun c13 => ?_) (fun c13 => ?_)
      · have hw := hw.1 c13
        refine tq_iconst (v := (0 : Int32)) dMd_places_188 tni_0 ?_
        refine tpR.fo (ls' := [some (vR (some o)), none, some (vI x2), none, some (vI x4), none, some (vI t0), some (vI (hI h a2 x3.toNatClampNeg)), none, none]) ?_ (And.intro rfl (And.intro rfl (And.intro rfl (And.intro rfl (And.intro rfl trivial)))))
        exact s_Md_places_189 _ _ _ _ _ _ _ hw
      · have hw := hw.2 c13
        refine tq_iload dMd_places_167 rfl ?_
        refine tq_iconst (v := (-1 : Int32)) dMd_places_169 tni_m1 ?_
        refine tq_icmpeq (tgt := 188) dMd_places_170 (by decide) (fun c14 => ?_) (fun c14 => ?_)
        · have hw := hw.1 c14
          refine tq_iconst (v := (0 : Int32)) dMd_places_188 tni_0 ?_
          refine tpR.fo (ls' := [some (vR (some o)), none, some (vI x2), none, some (vI x4), none, some (vI t0), some (vI (hI h a2 x3.toNatClampNeg)), none, none]) ?_ (And.intro rfl (And.intro rfl (And.intro rfl (And.intro rfl (And.intro rfl trivial)))))
          exact s_Md_places_189 _ _ _ _ _ _ _ hw
        · have hw := hw.2 c14
          refine tq_aload_n dMd_places_173 rfl rfl ?_
          refine tq_iload dMd_places_174 rfl ?_
          refine tq_iload dMd_places_176 rfl ?_
          obtain ⟨f15, hw⟩ := hw
          refine te_callV mv_Md_comesAhead (ci := 13) (dc := 1) (as := [vI (hI h a2 x3.toNatClampNeg), vI t0]) (rest := []) kMd_304 rfl (Nat.le_of_ble_eq_true rfl) (Nat.le_of_ble_eq_true rfl) rfl rfl rfl f15 (Nat.le_of_ble_eq_true rfl) dMd_places_178 (s_Md_comesAhead hw) (fun _ _ hx => False.elim hx) (tk_i fun v17 h16 hw => ?_)
          refine tq_ifeq (tgt := 188) dMd_places_181 (by decide) (fun c18 => ?_) (fun c18 => ?_)
          · have hw := hw.1 c18
            refine tq_iconst (v := (0 : Int32)) dMd_places_188 tni_0 ?_
            refine tpR.fo (ls' := [some (vR (some o)), none, some (vI x2), none, some (vI x4), none, some (vI t0), some (vI (hI h a2 x3.toNatClampNeg)), none, none]) ?_ (And.intro rfl (And.intro rfl (And.intro rfl (And.intro rfl (And.intro rfl trivial)))))
            exact s_Md_places_189 _ _ _ _ _ _ _ hw
          · have hw := hw.2 c18
            refine tq_iconst (v := (1 : Int32)) dMd_places_184 tni_1 ?_
            refine tq_goto (tgt := 189) dMd_places_185 (by decide) ?_
            refine tpR.fo (ls' := [some (vR (some o)), none, some (vI x2), none, some (vI x4), none, some (vI t0), some (vI (hI h a2 x3.toNatClampNeg)), none, none]) ?_ (And.intro rfl (And.intro rfl (And.intro rfl (And.intro rfl (And.intro rfl trivial)))))
            exact s_Md_places_189 _ _ _ _ _ _ _ hw
  · have hw := hw.2 c6
    refine tq_aload_n dMd_places_61 rfl rfl ?_
    refine tq_iload_n dMd_places_62 rfl rfl ?_
    refine tq_iconst (v := (1 : Int32)) dMd_places_63 tni_1 ?_
    refine tq_iload_n dMd_places_64 rfl rfl ?_
    refine te_callV mv_Md_newStep (ci := 13) (dc := 0) (as := [vI x2, vI (1 : Int32), vI x3]) (rest := []) kMd_298 rfl (Nat.le_of_ble_eq_true rfl) (Nat.le_of_ble_eq_true rfl) rfl rfl rfl f1 (Nat.le_of_ble_eq_true rfl) dMd_places_65 (s_Md_newStep hw) (fun _ _ hx => False.elim hx) (tk_i fun v20 h19 hw => ?_)
    refine tq_istore (ls' := [some (vR (some o)), some (vI x1), some (vI x2), some (vI x3), some (vI x4), none, some (vI t0), some (vI (hI h a2 x3.toNatClampNeg)), some (vI v20), none]) dMd_places_68 (Nat.le_of_ble_eq_true rfl) rfl ?_
    refine tq_iload dMd_places_70 rfl ?_
    refine tq_iconst (v := (-1 : Int32)) dMd_places_72 tni_m1 ?_
    refine tq_icmpne (tgt := 78) dMd_places_73 (by decide) (fun c21 => ?_) (fun c21 => ?_)
    · have hw := hw.1 c21
      refine tq_aload_n dMd_places_78 rfl rfl ?_
      obtain ⟨f22, hw⟩ := hw
      refine te_getr dMd_places_79 fMd_109 rfl rfl f22 ?_
      refine tq_iload_n dMd_places_82 rfl rfl ?_
      refine tq_iload_n dMd_places_83 rfl rfl ?_
      obtain ⟨a23, e24, f25, hw⟩ := hw
      obtain ⟨f26, hw⟩ := hw
      refine te_iast dMd_places_84 e24 f25 f26 (fun h27 e28 => ?_)
      have hw := hw h27 e28
      refine tq_aload_n dMd_places_85 rfl rfl ?_
      refine te_getr dMd_places_86 fMd_22 rfl rfl (by rw [e28]; exact f22) ?_
      refine tq_sipush (v := (12300 : Int32)) dMd_places_89 tns_12300 ?_
      refine tq_iload_n dMd_places_92 rfl rfl ?_
      refine tq_iadd dMd_places_93 ?_
      refine tq_aload_n dMd_places_94 rfl rfl ?_
      refine tq_iload_n dMd_places_95 rfl rfl ?_
      refine tq_iload_n dMd_places_96 rfl rfl ?_
      refine te_callV mv_Md_valueIn (ci := 13) (dc := 0) (as := [vI x1, vI x3]) (rest := [vI ((12300 : Int32) + x3), vR (hR h27 o 7)]) kMd_226 rfl (Nat.le_of_ble_eq_true rfl) (Nat.le_of_ble_eq_true rfl) rfl rfl rfl (by rw [e28]; exact f22) (Nat.le_of_ble_eq_true rfl) dMd_places_97 (s_Md_valueIn hw) (fun _ _ hx => False.elim hx) (tk_i fun v30 h29 hw => ?_)
      obtain ⟨a31, e32, f33, hw⟩ := hw
      obtain ⟨f34, hw⟩ := hw
      refine te_iast dMd_places_100 e32 f33 f34 (fun h35 e36 => ?_)
      have hw := hw h35 e36
      refine tq_aload_n dMd_places_101 rfl rfl ?_
      obtain ⟨f37, hw⟩ := hw
      refine te_getr dMd_places_102 fMd_25 rfl rfl f37 ?_
      refine tq_sipush (v := (12300 : Int32)) dMd_places_105 tns_12300 ?_
      refine tq_iload_n dMd_places_108 rfl rfl ?_
      refine tq_iadd dMd_places_109 ?_
      refine tq_iconst (v := (-1 : Int32)) dMd_places_110 tni_m1 ?_
      obtain ⟨a38, e39, f40, hw⟩ := hw
      obtain ⟨f41, hw⟩ := hw
      refine te_iast dMd_places_111 e39 f40 f41 (fun h42 e43 => ?_)
      have hw := hw h42 e43
      refine tq_aload_n dMd_places_112 rfl rfl ?_
      refine tq_bipush (v := (41 : Int32)) dMd_places_113 tnb_41 ?_
      refine tq_iload_n dMd_places_115 rfl rfl ?_
      refine tq_iload dMd_places_116 rfl ?_
      refine tq_iload dMd_places_118 rfl ?_
      refine te_callV mv_Md_hang (ci := 13) (dc := 1) (as := [vI (41 : Int32), vI x3, vI x4, vI t0]) (rest := []) kMd_222 rfl (Nat.le_of_ble_eq_true rfl) (Nat.le_of_ble_eq_true rfl) rfl rfl rfl (by rw [e43]; exact f37) (Nat.le_of_ble_eq_true rfl) dMd_places_120 (s_Md_hang hw) (fun _ _ hx => False.elim hx) (tk_v fun h44 hw => ?_)
      refine tq_aload_n dMd_places_123 rfl rfl ?_
      obtain ⟨f45, hw⟩ := hw
      refine te_getr dMd_places_124 fMd_43 rfl rfl f45 ?_
      refine tq_iload dMd_places_127 rfl ?_
      refine tq_aload_n dMd_places_129 rfl rfl ?_
      refine tq_iload_n dMd_places_130 rfl rfl ?_
      refine tq_iload_n dMd_places_131 rfl rfl ?_
      refine te_callV mv_Md_valueIn (ci := 13) (dc := 0) (as := [vI x1, vI x3]) (rest := [vI v20, vR (hR h44 o 15)]) kMd_226 rfl (Nat.le_of_ble_eq_true rfl) (Nat.le_of_ble_eq_true rfl) rfl rfl rfl f45 (Nat.le_of_ble_eq_true rfl) dMd_places_132 (s_Md_valueIn hw) (fun _ _ hx => False.elim hx) (tk_i fun v47 h46 hw => ?_)
      obtain ⟨a48, e49, f50, hw⟩ := hw
      obtain ⟨f51, hw⟩ := hw
      refine te_iast dMd_places_135 e49 f50 f51 (fun h52 e53 => ?_)
      have hw := hw h52 e53
      refine tq_aload_n dMd_places_136 rfl rfl ?_
      refine tq_iload dMd_places_137 rfl ?_
      refine tq_iload_n dMd_places_139 rfl rfl ?_
      obtain ⟨f54, hw⟩ := hw
      refine te_callV mv_Md_tellTo (ci := 13) (dc := 2) (as := [vI v20, vI x3]) (rest := []) kMd_301 rfl (Nat.le_of_ble_eq_true rfl) (Nat.le_of_ble_eq_true rfl) rfl rfl rfl f54 (Nat.le_of_ble_eq_true rfl) dMd_places_140 (s_Md_tellTo hw) (fun _ _ hx => False.elim hx) (tk_v fun h55 hw => ?_)
      refine tq_iconst (v := (1 : Int32)) dMd_places_143 tni_1 ?_
      exact tq_iret rfl (by decide) dMd_places_144 hw
    · have hw := hw.2 c21
      refine tq_iconst (v := (0 : Int32)) dMd_places_76 tni_0 ?_
      exact tq_iret rfl (by decide) dMd_places_77 hw
theorem s_Md_places {o : Nat} {x1 : Int32} {x2 : Int32} {x3 : Int32} {h : tpH} {R : Int32 → tpH → Prop} (hw : w_Md_places o x1 x2 x3 h R) : tpC Md_places 3 [vR (some o), vI x1, vI x2, vI x3] h (tpOi R (fun _ _ => False)) := by
  refine tpC_of mv_Md_places.2.2.2.1 rfl rfl (Nat.le_of_ble_eq_true rfl) ?_
  show tpR Md_places 3 h _ _ 0 [some (vR (some o)), some (vI x1), some (vI x2), some (vI x3), none, none, none, none, none, none] [] h
  unfold w_Md_places at hw
  refine tq_aload_n dMd_places_0 rfl rfl ?_
  obtain ⟨f1, hw⟩ := hw
  refine te_getr dMd_places_1 fMd_109 rfl rfl f1 ?_
  refine tq_aload_n dMd_places_4 rfl rfl ?_
  refine tq_iload_n dMd_places_5 rfl rfl ?_
  refine tq_iload_n dMd_places_6 rfl rfl ?_
  refine te_callV mv_Md_parentIn (ci := 13) (dc := 0) (as := [vI x1, vI x3]) (rest := [vR (hR h o 42)]) kMd_179 rfl (Nat.le_of_ble_eq_true rfl) (Nat.le_of_ble_eq_true rfl) rfl rfl rfl f1 (Nat.le_of_ble_eq_true rfl) dMd_places_7 (s_Md_parentIn hw) (fun _ _ hx => False.elim hx) (tk_i fun v3 h2 hw => ?_)
  obtain ⟨a4, e5, f6, hw⟩ := hw
  obtain ⟨f7, hw⟩ := hw
  refine te_iald dMd_places_10 e5 (Or.inl f6) f7 ?_
  refine tq_istore (ls' := [some (vR (some o)), some (vI x1), some (vI x2), some (vI x3), some (vI (hI h2 a4 v3.toNatClampNeg)), none, none, none, none, none]) dMd_places_11 (Nat.le_of_ble_eq_true rfl) rfl ?_
  refine tq_aload_n dMd_places_13 rfl rfl ?_
  refine tq_iload_n dMd_places_14 rfl rfl ?_
  refine tq_aload_n dMd_places_15 rfl rfl ?_
  refine tq_iload_n dMd_places_16 rfl rfl ?_
  refine tq_iload_n dMd_places_17 rfl rfl ?_
  obtain ⟨f8, hw⟩ := hw
  refine te_callV mv_Md_parentIn (ci := 13) (dc := 0) (as := [vI x1, vI x3]) (rest := [vI x1, vR (some o)]) kMd_179 rfl (Nat.le_of_ble_eq_true rfl) (Nat.le_of_ble_eq_true rfl) rfl rfl rfl f8 (Nat.le_of_ble_eq_true rfl) dMd_places_18 (s_Md_parentIn hw) (fun _ _ hx => False.elim hx) (tk_i fun v10 h9 hw => ?_)
  refine tq_iload_n dMd_places_21 rfl rfl ?_
  refine tq_iconst (v := (1 : Int32)) dMd_places_22 tni_1 ?_
  obtain ⟨f11, hw⟩ := hw
  refine te_callV mv_Md_sibling (ci := 13) (dc := 1) (as := [vI x1, vI v10, vI x3, vI (1 : Int32)]) (rest := []) kMd_182 rfl (Nat.le_of_ble_eq_true rfl) (Nat.le_of_ble_eq_true rfl) rfl rfl rfl f11 (Nat.le_of_ble_eq_true rfl) dMd_places_23 (s_Md_sibling hw) (fun _ _ hx => False.elim hx) (tk_i fun v13 h12 hw => ?_)
  refine tq_istore (ls' := [some (vR (some o)), some (vI x1), some (vI x2), some (vI x3), some (vI (hI h2 a4 v3.toNatClampNeg)), some (vI v13), none, none, none, none]) dMd_places_26 (Nat.le_of_ble_eq_true rfl) rfl ?_
  refine tq_iload dMd_places_28 rfl ?_
  refine tq_iconst (v := (-1 : Int32)) dMd_places_30 tni_m1 ?_
  refine tq_icmpne (tgt := 38) dMd_places_31 (by decide) (fun c14 => ?_) (fun c14 => ?_)
  · have hw := hw.1 c14
    refine tq_aload_n dMd_places_38 rfl rfl ?_
    obtain ⟨f15, hw⟩ := hw
    refine te_getr dMd_places_39 fMd_109 rfl rfl f15 ?_
    refine tq_iload dMd_places_42 rfl ?_
    obtain ⟨a16, e17, f18, hw⟩ := hw
    obtain ⟨f19, hw⟩ := hw
    refine te_iald dMd_places_44 e17 (Or.inl f18) f19 ?_
    refine tpR.fo (ls' := [some (vR (some o)), some (vI x1), some (vI x2), some (vI x3), some (vI (hI h2 a4 v3.toNatClampNeg)), none, none, none, none, none]) ?_ (And.intro rfl (And.intro rfl (And.intro rfl (And.intro rfl (And.intro rfl trivial)))))
    exact s_Md_places_45 _ _ _ _ _ _ _ hw
  · have hw := hw.2 c14
    refine tq_iconst (v := (-1 : Int32)) dMd_places_34 tni_m1 ?_
    refine tq_goto (tgt := 45) dMd_places_35 (by decide) ?_
    refine tpR.fo (ls' := [some (vR (some o)), some (vI x1), some (vI x2), some (vI x3), some (vI (hI h2 a4 v3.toNatClampNeg)), none, none, none, none, none]) ?_ (And.intro rfl (And.intro rfl (And.intro rfl (And.intro rfl (And.intro rfl trivial)))))
    exact s_Md_places_45 _ _ _ _ _ _ _ hw
/-! TModel.isKept -/
theorem dMd_isKept_0 : decode (mB Md_isKept) 0 = .ok (.iconst 0, 1) := by decide +kernel
theorem dMd_isKept_1 : decode (mB Md_isKept) 1 = .ok (.istore_n 2, 1) := by decide +kernel
theorem dMd_isKept_2 : decode (mB Md_isKept) 2 = .ok (.iconst 0, 1) := by decide +kernel
theorem dMd_isKept_3 : decode (mB Md_isKept) 3 = .ok (.istore_n 3, 1) := by decide +kernel
theorem dMd_isKept_4 : decode (mB Md_isKept) 4 = .ok (.iload_n 3, 1) := by decide +kernel
theorem dMd_isKept_5 : decode (mB Md_isKept) 5 = .ok (.aload_n 0, 1) := by decide +kernel
theorem dMd_isKept_6 : decode (mB Md_isKept) 6 = .ok (.getfield 249, 3) := by decide +kernel
theorem dMd_isKept_9 : decode (mB Md_isKept) 9 = .ok (.if_icmp .ge 34, 3) := by decide +kernel
theorem dMd_isKept_12 : decode (mB Md_isKept) 12 = .ok (.iload_n 2, 1) := by decide +kernel
theorem dMd_isKept_13 : decode (mB Md_isKept) 13 = .ok (.ifCond .ne 18, 3) := by decide +kernel
theorem dMd_isKept_16 : decode (mB Md_isKept) 16 = .ok (.aload_n 0, 1) := by decide +kernel
theorem dMd_isKept_17 : decode (mB Md_isKept) 17 = .ok (.getfield 109, 3) := by decide +kernel
theorem dMd_isKept_20 : decode (mB Md_isKept) 20 = .ok (.aload_n 0, 1) := by decide +kernel
theorem dMd_isKept_21 : decode (mB Md_isKept) 21 = .ok (.getfield 86, 3) := by decide +kernel
theorem dMd_isKept_24 : decode (mB Md_isKept) 24 = .ok (.iload_n 3, 1) := by decide +kernel
theorem dMd_isKept_25 : decode (mB Md_isKept) 25 = .ok (.iaload, 1) := by decide +kernel
theorem dMd_isKept_26 : decode (mB Md_isKept) 26 = .ok (.iaload, 1) := by decide +kernel
theorem dMd_isKept_27 : decode (mB Md_isKept) 27 = .ok (.iload_n 1, 1) := by decide +kernel
theorem dMd_isKept_28 : decode (mB Md_isKept) 28 = .ok (.if_icmp .ne 7, 3) := by decide +kernel
theorem dMd_isKept_31 : decode (mB Md_isKept) 31 = .ok (.iconst 1, 1) := by decide +kernel
theorem dMd_isKept_32 : decode (mB Md_isKept) 32 = .ok (.goto 4, 3) := by decide +kernel
theorem dMd_isKept_35 : decode (mB Md_isKept) 35 = .ok (.iconst 0, 1) := by decide +kernel
theorem dMd_isKept_36 : decode (mB Md_isKept) 36 = .ok (.istore_n 2, 1) := by decide +kernel
theorem dMd_isKept_37 : decode (mB Md_isKept) 37 = .ok (.iinc 3 1, 3) := by decide +kernel
theorem dMd_isKept_40 : decode (mB Md_isKept) 40 = .ok (.goto (-36), 3) := by decide +kernel
theorem dMd_isKept_43 : decode (mB Md_isKept) 43 = .ok (.iload_n 2, 1) := by decide +kernel
theorem dMd_isKept_44 : decode (mB Md_isKept) 44 = .ok (.ireturn, 1) := by decide +kernel
def b_Md_isKept_4 (R : Int32 → tpH → Prop) (Y : Nat → Int32 → Int32 → Int32 → tpH → Prop) (o : Nat) (x1 : Int32) (x2 : Int32) (x3 : Int32) (h : tpH) : Prop :=
  hT h o = 14 ∧ (((hI h o 35) ≤ x3 → (tpB x2 ∧ (R x2 h))) ∧ (¬ (hI h o 35) ≤ x3 → ((¬ x2 = 0 → (Y o x1 (1 : Int32) (x3 + (1 : Int32)) h)) ∧ (x2 = 0 → (∃ a5, (hR h o 33) = some a5 ∧ hT h a5 = 15 ∧ (vp_in x3 (hL h a5) ∧ (∃ a9, (hR h o 42) = some a9 ∧ hT h a9 = 15 ∧ (vp_in (hI h a5 x3.toNatClampNeg) (hL h a9) ∧ ((¬ (hI h a9 (hI h a5 x3.toNatClampNeg).toNatClampNeg) = x1 → (Y o x1 (0 : Int32) (x3 + (1 : Int32)) h)) ∧ ((hI h a9 (hI h a5 x3.toNatClampNeg).toNatClampNeg) = x1 → (Y o x1 (1 : Int32) (x3 + (1 : Int32)) h)))))))))))
def w_Md_isKept_4 (R : Int32 → tpH → Prop) : Nat → Nat → Int32 → Int32 → Int32 → tpH → Prop
  | 0 => fun _ _ _ _ _ => False
  | n + 1 => b_Md_isKept_4 R (w_Md_isKept_4 R n)
def w_Md_isKept (o : Nat) (x1 : Int32) (h : tpH) (R : Int32 → tpH → Prop) : Prop :=
  ∃ n, w_Md_isKept_4 R n o x1 (0 : Int32) (0 : Int32) h
theorem s_Md_isKept_4 {h0 : tpH} {av : List tpV} {R : Int32 → tpH → Prop} : ∀ (n : Nat) (o : Nat) (x1 : Int32) (x2 : Int32) (x3 : Int32) (h : tpH), w_Md_isKept_4 R n o x1 x2 x3 h → tpR Md_isKept 0 h0 av (tpOi R (fun _ _ => False)) 4 [some (vR (some o)), some (vI x1), some (vI x2), some (vI x3)] [] h := by
  intro n
  induction n with
  | zero => intro o x1 x2 x3 h hw; exact False.elim hw
  | succ n ih =>
    intro o x1 x2 x3 h hw
    change b_Md_isKept_4 R (w_Md_isKept_4 R n) o x1 x2 x3 h at hw
    unfold b_Md_isKept_4 at hw
    refine tq_iload_n dMd_isKept_4 rfl rfl ?_
    refine tq_aload_n dMd_isKept_5 rfl rfl ?_
    obtain ⟨f1, hw⟩ := hw
    refine te_geti dMd_isKept_6 fMd_249 rfl rfl f1 ?_
    refine tq_icmpge (tgt := 43) dMd_isKept_9 (by decide) (fun c2 => ?_) (fun c2 => ?_)
    · have hw := hw.1 c2
      refine tq_iload_n dMd_isKept_43 rfl rfl ?_
      obtain ⟨f3, hw⟩ := hw
      exact tq_iret rfl (tpB_n f3) dMd_isKept_44 hw
    · have hw := hw.2 c2
      refine tq_iload_n dMd_isKept_12 rfl rfl ?_
      refine tq_ifne (tgt := 31) dMd_isKept_13 (by decide) (fun c4 => ?_) (fun c4 => ?_)
      · have hw := hw.1 c4
        refine tq_iconst (v := (1 : Int32)) dMd_isKept_31 tni_1 ?_
        refine tq_goto (tgt := 36) dMd_isKept_32 (by decide) ?_
        refine tq_istore_n (ls' := [some (vR (some o)), some (vI x1), some (vI (1 : Int32)), some (vI x3)]) dMd_isKept_36 rfl (Nat.le_of_ble_eq_true rfl) rfl ?_
        refine tq_inc (k := (1 : Int32)) (ls' := [some (vR (some o)), some (vI x1), some (vI (1 : Int32)), some (vI (x3 + (1 : Int32)))]) dMd_isKept_37 rfl tni_1 (Nat.le_of_ble_eq_true rfl) rfl ?_
        refine tq_goto (tgt := 4) dMd_isKept_40 (by decide) ?_
        refine tpR.fo (ls' := [some (vR (some o)), some (vI x1), some (vI (1 : Int32)), some (vI (x3 + (1 : Int32)))]) ?_ (And.intro rfl (And.intro rfl (And.intro rfl (And.intro rfl trivial))))
        exact ih _ _ _ _ _ hw
      · have hw := hw.2 c4
        refine tq_aload_n dMd_isKept_16 rfl rfl ?_
        refine te_getr dMd_isKept_17 fMd_109 rfl rfl f1 ?_
        refine tq_aload_n dMd_isKept_20 rfl rfl ?_
        refine te_getr dMd_isKept_21 fMd_86 rfl rfl f1 ?_
        refine tq_iload_n dMd_isKept_24 rfl rfl ?_
        obtain ⟨a5, e6, f7, hw⟩ := hw
        obtain ⟨f8, hw⟩ := hw
        refine te_iald dMd_isKept_25 e6 (Or.inl f7) f8 ?_
        obtain ⟨a9, e10, f11, hw⟩ := hw
        obtain ⟨f12, hw⟩ := hw
        refine te_iald dMd_isKept_26 e10 (Or.inl f11) f12 ?_
        refine tq_iload_n dMd_isKept_27 rfl rfl ?_
        refine tq_icmpne (tgt := 35) dMd_isKept_28 (by decide) (fun c13 => ?_) (fun c13 => ?_)
        · have hw := hw.1 c13
          refine tq_iconst (v := (0 : Int32)) dMd_isKept_35 tni_0 ?_
          refine tq_istore_n (ls' := [some (vR (some o)), some (vI x1), some (vI (0 : Int32)), some (vI x3)]) dMd_isKept_36 rfl (Nat.le_of_ble_eq_true rfl) rfl ?_
          refine tq_inc (k := (1 : Int32)) (ls' := [some (vR (some o)), some (vI x1), some (vI (0 : Int32)), some (vI (x3 + (1 : Int32)))]) dMd_isKept_37 rfl tni_1 (Nat.le_of_ble_eq_true rfl) rfl ?_
          refine tq_goto (tgt := 4) dMd_isKept_40 (by decide) ?_
          refine tpR.fo (ls' := [some (vR (some o)), some (vI x1), some (vI (0 : Int32)), some (vI (x3 + (1 : Int32)))]) ?_ (And.intro rfl (And.intro rfl (And.intro rfl (And.intro rfl trivial))))
          exact ih _ _ _ _ _ hw
        · have hw := hw.2 c13
          refine tq_iconst (v := (1 : Int32)) dMd_isKept_31 tni_1 ?_
          refine tq_goto (tgt := 36) dMd_isKept_32 (by decide) ?_
          refine tq_istore_n (ls' := [some (vR (some o)), some (vI x1), some (vI (1 : Int32)), some (vI x3)]) dMd_isKept_36 rfl (Nat.le_of_ble_eq_true rfl) rfl ?_
          refine tq_inc (k := (1 : Int32)) (ls' := [some (vR (some o)), some (vI x1), some (vI (1 : Int32)), some (vI (x3 + (1 : Int32)))]) dMd_isKept_37 rfl tni_1 (Nat.le_of_ble_eq_true rfl) rfl ?_
          refine tq_goto (tgt := 4) dMd_isKept_40 (by decide) ?_
          refine tpR.fo (ls' := [some (vR (some o)), some (vI x1), some (vI (1 : Int32)), some (vI (x3 + (1 : Int32)))]) ?_ (And.intro rfl (And.intro rfl (And.intro rfl (And.intro rfl trivial))))
          exact ih _ _ _ _ _ hw
theorem s_Md_isKept {o : Nat} {x1 : Int32} {h : tpH} {R : Int32 → tpH → Prop} (hw : w_Md_isKept o x1 h R) : tpC Md_isKept 0 [vR (some o), vI x1] h (tpOi R (fun _ _ => False)) := by
  refine tpC_of mv_Md_isKept.2.2.2.1 rfl rfl (Nat.le_of_ble_eq_true rfl) ?_
  show tpR Md_isKept 0 h _ _ 0 [some (vR (some o)), some (vI x1), none, none] [] h
  unfold w_Md_isKept at hw
  refine tq_iconst (v := (0 : Int32)) dMd_isKept_0 tni_0 ?_
  refine tq_istore_n (ls' := [some (vR (some o)), some (vI x1), some (vI (0 : Int32)), none]) dMd_isKept_1 rfl (Nat.le_of_ble_eq_true rfl) rfl ?_
  refine tq_iconst (v := (0 : Int32)) dMd_isKept_2 tni_0 ?_
  refine tq_istore_n (ls' := [some (vR (some o)), some (vI x1), some (vI (0 : Int32)), some (vI (0 : Int32))]) dMd_isKept_3 rfl (Nat.le_of_ble_eq_true rfl) rfl ?_
  refine tpR.fo (ls' := [some (vR (some o)), some (vI x1), some (vI (0 : Int32)), some (vI (0 : Int32))]) ?_ (And.intro rfl (And.intro rfl (And.intro rfl (And.intro rfl trivial))))
  obtain ⟨n, hw⟩ := hw
  exact s_Md_isKept_4 n _ _ _ _ _ hw
/-! TModel.makes -/
theorem dMd_makes_0 : decode (mB Md_makes) 0 = .ok (.iconst 1, 1) := by decide +kernel
theorem dMd_makes_1 : decode (mB Md_makes) 1 = .ok (.istore 4, 2) := by decide +kernel
theorem dMd_makes_3 : decode (mB Md_makes) 3 = .ok (.aload_n 0, 1) := by decide +kernel
theorem dMd_makes_4 : decode (mB Md_makes) 4 = .ok (.getfield 31, 3) := by decide +kernel
theorem dMd_makes_7 : decode (mB Md_makes) 7 = .ok (.iload_n 3, 1) := by decide +kernel
theorem dMd_makes_8 : decode (mB Md_makes) 8 = .ok (.iconst 0, 1) := by decide +kernel
theorem dMd_makes_9 : decode (mB Md_makes) 9 = .ok (.iastore, 1) := by decide +kernel
theorem dMd_makes_10 : decode (mB Md_makes) 10 = .ok (.iconst 0, 1) := by decide +kernel
theorem dMd_makes_11 : decode (mB Md_makes) 11 = .ok (.istore 5, 2) := by decide +kernel
theorem dMd_makes_13 : decode (mB Md_makes) 13 = .ok (.iload 5, 2) := by decide +kernel
theorem dMd_makes_15 : decode (mB Md_makes) 15 = .ok (.aload_n 0, 1) := by decide +kernel
theorem dMd_makes_16 : decode (mB Md_makes) 16 = .ok (.getfield 249, 3) := by decide +kernel
theorem dMd_makes_19 : decode (mB Md_makes) 19 = .ok (.if_icmp .ge 140, 3) := by decide +kernel
theorem dMd_makes_22 : decode (mB Md_makes) 22 = .ok (.iload 4, 2) := by decide +kernel
theorem dMd_makes_24 : decode (mB Md_makes) 24 = .ok (.ifCond .eq 135, 3) := by decide +kernel
theorem dMd_makes_27 : decode (mB Md_makes) 27 = .ok (.aload_n 0, 1) := by decide +kernel
theorem dMd_makes_28 : decode (mB Md_makes) 28 = .ok (.getfield 109, 3) := by decide +kernel
theorem dMd_makes_31 : decode (mB Md_makes) 31 = .ok (.aload_n 0, 1) := by decide +kernel
theorem dMd_makes_32 : decode (mB Md_makes) 32 = .ok (.getfield 86, 3) := by decide +kernel
theorem dMd_makes_35 : decode (mB Md_makes) 35 = .ok (.iload 5, 2) := by decide +kernel
theorem dMd_makes_37 : decode (mB Md_makes) 37 = .ok (.iaload, 1) := by decide +kernel
theorem dMd_makes_38 : decode (mB Md_makes) 38 = .ok (.iaload, 1) := by decide +kernel
theorem dMd_makes_39 : decode (mB Md_makes) 39 = .ok (.istore 6, 2) := by decide +kernel
theorem dMd_makes_41 : decode (mB Md_makes) 41 = .ok (.iload 6, 2) := by decide +kernel
theorem dMd_makes_43 : decode (mB Md_makes) 43 = .ok (.iconst (-1), 1) := by decide +kernel
theorem dMd_makes_44 : decode (mB Md_makes) 44 = .ok (.if_icmp .eq 109, 3) := by decide +kernel
theorem dMd_makes_47 : decode (mB Md_makes) 47 = .ok (.aload_n 0, 1) := by decide +kernel
theorem dMd_makes_48 : decode (mB Md_makes) 48 = .ok (.iload_n 1, 1) := by decide +kernel
theorem dMd_makes_49 : decode (mB Md_makes) 49 = .ok (.iload 6, 2) := by decide +kernel
theorem dMd_makes_51 : decode (mB Md_makes) 51 = .ok (.invokevirtual 226, 3) := by decide +kernel
theorem dMd_makes_54 : decode (mB Md_makes) 54 = .ok (.aload_n 0, 1) := by decide +kernel
theorem dMd_makes_55 : decode (mB Md_makes) 55 = .ok (.iload_n 2, 1) := by decide +kernel
theorem dMd_makes_56 : decode (mB Md_makes) 56 = .ok (.aload_n 0, 1) := by decide +kernel
theorem dMd_makes_57 : decode (mB Md_makes) 57 = .ok (.getfield 86, 3) := by decide +kernel
theorem dMd_makes_60 : decode (mB Md_makes) 60 = .ok (.iload 5, 2) := by decide +kernel
theorem dMd_makes_62 : decode (mB Md_makes) 62 = .ok (.iaload, 1) := by decide +kernel
theorem dMd_makes_63 : decode (mB Md_makes) 63 = .ok (.invokevirtual 226, 3) := by decide +kernel
theorem dMd_makes_66 : decode (mB Md_makes) 66 = .ok (.if_icmp .eq 87, 3) := by decide +kernel
theorem dMd_makes_69 : decode (mB Md_makes) 69 = .ok (.aload_n 0, 1) := by decide +kernel
theorem dMd_makes_70 : decode (mB Md_makes) 70 = .ok (.iload_n 3, 1) := by decide +kernel
theorem dMd_makes_71 : decode (mB Md_makes) 71 = .ok (.iconst 0, 1) := by decide +kernel
theorem dMd_makes_72 : decode (mB Md_makes) 72 = .ok (.iload 6, 2) := by decide +kernel
theorem dMd_makes_74 : decode (mB Md_makes) 74 = .ok (.invokevirtual 298, 3) := by decide +kernel
theorem dMd_makes_77 : decode (mB Md_makes) 77 = .ok (.istore 7, 2) := by decide +kernel
theorem dMd_makes_79 : decode (mB Md_makes) 79 = .ok (.iload 7, 2) := by decide +kernel
theorem dMd_makes_81 : decode (mB Md_makes) 81 = .ok (.iconst (-1), 1) := by decide +kernel
theorem dMd_makes_82 : decode (mB Md_makes) 82 = .ok (.if_icmp .eq 7, 3) := by decide +kernel
theorem dMd_makes_85 : decode (mB Md_makes) 85 = .ok (.iconst 1, 1) := by decide +kernel
theorem dMd_makes_86 : decode (mB Md_makes) 86 = .ok (.goto 4, 3) := by decide +kernel
theorem dMd_makes_89 : decode (mB Md_makes) 89 = .ok (.iconst 0, 1) := by decide +kernel
theorem dMd_makes_90 : decode (mB Md_makes) 90 = .ok (.istore 4, 2) := by decide +kernel
theorem dMd_makes_92 : decode (mB Md_makes) 92 = .ok (.iload 4, 2) := by decide +kernel
theorem dMd_makes_94 : decode (mB Md_makes) 94 = .ok (.ifCond .eq 59, 3) := by decide +kernel
theorem dMd_makes_97 : decode (mB Md_makes) 97 = .ok (.aload_n 0, 1) := by decide +kernel
theorem dMd_makes_98 : decode (mB Md_makes) 98 = .ok (.getfield 40, 3) := by decide +kernel
theorem dMd_makes_101 : decode (mB Md_makes) 101 = .ok (.iload 7, 2) := by decide +kernel
theorem dMd_makes_103 : decode (mB Md_makes) 103 = .ok (.aload_n 0, 1) := by decide +kernel
theorem dMd_makes_104 : decode (mB Md_makes) 104 = .ok (.iload_n 1, 1) := by decide +kernel
theorem dMd_makes_105 : decode (mB Md_makes) 105 = .ok (.iload 6, 2) := by decide +kernel
theorem dMd_makes_107 : decode (mB Md_makes) 107 = .ok (.invokevirtual 226, 3) := by decide +kernel
theorem dMd_makes_110 : decode (mB Md_makes) 110 = .ok (.iastore, 1) := by decide +kernel
theorem dMd_makes_111 : decode (mB Md_makes) 111 = .ok (.aload_n 0, 1) := by decide +kernel
theorem dMd_makes_112 : decode (mB Md_makes) 112 = .ok (.getfield 43, 3) := by decide +kernel
theorem dMd_makes_115 : decode (mB Md_makes) 115 = .ok (.iload 7, 2) := by decide +kernel
theorem dMd_makes_117 : decode (mB Md_makes) 117 = .ok (.aload_n 0, 1) := by decide +kernel
theorem dMd_makes_118 : decode (mB Md_makes) 118 = .ok (.iload_n 2, 1) := by decide +kernel
theorem dMd_makes_119 : decode (mB Md_makes) 119 = .ok (.aload_n 0, 1) := by decide +kernel
theorem dMd_makes_120 : decode (mB Md_makes) 120 = .ok (.getfield 86, 3) := by decide +kernel
theorem dMd_makes_123 : decode (mB Md_makes) 123 = .ok (.iload 5, 2) := by decide +kernel
theorem dMd_makes_125 : decode (mB Md_makes) 125 = .ok (.iaload, 1) := by decide +kernel
theorem dMd_makes_126 : decode (mB Md_makes) 126 = .ok (.invokevirtual 226, 3) := by decide +kernel
theorem dMd_makes_129 : decode (mB Md_makes) 129 = .ok (.iastore, 1) := by decide +kernel
theorem dMd_makes_130 : decode (mB Md_makes) 130 = .ok (.aload_n 0, 1) := by decide +kernel
theorem dMd_makes_131 : decode (mB Md_makes) 131 = .ok (.getfield 22, 3) := by decide +kernel
theorem dMd_makes_134 : decode (mB Md_makes) 134 = .ok (.sipush 12300, 3) := by decide +kernel
theorem dMd_makes_137 : decode (mB Md_makes) 137 = .ok (.iload 6, 2) := by decide +kernel
theorem dMd_makes_139 : decode (mB Md_makes) 139 = .ok (.iadd, 1) := by decide +kernel
theorem dMd_makes_140 : decode (mB Md_makes) 140 = .ok (.aload_n 0, 1) := by decide +kernel
theorem dMd_makes_141 : decode (mB Md_makes) 141 = .ok (.iload_n 2, 1) := by decide +kernel
theorem dMd_makes_142 : decode (mB Md_makes) 142 = .ok (.aload_n 0, 1) := by decide +kernel
theorem dMd_makes_143 : decode (mB Md_makes) 143 = .ok (.getfield 86, 3) := by decide +kernel
theorem dMd_makes_146 : decode (mB Md_makes) 146 = .ok (.iload 5, 2) := by decide +kernel
theorem dMd_makes_148 : decode (mB Md_makes) 148 = .ok (.iaload, 1) := by decide +kernel
theorem dMd_makes_149 : decode (mB Md_makes) 149 = .ok (.invokevirtual 226, 3) := by decide +kernel
theorem dMd_makes_152 : decode (mB Md_makes) 152 = .ok (.iastore, 1) := by decide +kernel
theorem dMd_makes_153 : decode (mB Md_makes) 153 = .ok (.iinc 5 1, 3) := by decide +kernel
theorem dMd_makes_156 : decode (mB Md_makes) 156 = .ok (.goto (-143), 3) := by decide +kernel
theorem dMd_makes_159 : decode (mB Md_makes) 159 = .ok (.iconst 1, 1) := by decide +kernel
theorem dMd_makes_160 : decode (mB Md_makes) 160 = .ok (.istore 5, 2) := by decide +kernel
theorem dMd_makes_162 : decode (mB Md_makes) 162 = .ok (.iload 5, 2) := by decide +kernel
theorem dMd_makes_164 : decode (mB Md_makes) 164 = .ok (.aload_n 0, 1) := by decide +kernel
theorem dMd_makes_165 : decode (mB Md_makes) 165 = .ok (.getfield 249, 3) := by decide +kernel
theorem dMd_makes_168 : decode (mB Md_makes) 168 = .ok (.if_icmp .ge 29, 3) := by decide +kernel
theorem dMd_makes_171 : decode (mB Md_makes) 171 = .ok (.iload 4, 2) := by decide +kernel
theorem dMd_makes_173 : decode (mB Md_makes) 173 = .ok (.ifCond .eq 24, 3) := by decide +kernel
theorem dMd_makes_176 : decode (mB Md_makes) 176 = .ok (.aload_n 0, 1) := by decide +kernel
theorem dMd_makes_177 : decode (mB Md_makes) 177 = .ok (.iload_n 2, 1) := by decide +kernel
theorem dMd_makes_178 : decode (mB Md_makes) 178 = .ok (.iload_n 3, 1) := by decide +kernel
theorem dMd_makes_179 : decode (mB Md_makes) 179 = .ok (.aload_n 0, 1) := by decide +kernel
theorem dMd_makes_180 : decode (mB Md_makes) 180 = .ok (.getfield 86, 3) := by decide +kernel
theorem dMd_makes_183 : decode (mB Md_makes) 183 = .ok (.iload 5, 2) := by decide +kernel
theorem dMd_makes_185 : decode (mB Md_makes) 185 = .ok (.iaload, 1) := by decide +kernel
theorem dMd_makes_186 : decode (mB Md_makes) 186 = .ok (.invokevirtual 310, 3) := by decide +kernel
theorem dMd_makes_189 : decode (mB Md_makes) 189 = .ok (.istore 4, 2) := by decide +kernel
theorem dMd_makes_191 : decode (mB Md_makes) 191 = .ok (.iinc 5 1, 3) := by decide +kernel
theorem dMd_makes_194 : decode (mB Md_makes) 194 = .ok (.goto (-32), 3) := by decide +kernel
theorem dMd_makes_197 : decode (mB Md_makes) 197 = .ok (.iload 4, 2) := by decide +kernel
theorem dMd_makes_199 : decode (mB Md_makes) 199 = .ok (.ifCond .eq 16, 3) := by decide +kernel
theorem dMd_makes_202 : decode (mB Md_makes) 202 = .ok (.aload_n 0, 1) := by decide +kernel
theorem dMd_makes_203 : decode (mB Md_makes) 203 = .ok (.bipush 41, 2) := by decide +kernel
theorem dMd_makes_205 : decode (mB Md_makes) 205 = .ok (.aload_n 0, 1) := by decide +kernel
theorem dMd_makes_206 : decode (mB Md_makes) 206 = .ok (.getfield 83, 3) := by decide +kernel
theorem dMd_makes_209 : decode (mB Md_makes) 209 = .ok (.invokevirtual 208, 3) := by decide +kernel
theorem dMd_makes_212 : decode (mB Md_makes) 212 = .ok (.goto 4, 3) := by decide +kernel
theorem dMd_makes_215 : decode (mB Md_makes) 215 = .ok (.iconst 0, 1) := by decide +kernel
theorem dMd_makes_216 : decode (mB Md_makes) 216 = .ok (.istore 5, 2) := by decide +kernel
theorem dMd_makes_218 : decode (mB Md_makes) 218 = .ok (.iload 5, 2) := by decide +kernel
theorem dMd_makes_220 : decode (mB Md_makes) 220 = .ok (.iconst 1, 1) := by decide +kernel
theorem dMd_makes_221 : decode (mB Md_makes) 221 = .ok (.isub, 1) := by decide +kernel
theorem dMd_makes_222 : decode (mB Md_makes) 222 = .ok (.istore 6, 2) := by decide +kernel
theorem dMd_makes_224 : decode (mB Md_makes) 224 = .ok (.iload 6, 2) := by decide +kernel
theorem dMd_makes_226 : decode (mB Md_makes) 226 = .ok (.ifCond .le 104, 3) := by decide +kernel
theorem dMd_makes_229 : decode (mB Md_makes) 229 = .ok (.iload 4, 2) := by decide +kernel
theorem dMd_makes_231 : decode (mB Md_makes) 231 = .ok (.ifCond .eq 99, 3) := by decide +kernel
theorem dMd_makes_234 : decode (mB Md_makes) 234 = .ok (.aload_n 0, 1) := by decide +kernel
theorem dMd_makes_235 : decode (mB Md_makes) 235 = .ok (.getfield 83, 3) := by decide +kernel
theorem dMd_makes_238 : decode (mB Md_makes) 238 = .ok (.iload 6, 2) := by decide +kernel
theorem dMd_makes_240 : decode (mB Md_makes) 240 = .ok (.iaload, 1) := by decide +kernel
theorem dMd_makes_241 : decode (mB Md_makes) 241 = .ok (.istore 7, 2) := by decide +kernel
theorem dMd_makes_243 : decode (mB Md_makes) 243 = .ok (.aload_n 0, 1) := by decide +kernel
theorem dMd_makes_244 : decode (mB Md_makes) 244 = .ok (.iload 7, 2) := by decide +kernel
theorem dMd_makes_246 : decode (mB Md_makes) 246 = .ok (.invokevirtual 313, 3) := by decide +kernel
theorem dMd_makes_249 : decode (mB Md_makes) 249 = .ok (.ifCond .ne 75, 3) := by decide +kernel
theorem dMd_makes_252 : decode (mB Md_makes) 252 = .ok (.aload_n 0, 1) := by decide +kernel
theorem dMd_makes_253 : decode (mB Md_makes) 253 = .ok (.iload_n 3, 1) := by decide +kernel
theorem dMd_makes_254 : decode (mB Md_makes) 254 = .ok (.iconst 3, 1) := by decide +kernel
theorem dMd_makes_255 : decode (mB Md_makes) 255 = .ok (.iload 7, 2) := by decide +kernel
theorem dMd_makes_257 : decode (mB Md_makes) 257 = .ok (.invokevirtual 298, 3) := by decide +kernel
theorem dMd_makes_260 : decode (mB Md_makes) 260 = .ok (.istore 8, 2) := by decide +kernel
theorem dMd_makes_262 : decode (mB Md_makes) 262 = .ok (.iload 8, 2) := by decide +kernel
theorem dMd_makes_264 : decode (mB Md_makes) 264 = .ok (.iconst (-1), 1) := by decide +kernel
theorem dMd_makes_265 : decode (mB Md_makes) 265 = .ok (.if_icmp .eq 7, 3) := by decide +kernel
theorem dMd_makes_268 : decode (mB Md_makes) 268 = .ok (.iconst 1, 1) := by decide +kernel
theorem dMd_makes_269 : decode (mB Md_makes) 269 = .ok (.goto 4, 3) := by decide +kernel
theorem dMd_makes_272 : decode (mB Md_makes) 272 = .ok (.iconst 0, 1) := by decide +kernel
theorem dMd_makes_273 : decode (mB Md_makes) 273 = .ok (.istore 4, 2) := by decide +kernel
theorem dMd_makes_275 : decode (mB Md_makes) 275 = .ok (.iload 4, 2) := by decide +kernel
theorem dMd_makes_277 : decode (mB Md_makes) 277 = .ok (.ifCond .eq 47, 3) := by decide +kernel
theorem dMd_makes_280 : decode (mB Md_makes) 280 = .ok (.aload_n 0, 1) := by decide +kernel
theorem dMd_makes_281 : decode (mB Md_makes) 281 = .ok (.iload 8, 2) := by decide +kernel
theorem dMd_makes_283 : decode (mB Md_makes) 283 = .ok (.iload 7, 2) := by decide +kernel
theorem dMd_makes_285 : decode (mB Md_makes) 285 = .ok (.invokevirtual 307, 3) := by decide +kernel
theorem dMd_makes_288 : decode (mB Md_makes) 288 = .ok (.aload_n 0, 1) := by decide +kernel
theorem dMd_makes_289 : decode (mB Md_makes) 289 = .ok (.getfield 40, 3) := by decide +kernel
theorem dMd_makes_292 : decode (mB Md_makes) 292 = .ok (.iload 8, 2) := by decide +kernel
theorem dMd_makes_294 : decode (mB Md_makes) 294 = .ok (.aload_n 0, 1) := by decide +kernel
theorem dMd_makes_295 : decode (mB Md_makes) 295 = .ok (.bipush 41, 2) := by decide +kernel
theorem dMd_makes_297 : decode (mB Md_makes) 297 = .ok (.iload 7, 2) := by decide +kernel
theorem dMd_makes_299 : decode (mB Md_makes) 299 = .ok (.invokevirtual 226, 3) := by decide +kernel
theorem dMd_makes_302 : decode (mB Md_makes) 302 = .ok (.iastore, 1) := by decide +kernel
theorem dMd_makes_303 : decode (mB Md_makes) 303 = .ok (.aload_n 0, 1) := by decide +kernel
theorem dMd_makes_304 : decode (mB Md_makes) 304 = .ok (.bipush 41, 2) := by decide +kernel
theorem dMd_makes_306 : decode (mB Md_makes) 306 = .ok (.iload 7, 2) := by decide +kernel
theorem dMd_makes_308 : decode (mB Md_makes) 308 = .ok (.invokevirtual 232, 3) := by decide +kernel
theorem dMd_makes_311 : decode (mB Md_makes) 311 = .ok (.aload_n 0, 1) := by decide +kernel
theorem dMd_makes_312 : decode (mB Md_makes) 312 = .ok (.getfield 19, 3) := by decide +kernel
theorem dMd_makes_315 : decode (mB Md_makes) 315 = .ok (.sipush 12300, 3) := by decide +kernel
theorem dMd_makes_318 : decode (mB Md_makes) 318 = .ok (.iload 7, 2) := by decide +kernel
theorem dMd_makes_320 : decode (mB Md_makes) 320 = .ok (.iadd, 1) := by decide +kernel
theorem dMd_makes_321 : decode (mB Md_makes) 321 = .ok (.bipush (-2), 2) := by decide +kernel
theorem dMd_makes_323 : decode (mB Md_makes) 323 = .ok (.iastore, 1) := by decide +kernel
theorem dMd_makes_324 : decode (mB Md_makes) 324 = .ok (.iinc 6 (-1), 3) := by decide +kernel
theorem dMd_makes_327 : decode (mB Md_makes) 327 = .ok (.goto (-103), 3) := by decide +kernel
theorem dMd_makes_330 : decode (mB Md_makes) 330 = .ok (.iload 4, 2) := by decide +kernel
theorem dMd_makes_332 : decode (mB Md_makes) 332 = .ok (.ireturn, 1) := by decide +kernel
def w_Md_makes_90 (R : Int32 → tpH → Prop) (K13 : Nat → Int32 → Int32 → Int32 → Int32 → Int32 → tpH → Prop) (o : Nat) (x1 : Int32) (x2 : Int32) (x3 : Int32) (x5 : Int32) (x6 : Int32) (x7 : Int32) (t0 : Int32) (h : tpH) : Prop :=
  (t0 = 0 → (K13 o x1 x2 x3 t0 (x5 + (1 : Int32)) h)) ∧ (¬ t0 = 0 → (hT h o = 14 ∧ (w_Md_valueIn o x1 x6 h (fun v4 h3 => ∃ a5, (hR h o 14) = some a5 ∧ hT h3 a5 = 15 ∧ (vp_in x7 (hL h3 a5) ∧ (∀ h9, h9 = sI h3 a5 x7.toNatClampNeg v4 → (hT h9 o = 14 ∧ (∃ a12, (hR h9 o 33) = some a12 ∧ hT h9 a12 = 15 ∧ (vp_in x5 (hL h9 a12) ∧ (w_Md_valueIn o x2 (hI h9 a12 x5.toNatClampNeg) h9 (fun v17 h16 => ∃ a18, (hR h9 o 15) = some a18 ∧ hT h16 a18 = 15 ∧ (vp_in x7 (hL h16 a18) ∧ (∀ h22, h22 = sI h16 a18 x7.toNatClampNeg v17 → (hT h22 o = 14 ∧ (∃ a25, (hR h22 o 33) = some a25 ∧ hT h22 a25 = 15 ∧ (vp_in x5 (hL h22 a25) ∧ (w_Md_valueIn o x2 (hI h22 a25 x5.toNatClampNeg) h22 (fun v30 h29 => ∃ a31, (hR h22 o 7) = some a31 ∧ hT h29 a31 = 15 ∧ (vp_in ((12300 : Int32) + x6) (hL h29 a31) ∧ (∀ h35, h35 = sI h29 a31 ((12300 : Int32) + x6).toNatClampNeg v30 → (K13 o x1 x2 x3 t0 (x5 + (1 : Int32)) h35)))))))))))))))))))))
def w_Md_makes_273 (R : Int32 → tpH → Prop) (K224 : Nat → Int32 → Int32 → Int32 → tpH → Prop) (o : Nat) (x3 : Int32) (x6 : Int32) (x7 : Int32) (x8 : Int32) (t0 : Int32) (h : tpH) : Prop :=
  (t0 = 0 → (K224 o x3 t0 (x6 + (-1 : Int32)) h)) ∧ (¬ t0 = 0 → (hT h o = 14 ∧ (w_Md_tellWas o x8 x7 h (fun h3 => hT h3 o = 14 ∧ (w_Md_valueIn o (41 : Int32) x7 h3 (fun v6 h5 => ∃ a7, (hR h3 o 14) = some a7 ∧ hT h5 a7 = 15 ∧ (vp_in x8 (hL h5 a7) ∧ (∀ h11, h11 = sI h5 a7 x8.toNatClampNeg v6 → (hT h11 o = 14 ∧ (w_Md_unhang o (41 : Int32) x7 h11 (fun h14 => hT h14 o = 14 ∧ (∃ a16, (hR h14 o 6) = some a16 ∧ hT h14 a16 = 15 ∧ (vp_in ((12300 : Int32) + x7) (hL h14 a16) ∧ (∀ h20, h20 = sI h14 a16 ((12300 : Int32) + x7).toNatClampNeg (-2 : Int32) → (K224 o x3 t0 (x6 + (-1 : Int32)) h20)))))))))))))))
def b_Md_makes_224 (R : Int32 → tpH → Prop) (Y : Nat → Int32 → Int32 → Int32 → tpH → Prop) (o : Nat) (x3 : Int32) (x4 : Int32) (x6 : Int32) (h : tpH) : Prop :=
  (x6 ≤ 0 → (tpB x4 ∧ (R x4 h))) ∧ (¬ x6 ≤ 0 → ((x4 = 0 → (tpB x4 ∧ (R x4 h))) ∧ (¬ x4 = 0 → (hT h o = 14 ∧ (∃ a6, (hR h o 32) = some a6 ∧ hT h a6 = 15 ∧ (vp_in x6 (hL h a6) ∧ (w_Md_isKept o (hI h a6 x6.toNatClampNeg) h (fun v11 h10 => (¬ v11 = 0 → (Y o x3 x4 (x6 + (-1 : Int32)) h10)) ∧ (v11 = 0 → (hT h10 o = 14 ∧ (w_Md_newStep o x3 (3 : Int32) (hI h a6 x6.toNatClampNeg) h10 (fun v15 h14 => (v15 = (-1 : Int32) → (w_Md_makes_273 R Y o x3 x6 (hI h a6 x6.toNatClampNeg) v15 (0 : Int32) h14)) ∧ (¬ v15 = (-1 : Int32) → (w_Md_makes_273 R Y o x3 x6 (hI h a6 x6.toNatClampNeg) v15 (1 : Int32) h14))))))))))))))
def w_Md_makes_224 (R : Int32 → tpH → Prop) : Nat → Nat → Int32 → Int32 → Int32 → tpH → Prop
  | 0 => fun _ _ _ _ _ => False
  | n + 1 => b_Md_makes_224 R (w_Md_makes_224 R n)
def w_Md_makes_197 (R : Int32 → tpH → Prop) (o : Nat) (x3 : Int32) (x4 : Int32) (h : tpH) : Prop :=
  (x4 = 0 → (∃ n, w_Md_makes_224 R n o x3 x4 ((0 : Int32) - (1 : Int32)) h)) ∧ (¬ x4 = 0 → (hT h o = 14 ∧ (w_Md_layOrder o (41 : Int32) (hR h o 32) h (fun v4 h3 => ∃ n, w_Md_makes_224 R n o x3 x4 (v4 - (1 : Int32)) h3))))
def b_Md_makes_162 (R : Int32 → tpH → Prop) (Y : Nat → Int32 → Int32 → Int32 → Int32 → tpH → Prop) (o : Nat) (x2 : Int32) (x3 : Int32) (x4 : Int32) (x5 : Int32) (h : tpH) : Prop :=
  hT h o = 14 ∧ (((hI h o 35) ≤ x5 → (w_Md_makes_197 R o x3 x4 h)) ∧ (¬ (hI h o 35) ≤ x5 → ((x4 = 0 → (w_Md_makes_197 R o x3 x4 h)) ∧ (¬ x4 = 0 → (∃ a4, (hR h o 33) = some a4 ∧ hT h a4 = 15 ∧ (vp_in x5 (hL h a4) ∧ (w_Md_places o x2 x3 (hI h a4 x5.toNatClampNeg) h (fun v9 h8 => Y o x2 x3 v9 (x5 + (1 : Int32)) h8))))))))
def w_Md_makes_162 (R : Int32 → tpH → Prop) : Nat → Nat → Int32 → Int32 → Int32 → Int32 → tpH → Prop
  | 0 => fun _ _ _ _ _ _ => False
  | n + 1 => b_Md_makes_162 R (w_Md_makes_162 R n)
def b_Md_makes_13 (R : Int32 → tpH → Prop) (Y : Nat → Int32 → Int32 → Int32 → Int32 → Int32 → tpH → Prop) (o : Nat) (x1 : Int32) (x2 : Int32) (x3 : Int32) (x4 : Int32) (x5 : Int32) (h : tpH) : Prop :=
  hT h o = 14 ∧ (((hI h o 35) ≤ x5 → (∃ n, w_Md_makes_162 R n o x2 x3 x4 (1 : Int32) h)) ∧ (¬ (hI h o 35) ≤ x5 → ((x4 = 0 → (∃ n, w_Md_makes_162 R n o x2 x3 x4 (1 : Int32) h)) ∧ (¬ x4 = 0 → (∃ a4, (hR h o 33) = some a4 ∧ hT h a4 = 15 ∧ (vp_in x5 (hL h a4) ∧ (∃ a8, (hR h o 42) = some a8 ∧ hT h a8 = 15 ∧ (vp_in (hI h a4 x5.toNatClampNeg) (hL h a8) ∧ (((hI h a8 (hI h a4 x5.toNatClampNeg).toNatClampNeg) = (-1 : Int32) → (Y o x1 x2 x3 x4 (x5 + (1 : Int32)) h)) ∧ (¬ (hI h a8 (hI h a4 x5.toNatClampNeg).toNatClampNeg) = (-1 : Int32) → (w_Md_valueIn o x1 (hI h a8 (hI h a4 x5.toNatClampNeg).toNatClampNeg) h (fun v14 h13 => hT h13 o = 14 ∧ (∃ a16, (hR h13 o 33) = some a16 ∧ hT h13 a16 = 15 ∧ (vp_in x5 (hL h13 a16) ∧ (w_Md_valueIn o x2 (hI h13 a16 x5.toNatClampNeg) h13 (fun v21 h20 => (v14 = v21 → (Y o x1 x2 x3 x4 (x5 + (1 : Int32)) h20)) ∧ (¬ v14 = v21 → (hT h20 o = 14 ∧ (w_Md_newStep o x3 (0 : Int32) (hI h a8 (hI h a4 x5.toNatClampNeg).toNatClampNeg) h20 (fun v25 h24 => (v25 = (-1 : Int32) → (w_Md_makes_90 R Y o x1 x2 x3 x5 (hI h a8 (hI h a4 x5.toNatClampNeg).toNatClampNeg) v25 (0 : Int32) h24)) ∧ (¬ v25 = (-1 : Int32) → (w_Md_makes_90 R Y o x1 x2 x3 x5 (hI h a8 (hI h a4 x5.toNatClampNeg).toNatClampNeg) v25 (1 : Int32) h24))))))))))))))))))))))
def w_Md_makes_13 (R : Int32 → tpH → Prop) : Nat → Nat → Int32 → Int32 → Int32 → Int32 → Int32 → tpH → Prop
  | 0 => fun _ _ _ _ _ _ _ => False
  | n + 1 => b_Md_makes_13 R (w_Md_makes_13 R n)
def w_Md_makes (o : Nat) (x1 : Int32) (x2 : Int32) (x3 : Int32) (h : tpH) (R : Int32 → tpH → Prop) : Prop :=
  hT h o = 14 ∧ (∃ a2, (hR h o 11) = some a2 ∧ hT h a2 = 15 ∧ (vp_in x3 (hL h a2) ∧ (∀ h6, h6 = sI h a2 x3.toNatClampNeg (0 : Int32) → (∃ n, w_Md_makes_13 R n o x1 x2 x3 (1 : Int32) (0 : Int32) h6))))
theorem s_Md_makes_90 {h0 : tpH} {av : List tpV} {R : Int32 → tpH → Prop} {K13 : Nat → Int32 → Int32 → Int32 → Int32 → Int32 → tpH → Prop} (k13 : ∀ (o : Nat) (x1 : Int32) (x2 : Int32) (x3 : Int32) (x4 : Int32) (x5 : Int32) (h : tpH), K13 o x1 x2 x3 x4 x5 h → tpR Md_makes 4 h0 av (tpOi R (fun _ _ => False)) 13 [some (vR (some o)), some (vI x1), some (vI x2), some (vI x3), some (vI x4), some (vI x5), none, none, none] [] h) : ∀ (o : Nat) (x1 : Int32) (x2 : Int32) (x3 : Int32) (x5 : Int32) (x6 : Int32) (x7 : Int32) (t0 : Int32) (h : tpH), w_Md_makes_90 R K13 o x1 x2 x3 x5 x6 x7 t0 h → tpR Md_makes 4 h0 av (tpOi R (fun _ _ => False)) 90 [some (vR (some o)), some (vI x1), some (vI x2), some (vI x3), none, some (vI x5), some (vI x6), some (vI x7), none] [vI t0] h := by
  intro o x1 x2 x3 x5 x6 x7 t0 h hw
  unfold w_Md_makes_90 at hw
  refine tq_istore (ls' := [some (vR (some o)), some (vI x1), some (vI x2), some (vI x3), some (vI t0), some (vI x5), some (vI x6), some (vI x7), none]) dMd_makes_90 (Nat.le_of_ble_eq_true rfl) rfl ?_
  refine tq_iload dMd_makes_92 rfl ?_
  refine tq_ifeq (tgt := 153) dMd_makes_94 (by decide) (fun c1 => ?_) (fun c1 => ?_)
  · have hw := hw.1 c1
    refine tq_inc (k := (1 : Int32)) (ls' := [some (vR (some o)), some (vI x1), some (vI x2), some (vI x3), some (vI t0), some (vI (x5 + (1 : Int32))), some (vI x6), some (vI x7), none]) dMd_makes_153 rfl tni_1 (Nat.le_of_ble_eq_true rfl) rfl ?_
    refine tq_goto (tgt := 13) dMd_makes_156 (by decide) ?_
    refine tpR.fo (ls' := [some (vR (some o)), some (vI x1), some (vI x2), some (vI x3), some (vI t0), some (vI (x5 + (1 : Int32))), none, none, none]) ?_ (And.intro rfl (And.intro rfl (And.intro rfl (And.intro rfl (And.intro rfl (And.intro rfl trivial))))))
    exact k13 _ _ _ _ _ _ _ hw
  · have hw := hw.2 c1
    refine tq_aload_n dMd_makes_97 rfl rfl ?_
    obtain ⟨f2, hw⟩ := hw
    refine te_getr dMd_makes_98 fMd_40 rfl rfl f2 ?_
    refine tq_iload dMd_makes_101 rfl ?_
    refine tq_aload_n dMd_makes_103 rfl rfl ?_
    refine tq_iload_n dMd_makes_104 rfl rfl ?_
    refine tq_iload dMd_makes_105 rfl ?_
    refine te_callV mv_Md_valueIn (ci := 13) (dc := 0) (as := [vI x1, vI x6]) (rest := [vI x7, vR (hR h o 14)]) kMd_226 rfl (Nat.le_of_ble_eq_true rfl) (Nat.le_of_ble_eq_true rfl) rfl rfl rfl f2 (Nat.le_of_ble_eq_true rfl) dMd_makes_107 (s_Md_valueIn hw) (fun _ _ hx => False.elim hx) (tk_i fun v4 h3 hw => ?_)
    obtain ⟨a5, e6, f7, hw⟩ := hw
    obtain ⟨f8, hw⟩ := hw
    refine te_iast dMd_makes_110 e6 f7 f8 (fun h9 e10 => ?_)
    have hw := hw h9 e10
    refine tq_aload_n dMd_makes_111 rfl rfl ?_
    obtain ⟨f11, hw⟩ := hw
    refine te_getr dMd_makes_112 fMd_43 rfl rfl f11 ?_
    refine tq_iload dMd_makes_115 rfl ?_
    refine tq_aload_n dMd_makes_117 rfl rfl ?_
    refine tq_iload_n dMd_makes_118 rfl rfl ?_
    refine tq_aload_n dMd_makes_119 rfl rfl ?_
    refine te_getr dMd_makes_120 fMd_86 rfl rfl f11 ?_
    refine tq_iload dMd_makes_123 rfl ?_
    obtain ⟨a12, e13, f14, hw⟩ := hw
    obtain ⟨f15, hw⟩ := hw
    refine te_iald dMd_makes_125 e13 (Or.inl f14) f15 ?_
    refine te_callV mv_Md_valueIn (ci := 13) (dc := 0) (as := [vI x2, vI (hI h9 a12 x5.toNatClampNeg)]) (rest := [vI x7, vR (hR h9 o 15)]) kMd_226 rfl (Nat.le_of_ble_eq_true rfl) (Nat.le_of_ble_eq_true rfl) rfl rfl rfl f11 (Nat.le_of_ble_eq_true rfl) dMd_makes_126 (s_Md_valueIn hw) (fun _ _ hx => False.elim hx) (tk_i fun v17 h16 hw => ?_)
    obtain ⟨a18, e19, f20, hw⟩ := hw
    obtain ⟨f21, hw⟩ := hw
    refine te_iast dMd_makes_129 e19 f20 f21 (fun h22 e23 => ?_)
    have hw := hw h22 e23
    refine tq_aload_n dMd_makes_130 rfl rfl ?_
    obtain ⟨f24, hw⟩ := hw
    refine te_getr dMd_makes_131 fMd_22 rfl rfl f24 ?_
    refine tq_sipush (v := (12300 : Int32)) dMd_makes_134 tns_12300 ?_
    refine tq_iload dMd_makes_137 rfl ?_
    refine tq_iadd dMd_makes_139 ?_
    refine tq_aload_n dMd_makes_140 rfl rfl ?_
    refine tq_iload_n dMd_makes_141 rfl rfl ?_
    refine tq_aload_n dMd_makes_142 rfl rfl ?_
    refine te_getr dMd_makes_143 fMd_86 rfl rfl f24 ?_
    refine tq_iload dMd_makes_146 rfl ?_
    obtain ⟨a25, e26, f27, hw⟩ := hw
    obtain ⟨f28, hw⟩ := hw
    refine te_iald dMd_makes_148 e26 (Or.inl f27) f28 ?_
    refine te_callV mv_Md_valueIn (ci := 13) (dc := 0) (as := [vI x2, vI (hI h22 a25 x5.toNatClampNeg)]) (rest := [vI ((12300 : Int32) + x6), vR (hR h22 o 7)]) kMd_226 rfl (Nat.le_of_ble_eq_true rfl) (Nat.le_of_ble_eq_true rfl) rfl rfl rfl f24 (Nat.le_of_ble_eq_true rfl) dMd_makes_149 (s_Md_valueIn hw) (fun _ _ hx => False.elim hx) (tk_i fun v30 h29 hw => ?_)
    obtain ⟨a31, e32, f33, hw⟩ := hw
    obtain ⟨f34, hw⟩ := hw
    refine te_iast dMd_makes_152 e32 f33 f34 (fun h35 e36 => ?_)
    have hw := hw h35 e36
    refine tq_inc (k := (1 : Int32)) (ls' := [some (vR (some o)), some (vI x1), some (vI x2), some (vI x3), some (vI t0), some (vI (x5 + (1 : Int32))), some (vI x6), some (vI x7), none]) dMd_makes_153 rfl tni_1 (Nat.le_of_ble_eq_true rfl) rfl ?_
    refine tq_goto (tgt := 13) dMd_makes_156 (by decide) ?_
    refine tpR.fo (ls' := [some (vR (some o)), some (vI x1), some (vI x2), some (vI x3), some (vI t0), some (vI (x5 + (1 : Int32))), none, none, none]) ?_ (And.intro rfl (And.intro rfl (And.intro rfl (And.intro rfl (And.intro rfl (And.intro rfl trivial))))))
    exact k13 _ _ _ _ _ _ _ hw
theorem s_Md_makes_273 {h0 : tpH} {av : List tpV} {R : Int32 → tpH → Prop} {K224 : Nat → Int32 → Int32 → Int32 → tpH → Prop} (k224 : ∀ (o : Nat) (x3 : Int32) (x4 : Int32) (x6 : Int32) (h : tpH), K224 o x3 x4 x6 h → tpR Md_makes 4 h0 av (tpOi R (fun _ _ => False)) 224 [some (vR (some o)), none, none, some (vI x3), some (vI x4), none, some (vI x6), none, none] [] h) : ∀ (o : Nat) (x3 : Int32) (x6 : Int32) (x7 : Int32) (x8 : Int32) (t0 : Int32) (h : tpH), w_Md_makes_273 R K224 o x3 x6 x7 x8 t0 h → tpR Md_makes 4 h0 av (tpOi R (fun _ _ => False)) 273 [some (vR (some o)), none, none, some (vI x3), none, none, some (vI x6), some (vI x7), some (vI x8)] [vI t0] h := by
  intro o x3 x6 x7 x8 t0 h hw
  unfold w_Md_makes_273 at hw
  refine tq_istore (ls' := [some (vR (some o)), none, none, some (vI x3), some (vI t0), none, some (vI x6), some (vI x7), some (vI x8)]) dMd_makes_273 (Nat.le_of_ble_eq_true rfl) rfl ?_
  refine tq_iload dMd_makes_275 rfl ?_
  refine tq_ifeq (tgt := 324) dMd_makes_277 (by decide) (fun c1 => ?_) (fun c1 => ?_)
  · have hw := hw.1 c1
    refine tq_inc (k := (-1 : Int32)) (ls' := [some (vR (some o)), none, none, some (vI x3), some (vI t0), none, some (vI (x6 + (-1 : Int32))), some (vI x7), some (vI x8)]) dMd_makes_324 rfl tni_m1 (Nat.le_of_ble_eq_true rfl) rfl ?_
    refine tq_goto (tgt := 224) dMd_makes_327 (by decide) ?_
    refine tpR.fo (ls' := [some (vR (some o)), none, none, some (vI x3), some (vI t0), none, some (vI (x6 + (-1 : Int32))), none, none]) ?_ (And.intro rfl (And.intro rfl (And.intro rfl (And.intro rfl trivial))))
    exact k224 _ _ _ _ _ hw
  · have hw := hw.2 c1
    refine tq_aload_n dMd_makes_280 rfl rfl ?_
    refine tq_iload dMd_makes_281 rfl ?_
    refine tq_iload dMd_makes_283 rfl ?_
    obtain ⟨f2, hw⟩ := hw
    refine te_callV mv_Md_tellWas (ci := 13) (dc := 2) (as := [vI x8, vI x7]) (rest := []) kMd_307 rfl (Nat.le_of_ble_eq_true rfl) (Nat.le_of_ble_eq_true rfl) rfl rfl rfl f2 (Nat.le_of_ble_eq_true rfl) dMd_makes_285 (s_Md_tellWas hw) (fun _ _ hx => False.elim hx) (tk_v fun h3 hw => ?_)
    refine tq_aload_n dMd_makes_288 rfl rfl ?_
    obtain ⟨f4, hw⟩ := hw
    refine te_getr dMd_makes_289 fMd_40 rfl rfl f4 ?_
    refine tq_iload dMd_makes_292 rfl ?_
    refine tq_aload_n dMd_makes_294 rfl rfl ?_
    refine tq_bipush (v := (41 : Int32)) dMd_makes_295 tnb_41 ?_
    refine tq_iload dMd_makes_297 rfl ?_
    refine te_callV mv_Md_valueIn (ci := 13) (dc := 0) (as := [vI (41 : Int32), vI x7]) (rest := [vI x8, vR (hR h3 o 14)]) kMd_226 rfl (Nat.le_of_ble_eq_true rfl) (Nat.le_of_ble_eq_true rfl) rfl rfl rfl f4 (Nat.le_of_ble_eq_true rfl) dMd_makes_299 (s_Md_valueIn hw) (fun _ _ hx => False.elim hx) (tk_i fun v6 h5 hw => ?_)
    obtain ⟨a7, e8, f9, hw⟩ := hw
    obtain ⟨f10, hw⟩ := hw
    refine te_iast dMd_makes_302 e8 f9 f10 (fun h11 e12 => ?_)
    have hw := hw h11 e12
    refine tq_aload_n dMd_makes_303 rfl rfl ?_
    refine tq_bipush (v := (41 : Int32)) dMd_makes_304 tnb_41 ?_
    refine tq_iload dMd_makes_306 rfl ?_
    obtain ⟨f13, hw⟩ := hw
    refine te_callV mv_Md_unhang (ci := 13) (dc := 2) (as := [vI (41 : Int32), vI x7]) (rest := []) kMd_232 rfl (Nat.le_of_ble_eq_true rfl) (Nat.le_of_ble_eq_true rfl) rfl rfl rfl f13 (Nat.le_of_ble_eq_true rfl) dMd_makes_308 (s_Md_unhang hw) (fun _ _ hx => False.elim hx) (tk_v fun h14 hw => ?_)
    refine tq_aload_n dMd_makes_311 rfl rfl ?_
    obtain ⟨f15, hw⟩ := hw
    refine te_getr dMd_makes_312 fMd_19 rfl rfl f15 ?_
    refine tq_sipush (v := (12300 : Int32)) dMd_makes_315 tns_12300 ?_
    refine tq_iload dMd_makes_318 rfl ?_
    refine tq_iadd dMd_makes_320 ?_
    refine tq_bipush (v := (-2 : Int32)) dMd_makes_321 tnb_m2 ?_
    obtain ⟨a16, e17, f18, hw⟩ := hw
    obtain ⟨f19, hw⟩ := hw
    refine te_iast dMd_makes_323 e17 f18 f19 (fun h20 e21 => ?_)
    have hw := hw h20 e21
    refine tq_inc (k := (-1 : Int32)) (ls' := [some (vR (some o)), none, none, some (vI x3), some (vI t0), none, some (vI (x6 + (-1 : Int32))), some (vI x7), some (vI x8)]) dMd_makes_324 rfl tni_m1 (Nat.le_of_ble_eq_true rfl) rfl ?_
    refine tq_goto (tgt := 224) dMd_makes_327 (by decide) ?_
    refine tpR.fo (ls' := [some (vR (some o)), none, none, some (vI x3), some (vI t0), none, some (vI (x6 + (-1 : Int32))), none, none]) ?_ (And.intro rfl (And.intro rfl (And.intro rfl (And.intro rfl trivial))))
    exact k224 _ _ _ _ _ hw
theorem s_Md_makes_224 {h0 : tpH} {av : List tpV} {R : Int32 → tpH → Prop} : ∀ (n : Nat) (o : Nat) (x3 : Int32) (x4 : Int32) (x6 : Int32) (h : tpH), w_Md_makes_224 R n o x3 x4 x6 h → tpR Md_makes 4 h0 av (tpOi R (fun _ _ => False)) 224 [some (vR (some o)), none, none, some (vI x3), some (vI x4), none, some (vI x6), none, none] [] h := by
  intro n
  induction n with
  | zero => intro o x3 x4 x6 h hw; exact False.elim hw
  | succ n ih =>
    intro o x3 x4 x6 h hw
    change b_Md_makes_224 R (w_Md_makes_224 R n) o x3 x4 x6 h at hw
    unfold b_Md_makes_224 at hw
    refine tq_iload dMd_makes_224 rfl ?_
    refine tq_ifle (tgt := 330) dMd_makes_226 (by decide) (fun c1 => ?_) (fun c1 => ?_)
    · have hw := hw.1 c1
      refine tq_iload dMd_makes_330 rfl ?_
      obtain ⟨f2, hw⟩ := hw
      exact tq_iret rfl (tpB_n f2) dMd_makes_332 hw
    · have hw := hw.2 c1
      refine tq_iload dMd_makes_229 rfl ?_
      refine tq_ifeq (tgt := 330) dMd_makes_231 (by decide) (fun c3 => ?_) (fun c3 => ?_)
      · have hw := hw.1 c3
        refine tq_iload dMd_makes_330 rfl ?_
        obtain ⟨f4, hw⟩ := hw
        exact tq_iret rfl (tpB_n f4) dMd_makes_332 hw
      · have hw := hw.2 c3
        refine tq_aload_n dMd_makes_234 rfl rfl ?_
        obtain ⟨f5, hw⟩ := hw
        refine te_getr dMd_makes_235 fMd_83 rfl rfl f5 ?_
        refine tq_iload dMd_makes_238 rfl ?_
        obtain ⟨a6, e7, f8, hw⟩ := hw
        obtain ⟨f9, hw⟩ := hw
        refine te_iald dMd_makes_240 e7 (Or.inl f8) f9 ?_
        refine tq_istore (ls' := [some (vR (some o)), none, none, some (vI x3), some (vI x4), none, some (vI x6), some (vI (hI h a6 x6.toNatClampNeg)), none]) dMd_makes_241 (Nat.le_of_ble_eq_true rfl) rfl ?_
        refine tq_aload_n dMd_makes_243 rfl rfl ?_
        refine tq_iload dMd_makes_244 rfl ?_
        refine te_callV mv_Md_isKept (ci := 13) (dc := 0) (as := [vI (hI h a6 x6.toNatClampNeg)]) (rest := []) kMd_313 rfl (Nat.le_of_ble_eq_true rfl) (Nat.le_of_ble_eq_true rfl) rfl rfl rfl f5 (Nat.le_of_ble_eq_true rfl) dMd_makes_246 (s_Md_isKept hw) (fun _ _ hx => False.elim hx) (tk_i fun v11 h10 hw => ?_)
        refine tq_ifne (tgt := 324) dMd_makes_249 (by decide) (fun c12 => ?_) (fun c12 => ?_)
        · have hw := hw.1 c12
          refine tq_inc (k := (-1 : Int32)) (ls' := [some (vR (some o)), none, none, some (vI x3), some (vI x4), none, some (vI (x6 + (-1 : Int32))), some (vI (hI h a6 x6.toNatClampNeg)), none]) dMd_makes_324 rfl tni_m1 (Nat.le_of_ble_eq_true rfl) rfl ?_
          refine tq_goto (tgt := 224) dMd_makes_327 (by decide) ?_
          refine tpR.fo (ls' := [some (vR (some o)), none, none, some (vI x3), some (vI x4), none, some (vI (x6 + (-1 : Int32))), none, none]) ?_ (And.intro rfl (And.intro rfl (And.intro rfl (And.intro rfl trivial))))
          exact ih _ _ _ _ _ hw
        · have hw := hw.2 c12
          refine tq_aload_n dMd_makes_252 rfl rfl ?_
          refine tq_iload_n dMd_makes_253 rfl rfl ?_
          refine tq_iconst (v := (3 : Int32)) dMd_makes_254 tni_3 ?_
          refine tq_iload dMd_makes_255 rfl ?_
          obtain ⟨f13, hw⟩ := hw
          refine te_callV mv_Md_newStep (ci := 13) (dc := 0) (as := [vI x3, vI (3 : Int32), vI (hI h a6 x6.toNatClampNeg)]) (rest := []) kMd_298 rfl (Nat.le_of_ble_eq_true rfl) (Nat.le_of_ble_eq_true rfl) rfl rfl rfl f13 (Nat.le_of_ble_eq_true rfl) dMd_makes_257 (s_Md_newStep hw) (fun _ _ hx => False.elim hx) (tk_i fun v15 h14 hw => ?_)
          refine tq_istore (ls' := [some (vR (some o)), none, none, some (vI x3), some (vI x4), none, some (vI x6), some (vI (hI h a6 x6.toNatClampNeg)), some (vI v15)]) dMd_makes_260 (Nat.le_of_ble_eq_true rfl) rfl ?_
          refine tq_iload dMd_makes_262 rfl ?_
          refine tq_iconst (v := (-1 : Int32)) dMd_makes_264 tni_m1 ?_
          refine tq_icmpeq (tgt := 272) dMd_makes_265 (by decide) (fun c16 => ?_) (fun c16 => ?_)
          · have hw := hw.1 c16
            refine tq_iconst (v := (0 : Int32)) dMd_makes_272 tni_0 ?_
            refine tpR.fo (ls' := [some (vR (some o)), none, none, some (vI x3), none, none, some (vI x6), some (vI (hI h a6 x6.toNatClampNeg)), some (vI v15)]) ?_ (And.intro rfl (And.intro rfl (And.intro rfl (And.intro rfl (And.intro rfl trivial)))))
            exact s_Md_makes_273 ih _ _ _ _ _ _ _ hw
          · have hw := hw.2 c16
            refine tq_iconst (v := (1 : Int32)) dMd_makes_268 tni_1 ?_
            refine tq_goto (tgt := 273) dMd_makes_269 (by decide) ?_
            refine tpR.fo (ls' := [some (vR (some o)), none, none, some (vI x3), none, none, some (vI x6), some (vI (hI h a6 x6.toNatClampNeg)), some (vI v15)]) ?_ (And.intro rfl (And.intro rfl (And.intro rfl (And.intro rfl (And.intro rfl trivial)))))
            exact s_Md_makes_273 ih _ _ _ _ _ _ _ hw
theorem s_Md_makes_197 {h0 : tpH} {av : List tpV} {R : Int32 → tpH → Prop} : ∀ (o : Nat) (x3 : Int32) (x4 : Int32) (h : tpH), w_Md_makes_197 R o x3 x4 h → tpR Md_makes 4 h0 av (tpOi R (fun _ _ => False)) 197 [some (vR (some o)), none, none, some (vI x3), some (vI x4), none, none, none, none] [] h := by
  intro o x3 x4 h hw
  unfold w_Md_makes_197 at hw
  refine tq_iload dMd_makes_197 rfl ?_
  refine tq_ifeq (tgt := 215) dMd_makes_199 (by decide) (fun c1 => ?_) (fun c1 => ?_)
  · have hw := hw.1 c1
    refine tq_iconst (v := (0 : Int32)) dMd_makes_215 tni_0 ?_
    refine tq_istore (ls' := [some (vR (some o)), none, none, some (vI x3), some (vI x4), some (vI (0 : Int32)), none, none, none]) dMd_makes_216 (Nat.le_of_ble_eq_true rfl) rfl ?_
    refine tq_iload dMd_makes_218 rfl ?_
    refine tq_iconst (v := (1 : Int32)) dMd_makes_220 tni_1 ?_
    refine tq_isub dMd_makes_221 ?_
    refine tq_istore (ls' := [some (vR (some o)), none, none, some (vI x3), some (vI x4), some (vI (0 : Int32)), some (vI ((0 : Int32) - (1 : Int32))), none, none]) dMd_makes_222 (Nat.le_of_ble_eq_true rfl) rfl ?_
    refine tpR.fo (ls' := [some (vR (some o)), none, none, some (vI x3), some (vI x4), none, some (vI ((0 : Int32) - (1 : Int32))), none, none]) ?_ (And.intro rfl (And.intro rfl (And.intro rfl (And.intro rfl trivial))))
    obtain ⟨n, hw⟩ := hw
    exact s_Md_makes_224 n _ _ _ _ _ hw
  · have hw := hw.2 c1
    refine tq_aload_n dMd_makes_202 rfl rfl ?_
    refine tq_bipush (v := (41 : Int32)) dMd_makes_203 tnb_41 ?_
    refine tq_aload_n dMd_makes_205 rfl rfl ?_
    obtain ⟨f2, hw⟩ := hw
    refine te_getr dMd_makes_206 fMd_83 rfl rfl f2 ?_
    refine te_callV mv_Md_layOrder (ci := 13) (dc := 1) (as := [vI (41 : Int32), vR (hR h o 32)]) (rest := []) kMd_208 rfl (Nat.le_of_ble_eq_true rfl) (Nat.le_of_ble_eq_true rfl) rfl rfl rfl f2 (Nat.le_of_ble_eq_true rfl) dMd_makes_209 (s_Md_layOrder hw) (fun _ _ hx => False.elim hx) (tk_i fun v4 h3 hw => ?_)
    refine tq_goto (tgt := 216) dMd_makes_212 (by decide) ?_
    refine tq_istore (ls' := [some (vR (some o)), none, none, some (vI x3), some (vI x4), some (vI v4), none, none, none]) dMd_makes_216 (Nat.le_of_ble_eq_true rfl) rfl ?_
    refine tq_iload dMd_makes_218 rfl ?_
    refine tq_iconst (v := (1 : Int32)) dMd_makes_220 tni_1 ?_
    refine tq_isub dMd_makes_221 ?_
    refine tq_istore (ls' := [some (vR (some o)), none, none, some (vI x3), some (vI x4), some (vI v4), some (vI (v4 - (1 : Int32))), none, none]) dMd_makes_222 (Nat.le_of_ble_eq_true rfl) rfl ?_
    refine tpR.fo (ls' := [some (vR (some o)), none, none, some (vI x3), some (vI x4), none, some (vI (v4 - (1 : Int32))), none, none]) ?_ (And.intro rfl (And.intro rfl (And.intro rfl (And.intro rfl trivial))))
    obtain ⟨n, hw⟩ := hw
    exact s_Md_makes_224 n _ _ _ _ _ hw
theorem s_Md_makes_162 {h0 : tpH} {av : List tpV} {R : Int32 → tpH → Prop} : ∀ (n : Nat) (o : Nat) (x2 : Int32) (x3 : Int32) (x4 : Int32) (x5 : Int32) (h : tpH), w_Md_makes_162 R n o x2 x3 x4 x5 h → tpR Md_makes 4 h0 av (tpOi R (fun _ _ => False)) 162 [some (vR (some o)), none, some (vI x2), some (vI x3), some (vI x4), some (vI x5), none, none, none] [] h := by
  intro n
  induction n with
  | zero => intro o x2 x3 x4 x5 h hw; exact False.elim hw
  | succ n ih =>
    intro o x2 x3 x4 x5 h hw
    change b_Md_makes_162 R (w_Md_makes_162 R n) o x2 x3 x4 x5 h at hw
    unfold b_Md_makes_162 at hw
    refine tq_iload dMd_makes_162 rfl ?_
    refine tq_aload_n dMd_makes_164 rfl rfl ?_
    obtain ⟨f1, hw⟩ := hw
    refine te_geti dMd_makes_165 fMd_249 rfl rfl f1 ?_
    refine tq_icmpge (tgt := 197) dMd_makes_168 (by decide) (fun c2 => ?_) (fun c2 => ?_)
    · have hw := hw.1 c2
      refine tpR.fo (ls' := [some (vR (some o)), none, none, some (vI x3), some (vI x4), none, none, none, none]) ?_ (And.intro rfl (And.intro rfl (And.intro rfl trivial)))
      exact s_Md_makes_197 _ _ _ _ hw
    · have hw := hw.2 c2
      refine tq_iload dMd_makes_171 rfl ?_
      refine tq_ifeq (tgt := 197) dMd_makes_173 (by decide) (fun c3 => ?_) (fun c3 => ?_)
      · have hw := hw.1 c3
        refine tpR.fo (ls' := [some (vR (some o)), none, none, some (vI x3), some (vI x4), none, none, none, none]) ?_ (And.intro rfl (And.intro rfl (And.intro rfl trivial)))
        exact s_Md_makes_197 _ _ _ _ hw
      · have hw := hw.2 c3
        refine tq_aload_n dMd_makes_176 rfl rfl ?_
        refine tq_iload_n dMd_makes_177 rfl rfl ?_
        refine tq_iload_n dMd_makes_178 rfl rfl ?_
        refine tq_aload_n dMd_makes_179 rfl rfl ?_
        refine te_getr dMd_makes_180 fMd_86 rfl rfl f1 ?_
        refine tq_iload dMd_makes_183 rfl ?_
        obtain ⟨a4, e5, f6, hw⟩ := hw
        obtain ⟨f7, hw⟩ := hw
        refine te_iald dMd_makes_185 e5 (Or.inl f6) f7 ?_
        refine te_callV mv_Md_places (ci := 13) (dc := 3) (as := [vI x2, vI x3, vI (hI h a4 x5.toNatClampNeg)]) (rest := []) kMd_310 rfl (Nat.le_of_ble_eq_true rfl) (Nat.le_of_ble_eq_true rfl) rfl rfl rfl f1 (Nat.le_of_ble_eq_true rfl) dMd_makes_186 (s_Md_places hw) (fun _ _ hx => False.elim hx) (tk_i fun v9 h8 hw => ?_)
        refine tq_istore (ls' := [some (vR (some o)), none, some (vI x2), some (vI x3), some (vI v9), some (vI x5), none, none, none]) dMd_makes_189 (Nat.le_of_ble_eq_true rfl) rfl ?_
        refine tq_inc (k := (1 : Int32)) (ls' := [some (vR (some o)), none, some (vI x2), some (vI x3), some (vI v9), some (vI (x5 + (1 : Int32))), none, none, none]) dMd_makes_191 rfl tni_1 (Nat.le_of_ble_eq_true rfl) rfl ?_
        refine tq_goto (tgt := 162) dMd_makes_194 (by decide) ?_
        refine tpR.fo (ls' := [some (vR (some o)), none, some (vI x2), some (vI x3), some (vI v9), some (vI (x5 + (1 : Int32))), none, none, none]) ?_ (And.intro rfl (And.intro rfl (And.intro rfl (And.intro rfl (And.intro rfl trivial)))))
        exact ih _ _ _ _ _ _ hw
theorem s_Md_makes_13 {h0 : tpH} {av : List tpV} {R : Int32 → tpH → Prop} : ∀ (n : Nat) (o : Nat) (x1 : Int32) (x2 : Int32) (x3 : Int32) (x4 : Int32) (x5 : Int32) (h : tpH), w_Md_makes_13 R n o x1 x2 x3 x4 x5 h → tpR Md_makes 4 h0 av (tpOi R (fun _ _ => False)) 13 [some (vR (some o)), some (vI x1), some (vI x2), some (vI x3), some (vI x4), some (vI x5), none, none, none] [] h := by
  intro n
  induction n with
  | zero => intro o x1 x2 x3 x4 x5 h hw; exact False.elim hw
  | succ n ih =>
    intro o x1 x2 x3 x4 x5 h hw
    change b_Md_makes_13 R (w_Md_makes_13 R n) o x1 x2 x3 x4 x5 h at hw
    unfold b_Md_makes_13 at hw
    refine tq_iload dMd_makes_13 rfl ?_
    refine tq_aload_n dMd_makes_15 rfl rfl ?_
    obtain ⟨f1, hw⟩ := hw
    refine te_geti dMd_makes_16 fMd_249 rfl rfl f1 ?_
    refine tq_icmpge (tgt := 159) dMd_makes_19 (by decide) (fun c2 => ?_) (fun c2 => ?_)
    · have hw := hw.1 c2
      refine tq_iconst (v := (1 : Int32)) dMd_makes_159 tni_1 ?_
      refine tq_istore (ls' := [some (vR (some o)), some (vI x1), some (vI x2), some (vI x3), some (vI x4), some (vI (1 : Int32)), none, none, none]) dMd_makes_160 (Nat.le_of_ble_eq_true rfl) rfl ?_
      refine tpR.fo (ls' := [some (vR (some o)), none, some (vI x2), some (vI x3), some (vI x4), some (vI (1 : Int32)), none, none, none]) ?_ (And.intro rfl (And.intro rfl (And.intro rfl (And.intro rfl (And.intro rfl trivial)))))
      obtain ⟨n, hw⟩ := hw
      exact s_Md_makes_162 n _ _ _ _ _ _ hw
    · have hw := hw.2 c2
      refine tq_iload dMd_makes_22 rfl ?_
      refine tq_ifeq (tgt := 159) dMd_makes_24 (by decide) (fun c3 => ?_) (fun c3 => ?_)
      · have hw := hw.1 c3
        refine tq_iconst (v := (1 : Int32)) dMd_makes_159 tni_1 ?_
        refine tq_istore (ls' := [some (vR (some o)), some (vI x1), some (vI x2), some (vI x3), some (vI x4), some (vI (1 : Int32)), none, none, none]) dMd_makes_160 (Nat.le_of_ble_eq_true rfl) rfl ?_
        refine tpR.fo (ls' := [some (vR (some o)), none, some (vI x2), some (vI x3), some (vI x4), some (vI (1 : Int32)), none, none, none]) ?_ (And.intro rfl (And.intro rfl (And.intro rfl (And.intro rfl (And.intro rfl trivial)))))
        obtain ⟨n, hw⟩ := hw
        exact s_Md_makes_162 n _ _ _ _ _ _ hw
      · have hw := hw.2 c3
        refine tq_aload_n dMd_makes_27 rfl rfl ?_
        refine te_getr dMd_makes_28 fMd_109 rfl rfl f1 ?_
        refine tq_aload_n dMd_makes_31 rfl rfl ?_
        refine te_getr dMd_makes_32 fMd_86 rfl rfl f1 ?_
        refine tq_iload dMd_makes_35 rfl ?_
        obtain ⟨a4, e5, f6, hw⟩ := hw
        obtain ⟨f7, hw⟩ := hw
        refine te_iald dMd_makes_37 e5 (Or.inl f6) f7 ?_
        obtain ⟨a8, e9, f10, hw⟩ := hw
        obtain ⟨f11, hw⟩ := hw
        refine te_iald dMd_makes_38 e9 (Or.inl f10) f11 ?_
        refine tq_istore (ls' := [some (vR (some o)), some (vI x1), some (vI x2), some (vI x3), some (vI x4), some (vI x5), some (vI (hI h a8 (hI h a4 x5.toNatClampNeg).toNatClampNeg)), none, none]) dMd_makes_39 (Nat.le_of_ble_eq_true rfl) rfl ?_
        refine tq_iload dMd_makes_41 rfl ?_
        refine tq_iconst (v := (-1 : Int32)) dMd_makes_43 tni_m1 ?_
        refine tq_icmpeq (tgt := 153) dMd_makes_44 (by decide) (fun c12 => ?_) (fun c12 => ?_)
        · have hw := hw.1 c12
          refine tq_inc (k := (1 : Int32)) (ls' := [some (vR (some o)), some (vI x1), some (vI x2), some (vI x3), some (vI x4), some (vI (x5 + (1 : Int32))), some (vI (hI h a8 (hI h a4 x5.toNatClampNeg).toNatClampNeg)), none, none]) dMd_makes_153 rfl tni_1 (Nat.le_of_ble_eq_true rfl) rfl ?_
          refine tq_goto (tgt := 13) dMd_makes_156 (by decide) ?_
          refine tpR.fo (ls' := [some (vR (some o)), some (vI x1), some (vI x2), some (vI x3), some (vI x4), some (vI (x5 + (1 : Int32))), none, none, none]) ?_ (And.intro rfl (And.intro rfl (And.intro rfl (And.intro rfl (And.intro rfl (And.intro rfl trivial))))))
          exact ih _ _ _ _ _ _ _ hw
        · have hw := hw.2 c12
          refine tq_aload_n dMd_makes_47 rfl rfl ?_
          refine tq_iload_n dMd_makes_48 rfl rfl ?_
          refine tq_iload dMd_makes_49 rfl ?_
          refine te_callV mv_Md_valueIn (ci := 13) (dc := 0) (as := [vI x1, vI (hI h a8 (hI h a4 x5.toNatClampNeg).toNatClampNeg)]) (rest := []) kMd_226 rfl (Nat.le_of_ble_eq_true rfl) (Nat.le_of_ble_eq_true rfl) rfl rfl rfl f1 (Nat.le_of_ble_eq_true rfl) dMd_makes_51 (s_Md_valueIn hw) (fun _ _ hx => False.elim hx) (tk_i fun v14 h13 hw => ?_)
          refine tq_aload_n dMd_makes_54 rfl rfl ?_
          refine tq_iload_n dMd_makes_55 rfl rfl ?_
          refine tq_aload_n dMd_makes_56 rfl rfl ?_
          obtain ⟨f15, hw⟩ := hw
          refine te_getr dMd_makes_57 fMd_86 rfl rfl f15 ?_
          refine tq_iload dMd_makes_60 rfl ?_
          obtain ⟨a16, e17, f18, hw⟩ := hw
          obtain ⟨f19, hw⟩ := hw
          refine te_iald dMd_makes_62 e17 (Or.inl f18) f19 ?_
          refine te_callV mv_Md_valueIn (ci := 13) (dc := 0) (as := [vI x2, vI (hI h13 a16 x5.toNatClampNeg)]) (rest := [vI v14]) kMd_226 rfl (Nat.le_of_ble_eq_true rfl) (Nat.le_of_ble_eq_true rfl) rfl rfl rfl f15 (Nat.le_of_ble_eq_true rfl) dMd_makes_63 (s_Md_valueIn hw) (fun _ _ hx => False.elim hx) (tk_i fun v21 h20 hw => ?_)
          refine tq_icmpeq (tgt := 153) dMd_makes_66 (by decide) (fun c22 => ?_) (fun c22 => ?_)
          · have hw := hw.1 c22
            refine tq_inc (k := (1 : Int32)) (ls' := [some (vR (some o)), some (vI x1), some (vI x2), some (vI x3), some (vI x4), some (vI (x5 + (1 : Int32))), some (vI (hI h a8 (hI h a4 x5.toNatClampNeg).toNatClampNeg)), none, none]) dMd_makes_153 rfl tni_1 (Nat.le_of_ble_eq_true rfl) rfl ?_
            refine tq_goto (tgt := 13) dMd_makes_156 (by decide) ?_
            refine tpR.fo (ls' := [some (vR (some o)), some (vI x1), some (vI x2), some (vI x3), some (vI x4), some (vI (x5 + (1 : Int32))), none, none, none]) ?_ (And.intro rfl (And.intro rfl (And.intro rfl (And.intro rfl (And.intro rfl (And.intro rfl trivial))))))
            exact ih _ _ _ _ _ _ _ hw
          · have hw := hw.2 c22
            refine tq_aload_n dMd_makes_69 rfl rfl ?_
            refine tq_iload_n dMd_makes_70 rfl rfl ?_
            refine tq_iconst (v := (0 : Int32)) dMd_makes_71 tni_0 ?_
            refine tq_iload dMd_makes_72 rfl ?_
            obtain ⟨f23, hw⟩ := hw
            refine te_callV mv_Md_newStep (ci := 13) (dc := 0) (as := [vI x3, vI (0 : Int32), vI (hI h a8 (hI h a4 x5.toNatClampNeg).toNatClampNeg)]) (rest := []) kMd_298 rfl (Nat.le_of_ble_eq_true rfl) (Nat.le_of_ble_eq_true rfl) rfl rfl rfl f23 (Nat.le_of_ble_eq_true rfl) dMd_makes_74 (s_Md_newStep hw) (fun _ _ hx => False.elim hx) (tk_i fun v25 h24 hw => ?_)
            refine tq_istore (ls' := [some (vR (some o)), some (vI x1), some (vI x2), some (vI x3), some (vI x4), some (vI x5), some (vI (hI h a8 (hI h a4 x5.toNatClampNeg).toNatClampNeg)), some (vI v25), none]) dMd_makes_77 (Nat.le_of_ble_eq_true rfl) rfl ?_
            refine tq_iload dMd_makes_79 rfl ?_
            refine tq_iconst (v := (-1 : Int32)) dMd_makes_81 tni_m1 ?_
            refine tq_icmpeq (tgt := 89) dMd_makes_82 (by decide) (fun c26 => ?_) (fun c26 => ?_)
            · have hw := hw.1 c26
              refine tq_iconst (v := (0 : Int32)) dMd_makes_89 tni_0 ?_
              refine tpR.fo (ls' := [some (vR (some o)), some (vI x1), some (vI x2), some (vI x3), none, some (vI x5), some (vI (hI h a8 (hI h a4 x5.toNatClampNeg).toNatClampNeg)), some (vI v25), none]) ?_ (And.intro rfl (And.intro rfl (And.intro rfl (And.intro rfl (And.intro rfl (And.intro rfl (And.intro rfl trivial)))))))
              exact s_Md_makes_90 ih _ _ _ _ _ _ _ _ _ hw
            · have hw := hw.2 c26
              refine tq_iconst (v := (1 : Int32)) dMd_makes_85 tni_1 ?_
              refine tq_goto (tgt := 90) dMd_makes_86 (by decide) ?_
              refine tpR.fo (ls' := [some (vR (some o)), some (vI x1), some (vI x2), some (vI x3), none, some (vI x5), some (vI (hI h a8 (hI h a4 x5.toNatClampNeg).toNatClampNeg)), some (vI v25), none]) ?_ (And.intro rfl (And.intro rfl (And.intro rfl (And.intro rfl (And.intro rfl (And.intro rfl (And.intro rfl trivial)))))))
              exact s_Md_makes_90 ih _ _ _ _ _ _ _ _ _ hw
theorem s_Md_makes {o : Nat} {x1 : Int32} {x2 : Int32} {x3 : Int32} {h : tpH} {R : Int32 → tpH → Prop} (hw : w_Md_makes o x1 x2 x3 h R) : tpC Md_makes 4 [vR (some o), vI x1, vI x2, vI x3] h (tpOi R (fun _ _ => False)) := by
  refine tpC_of mv_Md_makes.2.2.2.1 rfl rfl (Nat.le_of_ble_eq_true rfl) ?_
  show tpR Md_makes 4 h _ _ 0 [some (vR (some o)), some (vI x1), some (vI x2), some (vI x3), none, none, none, none, none] [] h
  unfold w_Md_makes at hw
  refine tq_iconst (v := (1 : Int32)) dMd_makes_0 tni_1 ?_
  refine tq_istore (ls' := [some (vR (some o)), some (vI x1), some (vI x2), some (vI x3), some (vI (1 : Int32)), none, none, none, none]) dMd_makes_1 (Nat.le_of_ble_eq_true rfl) rfl ?_
  refine tq_aload_n dMd_makes_3 rfl rfl ?_
  obtain ⟨f1, hw⟩ := hw
  refine te_getr dMd_makes_4 fMd_31 rfl rfl f1 ?_
  refine tq_iload_n dMd_makes_7 rfl rfl ?_
  refine tq_iconst (v := (0 : Int32)) dMd_makes_8 tni_0 ?_
  obtain ⟨a2, e3, f4, hw⟩ := hw
  obtain ⟨f5, hw⟩ := hw
  refine te_iast dMd_makes_9 e3 f4 f5 (fun h6 e7 => ?_)
  have hw := hw h6 e7
  refine tq_iconst (v := (0 : Int32)) dMd_makes_10 tni_0 ?_
  refine tq_istore (ls' := [some (vR (some o)), some (vI x1), some (vI x2), some (vI x3), some (vI (1 : Int32)), some (vI (0 : Int32)), none, none, none]) dMd_makes_11 (Nat.le_of_ble_eq_true rfl) rfl ?_
  refine tpR.fo (ls' := [some (vR (some o)), some (vI x1), some (vI x2), some (vI x3), some (vI (1 : Int32)), some (vI (0 : Int32)), none, none, none]) ?_ (And.intro rfl (And.intro rfl (And.intro rfl (And.intro rfl (And.intro rfl (And.intro rfl trivial))))))
  obtain ⟨n, hw⟩ := hw
  exact s_Md_makes_13 n _ _ _ _ _ _ _ hw
