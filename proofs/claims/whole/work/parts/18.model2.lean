/-! TModel.set -/
theorem dMd_set_0 : decode (mB Md_set) 0 = .ok (.aload_n 0, 1) := by decide +kernel
theorem dMd_set_1 : decode (mB Md_set) 1 = .ok (.aload_n 0, 1) := by decide +kernel
theorem dMd_set_2 : decode (mB Md_set) 2 = .ok (.bipush 40, 2) := by decide +kernel
theorem dMd_set_4 : decode (mB Md_set) 4 = .ok (.iload_n 1, 1) := by decide +kernel
theorem dMd_set_5 : decode (mB Md_set) 5 = .ok (.invokevirtual 212, 3) := by decide +kernel
theorem dMd_set_8 : decode (mB Md_set) 8 = .ok (.ifCond .ne 7, 3) := by decide +kernel
theorem dMd_set_11 : decode (mB Md_set) 11 = .ok (.iconst 1, 1) := by decide +kernel
theorem dMd_set_12 : decode (mB Md_set) 12 = .ok (.goto 18, 3) := by decide +kernel
theorem dMd_set_15 : decode (mB Md_set) 15 = .ok (.iload_n 2, 1) := by decide +kernel
theorem dMd_set_16 : decode (mB Md_set) 16 = .ok (.iconst 0, 1) := by decide +kernel
theorem dMd_set_17 : decode (mB Md_set) 17 = .ok (.bipush 99, 2) := by decide +kernel
theorem dMd_set_19 : decode (mB Md_set) 19 = .ok (.invokestatic 158, 3) := by decide +kernel
theorem dMd_set_22 : decode (mB Md_set) 22 = .ok (.ifCond .ne 7, 3) := by decide +kernel
theorem dMd_set_25 : decode (mB Md_set) 25 = .ok (.iconst 2, 1) := by decide +kernel
theorem dMd_set_26 : decode (mB Md_set) 26 = .ok (.goto 4, 3) := by decide +kernel
theorem dMd_set_29 : decode (mB Md_set) 29 = .ok (.iconst 0, 1) := by decide +kernel
theorem dMd_set_30 : decode (mB Md_set) 30 = .ok (.putfield 151, 3) := by decide +kernel
theorem dMd_set_33 : decode (mB Md_set) 33 = .ok (.aload_n 0, 1) := by decide +kernel
theorem dMd_set_34 : decode (mB Md_set) 34 = .ok (.getfield 151, 3) := by decide +kernel
theorem dMd_set_37 : decode (mB Md_set) 37 = .ok (.ifCond .le 5, 3) := by decide +kernel
theorem dMd_set_40 : decode (mB Md_set) 40 = .ok (.iconst 0, 1) := by decide +kernel
theorem dMd_set_41 : decode (mB Md_set) 41 = .ok (.ireturn, 1) := by decide +kernel
theorem dMd_set_42 : decode (mB Md_set) 42 = .ok (.aload_n 0, 1) := by decide +kernel
theorem dMd_set_43 : decode (mB Md_set) 43 = .ok (.bipush 40, 2) := by decide +kernel
theorem dMd_set_45 : decode (mB Md_set) 45 = .ok (.iload_n 1, 1) := by decide +kernel
theorem dMd_set_46 : decode (mB Md_set) 46 = .ok (.invokevirtual 226, 3) := by decide +kernel
theorem dMd_set_49 : decode (mB Md_set) 49 = .ok (.istore_n 3, 1) := by decide +kernel
theorem dMd_set_50 : decode (mB Md_set) 50 = .ok (.aload_n 0, 1) := by decide +kernel
theorem dMd_set_51 : decode (mB Md_set) 51 = .ok (.getfield 22, 3) := by decide +kernel
theorem dMd_set_54 : decode (mB Md_set) 54 = .ok (.sipush 12000, 3) := by decide +kernel
theorem dMd_set_57 : decode (mB Md_set) 57 = .ok (.iload_n 1, 1) := by decide +kernel
theorem dMd_set_58 : decode (mB Md_set) 58 = .ok (.iadd, 1) := by decide +kernel
theorem dMd_set_59 : decode (mB Md_set) 59 = .ok (.iload_n 2, 1) := by decide +kernel
theorem dMd_set_60 : decode (mB Md_set) 60 = .ok (.iastore, 1) := by decide +kernel
theorem dMd_set_61 : decode (mB Md_set) 61 = .ok (.iload_n 3, 1) := by decide +kernel
theorem dMd_set_62 : decode (mB Md_set) 62 = .ok (.ireturn, 1) := by decide +kernel
def w_Md_set_30 (R : Int32 → tpH → Prop) (o : Nat) (x1 : Int32) (x2 : Int32) (t0 : Int32) (t1 : Option Nat) (h : tpH) : Prop :=
  ∃ a1, t1 = some a1 ∧ hT h a1 = 14 ∧ (∀ h4, h4 = sI h a1 31 t0 → (hT h4 o = 14 ∧ (((hI h4 o 31) ≤ 0 → (w_Md_valueIn o (40 : Int32) x1 h4 (fun v9 h8 => hT h8 o = 14 ∧ (∃ a11, (hR h8 o 7) = some a11 ∧ hT h8 a11 = 15 ∧ (vp_in ((12000 : Int32) + x1) (hL h8 a11) ∧ (∀ h15, h15 = sI h8 a11 ((12000 : Int32) + x1).toNatClampNeg x2 → (R v9 h15))))))) ∧ (¬ (hI h4 o 31) ≤ 0 → (R (0 : Int32) h4)))))
def w_Md_set (o : Nat) (x1 : Int32) (x2 : Int32) (h : tpH) (R : Int32 → tpH → Prop) : Prop :=
  hT h o = 14 ∧ (w_Md_has o (40 : Int32) x1 h (fun v3 h2 => (¬ v3 = 0 → (w_Md_in x2 (0 : Int32) (99 : Int32) h2 (fun v6 h5 => (¬ v6 = 0 → (w_Md_set_30 R o x1 x2 (0 : Int32) (some o) h5)) ∧ (v6 = 0 → (w_Md_set_30 R o x1 x2 (2 : Int32) (some o) h5))))) ∧ (v3 = 0 → (w_Md_set_30 R o x1 x2 (1 : Int32) (some o) h2))))
theorem s_Md_set_30 {h0 : tpH} {av : List tpV} {R : Int32 → tpH → Prop} : ∀ (o : Nat) (x1 : Int32) (x2 : Int32) (t0 : Int32) (t1 : Option Nat) (h : tpH), w_Md_set_30 R o x1 x2 t0 t1 h → tpR Md_set 3 h0 av (tpOi R (fun _ _ => False)) 30 [some (vR (some o)), some (vI x1), some (vI x2), none] [vI t0, vR t1] h := by
  intro o x1 x2 t0 t1 h hw
  unfold w_Md_set_30 at hw
  obtain ⟨a1, e2, f3, hw⟩ := hw
  refine te_puti dMd_set_30 pMd_151 rfl rfl e2 f3 ⟨rfl, rfl⟩ (fun h4 e5 => ?_)
  have hw := hw h4 e5
  refine tq_aload_n dMd_set_33 rfl rfl ?_
  obtain ⟨f6, hw⟩ := hw
  refine te_geti dMd_set_34 fMd_151 rfl rfl f6 ?_
  refine tq_ifle (tgt := 42) dMd_set_37 (by decide) (fun c7 => ?_) (fun c7 => ?_)
  · have hw := hw.1 c7
    refine tq_aload_n dMd_set_42 rfl rfl ?_
    refine tq_bipush (v := (40 : Int32)) dMd_set_43 tnb_40 ?_
    refine tq_iload_n dMd_set_45 rfl rfl ?_
    refine te_callV mv_Md_valueIn (ci := 13) (dc := 0) (as := [vI (40 : Int32), vI x1]) (rest := []) kMd_226 rfl (Nat.le_of_ble_eq_true rfl) (Nat.le_of_ble_eq_true rfl) rfl rfl rfl f6 (Nat.le_of_ble_eq_true rfl) dMd_set_46 (s_Md_valueIn hw) (fun _ _ hx => False.elim hx) (tk_i fun v9 h8 hw => ?_)
    refine tq_istore_n (ls' := [some (vR (some o)), some (vI x1), some (vI x2), some (vI v9)]) dMd_set_49 rfl (Nat.le_of_ble_eq_true rfl) rfl ?_
    refine tq_aload_n dMd_set_50 rfl rfl ?_
    obtain ⟨f10, hw⟩ := hw
    refine te_getr dMd_set_51 fMd_22 rfl rfl f10 ?_
    refine tq_sipush (v := (12000 : Int32)) dMd_set_54 tns_12000 ?_
    refine tq_iload_n dMd_set_57 rfl rfl ?_
    refine tq_iadd dMd_set_58 ?_
    refine tq_iload_n dMd_set_59 rfl rfl ?_
    obtain ⟨a11, e12, f13, hw⟩ := hw
    obtain ⟨f14, hw⟩ := hw
    refine te_iast dMd_set_60 e12 f13 f14 (fun h15 e16 => ?_)
    have hw := hw h15 e16
    refine tq_iload_n dMd_set_61 rfl rfl ?_
    exact tq_iret rfl rfl dMd_set_62 hw
  · have hw := hw.2 c7
    refine tq_iconst (v := (0 : Int32)) dMd_set_40 tni_0 ?_
    exact tq_iret rfl rfl dMd_set_41 hw
theorem s_Md_set {o : Nat} {x1 : Int32} {x2 : Int32} {h : tpH} {R : Int32 → tpH → Prop} (hw : w_Md_set o x1 x2 h R) : tpC Md_set 3 [vR (some o), vI x1, vI x2] h (tpOi R (fun _ _ => False)) := by
  refine tpC_of mv_Md_set.2.2.2.1 rfl rfl (Nat.le_of_ble_eq_true rfl) ?_
  show tpR Md_set 3 h _ _ 0 [some (vR (some o)), some (vI x1), some (vI x2), none] [] h
  unfold w_Md_set at hw
  refine tq_aload_n dMd_set_0 rfl rfl ?_
  refine tq_aload_n dMd_set_1 rfl rfl ?_
  refine tq_bipush (v := (40 : Int32)) dMd_set_2 tnb_40 ?_
  refine tq_iload_n dMd_set_4 rfl rfl ?_
  obtain ⟨f1, hw⟩ := hw
  refine te_callV mv_Md_has (ci := 13) (dc := 2) (as := [vI (40 : Int32), vI x1]) (rest := [vR (some o)]) kMd_212 rfl (Nat.le_of_ble_eq_true rfl) (Nat.le_of_ble_eq_true rfl) rfl rfl rfl f1 (Nat.le_of_ble_eq_true rfl) dMd_set_5 (s_Md_has hw) (fun _ _ hx => False.elim hx) (tk_i fun v3 h2 hw => ?_)
  refine tq_ifne (tgt := 15) dMd_set_8 (by decide) (fun c4 => ?_) (fun c4 => ?_)
  · have hw := hw.1 c4
    refine tq_iload_n dMd_set_15 rfl rfl ?_
    refine tq_iconst (v := (0 : Int32)) dMd_set_16 tni_0 ?_
    refine tq_bipush (v := (99 : Int32)) dMd_set_17 tnb_99 ?_
    refine tq_callS ms_Md_in (dc := 0) (as := [vI x2, vI (0 : Int32), vI (99 : Int32)]) (rest := [vR (some o)]) kMd_158 (Nat.le_of_ble_eq_true rfl) (Nat.le_of_ble_eq_true rfl) rfl rfl (Nat.le_of_ble_eq_true rfl) dMd_set_19 (s_Md_in hw) (fun _ _ hx => False.elim hx) (tk_i fun v6 h5 hw => ?_)
    refine tq_ifne (tgt := 29) dMd_set_22 (by decide) (fun c7 => ?_) (fun c7 => ?_)
    · have hw := hw.1 c7
      refine tq_iconst (v := (0 : Int32)) dMd_set_29 tni_0 ?_
      refine tpR.fo (ls' := [some (vR (some o)), some (vI x1), some (vI x2), none]) ?_ (And.intro rfl (And.intro rfl (And.intro rfl trivial)))
      exact s_Md_set_30 _ _ _ _ _ _ hw
    · have hw := hw.2 c7
      refine tq_iconst (v := (2 : Int32)) dMd_set_25 tni_2 ?_
      refine tq_goto (tgt := 30) dMd_set_26 (by decide) ?_
      refine tpR.fo (ls' := [some (vR (some o)), some (vI x1), some (vI x2), none]) ?_ (And.intro rfl (And.intro rfl (And.intro rfl trivial)))
      exact s_Md_set_30 _ _ _ _ _ _ hw
  · have hw := hw.2 c4
    refine tq_iconst (v := (1 : Int32)) dMd_set_11 tni_1 ?_
    refine tq_goto (tgt := 30) dMd_set_12 (by decide) ?_
    refine tpR.fo (ls' := [some (vR (some o)), some (vI x1), some (vI x2), none]) ?_ (And.intro rfl (And.intro rfl (And.intro rfl trivial)))
    exact s_Md_set_30 _ _ _ _ _ _ hw
/-! TModel.move -/
theorem dMd_move_0 : decode (mB Md_move) 0 = .ok (.aload_n 0, 1) := by decide +kernel
theorem dMd_move_1 : decode (mB Md_move) 1 = .ok (.aload_n 0, 1) := by decide +kernel
theorem dMd_move_2 : decode (mB Md_move) 2 = .ok (.bipush 40, 2) := by decide +kernel
theorem dMd_move_4 : decode (mB Md_move) 4 = .ok (.iload_n 1, 1) := by decide +kernel
theorem dMd_move_5 : decode (mB Md_move) 5 = .ok (.invokevirtual 212, 3) := by decide +kernel
theorem dMd_move_8 : decode (mB Md_move) 8 = .ok (.ifCond .eq 17, 3) := by decide +kernel
theorem dMd_move_11 : decode (mB Md_move) 11 = .ok (.aload_n 0, 1) := by decide +kernel
theorem dMd_move_12 : decode (mB Md_move) 12 = .ok (.bipush 40, 2) := by decide +kernel
theorem dMd_move_14 : decode (mB Md_move) 14 = .ok (.iload_n 2, 1) := by decide +kernel
theorem dMd_move_15 : decode (mB Md_move) 15 = .ok (.invokevirtual 212, 3) := by decide +kernel
theorem dMd_move_18 : decode (mB Md_move) 18 = .ok (.ifCond .eq 7, 3) := by decide +kernel
theorem dMd_move_21 : decode (mB Md_move) 21 = .ok (.iconst 0, 1) := by decide +kernel
theorem dMd_move_22 : decode (mB Md_move) 22 = .ok (.goto 4, 3) := by decide +kernel
theorem dMd_move_25 : decode (mB Md_move) 25 = .ok (.iconst 1, 1) := by decide +kernel
theorem dMd_move_26 : decode (mB Md_move) 26 = .ok (.putfield 151, 3) := by decide +kernel
theorem dMd_move_29 : decode (mB Md_move) 29 = .ok (.aload_n 0, 1) := by decide +kernel
theorem dMd_move_30 : decode (mB Md_move) 30 = .ok (.getfield 151, 3) := by decide +kernel
theorem dMd_move_33 : decode (mB Md_move) 33 = .ok (.ifCond .ne 94, 3) := by decide +kernel
theorem dMd_move_36 : decode (mB Md_move) 36 = .ok (.aload_n 0, 1) := by decide +kernel
theorem dMd_move_37 : decode (mB Md_move) 37 = .ok (.bipush 40, 2) := by decide +kernel
theorem dMd_move_39 : decode (mB Md_move) 39 = .ok (.iload_n 2, 1) := by decide +kernel
theorem dMd_move_40 : decode (mB Md_move) 40 = .ok (.invokevirtual 216, 3) := by decide +kernel
theorem dMd_move_43 : decode (mB Md_move) 43 = .ok (.aload_n 0, 1) := by decide +kernel
theorem dMd_move_44 : decode (mB Md_move) 44 = .ok (.bipush 40, 2) := by decide +kernel
theorem dMd_move_46 : decode (mB Md_move) 46 = .ok (.iload_n 1, 1) := by decide +kernel
theorem dMd_move_47 : decode (mB Md_move) 47 = .ok (.invokevirtual 179, 3) := by decide +kernel
theorem dMd_move_50 : decode (mB Md_move) 50 = .ok (.iload_n 2, 1) := by decide +kernel
theorem dMd_move_51 : decode (mB Md_move) 51 = .ok (.if_icmp .ne 7, 3) := by decide +kernel
theorem dMd_move_54 : decode (mB Md_move) 54 = .ok (.iconst 1, 1) := by decide +kernel
theorem dMd_move_55 : decode (mB Md_move) 55 = .ok (.goto 4, 3) := by decide +kernel
theorem dMd_move_58 : decode (mB Md_move) 58 = .ok (.iconst 0, 1) := by decide +kernel
theorem dMd_move_59 : decode (mB Md_move) 59 = .ok (.isub, 1) := by decide +kernel
theorem dMd_move_60 : decode (mB Md_move) 60 = .ok (.istore 4, 2) := by decide +kernel
theorem dMd_move_62 : decode (mB Md_move) 62 = .ok (.aload_n 0, 1) := by decide +kernel
theorem dMd_move_63 : decode (mB Md_move) 63 = .ok (.iload_n 2, 1) := by decide +kernel
theorem dMd_move_64 : decode (mB Md_move) 64 = .ok (.invokevirtual 176, 3) := by decide +kernel
theorem dMd_move_67 : decode (mB Md_move) 67 = .ok (.ifCond .eq 13, 3) := by decide +kernel
theorem dMd_move_70 : decode (mB Md_move) 70 = .ok (.iload_n 3, 1) := by decide +kernel
theorem dMd_move_71 : decode (mB Md_move) 71 = .ok (.iconst 0, 1) := by decide +kernel
theorem dMd_move_72 : decode (mB Md_move) 72 = .ok (.iload 4, 2) := by decide +kernel
theorem dMd_move_74 : decode (mB Md_move) 74 = .ok (.invokestatic 158, 3) := by decide +kernel
theorem dMd_move_77 : decode (mB Md_move) 77 = .ok (.ifCond .eq 7, 3) := by decide +kernel
theorem dMd_move_80 : decode (mB Md_move) 80 = .ok (.iconst 1, 1) := by decide +kernel
theorem dMd_move_81 : decode (mB Md_move) 81 = .ok (.goto 4, 3) := by decide +kernel
theorem dMd_move_84 : decode (mB Md_move) 84 = .ok (.iconst 0, 1) := by decide +kernel
theorem dMd_move_85 : decode (mB Md_move) 85 = .ok (.istore 5, 2) := by decide +kernel
theorem dMd_move_87 : decode (mB Md_move) 87 = .ok (.aload_n 0, 1) := by decide +kernel
theorem dMd_move_88 : decode (mB Md_move) 88 = .ok (.iload 5, 2) := by decide +kernel
theorem dMd_move_90 : decode (mB Md_move) 90 = .ok (.ifCond .ne 7, 3) := by decide +kernel
theorem dMd_move_93 : decode (mB Md_move) 93 = .ok (.iconst 1, 1) := by decide +kernel
theorem dMd_move_94 : decode (mB Md_move) 94 = .ok (.goto 30, 3) := by decide +kernel
theorem dMd_move_97 : decode (mB Md_move) 97 = .ok (.iload_n 1, 1) := by decide +kernel
theorem dMd_move_98 : decode (mB Md_move) 98 = .ok (.aload_n 0, 1) := by decide +kernel
theorem dMd_move_99 : decode (mB Md_move) 99 = .ok (.getfield 16, 3) := by decide +kernel
theorem dMd_move_102 : decode (mB Md_move) 102 = .ok (.bipush 40, 2) := by decide +kernel
theorem dMd_move_104 : decode (mB Md_move) 104 = .ok (.iaload, 1) := by decide +kernel
theorem dMd_move_105 : decode (mB Md_move) 105 = .ok (.if_icmp .eq 14, 3) := by decide +kernel
theorem dMd_move_108 : decode (mB Md_move) 108 = .ok (.aload_n 0, 1) := by decide +kernel
theorem dMd_move_109 : decode (mB Md_move) 109 = .ok (.bipush 40, 2) := by decide +kernel
theorem dMd_move_111 : decode (mB Md_move) 111 = .ok (.iload_n 2, 1) := by decide +kernel
theorem dMd_move_112 : decode (mB Md_move) 112 = .ok (.iload_n 1, 1) := by decide +kernel
theorem dMd_move_113 : decode (mB Md_move) 113 = .ok (.invokevirtual 229, 3) := by decide +kernel
theorem dMd_move_116 : decode (mB Md_move) 116 = .ok (.ifCond .eq 7, 3) := by decide +kernel
theorem dMd_move_119 : decode (mB Md_move) 119 = .ok (.iconst 2, 1) := by decide +kernel
theorem dMd_move_120 : decode (mB Md_move) 120 = .ok (.goto 4, 3) := by decide +kernel
theorem dMd_move_123 : decode (mB Md_move) 123 = .ok (.iconst 0, 1) := by decide +kernel
theorem dMd_move_124 : decode (mB Md_move) 124 = .ok (.putfield 151, 3) := by decide +kernel
theorem dMd_move_127 : decode (mB Md_move) 127 = .ok (.aload_n 0, 1) := by decide +kernel
theorem dMd_move_128 : decode (mB Md_move) 128 = .ok (.getfield 151, 3) := by decide +kernel
theorem dMd_move_131 : decode (mB Md_move) 131 = .ok (.ifCond .le 5, 3) := by decide +kernel
theorem dMd_move_134 : decode (mB Md_move) 134 = .ok (.iconst 0, 1) := by decide +kernel
theorem dMd_move_135 : decode (mB Md_move) 135 = .ok (.ireturn, 1) := by decide +kernel
theorem dMd_move_136 : decode (mB Md_move) 136 = .ok (.aload_n 0, 1) := by decide +kernel
theorem dMd_move_137 : decode (mB Md_move) 137 = .ok (.bipush 40, 2) := by decide +kernel
theorem dMd_move_139 : decode (mB Md_move) 139 = .ok (.iload_n 1, 1) := by decide +kernel
theorem dMd_move_140 : decode (mB Md_move) 140 = .ok (.invokevirtual 179, 3) := by decide +kernel
theorem dMd_move_143 : decode (mB Md_move) 143 = .ok (.istore 4, 2) := by decide +kernel
theorem dMd_move_145 : decode (mB Md_move) 145 = .ok (.aload_n 0, 1) := by decide +kernel
theorem dMd_move_146 : decode (mB Md_move) 146 = .ok (.bipush 40, 2) := by decide +kernel
theorem dMd_move_148 : decode (mB Md_move) 148 = .ok (.iload_n 1, 1) := by decide +kernel
theorem dMd_move_149 : decode (mB Md_move) 149 = .ok (.invokevirtual 232, 3) := by decide +kernel
theorem dMd_move_152 : decode (mB Md_move) 152 = .ok (.aload_n 0, 1) := by decide +kernel
theorem dMd_move_153 : decode (mB Md_move) 153 = .ok (.bipush 40, 2) := by decide +kernel
theorem dMd_move_155 : decode (mB Md_move) 155 = .ok (.iload_n 1, 1) := by decide +kernel
theorem dMd_move_156 : decode (mB Md_move) 156 = .ok (.iload_n 2, 1) := by decide +kernel
theorem dMd_move_157 : decode (mB Md_move) 157 = .ok (.aload_n 0, 1) := by decide +kernel
theorem dMd_move_158 : decode (mB Md_move) 158 = .ok (.iload_n 2, 1) := by decide +kernel
theorem dMd_move_159 : decode (mB Md_move) 159 = .ok (.invokevirtual 176, 3) := by decide +kernel
theorem dMd_move_162 : decode (mB Md_move) 162 = .ok (.ifCond .eq 12, 3) := by decide +kernel
theorem dMd_move_165 : decode (mB Md_move) 165 = .ok (.aload_n 0, 1) := by decide +kernel
theorem dMd_move_166 : decode (mB Md_move) 166 = .ok (.iload_n 2, 1) := by decide +kernel
theorem dMd_move_167 : decode (mB Md_move) 167 = .ok (.iload_n 3, 1) := by decide +kernel
theorem dMd_move_168 : decode (mB Md_move) 168 = .ok (.invokevirtual 219, 3) := by decide +kernel
theorem dMd_move_171 : decode (mB Md_move) 171 = .ok (.goto 4, 3) := by decide +kernel
theorem dMd_move_174 : decode (mB Md_move) 174 = .ok (.iconst (-1), 1) := by decide +kernel
theorem dMd_move_175 : decode (mB Md_move) 175 = .ok (.invokevirtual 222, 3) := by decide +kernel
theorem dMd_move_178 : decode (mB Md_move) 178 = .ok (.iload 4, 2) := by decide +kernel
theorem dMd_move_180 : decode (mB Md_move) 180 = .ok (.ireturn, 1) := by decide +kernel
def w_Md_move_124 (R : Int32 → tpH → Prop) (K127 : Nat → Int32 → Int32 → Int32 → tpH → Prop) (o : Nat) (x1 : Int32) (x2 : Int32) (x3 : Int32) (t0 : Int32) (t1 : Option Nat) (h : tpH) : Prop :=
  ∃ a1, t1 = some a1 ∧ hT h a1 = 14 ∧ (∀ h4, h4 = sI h a1 31 t0 → (K127 o x1 x2 x3 h4))
def w_Md_move_85 (R : Int32 → tpH → Prop) (K127 : Nat → Int32 → Int32 → Int32 → tpH → Prop) (o : Nat) (x1 : Int32) (x2 : Int32) (x3 : Int32) (t0 : Int32) (h : tpH) : Prop :=
  (¬ t0 = 0 → (hT h o = 14 ∧ (∃ a3, (hR h o 5) = some a3 ∧ hT h a3 = 15 ∧ (vp_in (40 : Int32) (hL h a3) ∧ ((x1 = (hI h a3 (40 : Int32).toNatClampNeg) → (w_Md_move_124 R K127 o x1 x2 x3 (2 : Int32) (some o) h)) ∧ (¬ x1 = (hI h a3 (40 : Int32).toNatClampNeg) → (w_Md_isWithin o (40 : Int32) x2 x1 h (fun v9 h8 => (v9 = 0 → (w_Md_move_124 R K127 o x1 x2 x3 (0 : Int32) (some o) h8)) ∧ (¬ v9 = 0 → (w_Md_move_124 R K127 o x1 x2 x3 (2 : Int32) (some o) h8)))))))))) ∧ (t0 = 0 → (w_Md_move_124 R K127 o x1 x2 x3 (1 : Int32) (some o) h))
def w_Md_move_59 (R : Int32 → tpH → Prop) (K127 : Nat → Int32 → Int32 → Int32 → tpH → Prop) (o : Nat) (x1 : Int32) (x2 : Int32) (x3 : Int32) (t0 : Int32) (t1 : Int32) (h : tpH) : Prop :=
  hT h o = 14 ∧ (w_Md_isOrdered o x2 h (fun v3 h2 => (v3 = 0 → (w_Md_move_85 R K127 o x1 x2 x3 (1 : Int32) h2)) ∧ (¬ v3 = 0 → (w_Md_in x3 (0 : Int32) (t1 - t0) h2 (fun v6 h5 => (v6 = 0 → (w_Md_move_85 R K127 o x1 x2 x3 (0 : Int32) h5)) ∧ (¬ v6 = 0 → (w_Md_move_85 R K127 o x1 x2 x3 (1 : Int32) h5)))))))
def w_Md_move_175 (R : Int32 → tpH → Prop) (x4 : Int32) (t0 : Int32) (t1 : Int32) (t2 : Int32) (t3 : Int32) (t4 : Option Nat) (h : tpH) : Prop :=
  ∃ a1, t4 = some a1 ∧ hT h a1 = 14 ∧ (w_Md_hang a1 t3 t2 t1 t0 h (fun h4 => R x4 h4))
def w_Md_move_127 (R : Int32 → tpH → Prop) (o : Nat) (x1 : Int32) (x2 : Int32) (x3 : Int32) (h : tpH) : Prop :=
  hT h o = 14 ∧ (((hI h o 31) ≤ 0 → (w_Md_parentIn o (40 : Int32) x1 h (fun v4 h3 => hT h3 o = 14 ∧ (w_Md_unhang o (40 : Int32) x1 h3 (fun h6 => hT h6 o = 14 ∧ (w_Md_isOrdered o x2 h6 (fun v9 h8 => (v9 = 0 → (w_Md_move_175 R v4 (-1 : Int32) x2 x1 (40 : Int32) (some o) h8)) ∧ (¬ v9 = 0 → (hT h8 o = 14 ∧ (w_Md_aheadOf o x2 x3 h8 (fun v13 h12 => w_Md_move_175 R v4 v13 x2 x1 (40 : Int32) (some o) h12))))))))))) ∧ (¬ (hI h o 31) ≤ 0 → (R (0 : Int32) h)))
def w_Md_move_26 (R : Int32 → tpH → Prop) (o : Nat) (x1 : Int32) (x2 : Int32) (x3 : Int32) (t0 : Int32) (t1 : Option Nat) (h : tpH) : Prop :=
  ∃ a1, t1 = some a1 ∧ hT h a1 = 14 ∧ (∀ h4, h4 = sI h a1 31 t0 → (hT h4 o = 14 ∧ ((¬ (hI h4 o 31) = 0 → (w_Md_move_127 R o x1 x2 x3 h4)) ∧ ((hI h4 o 31) = 0 → (w_Md_childMany o (40 : Int32) x2 h4 (fun v9 h8 => hT h8 o = 14 ∧ (w_Md_parentIn o (40 : Int32) x1 h8 (fun v12 h11 => (¬ v12 = x2 → (w_Md_move_59 R (w_Md_move_127 R) o x1 x2 x3 (0 : Int32) v9 h11)) ∧ (v12 = x2 → (w_Md_move_59 R (w_Md_move_127 R) o x1 x2 x3 (1 : Int32) v9 h11))))))))))
def w_Md_move (o : Nat) (x1 : Int32) (x2 : Int32) (x3 : Int32) (h : tpH) (R : Int32 → tpH → Prop) : Prop :=
  hT h o = 14 ∧ (w_Md_has o (40 : Int32) x1 h (fun v3 h2 => (v3 = 0 → (w_Md_move_26 R o x1 x2 x3 (1 : Int32) (some o) h2)) ∧ (¬ v3 = 0 → (hT h2 o = 14 ∧ (w_Md_has o (40 : Int32) x2 h2 (fun v7 h6 => (v7 = 0 → (w_Md_move_26 R o x1 x2 x3 (1 : Int32) (some o) h6)) ∧ (¬ v7 = 0 → (w_Md_move_26 R o x1 x2 x3 (0 : Int32) (some o) h6))))))))
theorem s_Md_move_124 {h0 : tpH} {av : List tpV} {R : Int32 → tpH → Prop} {K127 : Nat → Int32 → Int32 → Int32 → tpH → Prop} (k127 : ∀ (o : Nat) (x1 : Int32) (x2 : Int32) (x3 : Int32) (h : tpH), K127 o x1 x2 x3 h → tpR Md_move 3 h0 av (tpOi R (fun _ _ => False)) 127 [some (vR (some o)), some (vI x1), some (vI x2), some (vI x3), none, none] [] h) : ∀ (o : Nat) (x1 : Int32) (x2 : Int32) (x3 : Int32) (t0 : Int32) (t1 : Option Nat) (h : tpH), w_Md_move_124 R K127 o x1 x2 x3 t0 t1 h → tpR Md_move 3 h0 av (tpOi R (fun _ _ => False)) 124 [some (vR (some o)), some (vI x1), some (vI x2), some (vI x3), none, none] [vI t0, vR t1] h := by
  intro o x1 x2 x3 t0 t1 h hw
  unfold w_Md_move_124 at hw
  obtain ⟨a1, e2, f3, hw⟩ := hw
  refine te_puti dMd_move_124 pMd_151 rfl rfl e2 f3 ⟨rfl, rfl⟩ (fun h4 e5 => ?_)
  have hw := hw h4 e5
  refine tpR.fo (ls' := [some (vR (some o)), some (vI x1), some (vI x2), some (vI x3), none, none]) ?_ (And.intro rfl (And.intro rfl (And.intro rfl (And.intro rfl trivial))))
  exact k127 _ _ _ _ _ hw
theorem s_Md_move_85 {h0 : tpH} {av : List tpV} {R : Int32 → tpH → Prop} {K127 : Nat → Int32 → Int32 → Int32 → tpH → Prop} (k127 : ∀ (o : Nat) (x1 : Int32) (x2 : Int32) (x3 : Int32) (h : tpH), K127 o x1 x2 x3 h → tpR Md_move 3 h0 av (tpOi R (fun _ _ => False)) 127 [some (vR (some o)), some (vI x1), some (vI x2), some (vI x3), none, none] [] h) : ∀ (o : Nat) (x1 : Int32) (x2 : Int32) (x3 : Int32) (t0 : Int32) (h : tpH), w_Md_move_85 R K127 o x1 x2 x3 t0 h → tpR Md_move 3 h0 av (tpOi R (fun _ _ => False)) 85 [some (vR (some o)), some (vI x1), some (vI x2), some (vI x3), none, none] [vI t0] h := by
  intro o x1 x2 x3 t0 h hw
  unfold w_Md_move_85 at hw
  refine tq_istore (ls' := [some (vR (some o)), some (vI x1), some (vI x2), some (vI x3), none, some (vI t0)]) dMd_move_85 (Nat.le_of_ble_eq_true rfl) rfl ?_
  refine tq_aload_n dMd_move_87 rfl rfl ?_
  refine tq_iload dMd_move_88 rfl ?_
  refine tq_ifne (tgt := 97) dMd_move_90 (by decide) (fun c1 => ?_) (fun c1 => ?_)
  · have hw := hw.1 c1
    refine tq_iload_n dMd_move_97 rfl rfl ?_
    refine tq_aload_n dMd_move_98 rfl rfl ?_
    obtain ⟨f2, hw⟩ := hw
    refine te_getr dMd_move_99 fMd_16 rfl rfl f2 ?_
    refine tq_bipush (v := (40 : Int32)) dMd_move_102 tnb_40 ?_
    obtain ⟨a3, e4, f5, hw⟩ := hw
    obtain ⟨f6, hw⟩ := hw
    refine te_iald dMd_move_104 e4 (Or.inl f5) f6 ?_
    refine tq_icmpeq (tgt := 119) dMd_move_105 (by decide) (fun c7 => ?_) (fun c7 => ?_)
    · have hw := hw.1 c7
      refine tq_iconst (v := (2 : Int32)) dMd_move_119 tni_2 ?_
      refine tq_goto (tgt := 124) dMd_move_120 (by decide) ?_
      refine tpR.fo (ls' := [some (vR (some o)), some (vI x1), some (vI x2), some (vI x3), none, none]) ?_ (And.intro rfl (And.intro rfl (And.intro rfl (And.intro rfl trivial))))
      exact s_Md_move_124 k127 _ _ _ _ _ _ _ hw
    · have hw := hw.2 c7
      refine tq_aload_n dMd_move_108 rfl rfl ?_
      refine tq_bipush (v := (40 : Int32)) dMd_move_109 tnb_40 ?_
      refine tq_iload_n dMd_move_111 rfl rfl ?_
      refine tq_iload_n dMd_move_112 rfl rfl ?_
      refine te_callV mv_Md_isWithin (ci := 13) (dc := 1) (as := [vI (40 : Int32), vI x2, vI x1]) (rest := [vR (some o)]) kMd_229 rfl (Nat.le_of_ble_eq_true rfl) (Nat.le_of_ble_eq_true rfl) rfl rfl rfl f2 (Nat.le_of_ble_eq_true rfl) dMd_move_113 (s_Md_isWithin hw) (fun _ _ hx => False.elim hx) (tk_i fun v9 h8 hw => ?_)
      refine tq_ifeq (tgt := 123) dMd_move_116 (by decide) (fun c10 => ?_) (fun c10 => ?_)
      · have hw := hw.1 c10
        refine tq_iconst (v := (0 : Int32)) dMd_move_123 tni_0 ?_
        refine tpR.fo (ls' := [some (vR (some o)), some (vI x1), some (vI x2), some (vI x3), none, none]) ?_ (And.intro rfl (And.intro rfl (And.intro rfl (And.intro rfl trivial))))
        exact s_Md_move_124 k127 _ _ _ _ _ _ _ hw
      · have hw := hw.2 c10
        refine tq_iconst (v := (2 : Int32)) dMd_move_119 tni_2 ?_
        refine tq_goto (tgt := 124) dMd_move_120 (by decide) ?_
        refine tpR.fo (ls' := [some (vR (some o)), some (vI x1), some (vI x2), some (vI x3), none, none]) ?_ (And.intro rfl (And.intro rfl (And.intro rfl (And.intro rfl trivial))))
        exact s_Md_move_124 k127 _ _ _ _ _ _ _ hw
  · have hw := hw.2 c1
    refine tq_iconst (v := (1 : Int32)) dMd_move_93 tni_1 ?_
    refine tq_goto (tgt := 124) dMd_move_94 (by decide) ?_
    refine tpR.fo (ls' := [some (vR (some o)), some (vI x1), some (vI x2), some (vI x3), none, none]) ?_ (And.intro rfl (And.intro rfl (And.intro rfl (And.intro rfl trivial))))
    exact s_Md_move_124 k127 _ _ _ _ _ _ _ hw
theorem s_Md_move_59 {h0 : tpH} {av : List tpV} {R : Int32 → tpH → Prop} {K127 : Nat → Int32 → Int32 → Int32 → tpH → Prop} (k127 : ∀ (o : Nat) (x1 : Int32) (x2 : Int32) (x3 : Int32) (h : tpH), K127 o x1 x2 x3 h → tpR Md_move 3 h0 av (tpOi R (fun _ _ => False)) 127 [some (vR (some o)), some (vI x1), some (vI x2), some (vI x3), none, none] [] h) : ∀ (o : Nat) (x1 : Int32) (x2 : Int32) (x3 : Int32) (t0 : Int32) (t1 : Int32) (h : tpH), w_Md_move_59 R K127 o x1 x2 x3 t0 t1 h → tpR Md_move 3 h0 av (tpOi R (fun _ _ => False)) 59 [some (vR (some o)), some (vI x1), some (vI x2), some (vI x3), none, none] [vI t0, vI t1] h := by
  intro o x1 x2 x3 t0 t1 h hw
  unfold w_Md_move_59 at hw
  refine tq_isub dMd_move_59 ?_
  refine tq_istore (ls' := [some (vR (some o)), some (vI x1), some (vI x2), some (vI x3), some (vI (t1 - t0)), none]) dMd_move_60 (Nat.le_of_ble_eq_true rfl) rfl ?_
  refine tq_aload_n dMd_move_62 rfl rfl ?_
  refine tq_iload_n dMd_move_63 rfl rfl ?_
  obtain ⟨f1, hw⟩ := hw
  refine te_callV mv_Md_isOrdered (ci := 13) (dc := 0) (as := [vI x2]) (rest := []) kMd_176 rfl (Nat.le_of_ble_eq_true rfl) (Nat.le_of_ble_eq_true rfl) rfl rfl rfl f1 (Nat.le_of_ble_eq_true rfl) dMd_move_64 (s_Md_isOrdered hw) (fun _ _ hx => False.elim hx) (tk_i fun v3 h2 hw => ?_)
  refine tq_ifeq (tgt := 80) dMd_move_67 (by decide) (fun c4 => ?_) (fun c4 => ?_)
  · have hw := hw.1 c4
    refine tq_iconst (v := (1 : Int32)) dMd_move_80 tni_1 ?_
    refine tq_goto (tgt := 85) dMd_move_81 (by decide) ?_
    refine tpR.fo (ls' := [some (vR (some o)), some (vI x1), some (vI x2), some (vI x3), none, none]) ?_ (And.intro rfl (And.intro rfl (And.intro rfl (And.intro rfl trivial))))
    exact s_Md_move_85 k127 _ _ _ _ _ _ hw
  · have hw := hw.2 c4
    refine tq_iload_n dMd_move_70 rfl rfl ?_
    refine tq_iconst (v := (0 : Int32)) dMd_move_71 tni_0 ?_
    refine tq_iload dMd_move_72 rfl ?_
    refine tq_callS ms_Md_in (dc := 0) (as := [vI x3, vI (0 : Int32), vI (t1 - t0)]) (rest := []) kMd_158 (Nat.le_of_ble_eq_true rfl) (Nat.le_of_ble_eq_true rfl) rfl rfl (Nat.le_of_ble_eq_true rfl) dMd_move_74 (s_Md_in hw) (fun _ _ hx => False.elim hx) (tk_i fun v6 h5 hw => ?_)
    refine tq_ifeq (tgt := 84) dMd_move_77 (by decide) (fun c7 => ?_) (fun c7 => ?_)
    · have hw := hw.1 c7
      refine tq_iconst (v := (0 : Int32)) dMd_move_84 tni_0 ?_
      refine tpR.fo (ls' := [some (vR (some o)), some (vI x1), some (vI x2), some (vI x3), none, none]) ?_ (And.intro rfl (And.intro rfl (And.intro rfl (And.intro rfl trivial))))
      exact s_Md_move_85 k127 _ _ _ _ _ _ hw
    · have hw := hw.2 c7
      refine tq_iconst (v := (1 : Int32)) dMd_move_80 tni_1 ?_
      refine tq_goto (tgt := 85) dMd_move_81 (by decide) ?_
      refine tpR.fo (ls' := [some (vR (some o)), some (vI x1), some (vI x2), some (vI x3), none, none]) ?_ (And.intro rfl (And.intro rfl (And.intro rfl (And.intro rfl trivial))))
      exact s_Md_move_85 k127 _ _ _ _ _ _ hw
theorem s_Md_move_175 {h0 : tpH} {av : List tpV} {R : Int32 → tpH → Prop} : ∀ (x4 : Int32) (t0 : Int32) (t1 : Int32) (t2 : Int32) (t3 : Int32) (t4 : Option Nat) (h : tpH), w_Md_move_175 R x4 t0 t1 t2 t3 t4 h → tpR Md_move 3 h0 av (tpOi R (fun _ _ => False)) 175 [none, none, none, none, some (vI x4), none] [vI t0, vI t1, vI t2, vI t3, vR t4] h := by
  intro x4 t0 t1 t2 t3 t4 h hw
  unfold w_Md_move_175 at hw
  obtain ⟨a1, e2, f3, hw⟩ := hw
  refine te_callV mv_Md_hang (ci := 13) (dc := 1) (as := [vI t3, vI t2, vI t1, vI t0]) (rest := []) kMd_222 rfl (Nat.le_of_ble_eq_true rfl) (Nat.le_of_ble_eq_true rfl) rfl rfl e2 f3 (Nat.le_of_ble_eq_true rfl) dMd_move_175 (s_Md_hang hw) (fun _ _ hx => False.elim hx) (tk_v fun h4 hw => ?_)
  refine tq_iload dMd_move_178 rfl ?_
  exact tq_iret rfl rfl dMd_move_180 hw
theorem s_Md_move_127 {h0 : tpH} {av : List tpV} {R : Int32 → tpH → Prop} : ∀ (o : Nat) (x1 : Int32) (x2 : Int32) (x3 : Int32) (h : tpH), w_Md_move_127 R o x1 x2 x3 h → tpR Md_move 3 h0 av (tpOi R (fun _ _ => False)) 127 [some (vR (some o)), some (vI x1), some (vI x2), some (vI x3), none, none] [] h := by
  intro o x1 x2 x3 h hw
  unfold w_Md_move_127 at hw
  refine tq_aload_n dMd_move_127 rfl rfl ?_
  obtain ⟨f1, hw⟩ := hw
  refine te_geti dMd_move_128 fMd_151 rfl rfl f1 ?_
  refine tq_ifle (tgt := 136) dMd_move_131 (by decide) (fun c2 => ?_) (fun c2 => ?_)
  · have hw := hw.1 c2
    refine tq_aload_n dMd_move_136 rfl rfl ?_
    refine tq_bipush (v := (40 : Int32)) dMd_move_137 tnb_40 ?_
    refine tq_iload_n dMd_move_139 rfl rfl ?_
    refine te_callV mv_Md_parentIn (ci := 13) (dc := 0) (as := [vI (40 : Int32), vI x1]) (rest := []) kMd_179 rfl (Nat.le_of_ble_eq_true rfl) (Nat.le_of_ble_eq_true rfl) rfl rfl rfl f1 (Nat.le_of_ble_eq_true rfl) dMd_move_140 (s_Md_parentIn hw) (fun _ _ hx => False.elim hx) (tk_i fun v4 h3 hw => ?_)
    refine tq_istore (ls' := [some (vR (some o)), some (vI x1), some (vI x2), some (vI x3), some (vI v4), none]) dMd_move_143 (Nat.le_of_ble_eq_true rfl) rfl ?_
    refine tq_aload_n dMd_move_145 rfl rfl ?_
    refine tq_bipush (v := (40 : Int32)) dMd_move_146 tnb_40 ?_
    refine tq_iload_n dMd_move_148 rfl rfl ?_
    obtain ⟨f5, hw⟩ := hw
    refine te_callV mv_Md_unhang (ci := 13) (dc := 2) (as := [vI (40 : Int32), vI x1]) (rest := []) kMd_232 rfl (Nat.le_of_ble_eq_true rfl) (Nat.le_of_ble_eq_true rfl) rfl rfl rfl f5 (Nat.le_of_ble_eq_true rfl) dMd_move_149 (s_Md_unhang hw) (fun _ _ hx => False.elim hx) (tk_v fun h6 hw => ?_)
    refine tq_aload_n dMd_move_152 rfl rfl ?_
    refine tq_bipush (v := (40 : Int32)) dMd_move_153 tnb_40 ?_
    refine tq_iload_n dMd_move_155 rfl rfl ?_
    refine tq_iload_n dMd_move_156 rfl rfl ?_
    refine tq_aload_n dMd_move_157 rfl rfl ?_
    refine tq_iload_n dMd_move_158 rfl rfl ?_
    obtain ⟨f7, hw⟩ := hw
    refine te_callV mv_Md_isOrdered (ci := 13) (dc := 0) (as := [vI x2]) (rest := [vI x2, vI x1, vI (40 : Int32), vR (some o)]) kMd_176 rfl (Nat.le_of_ble_eq_true rfl) (Nat.le_of_ble_eq_true rfl) rfl rfl rfl f7 (Nat.le_of_ble_eq_true rfl) dMd_move_159 (s_Md_isOrdered hw) (fun _ _ hx => False.elim hx) (tk_i fun v9 h8 hw => ?_)
    refine tq_ifeq (tgt := 174) dMd_move_162 (by decide) (fun c10 => ?_) (fun c10 => ?_)
    · have hw := hw.1 c10
      refine tq_iconst (v := (-1 : Int32)) dMd_move_174 tni_m1 ?_
      refine tpR.fo (ls' := [none, none, none, none, some (vI v4), none]) ?_ (And.intro rfl trivial)
      exact s_Md_move_175 _ _ _ _ _ _ _ hw
    · have hw := hw.2 c10
      refine tq_aload_n dMd_move_165 rfl rfl ?_
      refine tq_iload_n dMd_move_166 rfl rfl ?_
      refine tq_iload_n dMd_move_167 rfl rfl ?_
      obtain ⟨f11, hw⟩ := hw
      refine te_callV mv_Md_aheadOf (ci := 13) (dc := 1) (as := [vI x2, vI x3]) (rest := [vI x2, vI x1, vI (40 : Int32), vR (some o)]) kMd_219 rfl (Nat.le_of_ble_eq_true rfl) (Nat.le_of_ble_eq_true rfl) rfl rfl rfl f11 (Nat.le_of_ble_eq_true rfl) dMd_move_168 (s_Md_aheadOf hw) (fun _ _ hx => False.elim hx) (tk_i fun v13 h12 hw => ?_)
      refine tq_goto (tgt := 175) dMd_move_171 (by decide) ?_
      refine tpR.fo (ls' := [none, none, none, none, some (vI v4), none]) ?_ (And.intro rfl trivial)
      exact s_Md_move_175 _ _ _ _ _ _ _ hw
  · have hw := hw.2 c2
    refine tq_iconst (v := (0 : Int32)) dMd_move_134 tni_0 ?_
    exact tq_iret rfl rfl dMd_move_135 hw
theorem s_Md_move_26 {h0 : tpH} {av : List tpV} {R : Int32 → tpH → Prop} : ∀ (o : Nat) (x1 : Int32) (x2 : Int32) (x3 : Int32) (t0 : Int32) (t1 : Option Nat) (h : tpH), w_Md_move_26 R o x1 x2 x3 t0 t1 h → tpR Md_move 3 h0 av (tpOi R (fun _ _ => False)) 26 [some (vR (some o)), some (vI x1), some (vI x2), some (vI x3), none, none] [vI t0, vR t1] h := by
  intro o x1 x2 x3 t0 t1 h hw
  unfold w_Md_move_26 at hw
  obtain ⟨a1, e2, f3, hw⟩ := hw
  refine te_puti dMd_move_26 pMd_151 rfl rfl e2 f3 ⟨rfl, rfl⟩ (fun h4 e5 => ?_)
  have hw := hw h4 e5
  refine tq_aload_n dMd_move_29 rfl rfl ?_
  obtain ⟨f6, hw⟩ := hw
  refine te_geti dMd_move_30 fMd_151 rfl rfl f6 ?_
  refine tq_ifne (tgt := 127) dMd_move_33 (by decide) (fun c7 => ?_) (fun c7 => ?_)
  · have hw := hw.1 c7
    refine tpR.fo (ls' := [some (vR (some o)), some (vI x1), some (vI x2), some (vI x3), none, none]) ?_ (And.intro rfl (And.intro rfl (And.intro rfl (And.intro rfl trivial))))
    exact s_Md_move_127 _ _ _ _ _ hw
  · have hw := hw.2 c7
    refine tq_aload_n dMd_move_36 rfl rfl ?_
    refine tq_bipush (v := (40 : Int32)) dMd_move_37 tnb_40 ?_
    refine tq_iload_n dMd_move_39 rfl rfl ?_
    refine te_callV mv_Md_childMany (ci := 13) (dc := 1) (as := [vI (40 : Int32), vI x2]) (rest := []) kMd_216 rfl (Nat.le_of_ble_eq_true rfl) (Nat.le_of_ble_eq_true rfl) rfl rfl rfl f6 (Nat.le_of_ble_eq_true rfl) dMd_move_40 (s_Md_childMany hw) (fun _ _ hx => False.elim hx) (tk_i fun v9 h8 hw => ?_)
    refine tq_aload_n dMd_move_43 rfl rfl ?_
    refine tq_bipush (v := (40 : Int32)) dMd_move_44 tnb_40 ?_
    refine tq_iload_n dMd_move_46 rfl rfl ?_
    obtain ⟨f10, hw⟩ := hw
    refine te_callV mv_Md_parentIn (ci := 13) (dc := 0) (as := [vI (40 : Int32), vI x1]) (rest := [vI v9]) kMd_179 rfl (Nat.le_of_ble_eq_true rfl) (Nat.le_of_ble_eq_true rfl) rfl rfl rfl f10 (Nat.le_of_ble_eq_true rfl) dMd_move_47 (s_Md_parentIn hw) (fun _ _ hx => False.elim hx) (tk_i fun v12 h11 hw => ?_)
    refine tq_iload_n dMd_move_50 rfl rfl ?_
    refine tq_icmpne (tgt := 58) dMd_move_51 (by decide) (fun c13 => ?_) (fun c13 => ?_)
    · have hw := hw.1 c13
      refine tq_iconst (v := (0 : Int32)) dMd_move_58 tni_0 ?_
      refine tpR.fo (ls' := [some (vR (some o)), some (vI x1), some (vI x2), some (vI x3), none, none]) ?_ (And.intro rfl (And.intro rfl (And.intro rfl (And.intro rfl trivial))))
      exact s_Md_move_59 (s_Md_move_127) _ _ _ _ _ _ _ hw
    · have hw := hw.2 c13
      refine tq_iconst (v := (1 : Int32)) dMd_move_54 tni_1 ?_
      refine tq_goto (tgt := 59) dMd_move_55 (by decide) ?_
      refine tpR.fo (ls' := [some (vR (some o)), some (vI x1), some (vI x2), some (vI x3), none, none]) ?_ (And.intro rfl (And.intro rfl (And.intro rfl (And.intro rfl trivial))))
      exact s_Md_move_59 (s_Md_move_127) _ _ _ _ _ _ _ hw
theorem s_Md_move {o : Nat} {x1 : Int32} {x2 : Int32} {x3 : Int32} {h : tpH} {R : Int32 → tpH → Prop} (hw : w_Md_move o x1 x2 x3 h R) : tpC Md_move 3 [vR (some o), vI x1, vI x2, vI x3] h (tpOi R (fun _ _ => False)) := by
  refine tpC_of mv_Md_move.2.2.2.1 rfl rfl (Nat.le_of_ble_eq_true rfl) ?_
  show tpR Md_move 3 h _ _ 0 [some (vR (some o)), some (vI x1), some (vI x2), some (vI x3), none, none] [] h
  unfold w_Md_move at hw
  refine tq_aload_n dMd_move_0 rfl rfl ?_
  refine tq_aload_n dMd_move_1 rfl rfl ?_
  refine tq_bipush (v := (40 : Int32)) dMd_move_2 tnb_40 ?_
  refine tq_iload_n dMd_move_4 rfl rfl ?_
  obtain ⟨f1, hw⟩ := hw
  refine te_callV mv_Md_has (ci := 13) (dc := 2) (as := [vI (40 : Int32), vI x1]) (rest := [vR (some o)]) kMd_212 rfl (Nat.le_of_ble_eq_true rfl) (Nat.le_of_ble_eq_true rfl) rfl rfl rfl f1 (Nat.le_of_ble_eq_true rfl) dMd_move_5 (s_Md_has hw) (fun _ _ hx => False.elim hx) (tk_i fun v3 h2 hw => ?_)
  refine tq_ifeq (tgt := 25) dMd_move_8 (by decide) (fun c4 => ?_) (fun c4 => ?_)
  · have hw := hw.1 c4
    refine tq_iconst (v := (1 : Int32)) dMd_move_25 tni_1 ?_
    refine tpR.fo (ls' := [some (vR (some o)), some (vI x1), some (vI x2), some (vI x3), none, none]) ?_ (And.intro rfl (And.intro rfl (And.intro rfl (And.intro rfl trivial))))
    exact s_Md_move_26 _ _ _ _ _ _ _ hw
  · have hw := hw.2 c4
    refine tq_aload_n dMd_move_11 rfl rfl ?_
    refine tq_bipush (v := (40 : Int32)) dMd_move_12 tnb_40 ?_
    refine tq_iload_n dMd_move_14 rfl rfl ?_
    obtain ⟨f5, hw⟩ := hw
    refine te_callV mv_Md_has (ci := 13) (dc := 2) (as := [vI (40 : Int32), vI x2]) (rest := [vR (some o)]) kMd_212 rfl (Nat.le_of_ble_eq_true rfl) (Nat.le_of_ble_eq_true rfl) rfl rfl rfl f5 (Nat.le_of_ble_eq_true rfl) dMd_move_15 (s_Md_has hw) (fun _ _ hx => False.elim hx) (tk_i fun v7 h6 hw => ?_)
    refine tq_ifeq (tgt := 25) dMd_move_18 (by decide) (fun c8 => ?_) (fun c8 => ?_)
    · have hw := hw.1 c8
      refine tq_iconst (v := (1 : Int32)) dMd_move_25 tni_1 ?_
      refine tpR.fo (ls' := [some (vR (some o)), some (vI x1), some (vI x2), some (vI x3), none, none]) ?_ (And.intro rfl (And.intro rfl (And.intro rfl (And.intro rfl trivial))))
      exact s_Md_move_26 _ _ _ _ _ _ _ hw
    · have hw := hw.2 c8
      refine tq_iconst (v := (0 : Int32)) dMd_move_21 tni_0 ?_
      refine tq_goto (tgt := 26) dMd_move_22 (by decide) ?_
      refine tpR.fo (ls' := [some (vR (some o)), some (vI x1), some (vI x2), some (vI x3), none, none]) ?_ (And.intro rfl (And.intro rfl (And.intro rfl (And.intro rfl trivial))))
      exact s_Md_move_26 _ _ _ _ _ _ _ hw
/-! TModel.drop -/
theorem dMd_drop_0 : decode (mB Md_drop) 0 = .ok (.aload_n 0, 1) := by decide +kernel
theorem dMd_drop_1 : decode (mB Md_drop) 1 = .ok (.aload_n 0, 1) := by decide +kernel
theorem dMd_drop_2 : decode (mB Md_drop) 2 = .ok (.bipush 40, 2) := by decide +kernel
theorem dMd_drop_4 : decode (mB Md_drop) 4 = .ok (.iload_n 1, 1) := by decide +kernel
theorem dMd_drop_5 : decode (mB Md_drop) 5 = .ok (.invokevirtual 212, 3) := by decide +kernel
theorem dMd_drop_8 : decode (mB Md_drop) 8 = .ok (.ifCond .ne 7, 3) := by decide +kernel
theorem dMd_drop_11 : decode (mB Md_drop) 11 = .ok (.iconst 1, 1) := by decide +kernel
theorem dMd_drop_12 : decode (mB Md_drop) 12 = .ok (.goto 19, 3) := by decide +kernel
theorem dMd_drop_15 : decode (mB Md_drop) 15 = .ok (.iload_n 1, 1) := by decide +kernel
theorem dMd_drop_16 : decode (mB Md_drop) 16 = .ok (.aload_n 0, 1) := by decide +kernel
theorem dMd_drop_17 : decode (mB Md_drop) 17 = .ok (.getfield 16, 3) := by decide +kernel
theorem dMd_drop_20 : decode (mB Md_drop) 20 = .ok (.bipush 40, 2) := by decide +kernel
theorem dMd_drop_22 : decode (mB Md_drop) 22 = .ok (.iaload, 1) := by decide +kernel
theorem dMd_drop_23 : decode (mB Md_drop) 23 = .ok (.if_icmp .ne 7, 3) := by decide +kernel
theorem dMd_drop_26 : decode (mB Md_drop) 26 = .ok (.iconst 2, 1) := by decide +kernel
theorem dMd_drop_27 : decode (mB Md_drop) 27 = .ok (.goto 4, 3) := by decide +kernel
theorem dMd_drop_30 : decode (mB Md_drop) 30 = .ok (.iconst 0, 1) := by decide +kernel
theorem dMd_drop_31 : decode (mB Md_drop) 31 = .ok (.putfield 151, 3) := by decide +kernel
theorem dMd_drop_34 : decode (mB Md_drop) 34 = .ok (.aload_n 0, 1) := by decide +kernel
theorem dMd_drop_35 : decode (mB Md_drop) 35 = .ok (.getfield 151, 3) := by decide +kernel
theorem dMd_drop_38 : decode (mB Md_drop) 38 = .ok (.ifCond .le 5, 3) := by decide +kernel
theorem dMd_drop_41 : decode (mB Md_drop) 41 = .ok (.iconst 0, 1) := by decide +kernel
theorem dMd_drop_42 : decode (mB Md_drop) 42 = .ok (.ireturn, 1) := by decide +kernel
theorem dMd_drop_43 : decode (mB Md_drop) 43 = .ok (.aload_n 0, 1) := by decide +kernel
theorem dMd_drop_44 : decode (mB Md_drop) 44 = .ok (.bipush 40, 2) := by decide +kernel
theorem dMd_drop_46 : decode (mB Md_drop) 46 = .ok (.aload_n 0, 1) := by decide +kernel
theorem dMd_drop_47 : decode (mB Md_drop) 47 = .ok (.getfield 83, 3) := by decide +kernel
theorem dMd_drop_50 : decode (mB Md_drop) 50 = .ok (.invokevirtual 208, 3) := by decide +kernel
theorem dMd_drop_53 : decode (mB Md_drop) 53 = .ok (.istore_n 2, 1) := by decide +kernel
theorem dMd_drop_54 : decode (mB Md_drop) 54 = .ok (.iconst 0, 1) := by decide +kernel
theorem dMd_drop_55 : decode (mB Md_drop) 55 = .ok (.istore_n 3, 1) := by decide +kernel
theorem dMd_drop_56 : decode (mB Md_drop) 56 = .ok (.iconst 0, 1) := by decide +kernel
theorem dMd_drop_57 : decode (mB Md_drop) 57 = .ok (.istore 4, 2) := by decide +kernel
theorem dMd_drop_59 : decode (mB Md_drop) 59 = .ok (.iload 4, 2) := by decide +kernel
theorem dMd_drop_61 : decode (mB Md_drop) 61 = .ok (.iload_n 2, 1) := by decide +kernel
theorem dMd_drop_62 : decode (mB Md_drop) 62 = .ok (.if_icmp .ge 30, 3) := by decide +kernel
theorem dMd_drop_65 : decode (mB Md_drop) 65 = .ok (.aload_n 0, 1) := by decide +kernel
theorem dMd_drop_66 : decode (mB Md_drop) 66 = .ok (.getfield 89, 3) := by decide +kernel
theorem dMd_drop_69 : decode (mB Md_drop) 69 = .ok (.iload 4, 2) := by decide +kernel
theorem dMd_drop_71 : decode (mB Md_drop) 71 = .ok (.aload_n 0, 1) := by decide +kernel
theorem dMd_drop_72 : decode (mB Md_drop) 72 = .ok (.bipush 40, 2) := by decide +kernel
theorem dMd_drop_74 : decode (mB Md_drop) 74 = .ok (.aload_n 0, 1) := by decide +kernel
theorem dMd_drop_75 : decode (mB Md_drop) 75 = .ok (.getfield 83, 3) := by decide +kernel
theorem dMd_drop_78 : decode (mB Md_drop) 78 = .ok (.iload 4, 2) := by decide +kernel
theorem dMd_drop_80 : decode (mB Md_drop) 80 = .ok (.iaload, 1) := by decide +kernel
theorem dMd_drop_81 : decode (mB Md_drop) 81 = .ok (.iload_n 1, 1) := by decide +kernel
theorem dMd_drop_82 : decode (mB Md_drop) 82 = .ok (.invokevirtual 229, 3) := by decide +kernel
theorem dMd_drop_85 : decode (mB Md_drop) 85 = .ok (.bastore, 1) := by decide +kernel
theorem dMd_drop_86 : decode (mB Md_drop) 86 = .ok (.iinc 4 1, 3) := by decide +kernel
theorem dMd_drop_89 : decode (mB Md_drop) 89 = .ok (.goto (-30), 3) := by decide +kernel
theorem dMd_drop_92 : decode (mB Md_drop) 92 = .ok (.aload_n 0, 1) := by decide +kernel
theorem dMd_drop_93 : decode (mB Md_drop) 93 = .ok (.bipush 40, 2) := by decide +kernel
theorem dMd_drop_95 : decode (mB Md_drop) 95 = .ok (.iload_n 1, 1) := by decide +kernel
theorem dMd_drop_96 : decode (mB Md_drop) 96 = .ok (.invokevirtual 232, 3) := by decide +kernel
theorem dMd_drop_99 : decode (mB Md_drop) 99 = .ok (.iconst 0, 1) := by decide +kernel
theorem dMd_drop_100 : decode (mB Md_drop) 100 = .ok (.istore 4, 2) := by decide +kernel
theorem dMd_drop_102 : decode (mB Md_drop) 102 = .ok (.iload 4, 2) := by decide +kernel
theorem dMd_drop_104 : decode (mB Md_drop) 104 = .ok (.iload_n 2, 1) := by decide +kernel
theorem dMd_drop_105 : decode (mB Md_drop) 105 = .ok (.if_icmp .ge 40, 3) := by decide +kernel
theorem dMd_drop_108 : decode (mB Md_drop) 108 = .ok (.aload_n 0, 1) := by decide +kernel
theorem dMd_drop_109 : decode (mB Md_drop) 109 = .ok (.getfield 89, 3) := by decide +kernel
theorem dMd_drop_112 : decode (mB Md_drop) 112 = .ok (.iload 4, 2) := by decide +kernel
theorem dMd_drop_114 : decode (mB Md_drop) 114 = .ok (.baload, 1) := by decide +kernel
theorem dMd_drop_115 : decode (mB Md_drop) 115 = .ok (.ifCond .eq 24, 3) := by decide +kernel
theorem dMd_drop_118 : decode (mB Md_drop) 118 = .ok (.aload_n 0, 1) := by decide +kernel
theorem dMd_drop_119 : decode (mB Md_drop) 119 = .ok (.getfield 19, 3) := by decide +kernel
theorem dMd_drop_122 : decode (mB Md_drop) 122 = .ok (.sipush 12000, 3) := by decide +kernel
theorem dMd_drop_125 : decode (mB Md_drop) 125 = .ok (.aload_n 0, 1) := by decide +kernel
theorem dMd_drop_126 : decode (mB Md_drop) 126 = .ok (.getfield 83, 3) := by decide +kernel
theorem dMd_drop_129 : decode (mB Md_drop) 129 = .ok (.iload 4, 2) := by decide +kernel
theorem dMd_drop_131 : decode (mB Md_drop) 131 = .ok (.iaload, 1) := by decide +kernel
theorem dMd_drop_132 : decode (mB Md_drop) 132 = .ok (.iadd, 1) := by decide +kernel
theorem dMd_drop_133 : decode (mB Md_drop) 133 = .ok (.bipush (-2), 2) := by decide +kernel
theorem dMd_drop_135 : decode (mB Md_drop) 135 = .ok (.iastore, 1) := by decide +kernel
theorem dMd_drop_136 : decode (mB Md_drop) 136 = .ok (.iinc 3 1, 3) := by decide +kernel
theorem dMd_drop_139 : decode (mB Md_drop) 139 = .ok (.iinc 4 1, 3) := by decide +kernel
theorem dMd_drop_142 : decode (mB Md_drop) 142 = .ok (.goto (-40), 3) := by decide +kernel
theorem dMd_drop_145 : decode (mB Md_drop) 145 = .ok (.iload_n 3, 1) := by decide +kernel
theorem dMd_drop_146 : decode (mB Md_drop) 146 = .ok (.ireturn, 1) := by decide +kernel
def b_Md_drop_102 (R : Int32 → tpH → Prop) (Y : Nat → Int32 → Int32 → Int32 → tpH → Prop) (o : Nat) (x2 : Int32) (x3 : Int32) (x4 : Int32) (h : tpH) : Prop :=
  (x2 ≤ x4 → (R x3 h)) ∧ (¬ x2 ≤ x4 → (hT h o = 14 ∧ (∃ a3, (hR h o 36) = some a3 ∧ hT h a3 = 16 ∧ (vp_in x4 (hL h a3) ∧ (((hI h a3 x4.toNatClampNeg) = 0 → (Y o x2 x3 (x4 + (1 : Int32)) h)) ∧ (¬ (hI h a3 x4.toNatClampNeg) = 0 → (∃ a8, (hR h o 32) = some a8 ∧ hT h a8 = 15 ∧ (vp_in x4 (hL h a8) ∧ (∃ a12, (hR h o 6) = some a12 ∧ hT h a12 = 15 ∧ (vp_in ((12000 : Int32) + (hI h a8 x4.toNatClampNeg)) (hL h a12) ∧ (∀ h16, h16 = sI h a12 ((12000 : Int32) + (hI h a8 x4.toNatClampNeg)).toNatClampNeg (-2 : Int32) → (Y o x2 (x3 + (1 : Int32)) (x4 + (1 : Int32)) h16))))))))))))
def w_Md_drop_102 (R : Int32 → tpH → Prop) : Nat → Nat → Int32 → Int32 → Int32 → tpH → Prop
  | 0 => fun _ _ _ _ _ => False
  | n + 1 => b_Md_drop_102 R (w_Md_drop_102 R n)
def b_Md_drop_59 (R : Int32 → tpH → Prop) (Y : Nat → Int32 → Int32 → Int32 → Int32 → tpH → Prop) (o : Nat) (x1 : Int32) (x2 : Int32) (x3 : Int32) (x4 : Int32) (h : tpH) : Prop :=
  (x2 ≤ x4 → (hT h o = 14 ∧ (w_Md_unhang o (40 : Int32) x1 h (fun h3 => ∃ n, w_Md_drop_102 R n o x2 x3 (0 : Int32) h3)))) ∧ (¬ x2 ≤ x4 → (hT h o = 14 ∧ (∃ a5, (hR h o 32) = some a5 ∧ hT h a5 = 15 ∧ (vp_in x4 (hL h a5) ∧ (w_Md_isWithin o (40 : Int32) (hI h a5 x4.toNatClampNeg) x1 h (fun v10 h9 => ∃ a11, (hR h o 36) = some a11 ∧ hT h9 a11 = 16 ∧ (vp_in x4 (hL h9 a11) ∧ (tpB v10 ∧ (∀ h16, h16 = sI h9 a11 x4.toNatClampNeg v10 → (Y o x1 x2 x3 (x4 + (1 : Int32)) h16))))))))))
def w_Md_drop_59 (R : Int32 → tpH → Prop) : Nat → Nat → Int32 → Int32 → Int32 → Int32 → tpH → Prop
  | 0 => fun _ _ _ _ _ _ => False
  | n + 1 => b_Md_drop_59 R (w_Md_drop_59 R n)
def w_Md_drop_31 (R : Int32 → tpH → Prop) (o : Nat) (x1 : Int32) (t0 : Int32) (t1 : Option Nat) (h : tpH) : Prop :=
  ∃ a1, t1 = some a1 ∧ hT h a1 = 14 ∧ (∀ h4, h4 = sI h a1 31 t0 → (hT h4 o = 14 ∧ (((hI h4 o 31) ≤ 0 → (w_Md_layOrder o (40 : Int32) (hR h4 o 32) h4 (fun v9 h8 => ∃ n, w_Md_drop_59 R n o x1 v9 (0 : Int32) (0 : Int32) h8))) ∧ (¬ (hI h4 o 31) ≤ 0 → (R (0 : Int32) h4)))))
def w_Md_drop (o : Nat) (x1 : Int32) (h : tpH) (R : Int32 → tpH → Prop) : Prop :=
  hT h o = 14 ∧ (w_Md_has o (40 : Int32) x1 h (fun v3 h2 => (¬ v3 = 0 → (hT h2 o = 14 ∧ (∃ a6, (hR h2 o 5) = some a6 ∧ hT h2 a6 = 15 ∧ (vp_in (40 : Int32) (hL h2 a6) ∧ ((¬ x1 = (hI h2 a6 (40 : Int32).toNatClampNeg) → (w_Md_drop_31 R o x1 (0 : Int32) (some o) h2)) ∧ (x1 = (hI h2 a6 (40 : Int32).toNatClampNeg) → (w_Md_drop_31 R o x1 (2 : Int32) (some o) h2))))))) ∧ (v3 = 0 → (w_Md_drop_31 R o x1 (1 : Int32) (some o) h2))))
theorem s_Md_drop_102 {h0 : tpH} {av : List tpV} {R : Int32 → tpH → Prop} : ∀ (n : Nat) (o : Nat) (x2 : Int32) (x3 : Int32) (x4 : Int32) (h : tpH), w_Md_drop_102 R n o x2 x3 x4 h → tpR Md_drop 3 h0 av (tpOi R (fun _ _ => False)) 102 [some (vR (some o)), none, some (vI x2), some (vI x3), some (vI x4)] [] h := by
  intro n
  induction n with
  | zero => intro o x2 x3 x4 h hw; exact False.elim hw
  | succ n ih =>
    intro o x2 x3 x4 h hw
    change b_Md_drop_102 R (w_Md_drop_102 R n) o x2 x3 x4 h at hw
    unfold b_Md_drop_102 at hw
    refine tq_iload dMd_drop_102 rfl ?_
    refine tq_iload_n dMd_drop_104 rfl rfl ?_
    refine tq_icmpge (tgt := 145) dMd_drop_105 (by decide) (fun c1 => ?_) (fun c1 => ?_)
    · have hw := hw.1 c1
      refine tq_iload_n dMd_drop_145 rfl rfl ?_
      exact tq_iret rfl rfl dMd_drop_146 hw
    · have hw := hw.2 c1
      refine tq_aload_n dMd_drop_108 rfl rfl ?_
      obtain ⟨f2, hw⟩ := hw
      refine te_getr dMd_drop_109 fMd_89 rfl rfl f2 ?_
      refine tq_iload dMd_drop_112 rfl ?_
      obtain ⟨a3, e4, f5, hw⟩ := hw
      obtain ⟨f6, hw⟩ := hw
      refine te_zald dMd_drop_114 e4 f5 f6 ?_
      refine tq_ifeq (tgt := 139) dMd_drop_115 (by decide) (fun c7 => ?_) (fun c7 => ?_)
      · have hw := hw.1 c7
        refine tq_inc (k := (1 : Int32)) (ls' := [some (vR (some o)), none, some (vI x2), some (vI x3), some (vI (x4 + (1 : Int32)))]) dMd_drop_139 rfl tni_1 (Nat.le_of_ble_eq_true rfl) rfl ?_
        refine tq_goto (tgt := 102) dMd_drop_142 (by decide) ?_
        refine tpR.fo (ls' := [some (vR (some o)), none, some (vI x2), some (vI x3), some (vI (x4 + (1 : Int32)))]) ?_ (And.intro rfl (And.intro rfl (And.intro rfl (And.intro rfl trivial))))
        exact ih _ _ _ _ _ hw
      · have hw := hw.2 c7
        refine tq_aload_n dMd_drop_118 rfl rfl ?_
        refine te_getr dMd_drop_119 fMd_19 rfl rfl f2 ?_
        refine tq_sipush (v := (12000 : Int32)) dMd_drop_122 tns_12000 ?_
        refine tq_aload_n dMd_drop_125 rfl rfl ?_
        refine te_getr dMd_drop_126 fMd_83 rfl rfl f2 ?_
        refine tq_iload dMd_drop_129 rfl ?_
        obtain ⟨a8, e9, f10, hw⟩ := hw
        obtain ⟨f11, hw⟩ := hw
        refine te_iald dMd_drop_131 e9 (Or.inl f10) f11 ?_
        refine tq_iadd dMd_drop_132 ?_
        refine tq_bipush (v := (-2 : Int32)) dMd_drop_133 tnb_m2 ?_
        obtain ⟨a12, e13, f14, hw⟩ := hw
        obtain ⟨f15, hw⟩ := hw
        refine te_iast dMd_drop_135 e13 f14 f15 (fun h16 e17 => ?_)
        have hw := hw h16 e17
        refine tq_inc (k := (1 : Int32)) (ls' := [some (vR (some o)), none, some (vI x2), some (vI (x3 + (1 : Int32))), some (vI x4)]) dMd_drop_136 rfl tni_1 (Nat.le_of_ble_eq_true rfl) rfl ?_
        refine tq_inc (k := (1 : Int32)) (ls' := [some (vR (some o)), none, some (vI x2), some (vI (x3 + (1 : Int32))), some (vI (x4 + (1 : Int32)))]) dMd_drop_139 rfl tni_1 (Nat.le_of_ble_eq_true rfl) rfl ?_
        refine tq_goto (tgt := 102) dMd_drop_142 (by decide) ?_
        refine tpR.fo (ls' := [some (vR (some o)), none, some (vI x2), some (vI (x3 + (1 : Int32))), some (vI (x4 + (1 : Int32)))]) ?_ (And.intro rfl (And.intro rfl (And.intro rfl (And.intro rfl trivial))))
        exact ih _ _ _ _ _ hw
theorem s_Md_drop_59 {h0 : tpH} {av : List tpV} {R : Int32 → tpH → Prop} : ∀ (n : Nat) (o : Nat) (x1 : Int32) (x2 : Int32) (x3 : Int32) (x4 : Int32) (h : tpH), w_Md_drop_59 R n o x1 x2 x3 x4 h → tpR Md_drop 3 h0 av (tpOi R (fun _ _ => False)) 59 [some (vR (some o)), some (vI x1), some (vI x2), some (vI x3), some (vI x4)] [] h := by
  intro n
  induction n with
  | zero => intro o x1 x2 x3 x4 h hw; exact False.elim hw
  | succ n ih =>
    intro o x1 x2 x3 x4 h hw
    change b_Md_drop_59 R (w_Md_drop_59 R n) o x1 x2 x3 x4 h at hw
    unfold b_Md_drop_59 at hw
    refine tq_iload dMd_drop_59 rfl ?_
    refine tq_iload_n dMd_drop_61 rfl rfl ?_
    refine tq_icmpge (tgt := 92) dMd_drop_62 (by decide) (fun c1 => ?_) (fun c1 => ?_)
    · have hw := hw.1 c1
      refine tq_aload_n dMd_drop_92 rfl rfl ?_
      refine tq_bipush (v := (40 : Int32)) dMd_drop_93 tnb_40 ?_
      refine tq_iload_n dMd_drop_95 rfl rfl ?_
      obtain ⟨f2, hw⟩ := hw
      refine te_callV mv_Md_unhang (ci := 13) (dc := 2) (as := [vI (40 : Int32), vI x1]) (rest := []) kMd_232 rfl (Nat.le_of_ble_eq_true rfl) (Nat.le_of_ble_eq_true rfl) rfl rfl rfl f2 (Nat.le_of_ble_eq_true rfl) dMd_drop_96 (s_Md_unhang hw) (fun _ _ hx => False.elim hx) (tk_v fun h3 hw => ?_)
      refine tq_iconst (v := (0 : Int32)) dMd_drop_99 tni_0 ?_
      refine tq_istore (ls' := [some (vR (some o)), some (vI x1), some (vI x2), some (vI x3), some (vI (0 : Int32))]) dMd_drop_100 (Nat.le_of_ble_eq_true rfl) rfl ?_
      refine tpR.fo (ls' := [some (vR (some o)), none, some (vI x2), some (vI x3), some (vI (0 : Int32))]) ?_ (And.intro rfl (And.intro rfl (And.intro rfl (And.intro rfl trivial))))
      obtain ⟨n, hw⟩ := hw
      exact s_Md_drop_102 n _ _ _ _ _ hw
    · have hw := hw.2 c1
      refine tq_aload_n dMd_drop_65 rfl rfl ?_
      obtain ⟨f4, hw⟩ := hw
      refine te_getr dMd_drop_66 fMd_89 rfl rfl f4 ?_
      refine tq_iload dMd_drop_69 rfl ?_
      refine tq_aload_n dMd_drop_71 rfl rfl ?_
      refine tq_bipush (v := (40 : Int32)) dMd_drop_72 tnb_40 ?_
      refine tq_aload_n dMd_drop_74 rfl rfl ?_
      refine te_getr dMd_drop_75 fMd_83 rfl rfl f4 ?_
      refine tq_iload dMd_drop_78 rfl ?_
      obtain ⟨a5, e6, f7, hw⟩ := hw
      obtain ⟨f8, hw⟩ := hw
      refine te_iald dMd_drop_80 e6 (Or.inl f7) f8 ?_
      refine tq_iload_n dMd_drop_81 rfl rfl ?_
      refine te_callV mv_Md_isWithin (ci := 13) (dc := 1) (as := [vI (40 : Int32), vI (hI h a5 x4.toNatClampNeg), vI x1]) (rest := [vI x4, vR (hR h o 36)]) kMd_229 rfl (Nat.le_of_ble_eq_true rfl) (Nat.le_of_ble_eq_true rfl) rfl rfl rfl f4 (Nat.le_of_ble_eq_true rfl) dMd_drop_82 (s_Md_isWithin hw) (fun _ _ hx => False.elim hx) (tk_i fun v10 h9 hw => ?_)
      obtain ⟨a11, e12, f13, hw⟩ := hw
      obtain ⟨f14, hw⟩ := hw
      obtain ⟨f15, hw⟩ := hw
      refine te_zast dMd_drop_85 e12 f13 f14 (tpB_n f15) (fun h16 e17 => ?_)
      have hw := hw h16 e17
      refine tq_inc (k := (1 : Int32)) (ls' := [some (vR (some o)), some (vI x1), some (vI x2), some (vI x3), some (vI (x4 + (1 : Int32)))]) dMd_drop_86 rfl tni_1 (Nat.le_of_ble_eq_true rfl) rfl ?_
      refine tq_goto (tgt := 59) dMd_drop_89 (by decide) ?_
      refine tpR.fo (ls' := [some (vR (some o)), some (vI x1), some (vI x2), some (vI x3), some (vI (x4 + (1 : Int32)))]) ?_ (And.intro rfl (And.intro rfl (And.intro rfl (And.intro rfl (And.intro rfl trivial)))))
      exact ih _ _ _ _ _ _ hw
theorem s_Md_drop_31 {h0 : tpH} {av : List tpV} {R : Int32 → tpH → Prop} : ∀ (o : Nat) (x1 : Int32) (t0 : Int32) (t1 : Option Nat) (h : tpH), w_Md_drop_31 R o x1 t0 t1 h → tpR Md_drop 3 h0 av (tpOi R (fun _ _ => False)) 31 [some (vR (some o)), some (vI x1), none, none, none] [vI t0, vR t1] h := by
  intro o x1 t0 t1 h hw
  unfold w_Md_drop_31 at hw
  obtain ⟨a1, e2, f3, hw⟩ := hw
  refine te_puti dMd_drop_31 pMd_151 rfl rfl e2 f3 ⟨rfl, rfl⟩ (fun h4 e5 => ?_)
  have hw := hw h4 e5
  refine tq_aload_n dMd_drop_34 rfl rfl ?_
  obtain ⟨f6, hw⟩ := hw
  refine te_geti dMd_drop_35 fMd_151 rfl rfl f6 ?_
  refine tq_ifle (tgt := 43) dMd_drop_38 (by decide) (fun c7 => ?_) (fun c7 => ?_)
  · have hw := hw.1 c7
    refine tq_aload_n dMd_drop_43 rfl rfl ?_
    refine tq_bipush (v := (40 : Int32)) dMd_drop_44 tnb_40 ?_
    refine tq_aload_n dMd_drop_46 rfl rfl ?_
    refine te_getr dMd_drop_47 fMd_83 rfl rfl f6 ?_
    refine te_callV mv_Md_layOrder (ci := 13) (dc := 1) (as := [vI (40 : Int32), vR (hR h4 o 32)]) (rest := []) kMd_208 rfl (Nat.le_of_ble_eq_true rfl) (Nat.le_of_ble_eq_true rfl) rfl rfl rfl f6 (Nat.le_of_ble_eq_true rfl) dMd_drop_50 (s_Md_layOrder hw) (fun _ _ hx => False.elim hx) (tk_i fun v9 h8 hw => ?_)
    refine tq_istore_n (ls' := [some (vR (some o)), some (vI x1), some (vI v9), none, none]) dMd_drop_53 rfl (Nat.le_of_ble_eq_true rfl) rfl ?_
    refine tq_iconst (v := (0 : Int32)) dMd_drop_54 tni_0 ?_
    refine tq_istore_n (ls' := [some (vR (some o)), some (vI x1), some (vI v9), some (vI (0 : Int32)), none]) dMd_drop_55 rfl (Nat.le_of_ble_eq_true rfl) rfl ?_
    refine tq_iconst (v := (0 : Int32)) dMd_drop_56 tni_0 ?_
    refine tq_istore (ls' := [some (vR (some o)), some (vI x1), some (vI v9), some (vI (0 : Int32)), some (vI (0 : Int32))]) dMd_drop_57 (Nat.le_of_ble_eq_true rfl) rfl ?_
    refine tpR.fo (ls' := [some (vR (some o)), some (vI x1), some (vI v9), some (vI (0 : Int32)), some (vI (0 : Int32))]) ?_ (And.intro rfl (And.intro rfl (And.intro rfl (And.intro rfl (And.intro rfl trivial)))))
    obtain ⟨n, hw⟩ := hw
    exact s_Md_drop_59 n _ _ _ _ _ _ hw
  · have hw := hw.2 c7
    refine tq_iconst (v := (0 : Int32)) dMd_drop_41 tni_0 ?_
    exact tq_iret rfl rfl dMd_drop_42 hw
theorem s_Md_drop {o : Nat} {x1 : Int32} {h : tpH} {R : Int32 → tpH → Prop} (hw : w_Md_drop o x1 h R) : tpC Md_drop 3 [vR (some o), vI x1] h (tpOi R (fun _ _ => False)) := by
  refine tpC_of mv_Md_drop.2.2.2.1 rfl rfl (Nat.le_of_ble_eq_true rfl) ?_
  show tpR Md_drop 3 h _ _ 0 [some (vR (some o)), some (vI x1), none, none, none] [] h
  unfold w_Md_drop at hw
  refine tq_aload_n dMd_drop_0 rfl rfl ?_
  refine tq_aload_n dMd_drop_1 rfl rfl ?_
  refine tq_bipush (v := (40 : Int32)) dMd_drop_2 tnb_40 ?_
  refine tq_iload_n dMd_drop_4 rfl rfl ?_
  obtain ⟨f1, hw⟩ := hw
  refine te_callV mv_Md_has (ci := 13) (dc := 2) (as := [vI (40 : Int32), vI x1]) (rest := [vR (some o)]) kMd_212 rfl (Nat.le_of_ble_eq_true rfl) (Nat.le_of_ble_eq_true rfl) rfl rfl rfl f1 (Nat.le_of_ble_eq_true rfl) dMd_drop_5 (s_Md_has hw) (fun _ _ hx => False.elim hx) (tk_i fun v3 h2 hw => ?_)
  refine tq_ifne (tgt := 15) dMd_drop_8 (by decide) (fun c4 => ?_) (fun c4 => ?_)
  · have hw := hw.1 c4
    refine tq_iload_n dMd_drop_15 rfl rfl ?_
    refine tq_aload_n dMd_drop_16 rfl rfl ?_
    obtain ⟨f5, hw⟩ := hw
    refine te_getr dMd_drop_17 fMd_16 rfl rfl f5 ?_
    refine tq_bipush (v := (40 : Int32)) dMd_drop_20 tnb_40 ?_
    obtain ⟨a6, e7, f8, hw⟩ := hw
    obtain ⟨f9, hw⟩ := hw
    refine te_iald dMd_drop_22 e7 (Or.inl f8) f9 ?_
    refine tq_icmpne (tgt := 30) dMd_drop_23 (by decide) (fun c10 => ?_) (fun c10 => ?_)
    · have hw := hw.1 c10
      refine tq_iconst (v := (0 : Int32)) dMd_drop_30 tni_0 ?_
      refine tpR.fo (ls' := [some (vR (some o)), some (vI x1), none, none, none]) ?_ (And.intro rfl (And.intro rfl trivial))
      exact s_Md_drop_31 _ _ _ _ _ hw
    · have hw := hw.2 c10
      refine tq_iconst (v := (2 : Int32)) dMd_drop_26 tni_2 ?_
      refine tq_goto (tgt := 31) dMd_drop_27 (by decide) ?_
      refine tpR.fo (ls' := [some (vR (some o)), some (vI x1), none, none, none]) ?_ (And.intro rfl (And.intro rfl trivial))
      exact s_Md_drop_31 _ _ _ _ _ hw
  · have hw := hw.2 c4
    refine tq_iconst (v := (1 : Int32)) dMd_drop_11 tni_1 ?_
    refine tq_goto (tgt := 31) dMd_drop_12 (by decide) ?_
    refine tpR.fo (ls' := [some (vR (some o)), some (vI x1), none, none, none]) ?_ (And.intro rfl (And.intro rfl trivial))
    exact s_Md_drop_31 _ _ _ _ _ hw
/-! TModel.sealed -/
theorem dMd_sealed_0 : decode (mB Md_sealed) 0 = .ok (.aload_n 0, 1) := by decide +kernel
theorem dMd_sealed_1 : decode (mB Md_sealed) 1 = .ok (.iload_n 1, 1) := by decide +kernel
theorem dMd_sealed_2 : decode (mB Md_sealed) 2 = .ok (.aload_n 0, 1) := by decide +kernel
theorem dMd_sealed_3 : decode (mB Md_sealed) 3 = .ok (.getfield 155, 3) := by decide +kernel
theorem dMd_sealed_6 : decode (mB Md_sealed) 6 = .ok (.invokevirtual 204, 3) := by decide +kernel
theorem dMd_sealed_9 : decode (mB Md_sealed) 9 = .ok (.aload_n 0, 1) := by decide +kernel
theorem dMd_sealed_10 : decode (mB Md_sealed) 10 = .ok (.dup, 1) := by decide +kernel
theorem dMd_sealed_11 : decode (mB Md_sealed) 11 = .ok (.getfield 155, 3) := by decide +kernel
theorem dMd_sealed_14 : decode (mB Md_sealed) 14 = .ok (.iconst 1, 1) := by decide +kernel
theorem dMd_sealed_15 : decode (mB Md_sealed) 15 = .ok (.iadd, 1) := by decide +kernel
theorem dMd_sealed_16 : decode (mB Md_sealed) 16 = .ok (.putfield 155, 3) := by decide +kernel
theorem dMd_sealed_19 : decode (mB Md_sealed) 19 = .ok (.aload_n 0, 1) := by decide +kernel
theorem dMd_sealed_20 : decode (mB Md_sealed) 20 = .ok (.getfield 155, 3) := by decide +kernel
theorem dMd_sealed_23 : decode (mB Md_sealed) 23 = .ok (.iconst 1, 1) := by decide +kernel
theorem dMd_sealed_24 : decode (mB Md_sealed) 24 = .ok (.isub, 1) := by decide +kernel
theorem dMd_sealed_25 : decode (mB Md_sealed) 25 = .ok (.ireturn, 1) := by decide +kernel
def w_Md_sealed (o : Nat) (x1 : Int32) (h : tpH) (R : Int32 → tpH → Prop) : Prop :=
  hT h o = 14 ∧ (w_Md_copyTree o x1 (hI h o 3) h (fun h2 => hT h2 o = 14 ∧ (∀ h4, h4 = sI h2 o 3 ((hI h2 o 3) + (1 : Int32)) → (R ((hI h4 o 3) - (1 : Int32)) h4))))
theorem s_Md_sealed {o : Nat} {x1 : Int32} {h : tpH} {R : Int32 → tpH → Prop} (hw : w_Md_sealed o x1 h R) : tpC Md_sealed 1 [vR (some o), vI x1] h (tpOi R (fun _ _ => False)) := by
  refine tpC_of mv_Md_sealed.2.2.2.1 rfl rfl (Nat.le_of_ble_eq_true rfl) ?_
  show tpR Md_sealed 1 h _ _ 0 [some (vR (some o)), some (vI x1)] [] h
  unfold w_Md_sealed at hw
  refine tq_aload_n dMd_sealed_0 rfl rfl ?_
  refine tq_iload_n dMd_sealed_1 rfl rfl ?_
  refine tq_aload_n dMd_sealed_2 rfl rfl ?_
  obtain ⟨f1, hw⟩ := hw
  refine te_geti dMd_sealed_3 fMd_155 rfl rfl f1 ?_
  refine te_callV mv_Md_copyTree (ci := 13) (dc := 0) (as := [vI x1, vI (hI h o 3)]) (rest := []) kMd_204 rfl (Nat.le_of_ble_eq_true rfl) (Nat.le_of_ble_eq_true rfl) rfl rfl rfl f1 (Nat.le_of_ble_eq_true rfl) dMd_sealed_6 (s_Md_copyTree hw) (fun _ _ hx => False.elim hx) (tk_v fun h2 hw => ?_)
  refine tq_aload_n dMd_sealed_9 rfl rfl ?_
  refine tq_dup dMd_sealed_10 rfl ?_
  obtain ⟨f3, hw⟩ := hw
  refine te_geti dMd_sealed_11 fMd_155 rfl rfl f3 ?_
  refine tq_iconst (v := (1 : Int32)) dMd_sealed_14 tni_1 ?_
  refine tq_iadd dMd_sealed_15 ?_
  refine te_puti dMd_sealed_16 pMd_155 rfl rfl rfl f3 ⟨rfl, rfl⟩ (fun h4 e5 => ?_)
  have hw := hw h4 e5
  refine tq_aload_n dMd_sealed_19 rfl rfl ?_
  refine te_geti dMd_sealed_20 fMd_155 rfl rfl (by rw [e5]; exact f3) ?_
  refine tq_iconst (v := (1 : Int32)) dMd_sealed_23 tni_1 ?_
  refine tq_isub dMd_sealed_24 ?_
  exact tq_iret rfl rfl dMd_sealed_25 hw
/-! TModel.seal -/
theorem dMd_seal_0 : decode (mB Md_seal) 0 = .ok (.aload_n 0, 1) := by decide +kernel
theorem dMd_seal_1 : decode (mB Md_seal) 1 = .ok (.aload_n 0, 1) := by decide +kernel
theorem dMd_seal_2 : decode (mB Md_seal) 2 = .ok (.getfield 193, 3) := by decide +kernel
theorem dMd_seal_5 : decode (mB Md_seal) 5 = .ok (.ifCond .eq 12, 3) := by decide +kernel
theorem dMd_seal_8 : decode (mB Md_seal) 8 = .ok (.aload_n 0, 1) := by decide +kernel
theorem dMd_seal_9 : decode (mB Md_seal) 9 = .ok (.getfield 155, 3) := by decide +kernel
theorem dMd_seal_12 : decode (mB Md_seal) 12 = .ok (.bipush 40, 2) := by decide +kernel
theorem dMd_seal_14 : decode (mB Md_seal) 14 = .ok (.if_icmp .ne 7, 3) := by decide +kernel
theorem dMd_seal_17 : decode (mB Md_seal) 17 = .ok (.iconst 1, 1) := by decide +kernel
theorem dMd_seal_18 : decode (mB Md_seal) 18 = .ok (.goto 4, 3) := by decide +kernel
theorem dMd_seal_21 : decode (mB Md_seal) 21 = .ok (.iconst 0, 1) := by decide +kernel
theorem dMd_seal_22 : decode (mB Md_seal) 22 = .ok (.putfield 151, 3) := by decide +kernel
theorem dMd_seal_25 : decode (mB Md_seal) 25 = .ok (.aload_n 0, 1) := by decide +kernel
theorem dMd_seal_26 : decode (mB Md_seal) 26 = .ok (.getfield 151, 3) := by decide +kernel
theorem dMd_seal_29 : decode (mB Md_seal) 29 = .ok (.ifCond .ne 12, 3) := by decide +kernel
theorem dMd_seal_32 : decode (mB Md_seal) 32 = .ok (.aload_n 0, 1) := by decide +kernel
theorem dMd_seal_33 : decode (mB Md_seal) 33 = .ok (.bipush 40, 2) := by decide +kernel
theorem dMd_seal_35 : decode (mB Md_seal) 35 = .ok (.invokevirtual 235, 3) := by decide +kernel
theorem dMd_seal_38 : decode (mB Md_seal) 38 = .ok (.goto 4, 3) := by decide +kernel
theorem dMd_seal_41 : decode (mB Md_seal) 41 = .ok (.iconst 0, 1) := by decide +kernel
theorem dMd_seal_42 : decode (mB Md_seal) 42 = .ok (.ireturn, 1) := by decide +kernel
def w_Md_seal_22 (R : Int32 → tpH → Prop) (o : Nat) (t0 : Int32) (t1 : Option Nat) (h : tpH) : Prop :=
  ∃ a1, t1 = some a1 ∧ hT h a1 = 14 ∧ (∀ h4, h4 = sI h a1 31 t0 → (hT h4 o = 14 ∧ ((¬ (hI h4 o 31) = 0 → (R (0 : Int32) h4)) ∧ ((hI h4 o 31) = 0 → (w_Md_sealed o (40 : Int32) h4 (fun v9 h8 => R v9 h8))))))
def w_Md_seal (o : Nat) (h : tpH) (R : Int32 → tpH → Prop) : Prop :=
  hT h o = 14 ∧ (((hI h o 4) = 0 → (w_Md_seal_22 R o (1 : Int32) (some o) h)) ∧ (¬ (hI h o 4) = 0 → ((¬ (hI h o 3) = (40 : Int32) → (w_Md_seal_22 R o (0 : Int32) (some o) h)) ∧ ((hI h o 3) = (40 : Int32) → (w_Md_seal_22 R o (1 : Int32) (some o) h)))))
theorem s_Md_seal_22 {h0 : tpH} {av : List tpV} {R : Int32 → tpH → Prop} : ∀ (o : Nat) (t0 : Int32) (t1 : Option Nat) (h : tpH), w_Md_seal_22 R o t0 t1 h → tpR Md_seal 2 h0 av (tpOi R (fun _ _ => False)) 22 [some (vR (some o))] [vI t0, vR t1] h := by
  intro o t0 t1 h hw
  unfold w_Md_seal_22 at hw
  obtain ⟨a1, e2, f3, hw⟩ := hw
  refine te_puti dMd_seal_22 pMd_151 rfl rfl e2 f3 ⟨rfl, rfl⟩ (fun h4 e5 => ?_)
  have hw := hw h4 e5
  refine tq_aload_n dMd_seal_25 rfl rfl ?_
  obtain ⟨f6, hw⟩ := hw
  refine te_geti dMd_seal_26 fMd_151 rfl rfl f6 ?_
  refine tq_ifne (tgt := 41) dMd_seal_29 (by decide) (fun c7 => ?_) (fun c7 => ?_)
  · have hw := hw.1 c7
    refine tq_iconst (v := (0 : Int32)) dMd_seal_41 tni_0 ?_
    exact tq_iret rfl rfl dMd_seal_42 hw
  · have hw := hw.2 c7
    refine tq_aload_n dMd_seal_32 rfl rfl ?_
    refine tq_bipush (v := (40 : Int32)) dMd_seal_33 tnb_40 ?_
    refine te_callV mv_Md_sealed (ci := 13) (dc := 1) (as := [vI (40 : Int32)]) (rest := []) kMd_235 rfl (Nat.le_of_ble_eq_true rfl) (Nat.le_of_ble_eq_true rfl) rfl rfl rfl f6 (Nat.le_of_ble_eq_true rfl) dMd_seal_35 (s_Md_sealed hw) (fun _ _ hx => False.elim hx) (tk_i fun v9 h8 hw => ?_)
    refine tq_goto (tgt := 42) dMd_seal_38 (by decide) ?_
    exact tq_iret rfl rfl dMd_seal_42 hw
theorem s_Md_seal {o : Nat} {h : tpH} {R : Int32 → tpH → Prop} (hw : w_Md_seal o h R) : tpC Md_seal 2 [vR (some o)] h (tpOi R (fun _ _ => False)) := by
  refine tpC_of mv_Md_seal.2.2.2.1 rfl rfl (Nat.le_of_ble_eq_true rfl) ?_
  show tpR Md_seal 2 h _ _ 0 [some (vR (some o))] [] h
  unfold w_Md_seal at hw
  refine tq_aload_n dMd_seal_0 rfl rfl ?_
  refine tq_aload_n dMd_seal_1 rfl rfl ?_
  obtain ⟨f1, hw⟩ := hw
  refine te_geti dMd_seal_2 fMd_193 rfl rfl f1 ?_
  refine tq_ifeq (tgt := 17) dMd_seal_5 (by decide) (fun c2 => ?_) (fun c2 => ?_)
  · have hw := hw.1 c2
    refine tq_iconst (v := (1 : Int32)) dMd_seal_17 tni_1 ?_
    refine tq_goto (tgt := 22) dMd_seal_18 (by decide) ?_
    refine tpR.fo (ls' := [some (vR (some o))]) ?_ (And.intro rfl trivial)
    exact s_Md_seal_22 _ _ _ _ hw
  · have hw := hw.2 c2
    refine tq_aload_n dMd_seal_8 rfl rfl ?_
    refine te_geti dMd_seal_9 fMd_155 rfl rfl f1 ?_
    refine tq_bipush (v := (40 : Int32)) dMd_seal_12 tnb_40 ?_
    refine tq_icmpne (tgt := 21) dMd_seal_14 (by decide) (fun c3 => ?_) (fun c3 => ?_)
    · have hw := hw.1 c3
      refine tq_iconst (v := (0 : Int32)) dMd_seal_21 tni_0 ?_
      refine tpR.fo (ls' := [some (vR (some o))]) ?_ (And.intro rfl trivial)
      exact s_Md_seal_22 _ _ _ _ hw
    · have hw := hw.2 c3
      refine tq_iconst (v := (1 : Int32)) dMd_seal_17 tni_1 ?_
      refine tq_goto (tgt := 22) dMd_seal_18 (by decide) ?_
      refine tpR.fo (ls' := [some (vR (some o))]) ?_ (And.intro rfl trivial)
      exact s_Md_seal_22 _ _ _ _ hw
/-! TModel.areAlikeMarks -/
theorem dMd_areAlikeMarks_0 : decode (mB Md_areAlikeMarks) 0 = .ok (.aload_n 0, 1) := by decide +kernel
theorem dMd_areAlikeMarks_1 : decode (mB Md_areAlikeMarks) 1 = .ok (.getfield 94, 3) := by decide +kernel
theorem dMd_areAlikeMarks_4 : decode (mB Md_areAlikeMarks) 4 = .ok (.sipush 300, 3) := by decide +kernel
theorem dMd_areAlikeMarks_7 : decode (mB Md_areAlikeMarks) 7 = .ok (.aload_n 0, 1) := by decide +kernel
theorem dMd_areAlikeMarks_8 : decode (mB Md_areAlikeMarks) 8 = .ok (.getfield 97, 3) := by decide +kernel
theorem dMd_areAlikeMarks_11 : decode (mB Md_areAlikeMarks) 11 = .ok (.iload_n 1, 1) := by decide +kernel
theorem dMd_areAlikeMarks_12 : decode (mB Md_areAlikeMarks) 12 = .ok (.iaload, 1) := by decide +kernel
theorem dMd_areAlikeMarks_13 : decode (mB Md_areAlikeMarks) 13 = .ok (.imul, 1) := by decide +kernel
theorem dMd_areAlikeMarks_14 : decode (mB Md_areAlikeMarks) 14 = .ok (.aload_n 0, 1) := by decide +kernel
theorem dMd_areAlikeMarks_15 : decode (mB Md_areAlikeMarks) 15 = .ok (.getfield 100, 3) := by decide +kernel
theorem dMd_areAlikeMarks_18 : decode (mB Md_areAlikeMarks) 18 = .ok (.iload_n 2, 1) := by decide +kernel
theorem dMd_areAlikeMarks_19 : decode (mB Md_areAlikeMarks) 19 = .ok (.iaload, 1) := by decide +kernel
theorem dMd_areAlikeMarks_20 : decode (mB Md_areAlikeMarks) 20 = .ok (.iadd, 1) := by decide +kernel
theorem dMd_areAlikeMarks_21 : decode (mB Md_areAlikeMarks) 21 = .ok (.baload, 1) := by decide +kernel
theorem dMd_areAlikeMarks_22 : decode (mB Md_areAlikeMarks) 22 = .ok (.ireturn, 1) := by decide +kernel
def w_Md_areAlikeMarks (o : Nat) (x1 : Int32) (x2 : Int32) (h : tpH) (R : Int32 → tpH → Prop) : Prop :=
  hT h o = 14 ∧ (∃ a2, (hR h o 38) = some a2 ∧ hT h a2 = 15 ∧ (vp_in x1 (hL h a2) ∧ (∃ a6, (hR h o 39) = some a6 ∧ hT h a6 = 15 ∧ (vp_in x2 (hL h a6) ∧ (∃ a10, (hR h o 37) = some a10 ∧ hT h a10 = 16 ∧ (vp_in (((300 : Int32) * (hI h a2 x1.toNatClampNeg)) + (hI h a6 x2.toNatClampNeg)) (hL h a10) ∧ (tpB (hI h a10 (((300 : Int32) * (hI h a2 x1.toNatClampNeg)) + (hI h a6 x2.toNatClampNeg)).toNatClampNeg) ∧ (R (hI h a10 (((300 : Int32) * (hI h a2 x1.toNatClampNeg)) + (hI h a6 x2.toNatClampNeg)).toNatClampNeg) h))))))))
theorem s_Md_areAlikeMarks {o : Nat} {x1 : Int32} {x2 : Int32} {h : tpH} {R : Int32 → tpH → Prop} (hw : w_Md_areAlikeMarks o x1 x2 h R) : tpC Md_areAlikeMarks 0 [vR (some o), vI x1, vI x2] h (tpOi R (fun _ _ => False)) := by
  refine tpC_of mv_Md_areAlikeMarks.2.2.2.1 rfl rfl (Nat.le_of_ble_eq_true rfl) ?_
  show tpR Md_areAlikeMarks 0 h _ _ 0 [some (vR (some o)), some (vI x1), some (vI x2)] [] h
  unfold w_Md_areAlikeMarks at hw
  refine tq_aload_n dMd_areAlikeMarks_0 rfl rfl ?_
  obtain ⟨f1, hw⟩ := hw
  refine te_getr dMd_areAlikeMarks_1 fMd_94 rfl rfl f1 ?_
  refine tq_sipush (v := (300 : Int32)) dMd_areAlikeMarks_4 tns_300 ?_
  refine tq_aload_n dMd_areAlikeMarks_7 rfl rfl ?_
  refine te_getr dMd_areAlikeMarks_8 fMd_97 rfl rfl f1 ?_
  refine tq_iload_n dMd_areAlikeMarks_11 rfl rfl ?_
  obtain ⟨a2, e3, f4, hw⟩ := hw
  obtain ⟨f5, hw⟩ := hw
  refine te_iald dMd_areAlikeMarks_12 e3 (Or.inl f4) f5 ?_
  refine tq_imul dMd_areAlikeMarks_13 ?_
  refine tq_aload_n dMd_areAlikeMarks_14 rfl rfl ?_
  refine te_getr dMd_areAlikeMarks_15 fMd_100 rfl rfl f1 ?_
  refine tq_iload_n dMd_areAlikeMarks_18 rfl rfl ?_
  obtain ⟨a6, e7, f8, hw⟩ := hw
  obtain ⟨f9, hw⟩ := hw
  refine te_iald dMd_areAlikeMarks_19 e7 (Or.inl f8) f9 ?_
  refine tq_iadd dMd_areAlikeMarks_20 ?_
  obtain ⟨a10, e11, f12, hw⟩ := hw
  obtain ⟨f13, hw⟩ := hw
  refine te_zald dMd_areAlikeMarks_21 e11 f12 f13 ?_
  obtain ⟨f14, hw⟩ := hw
  exact tq_iret rfl (tpB_n f14) dMd_areAlikeMarks_22 hw
/-! TModel.partnerOf -/
theorem dMd_partnerOf_0 : decode (mB Md_partnerOf) 0 = .ok (.aload_n 0, 1) := by decide +kernel
theorem dMd_partnerOf_1 : decode (mB Md_partnerOf) 1 = .ok (.iload_n 1, 1) := by decide +kernel
theorem dMd_partnerOf_2 : decode (mB Md_partnerOf) 2 = .ok (.iload_n 3, 1) := by decide +kernel
theorem dMd_partnerOf_3 : decode (mB Md_partnerOf) 3 = .ok (.invokevirtual 173, 3) := by decide +kernel
theorem dMd_partnerOf_6 : decode (mB Md_partnerOf) 6 = .ok (.istore 4, 2) := by decide +kernel
theorem dMd_partnerOf_8 : decode (mB Md_partnerOf) 8 = .ok (.iload 4, 2) := by decide +kernel
theorem dMd_partnerOf_10 : decode (mB Md_partnerOf) 10 = .ok (.iconst (-1), 1) := by decide +kernel
theorem dMd_partnerOf_11 : decode (mB Md_partnerOf) 11 = .ok (.if_icmp .eq 38, 3) := by decide +kernel
theorem dMd_partnerOf_14 : decode (mB Md_partnerOf) 14 = .ok (.aload_n 0, 1) := by decide +kernel
theorem dMd_partnerOf_15 : decode (mB Md_partnerOf) 15 = .ok (.getfield 103, 3) := by decide +kernel
theorem dMd_partnerOf_18 : decode (mB Md_partnerOf) 18 = .ok (.iload 4, 2) := by decide +kernel
theorem dMd_partnerOf_20 : decode (mB Md_partnerOf) 20 = .ok (.baload, 1) := by decide +kernel
theorem dMd_partnerOf_21 : decode (mB Md_partnerOf) 21 = .ok (.ifCond .ne 16, 3) := by decide +kernel
theorem dMd_partnerOf_24 : decode (mB Md_partnerOf) 24 = .ok (.aload_n 0, 1) := by decide +kernel
theorem dMd_partnerOf_25 : decode (mB Md_partnerOf) 25 = .ok (.iload_n 2, 1) := by decide +kernel
theorem dMd_partnerOf_26 : decode (mB Md_partnerOf) 26 = .ok (.iload 4, 2) := by decide +kernel
theorem dMd_partnerOf_28 : decode (mB Md_partnerOf) 28 = .ok (.invokevirtual 239, 3) := by decide +kernel
theorem dMd_partnerOf_31 : decode (mB Md_partnerOf) 31 = .ok (.ifCond .eq 6, 3) := by decide +kernel
theorem dMd_partnerOf_34 : decode (mB Md_partnerOf) 34 = .ok (.iload 4, 2) := by decide +kernel
theorem dMd_partnerOf_36 : decode (mB Md_partnerOf) 36 = .ok (.ireturn, 1) := by decide +kernel
theorem dMd_partnerOf_37 : decode (mB Md_partnerOf) 37 = .ok (.aload_n 0, 1) := by decide +kernel
theorem dMd_partnerOf_38 : decode (mB Md_partnerOf) 38 = .ok (.iload_n 1, 1) := by decide +kernel
theorem dMd_partnerOf_39 : decode (mB Md_partnerOf) 39 = .ok (.iload 4, 2) := by decide +kernel
theorem dMd_partnerOf_41 : decode (mB Md_partnerOf) 41 = .ok (.invokevirtual 169, 3) := by decide +kernel
theorem dMd_partnerOf_44 : decode (mB Md_partnerOf) 44 = .ok (.istore 4, 2) := by decide +kernel
theorem dMd_partnerOf_46 : decode (mB Md_partnerOf) 46 = .ok (.goto (-38), 3) := by decide +kernel
theorem dMd_partnerOf_49 : decode (mB Md_partnerOf) 49 = .ok (.iconst (-1), 1) := by decide +kernel
theorem dMd_partnerOf_50 : decode (mB Md_partnerOf) 50 = .ok (.ireturn, 1) := by decide +kernel
def w_Md_partnerOf_37 (R : Int32 → tpH → Prop) (K8 : Nat → Int32 → Int32 → Int32 → tpH → Prop) (o : Nat) (x1 : Int32) (x2 : Int32) (x4 : Int32) (h : tpH) : Prop :=
  hT h o = 14 ∧ (w_Md_nextIn o x1 x4 h (fun v3 h2 => K8 o x1 x2 v3 h2))
def b_Md_partnerOf_8 (R : Int32 → tpH → Prop) (Y : Nat → Int32 → Int32 → Int32 → tpH → Prop) (o : Nat) (x1 : Int32) (x2 : Int32) (x4 : Int32) (h : tpH) : Prop :=
  (x4 = (-1 : Int32) → (R (-1 : Int32) h)) ∧ (¬ x4 = (-1 : Int32) → (hT h o = 14 ∧ (∃ a3, (hR h o 40) = some a3 ∧ hT h a3 = 16 ∧ (vp_in x4 (hL h a3) ∧ ((¬ (hI h a3 x4.toNatClampNeg) = 0 → (w_Md_partnerOf_37 R Y o x1 x2 x4 h)) ∧ ((hI h a3 x4.toNatClampNeg) = 0 → (w_Md_areAlikeMarks o x2 x4 h (fun v9 h8 => (v9 = 0 → (w_Md_partnerOf_37 R Y o x1 x2 x4 h8)) ∧ (¬ v9 = 0 → (R x4 h8))))))))))
def w_Md_partnerOf_8 (R : Int32 → tpH → Prop) : Nat → Nat → Int32 → Int32 → Int32 → tpH → Prop
  | 0 => fun _ _ _ _ _ => False
  | n + 1 => b_Md_partnerOf_8 R (w_Md_partnerOf_8 R n)
def w_Md_partnerOf (o : Nat) (x1 : Int32) (x2 : Int32) (x3 : Int32) (h : tpH) (R : Int32 → tpH → Prop) : Prop :=
  hT h o = 14 ∧ (w_Md_firstIn o x1 x3 h (fun v3 h2 => ∃ n, w_Md_partnerOf_8 R n o x1 x2 v3 h2))
theorem s_Md_partnerOf_37 {h0 : tpH} {av : List tpV} {R : Int32 → tpH → Prop} {K8 : Nat → Int32 → Int32 → Int32 → tpH → Prop} (k8 : ∀ (o : Nat) (x1 : Int32) (x2 : Int32) (x4 : Int32) (h : tpH), K8 o x1 x2 x4 h → tpR Md_partnerOf 1 h0 av (tpOi R (fun _ _ => False)) 8 [some (vR (some o)), some (vI x1), some (vI x2), none, some (vI x4)] [] h) : ∀ (o : Nat) (x1 : Int32) (x2 : Int32) (x4 : Int32) (h : tpH), w_Md_partnerOf_37 R K8 o x1 x2 x4 h → tpR Md_partnerOf 1 h0 av (tpOi R (fun _ _ => False)) 37 [some (vR (some o)), some (vI x1), some (vI x2), none, some (vI x4)] [] h := by
  intro o x1 x2 x4 h hw
  unfold w_Md_partnerOf_37 at hw
  refine tq_aload_n dMd_partnerOf_37 rfl rfl ?_
  refine tq_iload_n dMd_partnerOf_38 rfl rfl ?_
  refine tq_iload dMd_partnerOf_39 rfl ?_
  obtain ⟨f1, hw⟩ := hw
  refine te_callV mv_Md_nextIn (ci := 13) (dc := 0) (as := [vI x1, vI x4]) (rest := []) kMd_169 rfl (Nat.le_of_ble_eq_true rfl) (Nat.le_of_ble_eq_true rfl) rfl rfl rfl f1 (Nat.le_of_ble_eq_true rfl) dMd_partnerOf_41 (s_Md_nextIn hw) (fun _ _ hx => False.elim hx) (tk_i fun v3 h2 hw => ?_)
  refine tq_istore (ls' := [some (vR (some o)), some (vI x1), some (vI x2), none, some (vI v3)]) dMd_partnerOf_44 (Nat.le_of_ble_eq_true rfl) rfl ?_
  refine tq_goto (tgt := 8) dMd_partnerOf_46 (by decide) ?_
  refine tpR.fo (ls' := [some (vR (some o)), some (vI x1), some (vI x2), none, some (vI v3)]) ?_ (And.intro rfl (And.intro rfl (And.intro rfl (And.intro rfl trivial))))
  exact k8 _ _ _ _ _ hw
theorem s_Md_partnerOf_8 {h0 : tpH} {av : List tpV} {R : Int32 → tpH → Prop} : ∀ (n : Nat) (o : Nat) (x1 : Int32) (x2 : Int32) (x4 : Int32) (h : tpH), w_Md_partnerOf_8 R n o x1 x2 x4 h → tpR Md_partnerOf 1 h0 av (tpOi R (fun _ _ => False)) 8 [some (vR (some o)), some (vI x1), some (vI x2), none, some (vI x4)] [] h := by
  intro n
  induction n with
  | zero => intro o x1 x2 x4 h hw; exact False.elim hw
  | succ n ih =>
    intro o x1 x2 x4 h hw
    change b_Md_partnerOf_8 R (w_Md_partnerOf_8 R n) o x1 x2 x4 h at hw
    unfold b_Md_partnerOf_8 at hw
    refine tq_iload dMd_partnerOf_8 rfl ?_
    refine tq_iconst (v := (-1 : Int32)) dMd_partnerOf_10 tni_m1 ?_
    refine tq_icmpeq (tgt := 49) dMd_partnerOf_11 (by decide) (fun c1 => ?_) (fun c1 => ?_)
    · have hw := hw.1 c1
      refine tq_iconst (v := (-1 : Int32)) dMd_partnerOf_49 tni_m1 ?_
      exact tq_iret rfl rfl dMd_partnerOf_50 hw
    · have hw := hw.2 c1
      refine tq_aload_n dMd_partnerOf_14 rfl rfl ?_
      obtain ⟨f2, hw⟩ := hw
      refine te_getr dMd_partnerOf_15 fMd_103 rfl rfl f2 ?_
      refine tq_iload dMd_partnerOf_18 rfl ?_
      obtain ⟨a3, e4, f5, hw⟩ := hw
      obtain ⟨f6, hw⟩ := hw
      refine te_zald dMd_partnerOf_20 e4 f5 f6 ?_
      refine tq_ifne (tgt := 37) dMd_partnerOf_21 (by decide) (fun c7 => ?_) (fun c7 => ?_)
      · have hw := hw.1 c7
        refine tpR.fo (ls' := [some (vR (some o)), some (vI x1), some (vI x2), none, some (vI x4)]) ?_ (And.intro rfl (And.intro rfl (And.intro rfl (And.intro rfl trivial))))
        exact s_Md_partnerOf_37 ih _ _ _ _ _ hw
      · have hw := hw.2 c7
        refine tq_aload_n dMd_partnerOf_24 rfl rfl ?_
        refine tq_iload_n dMd_partnerOf_25 rfl rfl ?_
        refine tq_iload dMd_partnerOf_26 rfl ?_
        refine te_callV mv_Md_areAlikeMarks (ci := 13) (dc := 0) (as := [vI x2, vI x4]) (rest := []) kMd_239 rfl (Nat.le_of_ble_eq_true rfl) (Nat.le_of_ble_eq_true rfl) rfl rfl rfl f2 (Nat.le_of_ble_eq_true rfl) dMd_partnerOf_28 (s_Md_areAlikeMarks hw) (fun _ _ hx => False.elim hx) (tk_i fun v9 h8 hw => ?_)
        refine tq_ifeq (tgt := 37) dMd_partnerOf_31 (by decide) (fun c10 => ?_) (fun c10 => ?_)
        · have hw := hw.1 c10
          refine tpR.fo (ls' := [some (vR (some o)), some (vI x1), some (vI x2), none, some (vI x4)]) ?_ (And.intro rfl (And.intro rfl (And.intro rfl (And.intro rfl trivial))))
          exact s_Md_partnerOf_37 ih _ _ _ _ _ hw
        · have hw := hw.2 c10
          refine tq_iload dMd_partnerOf_34 rfl ?_
          exact tq_iret rfl rfl dMd_partnerOf_36 hw
theorem s_Md_partnerOf {o : Nat} {x1 : Int32} {x2 : Int32} {x3 : Int32} {h : tpH} {R : Int32 → tpH → Prop} (hw : w_Md_partnerOf o x1 x2 x3 h R) : tpC Md_partnerOf 1 [vR (some o), vI x1, vI x2, vI x3] h (tpOi R (fun _ _ => False)) := by
  refine tpC_of mv_Md_partnerOf.2.2.2.1 rfl rfl (Nat.le_of_ble_eq_true rfl) ?_
  show tpR Md_partnerOf 1 h _ _ 0 [some (vR (some o)), some (vI x1), some (vI x2), some (vI x3), none] [] h
  unfold w_Md_partnerOf at hw
  refine tq_aload_n dMd_partnerOf_0 rfl rfl ?_
  refine tq_iload_n dMd_partnerOf_1 rfl rfl ?_
  refine tq_iload_n dMd_partnerOf_2 rfl rfl ?_
  obtain ⟨f1, hw⟩ := hw
  refine te_callV mv_Md_firstIn (ci := 13) (dc := 0) (as := [vI x1, vI x3]) (rest := []) kMd_173 rfl (Nat.le_of_ble_eq_true rfl) (Nat.le_of_ble_eq_true rfl) rfl rfl rfl f1 (Nat.le_of_ble_eq_true rfl) dMd_partnerOf_3 (s_Md_firstIn hw) (fun _ _ hx => False.elim hx) (tk_i fun v3 h2 hw => ?_)
  refine tq_istore (ls' := [some (vR (some o)), some (vI x1), some (vI x2), some (vI x3), some (vI v3)]) dMd_partnerOf_6 (Nat.le_of_ble_eq_true rfl) rfl ?_
  refine tpR.fo (ls' := [some (vR (some o)), some (vI x1), some (vI x2), none, some (vI v3)]) ?_ (And.intro rfl (And.intro rfl (And.intro rfl (And.intro rfl trivial))))
  obtain ⟨n, hw⟩ := hw
  exact s_Md_partnerOf_8 n _ _ _ _ _ hw
/-! TModel.areLike -/
theorem dMd_areLike_0 : decode (mB Md_areLike) 0 = .ok (.aload_n 0, 1) := by decide +kernel
theorem dMd_areLike_1 : decode (mB Md_areLike) 1 = .ok (.getfield 7, 3) := by decide +kernel
theorem dMd_areLike_4 : decode (mB Md_areLike) 4 = .ok (.iload_n 3, 1) := by decide +kernel
theorem dMd_areLike_5 : decode (mB Md_areLike) 5 = .ok (.iaload, 1) := by decide +kernel
theorem dMd_areLike_6 : decode (mB Md_areLike) 6 = .ok (.aload_n 0, 1) := by decide +kernel
theorem dMd_areLike_7 : decode (mB Md_areLike) 7 = .ok (.getfield 7, 3) := by decide +kernel
theorem dMd_areLike_10 : decode (mB Md_areLike) 10 = .ok (.iload 4, 2) := by decide +kernel
theorem dMd_areLike_12 : decode (mB Md_areLike) 12 = .ok (.iaload, 1) := by decide +kernel
theorem dMd_areLike_13 : decode (mB Md_areLike) 13 = .ok (.if_icmp .ne 51, 3) := by decide +kernel
theorem dMd_areLike_16 : decode (mB Md_areLike) 16 = .ok (.aload_n 0, 1) := by decide +kernel
theorem dMd_areLike_17 : decode (mB Md_areLike) 17 = .ok (.getfield 13, 3) := by decide +kernel
theorem dMd_areLike_20 : decode (mB Md_areLike) 20 = .ok (.iload_n 3, 1) := by decide +kernel
theorem dMd_areLike_21 : decode (mB Md_areLike) 21 = .ok (.iaload, 1) := by decide +kernel
theorem dMd_areLike_22 : decode (mB Md_areLike) 22 = .ok (.aload_n 0, 1) := by decide +kernel
theorem dMd_areLike_23 : decode (mB Md_areLike) 23 = .ok (.getfield 13, 3) := by decide +kernel
theorem dMd_areLike_26 : decode (mB Md_areLike) 26 = .ok (.iload 4, 2) := by decide +kernel
theorem dMd_areLike_28 : decode (mB Md_areLike) 28 = .ok (.iaload, 1) := by decide +kernel
theorem dMd_areLike_29 : decode (mB Md_areLike) 29 = .ok (.if_icmp .ne 35, 3) := by decide +kernel
theorem dMd_areLike_32 : decode (mB Md_areLike) 32 = .ok (.aload_n 0, 1) := by decide +kernel
theorem dMd_areLike_33 : decode (mB Md_areLike) 33 = .ok (.iload_n 1, 1) := by decide +kernel
theorem dMd_areLike_34 : decode (mB Md_areLike) 34 = .ok (.iload_n 3, 1) := by decide +kernel
theorem dMd_areLike_35 : decode (mB Md_areLike) 35 = .ok (.invokevirtual 226, 3) := by decide +kernel
theorem dMd_areLike_38 : decode (mB Md_areLike) 38 = .ok (.aload_n 0, 1) := by decide +kernel
theorem dMd_areLike_39 : decode (mB Md_areLike) 39 = .ok (.iload_n 2, 1) := by decide +kernel
theorem dMd_areLike_40 : decode (mB Md_areLike) 40 = .ok (.iload 4, 2) := by decide +kernel
theorem dMd_areLike_42 : decode (mB Md_areLike) 42 = .ok (.invokevirtual 226, 3) := by decide +kernel
theorem dMd_areLike_45 : decode (mB Md_areLike) 45 = .ok (.if_icmp .ne 19, 3) := by decide +kernel
theorem dMd_areLike_48 : decode (mB Md_areLike) 48 = .ok (.aload_n 0, 1) := by decide +kernel
theorem dMd_areLike_49 : decode (mB Md_areLike) 49 = .ok (.iload_n 1, 1) := by decide +kernel
theorem dMd_areLike_50 : decode (mB Md_areLike) 50 = .ok (.iload_n 3, 1) := by decide +kernel
theorem dMd_areLike_51 : decode (mB Md_areLike) 51 = .ok (.invokevirtual 216, 3) := by decide +kernel
theorem dMd_areLike_54 : decode (mB Md_areLike) 54 = .ok (.aload_n 0, 1) := by decide +kernel
theorem dMd_areLike_55 : decode (mB Md_areLike) 55 = .ok (.iload_n 2, 1) := by decide +kernel
theorem dMd_areLike_56 : decode (mB Md_areLike) 56 = .ok (.iload 4, 2) := by decide +kernel
theorem dMd_areLike_58 : decode (mB Md_areLike) 58 = .ok (.invokevirtual 216, 3) := by decide +kernel
theorem dMd_areLike_61 : decode (mB Md_areLike) 61 = .ok (.if_icmp .eq 5, 3) := by decide +kernel
theorem dMd_areLike_64 : decode (mB Md_areLike) 64 = .ok (.iconst 0, 1) := by decide +kernel
theorem dMd_areLike_65 : decode (mB Md_areLike) 65 = .ok (.ireturn, 1) := by decide +kernel
theorem dMd_areLike_66 : decode (mB Md_areLike) 66 = .ok (.aload_n 0, 1) := by decide +kernel
theorem dMd_areLike_67 : decode (mB Md_areLike) 67 = .ok (.iload_n 2, 1) := by decide +kernel
theorem dMd_areLike_68 : decode (mB Md_areLike) 68 = .ok (.iload 4, 2) := by decide +kernel
theorem dMd_areLike_70 : decode (mB Md_areLike) 70 = .ok (.invokevirtual 173, 3) := by decide +kernel
theorem dMd_areLike_73 : decode (mB Md_areLike) 73 = .ok (.istore 5, 2) := by decide +kernel
theorem dMd_areLike_75 : decode (mB Md_areLike) 75 = .ok (.iload 5, 2) := by decide +kernel
theorem dMd_areLike_77 : decode (mB Md_areLike) 77 = .ok (.iconst (-1), 1) := by decide +kernel
theorem dMd_areLike_78 : decode (mB Md_areLike) 78 = .ok (.if_icmp .eq 23, 3) := by decide +kernel
theorem dMd_areLike_81 : decode (mB Md_areLike) 81 = .ok (.aload_n 0, 1) := by decide +kernel
theorem dMd_areLike_82 : decode (mB Md_areLike) 82 = .ok (.getfield 103, 3) := by decide +kernel
theorem dMd_areLike_85 : decode (mB Md_areLike) 85 = .ok (.iload 5, 2) := by decide +kernel
theorem dMd_areLike_87 : decode (mB Md_areLike) 87 = .ok (.iconst 0, 1) := by decide +kernel
theorem dMd_areLike_88 : decode (mB Md_areLike) 88 = .ok (.bastore, 1) := by decide +kernel
theorem dMd_areLike_89 : decode (mB Md_areLike) 89 = .ok (.aload_n 0, 1) := by decide +kernel
theorem dMd_areLike_90 : decode (mB Md_areLike) 90 = .ok (.iload_n 2, 1) := by decide +kernel
theorem dMd_areLike_91 : decode (mB Md_areLike) 91 = .ok (.iload 5, 2) := by decide +kernel
theorem dMd_areLike_93 : decode (mB Md_areLike) 93 = .ok (.invokevirtual 169, 3) := by decide +kernel
theorem dMd_areLike_96 : decode (mB Md_areLike) 96 = .ok (.istore 5, 2) := by decide +kernel
theorem dMd_areLike_98 : decode (mB Md_areLike) 98 = .ok (.goto (-23), 3) := by decide +kernel
theorem dMd_areLike_101 : decode (mB Md_areLike) 101 = .ok (.aload_n 0, 1) := by decide +kernel
theorem dMd_areLike_102 : decode (mB Md_areLike) 102 = .ok (.iload_n 2, 1) := by decide +kernel
theorem dMd_areLike_103 : decode (mB Md_areLike) 103 = .ok (.iload 4, 2) := by decide +kernel
theorem dMd_areLike_105 : decode (mB Md_areLike) 105 = .ok (.invokevirtual 173, 3) := by decide +kernel
theorem dMd_areLike_108 : decode (mB Md_areLike) 108 = .ok (.istore 5, 2) := by decide +kernel
theorem dMd_areLike_110 : decode (mB Md_areLike) 110 = .ok (.aload_n 0, 1) := by decide +kernel
theorem dMd_areLike_111 : decode (mB Md_areLike) 111 = .ok (.iload_n 1, 1) := by decide +kernel
theorem dMd_areLike_112 : decode (mB Md_areLike) 112 = .ok (.iload_n 3, 1) := by decide +kernel
theorem dMd_areLike_113 : decode (mB Md_areLike) 113 = .ok (.invokevirtual 173, 3) := by decide +kernel
theorem dMd_areLike_116 : decode (mB Md_areLike) 116 = .ok (.istore 6, 2) := by decide +kernel
theorem dMd_areLike_118 : decode (mB Md_areLike) 118 = .ok (.iload 6, 2) := by decide +kernel
theorem dMd_areLike_120 : decode (mB Md_areLike) 120 = .ok (.iconst (-1), 1) := by decide +kernel
theorem dMd_areLike_121 : decode (mB Md_areLike) 121 = .ok (.if_icmp .eq 79, 3) := by decide +kernel
theorem dMd_areLike_124 : decode (mB Md_areLike) 124 = .ok (.aload_n 0, 1) := by decide +kernel
theorem dMd_areLike_125 : decode (mB Md_areLike) 125 = .ok (.iload_n 3, 1) := by decide +kernel
theorem dMd_areLike_126 : decode (mB Md_areLike) 126 = .ok (.invokevirtual 176, 3) := by decide +kernel
theorem dMd_areLike_129 : decode (mB Md_areLike) 129 = .ok (.ifCond .eq 23, 3) := by decide +kernel
theorem dMd_areLike_132 : decode (mB Md_areLike) 132 = .ok (.aload_n 0, 1) := by decide +kernel
theorem dMd_areLike_133 : decode (mB Md_areLike) 133 = .ok (.iload 6, 2) := by decide +kernel
theorem dMd_areLike_135 : decode (mB Md_areLike) 135 = .ok (.iload 5, 2) := by decide +kernel
theorem dMd_areLike_137 : decode (mB Md_areLike) 137 = .ok (.invokevirtual 239, 3) := by decide +kernel
theorem dMd_areLike_140 : decode (mB Md_areLike) 140 = .ok (.ifCond .eq 8, 3) := by decide +kernel
theorem dMd_areLike_143 : decode (mB Md_areLike) 143 = .ok (.iload 5, 2) := by decide +kernel
theorem dMd_areLike_145 : decode (mB Md_areLike) 145 = .ok (.goto 16, 3) := by decide +kernel
theorem dMd_areLike_148 : decode (mB Md_areLike) 148 = .ok (.iconst (-1), 1) := by decide +kernel
theorem dMd_areLike_149 : decode (mB Md_areLike) 149 = .ok (.goto 12, 3) := by decide +kernel
theorem dMd_areLike_152 : decode (mB Md_areLike) 152 = .ok (.aload_n 0, 1) := by decide +kernel
theorem dMd_areLike_153 : decode (mB Md_areLike) 153 = .ok (.iload_n 2, 1) := by decide +kernel
theorem dMd_areLike_154 : decode (mB Md_areLike) 154 = .ok (.iload 6, 2) := by decide +kernel
theorem dMd_areLike_156 : decode (mB Md_areLike) 156 = .ok (.iload 4, 2) := by decide +kernel
theorem dMd_areLike_158 : decode (mB Md_areLike) 158 = .ok (.invokevirtual 242, 3) := by decide +kernel
theorem dMd_areLike_161 : decode (mB Md_areLike) 161 = .ok (.istore 7, 2) := by decide +kernel
theorem dMd_areLike_163 : decode (mB Md_areLike) 163 = .ok (.iload 7, 2) := by decide +kernel
theorem dMd_areLike_165 : decode (mB Md_areLike) 165 = .ok (.iconst (-1), 1) := by decide +kernel
theorem dMd_areLike_166 : decode (mB Md_areLike) 166 = .ok (.if_icmp .ne 5, 3) := by decide +kernel
theorem dMd_areLike_169 : decode (mB Md_areLike) 169 = .ok (.iconst 0, 1) := by decide +kernel
theorem dMd_areLike_170 : decode (mB Md_areLike) 170 = .ok (.ireturn, 1) := by decide +kernel
theorem dMd_areLike_171 : decode (mB Md_areLike) 171 = .ok (.aload_n 0, 1) := by decide +kernel
theorem dMd_areLike_172 : decode (mB Md_areLike) 172 = .ok (.getfield 103, 3) := by decide +kernel
theorem dMd_areLike_175 : decode (mB Md_areLike) 175 = .ok (.iload 7, 2) := by decide +kernel
theorem dMd_areLike_177 : decode (mB Md_areLike) 177 = .ok (.iconst 1, 1) := by decide +kernel
theorem dMd_areLike_178 : decode (mB Md_areLike) 178 = .ok (.bastore, 1) := by decide +kernel
theorem dMd_areLike_179 : decode (mB Md_areLike) 179 = .ok (.aload_n 0, 1) := by decide +kernel
theorem dMd_areLike_180 : decode (mB Md_areLike) 180 = .ok (.iload_n 2, 1) := by decide +kernel
theorem dMd_areLike_181 : decode (mB Md_areLike) 181 = .ok (.iload 5, 2) := by decide +kernel
theorem dMd_areLike_183 : decode (mB Md_areLike) 183 = .ok (.invokevirtual 169, 3) := by decide +kernel
theorem dMd_areLike_186 : decode (mB Md_areLike) 186 = .ok (.istore 5, 2) := by decide +kernel
theorem dMd_areLike_188 : decode (mB Md_areLike) 188 = .ok (.aload_n 0, 1) := by decide +kernel
theorem dMd_areLike_189 : decode (mB Md_areLike) 189 = .ok (.iload_n 1, 1) := by decide +kernel
theorem dMd_areLike_190 : decode (mB Md_areLike) 190 = .ok (.iload 6, 2) := by decide +kernel
theorem dMd_areLike_192 : decode (mB Md_areLike) 192 = .ok (.invokevirtual 169, 3) := by decide +kernel
theorem dMd_areLike_195 : decode (mB Md_areLike) 195 = .ok (.istore 6, 2) := by decide +kernel
theorem dMd_areLike_197 : decode (mB Md_areLike) 197 = .ok (.goto (-79), 3) := by decide +kernel
theorem dMd_areLike_200 : decode (mB Md_areLike) 200 = .ok (.iconst 1, 1) := by decide +kernel
theorem dMd_areLike_201 : decode (mB Md_areLike) 201 = .ok (.ireturn, 1) := by decide +kernel
def w_Md_areLike_161 (R : Int32 → tpH → Prop) (K118 : Nat → Int32 → Int32 → Int32 → Int32 → Int32 → Int32 → tpH → Prop) (o : Nat) (x1 : Int32) (x2 : Int32) (x3 : Int32) (x4 : Int32) (x5 : Int32) (x6 : Int32) (t0 : Int32) (h : tpH) : Prop :=
  (¬ t0 = (-1 : Int32) → (hT h o = 14 ∧ (∃ a3, (hR h o 40) = some a3 ∧ hT h a3 = 16 ∧ (vp_in t0 (hL h a3) ∧ (∀ h7, h7 = sI h a3 t0.toNatClampNeg (1 : Int32) → (w_Md_nextIn o x2 x5 h7 (fun v10 h9 => hT h9 o = 14 ∧ (w_Md_nextIn o x1 x6 h9 (fun v13 h12 => K118 o x1 x2 x3 x4 v10 v13 h12))))))))) ∧ (t0 = (-1 : Int32) → (R (0 : Int32) h))
def b_Md_areLike_118 (R : Int32 → tpH → Prop) (Y : Nat → Int32 → Int32 → Int32 → Int32 → Int32 → Int32 → tpH → Prop) (o : Nat) (x1 : Int32) (x2 : Int32) (x3 : Int32) (x4 : Int32) (x5 : Int32) (x6 : Int32) (h : tpH) : Prop :=
  (x6 = (-1 : Int32) → (R (1 : Int32) h)) ∧ (¬ x6 = (-1 : Int32) → (hT h o = 14 ∧ (w_Md_isOrdered o x3 h (fun v4 h3 => (v4 = 0 → (hT h3 o = 14 ∧ (w_Md_partnerOf o x2 x6 x4 h3 (fun v8 h7 => w_Md_areLike_161 R Y o x1 x2 x3 x4 x5 x6 v8 h7)))) ∧ (¬ v4 = 0 → (hT h3 o = 14 ∧ (w_Md_areAlikeMarks o x6 x5 h3 (fun v11 h10 => (v11 = 0 → (w_Md_areLike_161 R Y o x1 x2 x3 x4 x5 x6 (-1 : Int32) h10)) ∧ (¬ v11 = 0 → (w_Md_areLike_161 R Y o x1 x2 x3 x4 x5 x6 x5 h10))))))))))
def w_Md_areLike_118 (R : Int32 → tpH → Prop) : Nat → Nat → Int32 → Int32 → Int32 → Int32 → Int32 → Int32 → tpH → Prop
  | 0 => fun _ _ _ _ _ _ _ _ => False
  | n + 1 => b_Md_areLike_118 R (w_Md_areLike_118 R n)
def b_Md_areLike_75 (R : Int32 → tpH → Prop) (Y : Nat → Int32 → Int32 → Int32 → Int32 → Int32 → tpH → Prop) (o : Nat) (x1 : Int32) (x2 : Int32) (x3 : Int32) (x4 : Int32) (x5 : Int32) (h : tpH) : Prop :=
  (x5 = (-1 : Int32) → (hT h o = 14 ∧ (w_Md_firstIn o x2 x4 h (fun v4 h3 => hT h3 o = 14 ∧ (w_Md_firstIn o x1 x3 h3 (fun v7 h6 => ∃ n, w_Md_areLike_118 R n o x1 x2 x3 x4 v4 v7 h6)))))) ∧ (¬ x5 = (-1 : Int32) → (hT h o = 14 ∧ (∃ a9, (hR h o 40) = some a9 ∧ hT h a9 = 16 ∧ (vp_in x5 (hL h a9) ∧ (∀ h13, h13 = sI h a9 x5.toNatClampNeg (0 : Int32) → (w_Md_nextIn o x2 x5 h13 (fun v16 h15 => Y o x1 x2 x3 x4 v16 h15)))))))
def w_Md_areLike_75 (R : Int32 → tpH → Prop) : Nat → Nat → Int32 → Int32 → Int32 → Int32 → Int32 → tpH → Prop
  | 0 => fun _ _ _ _ _ _ _ => False
  | n + 1 => b_Md_areLike_75 R (w_Md_areLike_75 R n)
def w_Md_areLike (o : Nat) (x1 : Int32) (x2 : Int32) (x3 : Int32) (x4 : Int32) (h : tpH) (R : Int32 → tpH → Prop) : Prop :=
  hT h o = 14 ∧ (∃ a2, (hR h o 1) = some a2 ∧ hT h a2 = 15 ∧ (vp_in x3 (hL h a2) ∧ (vp_in x4 (hL h a2) ∧ ((¬ (hI h a2 x3.toNatClampNeg) = (hI h a2 x4.toNatClampNeg) → (R (0 : Int32) h)) ∧ ((hI h a2 x3.toNatClampNeg) = (hI h a2 x4.toNatClampNeg) → (∃ a8, (hR h o 2) = some a8 ∧ hT h a8 = 15 ∧ (vp_in x3 (hL h a8) ∧ (vp_in x4 (hL h a8) ∧ ((¬ (hI h a8 x3.toNatClampNeg) = (hI h a8 x4.toNatClampNeg) → (R (0 : Int32) h)) ∧ ((hI h a8 x3.toNatClampNeg) = (hI h a8 x4.toNatClampNeg) → (w_Md_valueIn o x1 x3 h (fun v15 h14 => hT h14 o = 14 ∧ (w_Md_valueIn o x2 x4 h14 (fun v18 h17 => (¬ v15 = v18 → (R (0 : Int32) h17)) ∧ (v15 = v18 → (hT h17 o = 14 ∧ (w_Md_childMany o x1 x3 h17 (fun v22 h21 => hT h21 o = 14 ∧ (w_Md_childMany o x2 x4 h21 (fun v25 h24 => (v22 = v25 → (hT h24 o = 14 ∧ (w_Md_firstIn o x2 x4 h24 (fun v29 h28 => ∃ n, w_Md_areLike_75 R n o x1 x2 x3 x4 v29 h28)))) ∧ (¬ v22 = v25 → (R (0 : Int32) h24))))))))))))))))))))))
theorem s_Md_areLike_161 {h0 : tpH} {av : List tpV} {R : Int32 → tpH → Prop} {K118 : Nat → Int32 → Int32 → Int32 → Int32 → Int32 → Int32 → tpH → Prop} (k118 : ∀ (o : Nat) (x1 : Int32) (x2 : Int32) (x3 : Int32) (x4 : Int32) (x5 : Int32) (x6 : Int32) (h : tpH), K118 o x1 x2 x3 x4 x5 x6 h → tpR Md_areLike 2 h0 av (tpOi R (fun _ _ => False)) 118 [some (vR (some o)), some (vI x1), some (vI x2), some (vI x3), some (vI x4), some (vI x5), some (vI x6), none] [] h) : ∀ (o : Nat) (x1 : Int32) (x2 : Int32) (x3 : Int32) (x4 : Int32) (x5 : Int32) (x6 : Int32) (t0 : Int32) (h : tpH), w_Md_areLike_161 R K118 o x1 x2 x3 x4 x5 x6 t0 h → tpR Md_areLike 2 h0 av (tpOi R (fun _ _ => False)) 161 [some (vR (some o)), some (vI x1), some (vI x2), some (vI x3), some (vI x4), some (vI x5), some (vI x6), none] [vI t0] h := by
  intro o x1 x2 x3 x4 x5 x6 t0 h hw
  unfold w_Md_areLike_161 at hw
  refine tq_istore (ls' := [some (vR (some o)), some (vI x1), some (vI x2), some (vI x3), some (vI x4), some (vI x5), some (vI x6), some (vI t0)]) dMd_areLike_161 (Nat.le_of_ble_eq_true rfl) rfl ?_
  refine tq_iload dMd_areLike_163 rfl ?_
  refine tq_iconst (v := (-1 : Int32)) dMd_areLike_165 tni_m1 ?_
  refine tq_icmpne (tgt := 171) dMd_areLike_166 (by decide) (fun c1 => ?_) (fun c1 => ?_)
  · have hw := hw.1 c1
    refine tq_aload_n dMd_areLike_171 rfl rfl ?_
    obtain ⟨f2, hw⟩ := hw
    refine te_getr dMd_areLike_172 fMd_103 rfl rfl f2 ?_
    refine tq_iload dMd_areLike_175 rfl ?_
    refine tq_iconst (v := (1 : Int32)) dMd_areLike_177 tni_1 ?_
    obtain ⟨a3, e4, f5, hw⟩ := hw
    obtain ⟨f6, hw⟩ := hw
    refine te_zast dMd_areLike_178 e4 f5 f6 (by decide) (fun h7 e8 => ?_)
    have hw := hw h7 e8
    refine tq_aload_n dMd_areLike_179 rfl rfl ?_
    refine tq_iload_n dMd_areLike_180 rfl rfl ?_
    refine tq_iload dMd_areLike_181 rfl ?_
    refine te_callV mv_Md_nextIn (ci := 13) (dc := 0) (as := [vI x2, vI x5]) (rest := []) kMd_169 rfl (Nat.le_of_ble_eq_true rfl) (Nat.le_of_ble_eq_true rfl) rfl rfl rfl (by rw [e8]; exact f2) (Nat.le_of_ble_eq_true rfl) dMd_areLike_183 (s_Md_nextIn hw) (fun _ _ hx => False.elim hx) (tk_i fun v10 h9 hw => ?_)
    refine tq_istore (ls' := [some (vR (some o)), some (vI x1), some (vI x2), some (vI x3), some (vI x4), some (vI v10), some (vI x6), some (vI t0)]) dMd_areLike_186 (Nat.le_of_ble_eq_true rfl) rfl ?_
    refine tq_aload_n dMd_areLike_188 rfl rfl ?_
    refine tq_iload_n dMd_areLike_189 rfl rfl ?_
    refine tq_iload dMd_areLike_190 rfl ?_
    obtain ⟨f11, hw⟩ := hw
    refine te_callV mv_Md_nextIn (ci := 13) (dc := 0) (as := [vI x1, vI x6]) (rest := []) kMd_169 rfl (Nat.le_of_ble_eq_true rfl) (Nat.le_of_ble_eq_true rfl) rfl rfl rfl f11 (Nat.le_of_ble_eq_true rfl) dMd_areLike_192 (s_Md_nextIn hw) (fun _ _ hx => False.elim hx) (tk_i fun v13 h12 hw => ?_)
    refine tq_istore (ls' := [some (vR (some o)), some (vI x1), some (vI x2), some (vI x3), some (vI x4), some (vI v10), some (vI v13), some (vI t0)]) dMd_areLike_195 (Nat.le_of_ble_eq_true rfl) rfl ?_
    refine tq_goto (tgt := 118) dMd_areLike_197 (by decide) ?_
    refine tpR.fo (ls' := [some (vR (some o)), some (vI x1), some (vI x2), some (vI x3), some (vI x4), some (vI v10), some (vI v13), none]) ?_ (And.intro rfl (And.intro rfl (And.intro rfl (And.intro rfl (And.intro rfl (And.intro rfl (And.intro rfl trivial)))))))
    exact k118 _ _ _ _ _ _ _ _ hw
  · have hw := hw.2 c1
    refine tq_iconst (v := (0 : Int32)) dMd_areLike_169 tni_0 ?_
    exact tq_iret rfl (by decide) dMd_areLike_170 hw
theorem s_Md_areLike_118 {h0 : tpH} {av : List tpV} {R : Int32 → tpH → Prop} : ∀ (n : Nat) (o : Nat) (x1 : Int32) (x2 : Int32) (x3 : Int32) (x4 : Int32) (x5 : Int32) (x6 : Int32) (h : tpH), w_Md_areLike_118 R n o x1 x2 x3 x4 x5 x6 h → tpR Md_areLike 2 h0 av (tpOi R (fun _ _ => False)) 118 [some (vR (some o)), some (vI x1), some (vI x2), some (vI x3), some (vI x4), some (vI x5), some (vI x6), none] [] h := by
  intro n
  induction n with
  | zero => intro o x1 x2 x3 x4 x5 x6 h hw; exact False.elim hw
  | succ n ih =>
    intro o x1 x2 x3 x4 x5 x6 h hw
    change b_Md_areLike_118 R (w_Md_areLike_118 R n) o x1 x2 x3 x4 x5 x6 h at hw
    unfold b_Md_areLike_118 at hw
    refine tq_iload dMd_areLike_118 rfl ?_
    refine tq_iconst (v := (-1 : Int32)) dMd_areLike_120 tni_m1 ?_
    refine tq_icmpeq (tgt := 200) dMd_areLike_121 (by decide) (fun c1 => ?_) (fun c1 => ?_)
    · have hw := hw.1 c1
      refine tq_iconst (v := (1 : Int32)) dMd_areLike_200 tni_1 ?_
      exact tq_iret rfl (by decide) dMd_areLike_201 hw
    · have hw := hw.2 c1
      refine tq_aload_n dMd_areLike_124 rfl rfl ?_
      refine tq_iload_n dMd_areLike_125 rfl rfl ?_
      obtain ⟨f2, hw⟩ := hw
      refine te_callV mv_Md_isOrdered (ci := 13) (dc := 0) (as := [vI x3]) (rest := []) kMd_176 rfl (Nat.le_of_ble_eq_true rfl) (Nat.le_of_ble_eq_true rfl) rfl rfl rfl f2 (Nat.le_of_ble_eq_true rfl) dMd_areLike_126 (s_Md_isOrdered hw) (fun _ _ hx => False.elim hx) (tk_i fun v4 h3 hw => ?_)
      refine tq_ifeq (tgt := 152) dMd_areLike_129 (by decide) (fun c5 => ?_) (fun c5 => ?_)
      · have hw := hw.1 c5
        refine tq_aload_n dMd_areLike_152 rfl rfl ?_
        refine tq_iload_n dMd_areLike_153 rfl rfl ?_
        refine tq_iload dMd_areLike_154 rfl ?_
        refine tq_iload dMd_areLike_156 rfl ?_
        obtain ⟨f6, hw⟩ := hw
        refine te_callV mv_Md_partnerOf (ci := 13) (dc := 1) (as := [vI x2, vI x6, vI x4]) (rest := []) kMd_242 rfl (Nat.le_of_ble_eq_true rfl) (Nat.le_of_ble_eq_true rfl) rfl rfl rfl f6 (Nat.le_of_ble_eq_true rfl) dMd_areLike_158 (s_Md_partnerOf hw) (fun _ _ hx => False.elim hx) (tk_i fun v8 h7 hw => ?_)
        refine tpR.fo (ls' := [some (vR (some o)), some (vI x1), some (vI x2), some (vI x3), some (vI x4), some (vI x5), some (vI x6), none]) ?_ (And.intro rfl (And.intro rfl (And.intro rfl (And.intro rfl (And.intro rfl (And.intro rfl (And.intro rfl trivial)))))))
        exact s_Md_areLike_161 ih _ _ _ _ _ _ _ _ _ hw
      · have hw := hw.2 c5
        refine tq_aload_n dMd_areLike_132 rfl rfl ?_
        refine tq_iload dMd_areLike_133 rfl ?_
        refine tq_iload dMd_areLike_135 rfl ?_
        obtain ⟨f9, hw⟩ := hw
        refine te_callV mv_Md_areAlikeMarks (ci := 13) (dc := 0) (as := [vI x6, vI x5]) (rest := []) kMd_239 rfl (Nat.le_of_ble_eq_true rfl) (Nat.le_of_ble_eq_true rfl) rfl rfl rfl f9 (Nat.le_of_ble_eq_true rfl) dMd_areLike_137 (s_Md_areAlikeMarks hw) (fun _ _ hx => False.elim hx) (tk_i fun v11 h10 hw => ?_)
        refine tq_ifeq (tgt := 148) dMd_areLike_140 (by decide) (fun c12 => ?_) (fun c12 => ?_)
        · have hw := hw.1 c12
          refine tq_iconst (v := (-1 : Int32)) dMd_areLike_148 tni_m1 ?_
          refine tq_goto (tgt := 161) dMd_areLike_149 (by decide) ?_
          refine tpR.fo (ls' := [some (vR (some o)), some (vI x1), some (vI x2), some (vI x3), some (vI x4), some (vI x5), some (vI x6), none]) ?_ (And.intro rfl (And.intro rfl (And.intro rfl (And.intro rfl (And.intro rfl (And.intro rfl (And.intro rfl trivial)))))))
          exact s_Md_areLike_161 ih _ _ _ _ _ _ _ _ _ hw
        · have hw := hw.2 c12
          refine tq_iload dMd_areLike_143 rfl ?_
          refine tq_goto (tgt := 161) dMd_areLike_145 (by decide) ?_
          refine tpR.fo (ls' := [some (vR (some o)), some (vI x1), some (vI x2), some (vI x3), some (vI x4), some (vI x5), some (vI x6), none]) ?_ (And.intro rfl (And.intro rfl (And.intro rfl (And.intro rfl (And.intro rfl (And.intro rfl (And.intro rfl trivial)))))))
          exact s_Md_areLike_161 ih _ _ _ _ _ _ _ _ _ hw
theorem s_Md_areLike_75 {h0 : tpH} {av : List tpV} {R : Int32 → tpH → Prop} : ∀ (n : Nat) (o : Nat) (x1 : Int32) (x2 : Int32) (x3 : Int32) (x4 : Int32) (x5 : Int32) (h : tpH), w_Md_areLike_75 R n o x1 x2 x3 x4 x5 h → tpR Md_areLike 2 h0 av (tpOi R (fun _ _ => False)) 75 [some (vR (some o)), some (vI x1), some (vI x2), some (vI x3), some (vI x4), some (vI x5), none, none] [] h := by
  intro n
  induction n with
  | zero => intro o x1 x2 x3 x4 x5 h hw; exact False.elim hw
  | succ n ih =>
    intro o x1 x2 x3 x4 x5 h hw
    change b_Md_areLike_75 R (w_Md_areLike_75 R n) o x1 x2 x3 x4 x5 h at hw
    unfold b_Md_areLike_75 at hw
    refine tq_iload dMd_areLike_75 rfl ?_
    refine tq_iconst (v := (-1 : Int32)) dMd_areLike_77 tni_m1 ?_
    refine tq_icmpeq (tgt := 101) dMd_areLike_78 (by decide) (fun c1 => ?_) (fun c1 => ?_)
    · have hw := hw.1 c1
      refine tq_aload_n dMd_areLike_101 rfl rfl ?_
      refine tq_iload_n dMd_areLike_102 rfl rfl ?_
      refine tq_iload dMd_areLike_103 rfl ?_
      obtain ⟨f2, hw⟩ := hw
      refine te_callV mv_Md_firstIn (ci := 13) (dc := 0) (as := [vI x2, vI x4]) (rest := []) kMd_173 rfl (Nat.le_of_ble_eq_true rfl) (Nat.le_of_ble_eq_true rfl) rfl rfl rfl f2 (Nat.le_of_ble_eq_true rfl) dMd_areLike_105 (s_Md_firstIn hw) (fun _ _ hx => False.elim hx) (tk_i fun v4 h3 hw => ?_)
      refine tq_istore (ls' := [some (vR (some o)), some (vI x1), some (vI x2), some (vI x3), some (vI x4), some (vI v4), none, none]) dMd_areLike_108 (Nat.le_of_ble_eq_true rfl) rfl ?_
      refine tq_aload_n dMd_areLike_110 rfl rfl ?_
      refine tq_iload_n dMd_areLike_111 rfl rfl ?_
      refine tq_iload_n dMd_areLike_112 rfl rfl ?_
      obtain ⟨f5, hw⟩ := hw
      refine te_callV mv_Md_firstIn (ci := 13) (dc := 0) (as := [vI x1, vI x3]) (rest := []) kMd_173 rfl (Nat.le_of_ble_eq_true rfl) (Nat.le_of_ble_eq_true rfl) rfl rfl rfl f5 (Nat.le_of_ble_eq_true rfl) dMd_areLike_113 (s_Md_firstIn hw) (fun _ _ hx => False.elim hx) (tk_i fun v7 h6 hw => ?_)
      refine tq_istore (ls' := [some (vR (some o)), some (vI x1), some (vI x2), some (vI x3), some (vI x4), some (vI v4), some (vI v7), none]) dMd_areLike_116 (Nat.le_of_ble_eq_true rfl) rfl ?_
      refine tpR.fo (ls' := [some (vR (some o)), some (vI x1), some (vI x2), some (vI x3), some (vI x4), some (vI v4), some (vI v7), none]) ?_ (And.intro rfl (And.intro rfl (And.intro rfl (And.intro rfl (And.intro rfl (And.intro rfl (And.intro rfl trivial)))))))
      obtain ⟨n, hw⟩ := hw
      exact s_Md_areLike_118 n _ _ _ _ _ _ _ _ hw
    · have hw := hw.2 c1
      refine tq_aload_n dMd_areLike_81 rfl rfl ?_
      obtain ⟨f8, hw⟩ := hw
      refine te_getr dMd_areLike_82 fMd_103 rfl rfl f8 ?_
      refine tq_iload dMd_areLike_85 rfl ?_
      refine tq_iconst (v := (0 : Int32)) dMd_areLike_87 tni_0 ?_
      obtain ⟨a9, e10, f11, hw⟩ := hw
      obtain ⟨f12, hw⟩ := hw
      refine te_zast dMd_areLike_88 e10 f11 f12 (by decide) (fun h13 e14 => ?_)
      have hw := hw h13 e14
      refine tq_aload_n dMd_areLike_89 rfl rfl ?_
      refine tq_iload_n dMd_areLike_90 rfl rfl ?_
      refine tq_iload dMd_areLike_91 rfl ?_
      refine te_callV mv_Md_nextIn (ci := 13) (dc := 0) (as := [vI x2, vI x5]) (rest := []) kMd_169 rfl (Nat.le_of_ble_eq_true rfl) (Nat.le_of_ble_eq_true rfl) rfl rfl rfl (by rw [e14]; exact f8) (Nat.le_of_ble_eq_true rfl) dMd_areLike_93 (s_Md_nextIn hw) (fun _ _ hx => False.elim hx) (tk_i fun v16 h15 hw => ?_)
      refine tq_istore (ls' := [some (vR (some o)), some (vI x1), some (vI x2), some (vI x3), some (vI x4), some (vI v16), none, none]) dMd_areLike_96 (Nat.le_of_ble_eq_true rfl) rfl ?_
      refine tq_goto (tgt := 75) dMd_areLike_98 (by decide) ?_
      refine tpR.fo (ls' := [some (vR (some o)), some (vI x1), some (vI x2), some (vI x3), some (vI x4), some (vI v16), none, none]) ?_ (And.intro rfl (And.intro rfl (And.intro rfl (And.intro rfl (And.intro rfl (And.intro rfl trivial))))))
      exact ih _ _ _ _ _ _ _ hw
theorem s_Md_areLike {o : Nat} {x1 : Int32} {x2 : Int32} {x3 : Int32} {x4 : Int32} {h : tpH} {R : Int32 → tpH → Prop} (hw : w_Md_areLike o x1 x2 x3 x4 h R) : tpC Md_areLike 2 [vR (some o), vI x1, vI x2, vI x3, vI x4] h (tpOi R (fun _ _ => False)) := by
  refine tpC_of mv_Md_areLike.2.2.2.1 rfl rfl (Nat.le_of_ble_eq_true rfl) ?_
  show tpR Md_areLike 2 h _ _ 0 [some (vR (some o)), some (vI x1), some (vI x2), some (vI x3), some (vI x4), none, none, none] [] h
  unfold w_Md_areLike at hw
  refine tq_aload_n dMd_areLike_0 rfl rfl ?_
  obtain ⟨f1, hw⟩ := hw
  refine te_getr dMd_areLike_1 fMd_7 rfl rfl f1 ?_
  refine tq_iload_n dMd_areLike_4 rfl rfl ?_
  obtain ⟨a2, e3, f4, hw⟩ := hw
  obtain ⟨f5, hw⟩ := hw
  refine te_iald dMd_areLike_5 e3 (Or.inl f4) f5 ?_
  refine tq_aload_n dMd_areLike_6 rfl rfl ?_
  refine te_getr dMd_areLike_7 fMd_7 rfl rfl f1 ?_
  refine tq_iload dMd_areLike_10 rfl ?_
  obtain ⟨f6, hw⟩ := hw
  refine te_iald dMd_areLike_12 e3 (Or.inl f4) f6 ?_
  refine tq_icmpne (tgt := 64) dMd_areLike_13 (by decide) (fun c7 => ?_) (fun c7 => ?_)
  · have hw := hw.1 c7
    refine tq_iconst (v := (0 : Int32)) dMd_areLike_64 tni_0 ?_
    exact tq_iret rfl (by decide) dMd_areLike_65 hw
  · have hw := hw.2 c7
    refine tq_aload_n dMd_areLike_16 rfl rfl ?_
    refine te_getr dMd_areLike_17 fMd_13 rfl rfl f1 ?_
    refine tq_iload_n dMd_areLike_20 rfl rfl ?_
    obtain ⟨a8, e9, f10, hw⟩ := hw
    obtain ⟨f11, hw⟩ := hw
    refine te_iald dMd_areLike_21 e9 (Or.inl f10) f11 ?_
    refine tq_aload_n dMd_areLike_22 rfl rfl ?_
    refine te_getr dMd_areLike_23 fMd_13 rfl rfl f1 ?_
    refine tq_iload dMd_areLike_26 rfl ?_
    obtain ⟨f12, hw⟩ := hw
    refine te_iald dMd_areLike_28 e9 (Or.inl f10) f12 ?_
    refine tq_icmpne (tgt := 64) dMd_areLike_29 (by decide) (fun c13 => ?_) (fun c13 => ?_)
    · have hw := hw.1 c13
      refine tq_iconst (v := (0 : Int32)) dMd_areLike_64 tni_0 ?_
      exact tq_iret rfl (by decide) dMd_areLike_65 hw
    · have hw := hw.2 c13
      refine tq_aload_n dMd_areLike_32 rfl rfl ?_
      refine tq_iload_n dMd_areLike_33 rfl rfl ?_
      refine tq_iload_n dMd_areLike_34 rfl rfl ?_
      refine te_callV mv_Md_valueIn (ci := 13) (dc := 0) (as := [vI x1, vI x3]) (rest := []) kMd_226 rfl (Nat.le_of_ble_eq_true rfl) (Nat.le_of_ble_eq_true rfl) rfl rfl rfl f1 (Nat.le_of_ble_eq_true rfl) dMd_areLike_35 (s_Md_valueIn hw) (fun _ _ hx => False.elim hx) (tk_i fun v15 h14 hw => ?_)
      refine tq_aload_n dMd_areLike_38 rfl rfl ?_
      refine tq_iload_n dMd_areLike_39 rfl rfl ?_
      refine tq_iload dMd_areLike_40 rfl ?_
      obtain ⟨f16, hw⟩ := hw
      refine te_callV mv_Md_valueIn (ci := 13) (dc := 0) (as := [vI x2, vI x4]) (rest := [vI v15]) kMd_226 rfl (Nat.le_of_ble_eq_true rfl) (Nat.le_of_ble_eq_true rfl) rfl rfl rfl f16 (Nat.le_of_ble_eq_true rfl) dMd_areLike_42 (s_Md_valueIn hw) (fun _ _ hx => False.elim hx) (tk_i fun v18 h17 hw => ?_)
      refine tq_icmpne (tgt := 64) dMd_areLike_45 (by decide) (fun c19 => ?_) (fun c19 => ?_)
      · have hw := hw.1 c19
        refine tq_iconst (v := (0 : Int32)) dMd_areLike_64 tni_0 ?_
        exact tq_iret rfl (by decide) dMd_areLike_65 hw
      · have hw := hw.2 c19
        refine tq_aload_n dMd_areLike_48 rfl rfl ?_
        refine tq_iload_n dMd_areLike_49 rfl rfl ?_
        refine tq_iload_n dMd_areLike_50 rfl rfl ?_
        obtain ⟨f20, hw⟩ := hw
        refine te_callV mv_Md_childMany (ci := 13) (dc := 1) (as := [vI x1, vI x3]) (rest := []) kMd_216 rfl (Nat.le_of_ble_eq_true rfl) (Nat.le_of_ble_eq_true rfl) rfl rfl rfl f20 (Nat.le_of_ble_eq_true rfl) dMd_areLike_51 (s_Md_childMany hw) (fun _ _ hx => False.elim hx) (tk_i fun v22 h21 hw => ?_)
        refine tq_aload_n dMd_areLike_54 rfl rfl ?_
        refine tq_iload_n dMd_areLike_55 rfl rfl ?_
        refine tq_iload dMd_areLike_56 rfl ?_
        obtain ⟨f23, hw⟩ := hw
        refine te_callV mv_Md_childMany (ci := 13) (dc := 1) (as := [vI x2, vI x4]) (rest := [vI v22]) kMd_216 rfl (Nat.le_of_ble_eq_true rfl) (Nat.le_of_ble_eq_true rfl) rfl rfl rfl f23 (Nat.le_of_ble_eq_true rfl) dMd_areLike_58 (s_Md_childMany hw) (fun _ _ hx => False.elim hx) (tk_i fun v25 h24 hw => ?_)
        refine tq_icmpeq (tgt := 66) dMd_areLike_61 (by decide) (fun c26 => ?_) (fun c26 => ?_)
        · have hw := hw.1 c26
          refine tq_aload_n dMd_areLike_66 rfl rfl ?_
          refine tq_iload_n dMd_areLike_67 rfl rfl ?_
          refine tq_iload dMd_areLike_68 rfl ?_
          obtain ⟨f27, hw⟩ := hw
          refine te_callV mv_Md_firstIn (ci := 13) (dc := 0) (as := [vI x2, vI x4]) (rest := []) kMd_173 rfl (Nat.le_of_ble_eq_true rfl) (Nat.le_of_ble_eq_true rfl) rfl rfl rfl f27 (Nat.le_of_ble_eq_true rfl) dMd_areLike_70 (s_Md_firstIn hw) (fun _ _ hx => False.elim hx) (tk_i fun v29 h28 hw => ?_)
          refine tq_istore (ls' := [some (vR (some o)), some (vI x1), some (vI x2), some (vI x3), some (vI x4), some (vI v29), none, none]) dMd_areLike_73 (Nat.le_of_ble_eq_true rfl) rfl ?_
          refine tpR.fo (ls' := [some (vR (some o)), some (vI x1), some (vI x2), some (vI x3), some (vI x4), some (vI v29), none, none]) ?_ (And.intro rfl (And.intro rfl (And.intro rfl (And.intro rfl (And.intro rfl (And.intro rfl trivial))))))
          obtain ⟨n, hw⟩ := hw
          exact s_Md_areLike_75 n _ _ _ _ _ _ _ hw
        · have hw := hw.2 c26
          refine tq_iconst (v := (0 : Int32)) dMd_areLike_64 tni_0 ?_
          exact tq_iret rfl (by decide) dMd_areLike_65 hw
/-! TModel.layAlike -/
theorem dMd_layAlike_0 : decode (mB Md_layAlike) 0 = .ok (.aload_n 0, 1) := by decide +kernel
theorem dMd_layAlike_1 : decode (mB Md_layAlike) 1 = .ok (.aload_n 0, 1) := by decide +kernel
theorem dMd_layAlike_2 : decode (mB Md_layAlike) 2 = .ok (.iload_n 1, 1) := by decide +kernel
theorem dMd_layAlike_3 : decode (mB Md_layAlike) 3 = .ok (.aload_n 0, 1) := by decide +kernel
theorem dMd_layAlike_4 : decode (mB Md_layAlike) 4 = .ok (.getfield 83, 3) := by decide +kernel
theorem dMd_layAlike_7 : decode (mB Md_layAlike) 7 = .ok (.invokevirtual 208, 3) := by decide +kernel
theorem dMd_layAlike_10 : decode (mB Md_layAlike) 10 = .ok (.putfield 246, 3) := by decide +kernel
theorem dMd_layAlike_13 : decode (mB Md_layAlike) 13 = .ok (.aload_n 0, 1) := by decide +kernel
theorem dMd_layAlike_14 : decode (mB Md_layAlike) 14 = .ok (.aload_n 0, 1) := by decide +kernel
theorem dMd_layAlike_15 : decode (mB Md_layAlike) 15 = .ok (.iload_n 2, 1) := by decide +kernel
theorem dMd_layAlike_16 : decode (mB Md_layAlike) 16 = .ok (.aload_n 0, 1) := by decide +kernel
theorem dMd_layAlike_17 : decode (mB Md_layAlike) 17 = .ok (.getfield 86, 3) := by decide +kernel
theorem dMd_layAlike_20 : decode (mB Md_layAlike) 20 = .ok (.invokevirtual 208, 3) := by decide +kernel
theorem dMd_layAlike_23 : decode (mB Md_layAlike) 23 = .ok (.putfield 249, 3) := by decide +kernel
theorem dMd_layAlike_26 : decode (mB Md_layAlike) 26 = .ok (.iconst 0, 1) := by decide +kernel
theorem dMd_layAlike_27 : decode (mB Md_layAlike) 27 = .ok (.istore_n 3, 1) := by decide +kernel
theorem dMd_layAlike_28 : decode (mB Md_layAlike) 28 = .ok (.iload_n 3, 1) := by decide +kernel
theorem dMd_layAlike_29 : decode (mB Md_layAlike) 29 = .ok (.aload_n 0, 1) := by decide +kernel
theorem dMd_layAlike_30 : decode (mB Md_layAlike) 30 = .ok (.getfield 246, 3) := by decide +kernel
theorem dMd_layAlike_33 : decode (mB Md_layAlike) 33 = .ok (.if_icmp .ge 21, 3) := by decide +kernel
theorem dMd_layAlike_36 : decode (mB Md_layAlike) 36 = .ok (.aload_n 0, 1) := by decide +kernel
theorem dMd_layAlike_37 : decode (mB Md_layAlike) 37 = .ok (.getfield 97, 3) := by decide +kernel
theorem dMd_layAlike_40 : decode (mB Md_layAlike) 40 = .ok (.aload_n 0, 1) := by decide +kernel
theorem dMd_layAlike_41 : decode (mB Md_layAlike) 41 = .ok (.getfield 83, 3) := by decide +kernel
theorem dMd_layAlike_44 : decode (mB Md_layAlike) 44 = .ok (.iload_n 3, 1) := by decide +kernel
theorem dMd_layAlike_45 : decode (mB Md_layAlike) 45 = .ok (.iaload, 1) := by decide +kernel
theorem dMd_layAlike_46 : decode (mB Md_layAlike) 46 = .ok (.iload_n 3, 1) := by decide +kernel
theorem dMd_layAlike_47 : decode (mB Md_layAlike) 47 = .ok (.iastore, 1) := by decide +kernel
theorem dMd_layAlike_48 : decode (mB Md_layAlike) 48 = .ok (.iinc 3 1, 3) := by decide +kernel
theorem dMd_layAlike_51 : decode (mB Md_layAlike) 51 = .ok (.goto (-23), 3) := by decide +kernel
theorem dMd_layAlike_54 : decode (mB Md_layAlike) 54 = .ok (.iconst 0, 1) := by decide +kernel
theorem dMd_layAlike_55 : decode (mB Md_layAlike) 55 = .ok (.istore_n 3, 1) := by decide +kernel
theorem dMd_layAlike_56 : decode (mB Md_layAlike) 56 = .ok (.iload_n 3, 1) := by decide +kernel
theorem dMd_layAlike_57 : decode (mB Md_layAlike) 57 = .ok (.aload_n 0, 1) := by decide +kernel
theorem dMd_layAlike_58 : decode (mB Md_layAlike) 58 = .ok (.getfield 249, 3) := by decide +kernel
theorem dMd_layAlike_61 : decode (mB Md_layAlike) 61 = .ok (.if_icmp .ge 21, 3) := by decide +kernel
theorem dMd_layAlike_64 : decode (mB Md_layAlike) 64 = .ok (.aload_n 0, 1) := by decide +kernel
theorem dMd_layAlike_65 : decode (mB Md_layAlike) 65 = .ok (.getfield 100, 3) := by decide +kernel
theorem dMd_layAlike_68 : decode (mB Md_layAlike) 68 = .ok (.aload_n 0, 1) := by decide +kernel
theorem dMd_layAlike_69 : decode (mB Md_layAlike) 69 = .ok (.getfield 86, 3) := by decide +kernel
theorem dMd_layAlike_72 : decode (mB Md_layAlike) 72 = .ok (.iload_n 3, 1) := by decide +kernel
theorem dMd_layAlike_73 : decode (mB Md_layAlike) 73 = .ok (.iaload, 1) := by decide +kernel
theorem dMd_layAlike_74 : decode (mB Md_layAlike) 74 = .ok (.iload_n 3, 1) := by decide +kernel
theorem dMd_layAlike_75 : decode (mB Md_layAlike) 75 = .ok (.iastore, 1) := by decide +kernel
theorem dMd_layAlike_76 : decode (mB Md_layAlike) 76 = .ok (.iinc 3 1, 3) := by decide +kernel
theorem dMd_layAlike_79 : decode (mB Md_layAlike) 79 = .ok (.goto (-23), 3) := by decide +kernel
theorem dMd_layAlike_82 : decode (mB Md_layAlike) 82 = .ok (.aload_n 0, 1) := by decide +kernel
theorem dMd_layAlike_83 : decode (mB Md_layAlike) 83 = .ok (.getfield 246, 3) := by decide +kernel
theorem dMd_layAlike_86 : decode (mB Md_layAlike) 86 = .ok (.iconst 1, 1) := by decide +kernel
theorem dMd_layAlike_87 : decode (mB Md_layAlike) 87 = .ok (.isub, 1) := by decide +kernel
theorem dMd_layAlike_88 : decode (mB Md_layAlike) 88 = .ok (.istore_n 3, 1) := by decide +kernel
theorem dMd_layAlike_89 : decode (mB Md_layAlike) 89 = .ok (.iload_n 3, 1) := by decide +kernel
theorem dMd_layAlike_90 : decode (mB Md_layAlike) 90 = .ok (.ifCond .lt 60, 3) := by decide +kernel
theorem dMd_layAlike_93 : decode (mB Md_layAlike) 93 = .ok (.aload_n 0, 1) := by decide +kernel
theorem dMd_layAlike_94 : decode (mB Md_layAlike) 94 = .ok (.getfield 249, 3) := by decide +kernel
theorem dMd_layAlike_97 : decode (mB Md_layAlike) 97 = .ok (.iconst 1, 1) := by decide +kernel
theorem dMd_layAlike_98 : decode (mB Md_layAlike) 98 = .ok (.isub, 1) := by decide +kernel
theorem dMd_layAlike_99 : decode (mB Md_layAlike) 99 = .ok (.istore 4, 2) := by decide +kernel
theorem dMd_layAlike_101 : decode (mB Md_layAlike) 101 = .ok (.iload 4, 2) := by decide +kernel
theorem dMd_layAlike_103 : decode (mB Md_layAlike) 103 = .ok (.ifCond .lt 41, 3) := by decide +kernel
theorem dMd_layAlike_106 : decode (mB Md_layAlike) 106 = .ok (.aload_n 0, 1) := by decide +kernel
theorem dMd_layAlike_107 : decode (mB Md_layAlike) 107 = .ok (.getfield 94, 3) := by decide +kernel
theorem dMd_layAlike_110 : decode (mB Md_layAlike) 110 = .ok (.sipush 300, 3) := by decide +kernel
theorem dMd_layAlike_113 : decode (mB Md_layAlike) 113 = .ok (.iload_n 3, 1) := by decide +kernel
theorem dMd_layAlike_114 : decode (mB Md_layAlike) 114 = .ok (.imul, 1) := by decide +kernel
theorem dMd_layAlike_115 : decode (mB Md_layAlike) 115 = .ok (.iload 4, 2) := by decide +kernel
theorem dMd_layAlike_117 : decode (mB Md_layAlike) 117 = .ok (.iadd, 1) := by decide +kernel
theorem dMd_layAlike_118 : decode (mB Md_layAlike) 118 = .ok (.aload_n 0, 1) := by decide +kernel
theorem dMd_layAlike_119 : decode (mB Md_layAlike) 119 = .ok (.iload_n 1, 1) := by decide +kernel
theorem dMd_layAlike_120 : decode (mB Md_layAlike) 120 = .ok (.iload_n 2, 1) := by decide +kernel
theorem dMd_layAlike_121 : decode (mB Md_layAlike) 121 = .ok (.aload_n 0, 1) := by decide +kernel
theorem dMd_layAlike_122 : decode (mB Md_layAlike) 122 = .ok (.getfield 83, 3) := by decide +kernel
theorem dMd_layAlike_125 : decode (mB Md_layAlike) 125 = .ok (.iload_n 3, 1) := by decide +kernel
theorem dMd_layAlike_126 : decode (mB Md_layAlike) 126 = .ok (.iaload, 1) := by decide +kernel
theorem dMd_layAlike_127 : decode (mB Md_layAlike) 127 = .ok (.aload_n 0, 1) := by decide +kernel
theorem dMd_layAlike_128 : decode (mB Md_layAlike) 128 = .ok (.getfield 86, 3) := by decide +kernel
theorem dMd_layAlike_131 : decode (mB Md_layAlike) 131 = .ok (.iload 4, 2) := by decide +kernel
theorem dMd_layAlike_133 : decode (mB Md_layAlike) 133 = .ok (.iaload, 1) := by decide +kernel
theorem dMd_layAlike_134 : decode (mB Md_layAlike) 134 = .ok (.invokevirtual 252, 3) := by decide +kernel
theorem dMd_layAlike_137 : decode (mB Md_layAlike) 137 = .ok (.bastore, 1) := by decide +kernel
theorem dMd_layAlike_138 : decode (mB Md_layAlike) 138 = .ok (.iinc 4 (-1), 3) := by decide +kernel
theorem dMd_layAlike_141 : decode (mB Md_layAlike) 141 = .ok (.goto (-40), 3) := by decide +kernel
theorem dMd_layAlike_144 : decode (mB Md_layAlike) 144 = .ok (.iinc 3 (-1), 3) := by decide +kernel
theorem dMd_layAlike_147 : decode (mB Md_layAlike) 147 = .ok (.goto (-58), 3) := by decide +kernel
theorem dMd_layAlike_150 : decode (mB Md_layAlike) 150 = .ok (.return_, 1) := by decide +kernel
def b_Md_layAlike_101 (R : tpH → Prop) (K89 : Nat → Int32 → Int32 → Int32 → tpH → Prop) (Y : Nat → Int32 → Int32 → Int32 → Int32 → tpH → Prop) (o : Nat) (x1 : Int32) (x2 : Int32) (x3 : Int32) (x4 : Int32) (h : tpH) : Prop :=
  (x4 < 0 → (K89 o x1 x2 (x3 + (-1 : Int32)) h)) ∧ (¬ x4 < 0 → (hT h o = 14 ∧ (∃ a3, (hR h o 32) = some a3 ∧ hT h a3 = 15 ∧ (vp_in x3 (hL h a3) ∧ (∃ a7, (hR h o 33) = some a7 ∧ hT h a7 = 15 ∧ (vp_in x4 (hL h a7) ∧ (w_Md_areLike o x1 x2 (hI h a3 x3.toNatClampNeg) (hI h a7 x4.toNatClampNeg) h (fun v12 h11 => ∃ a13, (hR h o 37) = some a13 ∧ hT h11 a13 = 16 ∧ (vp_in (((300 : Int32) * x3) + x4) (hL h11 a13) ∧ (tpB v12 ∧ (∀ h18, h18 = sI h11 a13 (((300 : Int32) * x3) + x4).toNatClampNeg v12 → (Y o x1 x2 x3 (x4 + (-1 : Int32)) h18))))))))))))
def w_Md_layAlike_101 (R : tpH → Prop) (K89 : Nat → Int32 → Int32 → Int32 → tpH → Prop) : Nat → Nat → Int32 → Int32 → Int32 → Int32 → tpH → Prop
  | 0 => fun _ _ _ _ _ _ => False
  | n + 1 => b_Md_layAlike_101 R K89 (w_Md_layAlike_101 R K89 n)
def b_Md_layAlike_89 (R : tpH → Prop) (Y : Nat → Int32 → Int32 → Int32 → tpH → Prop) (o : Nat) (x1 : Int32) (x2 : Int32) (x3 : Int32) (h : tpH) : Prop :=
  (x3 < 0 → (R h)) ∧ (¬ x3 < 0 → (hT h o = 14 ∧ (∃ n, w_Md_layAlike_101 R Y n o x1 x2 x3 ((hI h o 35) - (1 : Int32)) h)))
def w_Md_layAlike_89 (R : tpH → Prop) : Nat → Nat → Int32 → Int32 → Int32 → tpH → Prop
  | 0 => fun _ _ _ _ _ => False
  | n + 1 => b_Md_layAlike_89 R (w_Md_layAlike_89 R n)
def b_Md_layAlike_56 (R : tpH → Prop) (Y : Nat → Int32 → Int32 → Int32 → tpH → Prop) (o : Nat) (x1 : Int32) (x2 : Int32) (x3 : Int32) (h : tpH) : Prop :=
  hT h o = 14 ∧ (((hI h o 35) ≤ x3 → (∃ n, w_Md_layAlike_89 R n o x1 x2 ((hI h o 34) - (1 : Int32)) h)) ∧ (¬ (hI h o 35) ≤ x3 → (∃ a3, (hR h o 33) = some a3 ∧ hT h a3 = 15 ∧ (vp_in x3 (hL h a3) ∧ (∃ a7, (hR h o 39) = some a7 ∧ hT h a7 = 15 ∧ (vp_in (hI h a3 x3.toNatClampNeg) (hL h a7) ∧ (∀ h11, h11 = sI h a7 (hI h a3 x3.toNatClampNeg).toNatClampNeg x3 → (Y o x1 x2 (x3 + (1 : Int32)) h11))))))))
def w_Md_layAlike_56 (R : tpH → Prop) : Nat → Nat → Int32 → Int32 → Int32 → tpH → Prop
  | 0 => fun _ _ _ _ _ => False
  | n + 1 => b_Md_layAlike_56 R (w_Md_layAlike_56 R n)
def b_Md_layAlike_28 (R : tpH → Prop) (Y : Nat → Int32 → Int32 → Int32 → tpH → Prop) (o : Nat) (x1 : Int32) (x2 : Int32) (x3 : Int32) (h : tpH) : Prop :=
  hT h o = 14 ∧ (((hI h o 34) ≤ x3 → (∃ n, w_Md_layAlike_56 R n o x1 x2 (0 : Int32) h)) ∧ (¬ (hI h o 34) ≤ x3 → (∃ a3, (hR h o 32) = some a3 ∧ hT h a3 = 15 ∧ (vp_in x3 (hL h a3) ∧ (∃ a7, (hR h o 38) = some a7 ∧ hT h a7 = 15 ∧ (vp_in (hI h a3 x3.toNatClampNeg) (hL h a7) ∧ (∀ h11, h11 = sI h a7 (hI h a3 x3.toNatClampNeg).toNatClampNeg x3 → (Y o x1 x2 (x3 + (1 : Int32)) h11))))))))
def w_Md_layAlike_28 (R : tpH → Prop) : Nat → Nat → Int32 → Int32 → Int32 → tpH → Prop
  | 0 => fun _ _ _ _ _ => False
  | n + 1 => b_Md_layAlike_28 R (w_Md_layAlike_28 R n)
def w_Md_layAlike (o : Nat) (x1 : Int32) (x2 : Int32) (h : tpH) (R : tpH → Prop) : Prop :=
  hT h o = 14 ∧ (w_Md_layOrder o x1 (hR h o 32) h (fun v3 h2 => hT h2 o = 14 ∧ (∀ h5, h5 = sI h2 o 34 v3 → (w_Md_layOrder o x2 (hR h5 o 33) h5 (fun v8 h7 => hT h7 o = 14 ∧ (∀ h10, h10 = sI h7 o 35 v8 → (∃ n, w_Md_layAlike_28 R n o x1 x2 (0 : Int32) h10)))))))
theorem s_Md_layAlike_101 {h0 : tpH} {av : List tpV} {R : tpH → Prop} {K89 : Nat → Int32 → Int32 → Int32 → tpH → Prop} (k89 : ∀ (o : Nat) (x1 : Int32) (x2 : Int32) (x3 : Int32) (h : tpH), K89 o x1 x2 x3 h → tpR Md_layAlike 3 h0 av (tpOv R (fun _ _ => False)) 89 [some (vR (some o)), some (vI x1), some (vI x2), some (vI x3), none] [] h) : ∀ (n : Nat) (o : Nat) (x1 : Int32) (x2 : Int32) (x3 : Int32) (x4 : Int32) (h : tpH), w_Md_layAlike_101 R K89 n o x1 x2 x3 x4 h → tpR Md_layAlike 3 h0 av (tpOv R (fun _ _ => False)) 101 [some (vR (some o)), some (vI x1), some (vI x2), some (vI x3), some (vI x4)] [] h := by
  intro n
  induction n with
  | zero => intro o x1 x2 x3 x4 h hw; exact False.elim hw
  | succ n ih =>
    intro o x1 x2 x3 x4 h hw
    change b_Md_layAlike_101 R K89 (w_Md_layAlike_101 R K89 n) o x1 x2 x3 x4 h at hw
    unfold b_Md_layAlike_101 at hw
    refine tq_iload dMd_layAlike_101 rfl ?_
    refine tq_iflt (tgt := 144) dMd_layAlike_103 (by decide) (fun c1 => ?_) (fun c1 => ?_)
    · have hw := hw.1 c1
      refine tq_inc (k := (-1 : Int32)) (ls' := [some (vR (some o)), some (vI x1), some (vI x2), some (vI (x3 + (-1 : Int32))), some (vI x4)]) dMd_layAlike_144 rfl tni_m1 (Nat.le_of_ble_eq_true rfl) rfl ?_
      refine tq_goto (tgt := 89) dMd_layAlike_147 (by decide) ?_
      refine tpR.fo (ls' := [some (vR (some o)), some (vI x1), some (vI x2), some (vI (x3 + (-1 : Int32))), none]) ?_ (And.intro rfl (And.intro rfl (And.intro rfl (And.intro rfl trivial))))
      exact k89 _ _ _ _ _ hw
    · have hw := hw.2 c1
      refine tq_aload_n dMd_layAlike_106 rfl rfl ?_
      obtain ⟨f2, hw⟩ := hw
      refine te_getr dMd_layAlike_107 fMd_94 rfl rfl f2 ?_
      refine tq_sipush (v := (300 : Int32)) dMd_layAlike_110 tns_300 ?_
      refine tq_iload_n dMd_layAlike_113 rfl rfl ?_
      refine tq_imul dMd_layAlike_114 ?_
      refine tq_iload dMd_layAlike_115 rfl ?_
      refine tq_iadd dMd_layAlike_117 ?_
      refine tq_aload_n dMd_layAlike_118 rfl rfl ?_
      refine tq_iload_n dMd_layAlike_119 rfl rfl ?_
      refine tq_iload_n dMd_layAlike_120 rfl rfl ?_
      refine tq_aload_n dMd_layAlike_121 rfl rfl ?_
      refine te_getr dMd_layAlike_122 fMd_83 rfl rfl f2 ?_
      refine tq_iload_n dMd_layAlike_125 rfl rfl ?_
      obtain ⟨a3, e4, f5, hw⟩ := hw
      obtain ⟨f6, hw⟩ := hw
      refine te_iald dMd_layAlike_126 e4 (Or.inl f5) f6 ?_
      refine tq_aload_n dMd_layAlike_127 rfl rfl ?_
      refine te_getr dMd_layAlike_128 fMd_86 rfl rfl f2 ?_
      refine tq_iload dMd_layAlike_131 rfl ?_
      obtain ⟨a7, e8, f9, hw⟩ := hw
      obtain ⟨f10, hw⟩ := hw
      refine te_iald dMd_layAlike_133 e8 (Or.inl f9) f10 ?_
      refine te_callV mv_Md_areLike (ci := 13) (dc := 2) (as := [vI x1, vI x2, vI (hI h a3 x3.toNatClampNeg), vI (hI h a7 x4.toNatClampNeg)]) (rest := [vI (((300 : Int32) * x3) + x4), vR (hR h o 37)]) kMd_252 rfl (Nat.le_of_ble_eq_true rfl) (Nat.le_of_ble_eq_true rfl) rfl rfl rfl f2 (Nat.le_of_ble_eq_true rfl) dMd_layAlike_134 (s_Md_areLike hw) (fun _ _ hx => False.elim hx) (tk_i fun v12 h11 hw => ?_)
      obtain ⟨a13, e14, f15, hw⟩ := hw
      obtain ⟨f16, hw⟩ := hw
      obtain ⟨f17, hw⟩ := hw
      refine te_zast dMd_layAlike_137 e14 f15 f16 (tpB_n f17) (fun h18 e19 => ?_)
      have hw := hw h18 e19
      refine tq_inc (k := (-1 : Int32)) (ls' := [some (vR (some o)), some (vI x1), some (vI x2), some (vI x3), some (vI (x4 + (-1 : Int32)))]) dMd_layAlike_138 rfl tni_m1 (Nat.le_of_ble_eq_true rfl) rfl ?_
      refine tq_goto (tgt := 101) dMd_layAlike_141 (by decide) ?_
      refine tpR.fo (ls' := [some (vR (some o)), some (vI x1), some (vI x2), some (vI x3), some (vI (x4 + (-1 : Int32)))]) ?_ (And.intro rfl (And.intro rfl (And.intro rfl (And.intro rfl (And.intro rfl trivial)))))
      exact ih _ _ _ _ _ _ hw
theorem s_Md_layAlike_89 {h0 : tpH} {av : List tpV} {R : tpH → Prop} : ∀ (n : Nat) (o : Nat) (x1 : Int32) (x2 : Int32) (x3 : Int32) (h : tpH), w_Md_layAlike_89 R n o x1 x2 x3 h → tpR Md_layAlike 3 h0 av (tpOv R (fun _ _ => False)) 89 [some (vR (some o)), some (vI x1), some (vI x2), some (vI x3), none] [] h := by
  intro n
  induction n with
  | zero => intro o x1 x2 x3 h hw; exact False.elim hw
  | succ n ih =>
    intro o x1 x2 x3 h hw
    change b_Md_layAlike_89 R (w_Md_layAlike_89 R n) o x1 x2 x3 h at hw
    unfold b_Md_layAlike_89 at hw
    refine tq_iload_n dMd_layAlike_89 rfl rfl ?_
    refine tq_iflt (tgt := 150) dMd_layAlike_90 (by decide) (fun c1 => ?_) (fun c1 => ?_)
    · have hw := hw.1 c1
      exact tq_vret rfl dMd_layAlike_150 hw
    · have hw := hw.2 c1
      refine tq_aload_n dMd_layAlike_93 rfl rfl ?_
      obtain ⟨f2, hw⟩ := hw
      refine te_geti dMd_layAlike_94 fMd_249 rfl rfl f2 ?_
      refine tq_iconst (v := (1 : Int32)) dMd_layAlike_97 tni_1 ?_
      refine tq_isub dMd_layAlike_98 ?_
      refine tq_istore (ls' := [some (vR (some o)), some (vI x1), some (vI x2), some (vI x3), some (vI ((hI h o 35) - (1 : Int32)))]) dMd_layAlike_99 (Nat.le_of_ble_eq_true rfl) rfl ?_
      refine tpR.fo (ls' := [some (vR (some o)), some (vI x1), some (vI x2), some (vI x3), some (vI ((hI h o 35) - (1 : Int32)))]) ?_ (And.intro rfl (And.intro rfl (And.intro rfl (And.intro rfl (And.intro rfl trivial)))))
      obtain ⟨n, hw⟩ := hw
      exact s_Md_layAlike_101 ih n _ _ _ _ _ _ hw
theorem s_Md_layAlike_56 {h0 : tpH} {av : List tpV} {R : tpH → Prop} : ∀ (n : Nat) (o : Nat) (x1 : Int32) (x2 : Int32) (x3 : Int32) (h : tpH), w_Md_layAlike_56 R n o x1 x2 x3 h → tpR Md_layAlike 3 h0 av (tpOv R (fun _ _ => False)) 56 [some (vR (some o)), some (vI x1), some (vI x2), some (vI x3), none] [] h := by
  intro n
  induction n with
  | zero => intro o x1 x2 x3 h hw; exact False.elim hw
  | succ n ih =>
    intro o x1 x2 x3 h hw
    change b_Md_layAlike_56 R (w_Md_layAlike_56 R n) o x1 x2 x3 h at hw
    unfold b_Md_layAlike_56 at hw
    refine tq_iload_n dMd_layAlike_56 rfl rfl ?_
    refine tq_aload_n dMd_layAlike_57 rfl rfl ?_
    obtain ⟨f1, hw⟩ := hw
    refine te_geti dMd_layAlike_58 fMd_249 rfl rfl f1 ?_
    refine tq_icmpge (tgt := 82) dMd_layAlike_61 (by decide) (fun c2 => ?_) (fun c2 => ?_)
    · have hw := hw.1 c2
      refine tq_aload_n dMd_layAlike_82 rfl rfl ?_
      refine te_geti dMd_layAlike_83 fMd_246 rfl rfl f1 ?_
      refine tq_iconst (v := (1 : Int32)) dMd_layAlike_86 tni_1 ?_
      refine tq_isub dMd_layAlike_87 ?_
      refine tq_istore_n (ls' := [some (vR (some o)), some (vI x1), some (vI x2), some (vI ((hI h o 34) - (1 : Int32))), none]) dMd_layAlike_88 rfl (Nat.le_of_ble_eq_true rfl) rfl ?_
      refine tpR.fo (ls' := [some (vR (some o)), some (vI x1), some (vI x2), some (vI ((hI h o 34) - (1 : Int32))), none]) ?_ (And.intro rfl (And.intro rfl (And.intro rfl (And.intro rfl trivial))))
      obtain ⟨n, hw⟩ := hw
      exact s_Md_layAlike_89 n _ _ _ _ _ hw
    · have hw := hw.2 c2
      refine tq_aload_n dMd_layAlike_64 rfl rfl ?_
      refine te_getr dMd_layAlike_65 fMd_100 rfl rfl f1 ?_
      refine tq_aload_n dMd_layAlike_68 rfl rfl ?_
      refine te_getr dMd_layAlike_69 fMd_86 rfl rfl f1 ?_
      refine tq_iload_n dMd_layAlike_72 rfl rfl ?_
      obtain ⟨a3, e4, f5, hw⟩ := hw
      obtain ⟨f6, hw⟩ := hw
      refine te_iald dMd_layAlike_73 e4 (Or.inl f5) f6 ?_
      refine tq_iload_n dMd_layAlike_74 rfl rfl ?_
      obtain ⟨a7, e8, f9, hw⟩ := hw
      obtain ⟨f10, hw⟩ := hw
      refine te_iast dMd_layAlike_75 e8 f9 f10 (fun h11 e12 => ?_)
      have hw := hw h11 e12
      refine tq_inc (k := (1 : Int32)) (ls' := [some (vR (some o)), some (vI x1), some (vI x2), some (vI (x3 + (1 : Int32))), none]) dMd_layAlike_76 rfl tni_1 (Nat.le_of_ble_eq_true rfl) rfl ?_
      refine tq_goto (tgt := 56) dMd_layAlike_79 (by decide) ?_
      refine tpR.fo (ls' := [some (vR (some o)), some (vI x1), some (vI x2), some (vI (x3 + (1 : Int32))), none]) ?_ (And.intro rfl (And.intro rfl (And.intro rfl (And.intro rfl trivial))))
      exact ih _ _ _ _ _ hw
theorem s_Md_layAlike_28 {h0 : tpH} {av : List tpV} {R : tpH → Prop} : ∀ (n : Nat) (o : Nat) (x1 : Int32) (x2 : Int32) (x3 : Int32) (h : tpH), w_Md_layAlike_28 R n o x1 x2 x3 h → tpR Md_layAlike 3 h0 av (tpOv R (fun _ _ => False)) 28 [some (vR (some o)), some (vI x1), some (vI x2), some (vI x3), none] [] h := by
  intro n
  induction n with
  | zero => intro o x1 x2 x3 h hw; exact False.elim hw
  | succ n ih =>
    intro o x1 x2 x3 h hw
    change b_Md_layAlike_28 R (w_Md_layAlike_28 R n) o x1 x2 x3 h at hw
    unfold b_Md_layAlike_28 at hw
    refine tq_iload_n dMd_layAlike_28 rfl rfl ?_
    refine tq_aload_n dMd_layAlike_29 rfl rfl ?_
    obtain ⟨f1, hw⟩ := hw
    refine te_geti dMd_layAlike_30 fMd_246 rfl rfl f1 ?_
    refine tq_icmpge (tgt := 54) dMd_layAlike_33 (by decide) (fun c2 => ?_) (fun c2 => ?_)
    · have hw := hw.1 c2
      refine tq_iconst (v := (0 : Int32)) dMd_layAlike_54 tni_0 ?_
      refine tq_istore_n (ls' := [some (vR (some o)), some (vI x1), some (vI x2), some (vI (0 : Int32)), none]) dMd_layAlike_55 rfl (Nat.le_of_ble_eq_true rfl) rfl ?_
      refine tpR.fo (ls' := [some (vR (some o)), some (vI x1), some (vI x2), some (vI (0 : Int32)), none]) ?_ (And.intro rfl (And.intro rfl (And.intro rfl (And.intro rfl trivial))))
      obtain ⟨n, hw⟩ := hw
      exact s_Md_layAlike_56 n _ _ _ _ _ hw
    · have hw := hw.2 c2
      refine tq_aload_n dMd_layAlike_36 rfl rfl ?_
      refine te_getr dMd_layAlike_37 fMd_97 rfl rfl f1 ?_
      refine tq_aload_n dMd_layAlike_40 rfl rfl ?_
      refine te_getr dMd_layAlike_41 fMd_83 rfl rfl f1 ?_
      refine tq_iload_n dMd_layAlike_44 rfl rfl ?_
      obtain ⟨a3, e4, f5, hw⟩ := hw
      obtain ⟨f6, hw⟩ := hw
      refine te_iald dMd_layAlike_45 e4 (Or.inl f5) f6 ?_
      refine tq_iload_n dMd_layAlike_46 rfl rfl ?_
      obtain ⟨a7, e8, f9, hw⟩ := hw
      obtain ⟨f10, hw⟩ := hw
      refine te_iast dMd_layAlike_47 e8 f9 f10 (fun h11 e12 => ?_)
      have hw := hw h11 e12
      refine tq_inc (k := (1 : Int32)) (ls' := [some (vR (some o)), some (vI x1), some (vI x2), some (vI (x3 + (1 : Int32))), none]) dMd_layAlike_48 rfl tni_1 (Nat.le_of_ble_eq_true rfl) rfl ?_
      refine tq_goto (tgt := 28) dMd_layAlike_51 (by decide) ?_
      refine tpR.fo (ls' := [some (vR (some o)), some (vI x1), some (vI x2), some (vI (x3 + (1 : Int32))), none]) ?_ (And.intro rfl (And.intro rfl (And.intro rfl (And.intro rfl trivial))))
      exact ih _ _ _ _ _ hw
theorem s_Md_layAlike {o : Nat} {x1 : Int32} {x2 : Int32} {h : tpH} {R : tpH → Prop} (hw : w_Md_layAlike o x1 x2 h R) : tpC Md_layAlike 3 [vR (some o), vI x1, vI x2] h (tpOv R (fun _ _ => False)) := by
  refine tpC_of mv_Md_layAlike.2.2.2.1 rfl rfl (Nat.le_of_ble_eq_true rfl) ?_
  show tpR Md_layAlike 3 h _ _ 0 [some (vR (some o)), some (vI x1), some (vI x2), none, none] [] h
  unfold w_Md_layAlike at hw
  refine tq_aload_n dMd_layAlike_0 rfl rfl ?_
  refine tq_aload_n dMd_layAlike_1 rfl rfl ?_
  refine tq_iload_n dMd_layAlike_2 rfl rfl ?_
  refine tq_aload_n dMd_layAlike_3 rfl rfl ?_
  obtain ⟨f1, hw⟩ := hw
  refine te_getr dMd_layAlike_4 fMd_83 rfl rfl f1 ?_
  refine te_callV mv_Md_layOrder (ci := 13) (dc := 1) (as := [vI x1, vR (hR h o 32)]) (rest := [vR (some o)]) kMd_208 rfl (Nat.le_of_ble_eq_true rfl) (Nat.le_of_ble_eq_true rfl) rfl rfl rfl f1 (Nat.le_of_ble_eq_true rfl) dMd_layAlike_7 (s_Md_layOrder hw) (fun _ _ hx => False.elim hx) (tk_i fun v3 h2 hw => ?_)
  obtain ⟨f4, hw⟩ := hw
  refine te_puti dMd_layAlike_10 pMd_246 rfl rfl rfl f4 ⟨rfl, rfl⟩ (fun h5 e6 => ?_)
  have hw := hw h5 e6
  refine tq_aload_n dMd_layAlike_13 rfl rfl ?_
  refine tq_aload_n dMd_layAlike_14 rfl rfl ?_
  refine tq_iload_n dMd_layAlike_15 rfl rfl ?_
  refine tq_aload_n dMd_layAlike_16 rfl rfl ?_
  refine te_getr dMd_layAlike_17 fMd_86 rfl rfl (by rw [e6]; exact f4) ?_
  refine te_callV mv_Md_layOrder (ci := 13) (dc := 1) (as := [vI x2, vR (hR h5 o 33)]) (rest := [vR (some o)]) kMd_208 rfl (Nat.le_of_ble_eq_true rfl) (Nat.le_of_ble_eq_true rfl) rfl rfl rfl (by rw [e6]; exact f4) (Nat.le_of_ble_eq_true rfl) dMd_layAlike_20 (s_Md_layOrder hw) (fun _ _ hx => False.elim hx) (tk_i fun v8 h7 hw => ?_)
  obtain ⟨f9, hw⟩ := hw
  refine te_puti dMd_layAlike_23 pMd_249 rfl rfl rfl f9 ⟨rfl, rfl⟩ (fun h10 e11 => ?_)
  have hw := hw h10 e11
  refine tq_iconst (v := (0 : Int32)) dMd_layAlike_26 tni_0 ?_
  refine tq_istore_n (ls' := [some (vR (some o)), some (vI x1), some (vI x2), some (vI (0 : Int32)), none]) dMd_layAlike_27 rfl (Nat.le_of_ble_eq_true rfl) rfl ?_
  refine tpR.fo (ls' := [some (vR (some o)), some (vI x1), some (vI x2), some (vI (0 : Int32)), none]) ?_ (And.intro rfl (And.intro rfl (And.intro rfl (And.intro rfl trivial))))
  obtain ⟨n, hw⟩ := hw
  exact s_Md_layAlike_28 n _ _ _ _ _ hw
/-! TModel.areOfOneKind -/
theorem dMd_areOfOneKind_0 : decode (mB Md_areOfOneKind) 0 = .ok (.aload_n 0, 1) := by decide +kernel
theorem dMd_areOfOneKind_1 : decode (mB Md_areOfOneKind) 1 = .ok (.iload_n 2, 1) := by decide +kernel
theorem dMd_areOfOneKind_2 : decode (mB Md_areOfOneKind) 2 = .ok (.iaload, 1) := by decide +kernel
theorem dMd_areOfOneKind_3 : decode (mB Md_areOfOneKind) 3 = .ok (.aload_n 0, 1) := by decide +kernel
theorem dMd_areOfOneKind_4 : decode (mB Md_areOfOneKind) 4 = .ok (.iload_n 3, 1) := by decide +kernel
theorem dMd_areOfOneKind_5 : decode (mB Md_areOfOneKind) 5 = .ok (.iaload, 1) := by decide +kernel
theorem dMd_areOfOneKind_6 : decode (mB Md_areOfOneKind) 6 = .ok (.if_icmp .ne 16, 3) := by decide +kernel
theorem dMd_areOfOneKind_9 : decode (mB Md_areOfOneKind) 9 = .ok (.aload_n 1, 1) := by decide +kernel
theorem dMd_areOfOneKind_10 : decode (mB Md_areOfOneKind) 10 = .ok (.iload_n 2, 1) := by decide +kernel
theorem dMd_areOfOneKind_11 : decode (mB Md_areOfOneKind) 11 = .ok (.iaload, 1) := by decide +kernel
theorem dMd_areOfOneKind_12 : decode (mB Md_areOfOneKind) 12 = .ok (.aload_n 1, 1) := by decide +kernel
theorem dMd_areOfOneKind_13 : decode (mB Md_areOfOneKind) 13 = .ok (.iload_n 3, 1) := by decide +kernel
theorem dMd_areOfOneKind_14 : decode (mB Md_areOfOneKind) 14 = .ok (.iaload, 1) := by decide +kernel
theorem dMd_areOfOneKind_15 : decode (mB Md_areOfOneKind) 15 = .ok (.if_icmp .ne 7, 3) := by decide +kernel
theorem dMd_areOfOneKind_18 : decode (mB Md_areOfOneKind) 18 = .ok (.iconst 1, 1) := by decide +kernel
theorem dMd_areOfOneKind_19 : decode (mB Md_areOfOneKind) 19 = .ok (.goto 4, 3) := by decide +kernel
theorem dMd_areOfOneKind_22 : decode (mB Md_areOfOneKind) 22 = .ok (.iconst 0, 1) := by decide +kernel
theorem dMd_areOfOneKind_23 : decode (mB Md_areOfOneKind) 23 = .ok (.ireturn, 1) := by decide +kernel
def w_Md_areOfOneKind (x0 : Option Nat) (x1 : Option Nat) (x2 : Int32) (x3 : Int32) (h : tpH) (R : Int32 → tpH → Prop) : Prop :=
  ∃ a1, x0 = some a1 ∧ hT h a1 = 15 ∧ (vp_in x2 (hL h a1) ∧ (vp_in x3 (hL h a1) ∧ ((¬ (hI h a1 x2.toNatClampNeg) = (hI h a1 x3.toNatClampNeg) → (R (0 : Int32) h)) ∧ ((hI h a1 x2.toNatClampNeg) = (hI h a1 x3.toNatClampNeg) → (∃ a7, x1 = some a7 ∧ hT h a7 = 15 ∧ (vp_in x2 (hL h a7) ∧ (vp_in x3 (hL h a7) ∧ ((¬ (hI h a7 x2.toNatClampNeg) = (hI h a7 x3.toNatClampNeg) → (R (0 : Int32) h)) ∧ ((hI h a7 x2.toNatClampNeg) = (hI h a7 x3.toNatClampNeg) → (R (1 : Int32) h))))))))))
theorem s_Md_areOfOneKind {x0 : Option Nat} {x1 : Option Nat} {x2 : Int32} {x3 : Int32} {h : tpH} {R : Int32 → tpH → Prop} (hw : w_Md_areOfOneKind x0 x1 x2 x3 h R) : tpC Md_areOfOneKind 0 [vR x0, vR x1, vI x2, vI x3] h (tpOi R (fun _ _ => False)) := by
  refine tpC_of ms_Md_areOfOneKind.2.2.2.1 rfl rfl (Nat.le_of_ble_eq_true rfl) ?_
  show tpR Md_areOfOneKind 0 h _ _ 0 [some (vR x0), some (vR x1), some (vI x2), some (vI x3)] [] h
  unfold w_Md_areOfOneKind at hw
  refine tq_aload_n dMd_areOfOneKind_0 rfl rfl ?_
  refine tq_iload_n dMd_areOfOneKind_1 rfl rfl ?_
  obtain ⟨a1, e2, f3, hw⟩ := hw
  obtain ⟨f4, hw⟩ := hw
  refine te_iald dMd_areOfOneKind_2 e2 (Or.inl f3) f4 ?_
  refine tq_aload_n dMd_areOfOneKind_3 rfl rfl ?_
  refine tq_iload_n dMd_areOfOneKind_4 rfl rfl ?_
  obtain ⟨f5, hw⟩ := hw
  refine te_iald dMd_areOfOneKind_5 e2 (Or.inl f3) f5 ?_
  refine tq_icmpne (tgt := 22) dMd_areOfOneKind_6 (by decide) (fun c6 => ?_) (fun c6 => ?_)
  · have hw := hw.1 c6
    refine tq_iconst (v := (0 : Int32)) dMd_areOfOneKind_22 tni_0 ?_
    exact tq_iret rfl (by decide) dMd_areOfOneKind_23 hw
  · have hw := hw.2 c6
    refine tq_aload_n dMd_areOfOneKind_9 rfl rfl ?_
    refine tq_iload_n dMd_areOfOneKind_10 rfl rfl ?_
    obtain ⟨a7, e8, f9, hw⟩ := hw
    obtain ⟨f10, hw⟩ := hw
    refine te_iald dMd_areOfOneKind_11 e8 (Or.inl f9) f10 ?_
    refine tq_aload_n dMd_areOfOneKind_12 rfl rfl ?_
    refine tq_iload_n dMd_areOfOneKind_13 rfl rfl ?_
    obtain ⟨f11, hw⟩ := hw
    refine te_iald dMd_areOfOneKind_14 e8 (Or.inl f9) f11 ?_
    refine tq_icmpne (tgt := 22) dMd_areOfOneKind_15 (by decide) (fun c12 => ?_) (fun c12 => ?_)
    · have hw := hw.1 c12
      refine tq_iconst (v := (0 : Int32)) dMd_areOfOneKind_22 tni_0 ?_
      exact tq_iret rfl (by decide) dMd_areOfOneKind_23 hw
    · have hw := hw.2 c12
      refine tq_iconst (v := (1 : Int32)) dMd_areOfOneKind_18 tni_1 ?_
      refine tq_goto (tgt := 23) dMd_areOfOneKind_19 (by decide) ?_
      exact tq_iret rfl (by decide) dMd_areOfOneKind_23 hw
/-! TModel.canPair -/
theorem dMd_canPair_0 : decode (mB Md_canPair) 0 = .ok (.aload_n 0, 1) := by decide +kernel
theorem dMd_canPair_1 : decode (mB Md_canPair) 1 = .ok (.getfield 106, 3) := by decide +kernel
theorem dMd_canPair_4 : decode (mB Md_canPair) 4 = .ok (.iload_n 1, 1) := by decide +kernel
theorem dMd_canPair_5 : decode (mB Md_canPair) 5 = .ok (.iaload, 1) := by decide +kernel
theorem dMd_canPair_6 : decode (mB Md_canPair) 6 = .ok (.iconst (-1), 1) := by decide +kernel
theorem dMd_canPair_7 : decode (mB Md_canPair) 7 = .ok (.if_icmp .ne 33, 3) := by decide +kernel
theorem dMd_canPair_10 : decode (mB Md_canPair) 10 = .ok (.aload_n 0, 1) := by decide +kernel
theorem dMd_canPair_11 : decode (mB Md_canPair) 11 = .ok (.getfield 109, 3) := by decide +kernel
theorem dMd_canPair_14 : decode (mB Md_canPair) 14 = .ok (.iload_n 2, 1) := by decide +kernel
theorem dMd_canPair_15 : decode (mB Md_canPair) 15 = .ok (.iaload, 1) := by decide +kernel
theorem dMd_canPair_16 : decode (mB Md_canPair) 16 = .ok (.iconst (-1), 1) := by decide +kernel
theorem dMd_canPair_17 : decode (mB Md_canPair) 17 = .ok (.if_icmp .ne 23, 3) := by decide +kernel
theorem dMd_canPair_20 : decode (mB Md_canPair) 20 = .ok (.aload_n 0, 1) := by decide +kernel
theorem dMd_canPair_21 : decode (mB Md_canPair) 21 = .ok (.getfield 7, 3) := by decide +kernel
theorem dMd_canPair_24 : decode (mB Md_canPair) 24 = .ok (.aload_n 0, 1) := by decide +kernel
theorem dMd_canPair_25 : decode (mB Md_canPair) 25 = .ok (.getfield 13, 3) := by decide +kernel
theorem dMd_canPair_28 : decode (mB Md_canPair) 28 = .ok (.iload_n 1, 1) := by decide +kernel
theorem dMd_canPair_29 : decode (mB Md_canPair) 29 = .ok (.iload_n 2, 1) := by decide +kernel
theorem dMd_canPair_30 : decode (mB Md_canPair) 30 = .ok (.invokestatic 256, 3) := by decide +kernel
theorem dMd_canPair_33 : decode (mB Md_canPair) 33 = .ok (.ifCond .eq 7, 3) := by decide +kernel
theorem dMd_canPair_36 : decode (mB Md_canPair) 36 = .ok (.iconst 1, 1) := by decide +kernel
theorem dMd_canPair_37 : decode (mB Md_canPair) 37 = .ok (.goto 4, 3) := by decide +kernel
theorem dMd_canPair_40 : decode (mB Md_canPair) 40 = .ok (.iconst 0, 1) := by decide +kernel
theorem dMd_canPair_41 : decode (mB Md_canPair) 41 = .ok (.ireturn, 1) := by decide +kernel
def w_Md_canPair (o : Nat) (x1 : Int32) (x2 : Int32) (h : tpH) (R : Int32 → tpH → Prop) : Prop :=
  hT h o = 14 ∧ (∃ a2, (hR h o 41) = some a2 ∧ hT h a2 = 15 ∧ (vp_in x1 (hL h a2) ∧ ((¬ (hI h a2 x1.toNatClampNeg) = (-1 : Int32) → (R (0 : Int32) h)) ∧ ((hI h a2 x1.toNatClampNeg) = (-1 : Int32) → (∃ a7, (hR h o 42) = some a7 ∧ hT h a7 = 15 ∧ (vp_in x2 (hL h a7) ∧ ((¬ (hI h a7 x2.toNatClampNeg) = (-1 : Int32) → (R (0 : Int32) h)) ∧ ((hI h a7 x2.toNatClampNeg) = (-1 : Int32) → (w_Md_areOfOneKind (hR h o 1) (hR h o 2) x1 x2 h (fun v13 h12 => (v13 = 0 → (R (0 : Int32) h12)) ∧ (¬ v13 = 0 → (R (1 : Int32) h12))))))))))))
theorem s_Md_canPair {o : Nat} {x1 : Int32} {x2 : Int32} {h : tpH} {R : Int32 → tpH → Prop} (hw : w_Md_canPair o x1 x2 h R) : tpC Md_canPair 1 [vR (some o), vI x1, vI x2] h (tpOi R (fun _ _ => False)) := by
  refine tpC_of mv_Md_canPair.2.2.2.1 rfl rfl (Nat.le_of_ble_eq_true rfl) ?_
  show tpR Md_canPair 1 h _ _ 0 [some (vR (some o)), some (vI x1), some (vI x2)] [] h
  unfold w_Md_canPair at hw
  refine tq_aload_n dMd_canPair_0 rfl rfl ?_
  obtain ⟨f1, hw⟩ := hw
  refine te_getr dMd_canPair_1 fMd_106 rfl rfl f1 ?_
  refine tq_iload_n dMd_canPair_4 rfl rfl ?_
  obtain ⟨a2, e3, f4, hw⟩ := hw
  obtain ⟨f5, hw⟩ := hw
  refine te_iald dMd_canPair_5 e3 (Or.inl f4) f5 ?_
  refine tq_iconst (v := (-1 : Int32)) dMd_canPair_6 tni_m1 ?_
  refine tq_icmpne (tgt := 40) dMd_canPair_7 (by decide) (fun c6 => ?_) (fun c6 => ?_)
  · have hw := hw.1 c6
    refine tq_iconst (v := (0 : Int32)) dMd_canPair_40 tni_0 ?_
    exact tq_iret rfl (by decide) dMd_canPair_41 hw
  · have hw := hw.2 c6
    refine tq_aload_n dMd_canPair_10 rfl rfl ?_
    refine te_getr dMd_canPair_11 fMd_109 rfl rfl f1 ?_
    refine tq_iload_n dMd_canPair_14 rfl rfl ?_
    obtain ⟨a7, e8, f9, hw⟩ := hw
    obtain ⟨f10, hw⟩ := hw
    refine te_iald dMd_canPair_15 e8 (Or.inl f9) f10 ?_
    refine tq_iconst (v := (-1 : Int32)) dMd_canPair_16 tni_m1 ?_
    refine tq_icmpne (tgt := 40) dMd_canPair_17 (by decide) (fun c11 => ?_) (fun c11 => ?_)
    · have hw := hw.1 c11
      refine tq_iconst (v := (0 : Int32)) dMd_canPair_40 tni_0 ?_
      exact tq_iret rfl (by decide) dMd_canPair_41 hw
    · have hw := hw.2 c11
      refine tq_aload_n dMd_canPair_20 rfl rfl ?_
      refine te_getr dMd_canPair_21 fMd_7 rfl rfl f1 ?_
      refine tq_aload_n dMd_canPair_24 rfl rfl ?_
      refine te_getr dMd_canPair_25 fMd_13 rfl rfl f1 ?_
      refine tq_iload_n dMd_canPair_28 rfl rfl ?_
      refine tq_iload_n dMd_canPair_29 rfl rfl ?_
      refine tq_callS ms_Md_areOfOneKind (dc := 0) (as := [vR (hR h o 1), vR (hR h o 2), vI x1, vI x2]) (rest := []) kMd_256 (Nat.le_of_ble_eq_true rfl) (Nat.le_of_ble_eq_true rfl) rfl rfl (Nat.le_of_ble_eq_true rfl) dMd_canPair_30 (s_Md_areOfOneKind hw) (fun _ _ hx => False.elim hx) (tk_i fun v13 h12 hw => ?_)
      refine tq_ifeq (tgt := 40) dMd_canPair_33 (by decide) (fun c14 => ?_) (fun c14 => ?_)
      · have hw := hw.1 c14
        refine tq_iconst (v := (0 : Int32)) dMd_canPair_40 tni_0 ?_
        exact tq_iret rfl (by decide) dMd_canPair_41 hw
      · have hw := hw.2 c14
        refine tq_iconst (v := (1 : Int32)) dMd_canPair_36 tni_1 ?_
        refine tq_goto (tgt := 41) dMd_canPair_37 (by decide) ?_
        exact tq_iret rfl (by decide) dMd_canPair_41 hw
/-! TModel.pair -/
theorem dMd_pair_0 : decode (mB Md_pair) 0 = .ok (.aload_n 0, 1) := by decide +kernel
theorem dMd_pair_1 : decode (mB Md_pair) 1 = .ok (.getfield 106, 3) := by decide +kernel
theorem dMd_pair_4 : decode (mB Md_pair) 4 = .ok (.iload_n 1, 1) := by decide +kernel
theorem dMd_pair_5 : decode (mB Md_pair) 5 = .ok (.iload_n 2, 1) := by decide +kernel
theorem dMd_pair_6 : decode (mB Md_pair) 6 = .ok (.iastore, 1) := by decide +kernel
theorem dMd_pair_7 : decode (mB Md_pair) 7 = .ok (.aload_n 0, 1) := by decide +kernel
theorem dMd_pair_8 : decode (mB Md_pair) 8 = .ok (.getfield 109, 3) := by decide +kernel
theorem dMd_pair_11 : decode (mB Md_pair) 11 = .ok (.iload_n 2, 1) := by decide +kernel
theorem dMd_pair_12 : decode (mB Md_pair) 12 = .ok (.iload_n 1, 1) := by decide +kernel
theorem dMd_pair_13 : decode (mB Md_pair) 13 = .ok (.iastore, 1) := by decide +kernel
theorem dMd_pair_14 : decode (mB Md_pair) 14 = .ok (.return_, 1) := by decide +kernel
def w_Md_pair (o : Nat) (x1 : Int32) (x2 : Int32) (h : tpH) (R : tpH → Prop) : Prop :=
  hT h o = 14 ∧ (∃ a2, (hR h o 41) = some a2 ∧ hT h a2 = 15 ∧ (vp_in x1 (hL h a2) ∧ (∀ h6, h6 = sI h a2 x1.toNatClampNeg x2 → (∃ a8, (hR h6 o 42) = some a8 ∧ hT h6 a8 = 15 ∧ (vp_in x2 (hL h6 a8) ∧ (∀ h12, h12 = sI h6 a8 x2.toNatClampNeg x1 → (R h12)))))))
theorem s_Md_pair {o : Nat} {x1 : Int32} {x2 : Int32} {h : tpH} {R : tpH → Prop} (hw : w_Md_pair o x1 x2 h R) : tpC Md_pair 0 [vR (some o), vI x1, vI x2] h (tpOv R (fun _ _ => False)) := by
  refine tpC_of mv_Md_pair.2.2.2.1 rfl rfl (Nat.le_of_ble_eq_true rfl) ?_
  show tpR Md_pair 0 h _ _ 0 [some (vR (some o)), some (vI x1), some (vI x2)] [] h
  unfold w_Md_pair at hw
  refine tq_aload_n dMd_pair_0 rfl rfl ?_
  obtain ⟨f1, hw⟩ := hw
  refine te_getr dMd_pair_1 fMd_106 rfl rfl f1 ?_
  refine tq_iload_n dMd_pair_4 rfl rfl ?_
  refine tq_iload_n dMd_pair_5 rfl rfl ?_
  obtain ⟨a2, e3, f4, hw⟩ := hw
  obtain ⟨f5, hw⟩ := hw
  refine te_iast dMd_pair_6 e3 f4 f5 (fun h6 e7 => ?_)
  have hw := hw h6 e7
  refine tq_aload_n dMd_pair_7 rfl rfl ?_
  refine te_getr dMd_pair_8 fMd_109 rfl rfl (by rw [e7]; exact f1) ?_
  refine tq_iload_n dMd_pair_11 rfl rfl ?_
  refine tq_iload_n dMd_pair_12 rfl rfl ?_
  obtain ⟨a8, e9, f10, hw⟩ := hw
  obtain ⟨f11, hw⟩ := hw
  refine te_iast dMd_pair_13 e9 f10 f11 (fun h12 e13 => ?_)
  have hw := hw h12 e13
  exact tq_vret rfl dMd_pair_14 hw
/-! TModel.layPlain -/
theorem dMd_layPlain_0 : decode (mB Md_layPlain) 0 = .ok (.iconst 0, 1) := by decide +kernel
theorem dMd_layPlain_1 : decode (mB Md_layPlain) 1 = .ok (.istore 6, 2) := by decide +kernel
theorem dMd_layPlain_3 : decode (mB Md_layPlain) 3 = .ok (.iload 6, 2) := by decide +kernel
theorem dMd_layPlain_5 : decode (mB Md_layPlain) 5 = .ok (.iload_n 3, 1) := by decide +kernel
theorem dMd_layPlain_6 : decode (mB Md_layPlain) 6 = .ok (.if_icmp .ge 32, 3) := by decide +kernel
theorem dMd_layPlain_9 : decode (mB Md_layPlain) 9 = .ok (.aload 5, 2) := by decide +kernel
theorem dMd_layPlain_11 : decode (mB Md_layPlain) 11 = .ok (.aload_n 2, 1) := by decide +kernel
theorem dMd_layPlain_12 : decode (mB Md_layPlain) 12 = .ok (.iload 6, 2) := by decide +kernel
theorem dMd_layPlain_14 : decode (mB Md_layPlain) 14 = .ok (.iaload, 1) := by decide +kernel
theorem dMd_layPlain_15 : decode (mB Md_layPlain) 15 = .ok (.aload 4, 2) := by decide +kernel
theorem dMd_layPlain_17 : decode (mB Md_layPlain) 17 = .ok (.aload_n 2, 1) := by decide +kernel
theorem dMd_layPlain_18 : decode (mB Md_layPlain) 18 = .ok (.iload 6, 2) := by decide +kernel
theorem dMd_layPlain_20 : decode (mB Md_layPlain) 20 = .ok (.iaload, 1) := by decide +kernel
theorem dMd_layPlain_21 : decode (mB Md_layPlain) 21 = .ok (.iaload, 1) := by decide +kernel
theorem dMd_layPlain_22 : decode (mB Md_layPlain) 22 = .ok (.iconst (-1), 1) := by decide +kernel
theorem dMd_layPlain_23 : decode (mB Md_layPlain) 23 = .ok (.if_icmp .ne 7, 3) := by decide +kernel
theorem dMd_layPlain_26 : decode (mB Md_layPlain) 26 = .ok (.iconst 1, 1) := by decide +kernel
theorem dMd_layPlain_27 : decode (mB Md_layPlain) 27 = .ok (.goto 4, 3) := by decide +kernel
theorem dMd_layPlain_30 : decode (mB Md_layPlain) 30 = .ok (.iconst 0, 1) := by decide +kernel
theorem dMd_layPlain_31 : decode (mB Md_layPlain) 31 = .ok (.bastore, 1) := by decide +kernel
theorem dMd_layPlain_32 : decode (mB Md_layPlain) 32 = .ok (.iinc 6 1, 3) := by decide +kernel
theorem dMd_layPlain_35 : decode (mB Md_layPlain) 35 = .ok (.goto (-32), 3) := by decide +kernel
theorem dMd_layPlain_38 : decode (mB Md_layPlain) 38 = .ok (.iload_n 3, 1) := by decide +kernel
theorem dMd_layPlain_39 : decode (mB Md_layPlain) 39 = .ok (.iconst 1, 1) := by decide +kernel
theorem dMd_layPlain_40 : decode (mB Md_layPlain) 40 = .ok (.isub, 1) := by decide +kernel
theorem dMd_layPlain_41 : decode (mB Md_layPlain) 41 = .ok (.istore 6, 2) := by decide +kernel
theorem dMd_layPlain_43 : decode (mB Md_layPlain) 43 = .ok (.iload 6, 2) := by decide +kernel
theorem dMd_layPlain_45 : decode (mB Md_layPlain) 45 = .ok (.ifCond .le 48, 3) := by decide +kernel
theorem dMd_layPlain_48 : decode (mB Md_layPlain) 48 = .ok (.aload_n 0, 1) := by decide +kernel
theorem dMd_layPlain_49 : decode (mB Md_layPlain) 49 = .ok (.iload_n 1, 1) := by decide +kernel
theorem dMd_layPlain_50 : decode (mB Md_layPlain) 50 = .ok (.aload_n 2, 1) := by decide +kernel
theorem dMd_layPlain_51 : decode (mB Md_layPlain) 51 = .ok (.iload 6, 2) := by decide +kernel
theorem dMd_layPlain_53 : decode (mB Md_layPlain) 53 = .ok (.iaload, 1) := by decide +kernel
theorem dMd_layPlain_54 : decode (mB Md_layPlain) 54 = .ok (.invokevirtual 179, 3) := by decide +kernel
theorem dMd_layPlain_57 : decode (mB Md_layPlain) 57 = .ok (.istore 7, 2) := by decide +kernel
theorem dMd_layPlain_59 : decode (mB Md_layPlain) 59 = .ok (.aload 5, 2) := by decide +kernel
theorem dMd_layPlain_61 : decode (mB Md_layPlain) 61 = .ok (.iload 7, 2) := by decide +kernel
theorem dMd_layPlain_63 : decode (mB Md_layPlain) 63 = .ok (.aload 5, 2) := by decide +kernel
theorem dMd_layPlain_65 : decode (mB Md_layPlain) 65 = .ok (.iload 7, 2) := by decide +kernel
theorem dMd_layPlain_67 : decode (mB Md_layPlain) 67 = .ok (.baload, 1) := by decide +kernel
theorem dMd_layPlain_68 : decode (mB Md_layPlain) 68 = .ok (.ifCond .eq 17, 3) := by decide +kernel
theorem dMd_layPlain_71 : decode (mB Md_layPlain) 71 = .ok (.aload 5, 2) := by decide +kernel
theorem dMd_layPlain_73 : decode (mB Md_layPlain) 73 = .ok (.aload_n 2, 1) := by decide +kernel
theorem dMd_layPlain_74 : decode (mB Md_layPlain) 74 = .ok (.iload 6, 2) := by decide +kernel
theorem dMd_layPlain_76 : decode (mB Md_layPlain) 76 = .ok (.iaload, 1) := by decide +kernel
theorem dMd_layPlain_77 : decode (mB Md_layPlain) 77 = .ok (.baload, 1) := by decide +kernel
theorem dMd_layPlain_78 : decode (mB Md_layPlain) 78 = .ok (.ifCond .eq 7, 3) := by decide +kernel
theorem dMd_layPlain_81 : decode (mB Md_layPlain) 81 = .ok (.iconst 1, 1) := by decide +kernel
theorem dMd_layPlain_82 : decode (mB Md_layPlain) 82 = .ok (.goto 4, 3) := by decide +kernel
theorem dMd_layPlain_85 : decode (mB Md_layPlain) 85 = .ok (.iconst 0, 1) := by decide +kernel
theorem dMd_layPlain_86 : decode (mB Md_layPlain) 86 = .ok (.bastore, 1) := by decide +kernel
theorem dMd_layPlain_87 : decode (mB Md_layPlain) 87 = .ok (.iinc 6 (-1), 3) := by decide +kernel
theorem dMd_layPlain_90 : decode (mB Md_layPlain) 90 = .ok (.goto (-47), 3) := by decide +kernel
theorem dMd_layPlain_93 : decode (mB Md_layPlain) 93 = .ok (.return_, 1) := by decide +kernel
def w_Md_layPlain_31 (R : tpH → Prop) (K3 : Nat → Int32 → (Option Nat) → Int32 → (Option Nat) → (Option Nat) → Int32 → tpH → Prop) (o : Nat) (x1 : Int32) (x2 : Option Nat) (x3 : Int32) (x4 : Option Nat) (x5 : Option Nat) (x6 : Int32) (t0 : Int32) (t1 : Int32) (t2 : Option Nat) (h : tpH) : Prop :=
  ∃ a1, t2 = some a1 ∧ hT h a1 = 16 ∧ (vp_in t1 (hL h a1) ∧ (tpB t0 ∧ (∀ h6, h6 = sI h a1 t1.toNatClampNeg t0 → (K3 o x1 x2 x3 x4 x5 (x6 + (1 : Int32)) h6))))
def w_Md_layPlain_86 (R : tpH → Prop) (K43 : Nat → Int32 → (Option Nat) → (Option Nat) → Int32 → tpH → Prop) (o : Nat) (x1 : Int32) (x2 : Option Nat) (x5 : Option Nat) (x6 : Int32) (t0 : Int32) (t1 : Int32) (t2 : Option Nat) (h : tpH) : Prop :=
  ∃ a1, t2 = some a1 ∧ hT h a1 = 16 ∧ (vp_in t1 (hL h a1) ∧ (tpB t0 ∧ (∀ h6, h6 = sI h a1 t1.toNatClampNeg t0 → (K43 o x1 x2 x5 (x6 + (-1 : Int32)) h6))))
def b_Md_layPlain_43 (R : tpH → Prop) (Y : Nat → Int32 → (Option Nat) → (Option Nat) → Int32 → tpH → Prop) (o : Nat) (x1 : Int32) (x2 : Option Nat) (x5 : Option Nat) (x6 : Int32) (h : tpH) : Prop :=
  (x6 ≤ 0 → (R h)) ∧ (¬ x6 ≤ 0 → (∃ a2, x2 = some a2 ∧ hT h a2 = 15 ∧ (vp_in x6 (hL h a2) ∧ (hT h o = 14 ∧ (w_Md_parentIn o x1 (hI h a2 x6.toNatClampNeg) h (fun v8 h7 => ∃ a9, x5 = some a9 ∧ hT h7 a9 = 16 ∧ (vp_in v8 (hL h7 a9) ∧ (((hI h7 a9 v8.toNatClampNeg) = 0 → (w_Md_layPlain_86 R Y o x1 x2 x5 x6 (0 : Int32) v8 x5 h7)) ∧ (¬ (hI h7 a9 v8.toNatClampNeg) = 0 → (hT h7 a2 = 15 ∧ (vp_in x6 (hL h7 a2) ∧ (vp_in (hI h7 a2 x6.toNatClampNeg) (hL h7 a9) ∧ (((hI h7 a9 (hI h7 a2 x6.toNatClampNeg).toNatClampNeg) = 0 → (w_Md_layPlain_86 R Y o x1 x2 x5 x6 (0 : Int32) v8 x5 h7)) ∧ (¬ (hI h7 a9 (hI h7 a2 x6.toNatClampNeg).toNatClampNeg) = 0 → (w_Md_layPlain_86 R Y o x1 x2 x5 x6 (1 : Int32) v8 x5 h7)))))))))))))))
def w_Md_layPlain_43 (R : tpH → Prop) : Nat → Nat → Int32 → (Option Nat) → (Option Nat) → Int32 → tpH → Prop
  | 0 => fun _ _ _ _ _ _ => False
  | n + 1 => b_Md_layPlain_43 R (w_Md_layPlain_43 R n)
def b_Md_layPlain_3 (R : tpH → Prop) (Y : Nat → Int32 → (Option Nat) → Int32 → (Option Nat) → (Option Nat) → Int32 → tpH → Prop) (o : Nat) (x1 : Int32) (x2 : Option Nat) (x3 : Int32) (x4 : Option Nat) (x5 : Option Nat) (x6 : Int32) (h : tpH) : Prop :=
  (x3 ≤ x6 → (∃ n, w_Md_layPlain_43 R n o x1 x2 x5 (x3 - (1 : Int32)) h)) ∧ (¬ x3 ≤ x6 → (∃ a2, x2 = some a2 ∧ hT h a2 = 15 ∧ (vp_in x6 (hL h a2) ∧ (vp_in x6 (hL h a2) ∧ (∃ a7, x4 = some a7 ∧ hT h a7 = 15 ∧ (vp_in (hI h a2 x6.toNatClampNeg) (hL h a7) ∧ ((¬ (hI h a7 (hI h a2 x6.toNatClampNeg).toNatClampNeg) = (-1 : Int32) → (w_Md_layPlain_31 R Y o x1 x2 x3 x4 x5 x6 (0 : Int32) (hI h a2 x6.toNatClampNeg) x5 h)) ∧ ((hI h a7 (hI h a2 x6.toNatClampNeg).toNatClampNeg) = (-1 : Int32) → (w_Md_layPlain_31 R Y o x1 x2 x3 x4 x5 x6 (1 : Int32) (hI h a2 x6.toNatClampNeg) x5 h)))))))))
def w_Md_layPlain_3 (R : tpH → Prop) : Nat → Nat → Int32 → (Option Nat) → Int32 → (Option Nat) → (Option Nat) → Int32 → tpH → Prop
  | 0 => fun _ _ _ _ _ _ _ _ => False
  | n + 1 => b_Md_layPlain_3 R (w_Md_layPlain_3 R n)
def w_Md_layPlain (o : Nat) (x1 : Int32) (x2 : Option Nat) (x3 : Int32) (x4 : Option Nat) (x5 : Option Nat) (h : tpH) (R : tpH → Prop) : Prop :=
  ∃ n, w_Md_layPlain_3 R n o x1 x2 x3 x4 x5 (0 : Int32) h
theorem s_Md_layPlain_31 {h0 : tpH} {av : List tpV} {R : tpH → Prop} {K3 : Nat → Int32 → (Option Nat) → Int32 → (Option Nat) → (Option Nat) → Int32 → tpH → Prop} (k3 : ∀ (o : Nat) (x1 : Int32) (x2 : Option Nat) (x3 : Int32) (x4 : Option Nat) (x5 : Option Nat) (x6 : Int32) (h : tpH), K3 o x1 x2 x3 x4 x5 x6 h → tpR Md_layPlain 1 h0 av (tpOv R (fun _ _ => False)) 3 [some (vR (some o)), some (vI x1), some (vR x2), some (vI x3), some (vR x4), some (vR x5), some (vI x6), none] [] h) : ∀ (o : Nat) (x1 : Int32) (x2 : Option Nat) (x3 : Int32) (x4 : Option Nat) (x5 : Option Nat) (x6 : Int32) (t0 : Int32) (t1 : Int32) (t2 : Option Nat) (h : tpH), w_Md_layPlain_31 R K3 o x1 x2 x3 x4 x5 x6 t0 t1 t2 h → tpR Md_layPlain 1 h0 av (tpOv R (fun _ _ => False)) 31 [some (vR (some o)), some (vI x1), some (vR x2), some (vI x3), some (vR x4), some (vR x5), some (vI x6), none] [vI t0, vI t1, vR t2] h := by
  intro o x1 x2 x3 x4 x5 x6 t0 t1 t2 h hw
  unfold w_Md_layPlain_31 at hw
  obtain ⟨a1, e2, f3, hw⟩ := hw
  obtain ⟨f4, hw⟩ := hw
  obtain ⟨f5, hw⟩ := hw
  refine te_zast dMd_layPlain_31 e2 f3 f4 (tpB_n f5) (fun h6 e7 => ?_)
  have hw := hw h6 e7
  refine tq_inc (k := (1 : Int32)) (ls' := [some (vR (some o)), some (vI x1), some (vR x2), some (vI x3), some (vR x4), some (vR x5), some (vI (x6 + (1 : Int32))), none]) dMd_layPlain_32 rfl tni_1 (Nat.le_of_ble_eq_true rfl) rfl ?_
  refine tq_goto (tgt := 3) dMd_layPlain_35 (by decide) ?_
  refine tpR.fo (ls' := [some (vR (some o)), some (vI x1), some (vR x2), some (vI x3), some (vR x4), some (vR x5), some (vI (x6 + (1 : Int32))), none]) ?_ (And.intro rfl (And.intro rfl (And.intro rfl (And.intro rfl (And.intro rfl (And.intro rfl (And.intro rfl trivial)))))))
  exact k3 _ _ _ _ _ _ _ _ hw
theorem s_Md_layPlain_86 {h0 : tpH} {av : List tpV} {R : tpH → Prop} {K43 : Nat → Int32 → (Option Nat) → (Option Nat) → Int32 → tpH → Prop} (k43 : ∀ (o : Nat) (x1 : Int32) (x2 : Option Nat) (x5 : Option Nat) (x6 : Int32) (h : tpH), K43 o x1 x2 x5 x6 h → tpR Md_layPlain 1 h0 av (tpOv R (fun _ _ => False)) 43 [some (vR (some o)), some (vI x1), some (vR x2), none, none, some (vR x5), some (vI x6), none] [] h) : ∀ (o : Nat) (x1 : Int32) (x2 : Option Nat) (x5 : Option Nat) (x6 : Int32) (t0 : Int32) (t1 : Int32) (t2 : Option Nat) (h : tpH), w_Md_layPlain_86 R K43 o x1 x2 x5 x6 t0 t1 t2 h → tpR Md_layPlain 1 h0 av (tpOv R (fun _ _ => False)) 86 [some (vR (some o)), some (vI x1), some (vR x2), none, none, some (vR x5), some (vI x6), none] [vI t0, vI t1, vR t2] h := by
  intro o x1 x2 x5 x6 t0 t1 t2 h hw
  unfold w_Md_layPlain_86 at hw
  obtain ⟨a1, e2, f3, hw⟩ := hw
  obtain ⟨f4, hw⟩ := hw
  obtain ⟨f5, hw⟩ := hw
  refine te_zast dMd_layPlain_86 e2 f3 f4 (tpB_n f5) (fun h6 e7 => ?_)
  have hw := hw h6 e7
  refine tq_inc (k := (-1 : Int32)) (ls' := [some (vR (some o)), some (vI x1), some (vR x2), none, none, some (vR x5), some (vI (x6 + (-1 : Int32))), none]) dMd_layPlain_87 rfl tni_m1 (Nat.le_of_ble_eq_true rfl) rfl ?_
  refine tq_goto (tgt := 43) dMd_layPlain_90 (by decide) ?_
  refine tpR.fo (ls' := [some (vR (some o)), some (vI x1), some (vR x2), none, none, some (vR x5), some (vI (x6 + (-1 : Int32))), none]) ?_ (And.intro rfl (And.intro rfl (And.intro rfl (And.intro rfl (And.intro rfl trivial)))))
  exact k43 _ _ _ _ _ _ hw
theorem s_Md_layPlain_43 {h0 : tpH} {av : List tpV} {R : tpH → Prop} : ∀ (n : Nat) (o : Nat) (x1 : Int32) (x2 : Option Nat) (x5 : Option Nat) (x6 : Int32) (h : tpH), w_Md_layPlain_43 R n o x1 x2 x5 x6 h → tpR Md_layPlain 1 h0 av (tpOv R (fun _ _ => False)) 43 [some (vR (some o)), some (vI x1), some (vR x2), none, none, some (vR x5), some (vI x6), none] [] h := by
  intro n
  induction n with
  | zero => intro o x1 x2 x5 x6 h hw; exact False.elim hw
  | succ n ih =>
    intro o x1 x2 x5 x6 h hw
    change b_Md_layPlain_43 R (w_Md_layPlain_43 R n) o x1 x2 x5 x6 h at hw
    unfold b_Md_layPlain_43 at hw
    refine tq_iload dMd_layPlain_43 rfl ?_
    refine tq_ifle (tgt := 93) dMd_layPlain_45 (by decide) (fun c1 => ?_) (fun c1 => ?_)
    · have hw := hw.1 c1
      exact tq_vret rfl dMd_layPlain_93 hw
    · have hw := hw.2 c1
      refine tq_aload_n dMd_layPlain_48 rfl rfl ?_
      refine tq_iload_n dMd_layPlain_49 rfl rfl ?_
      refine tq_aload_n dMd_layPlain_50 rfl rfl ?_
      refine tq_iload dMd_layPlain_51 rfl ?_
      obtain ⟨a2, e3, f4, hw⟩ := hw
      obtain ⟨f5, hw⟩ := hw
      refine te_iald dMd_layPlain_53 e3 (Or.inl f4) f5 ?_
      obtain ⟨f6, hw⟩ := hw
      refine te_callV mv_Md_parentIn (ci := 13) (dc := 0) (as := [vI x1, vI (hI h a2 x6.toNatClampNeg)]) (rest := []) kMd_179 rfl (Nat.le_of_ble_eq_true rfl) (Nat.le_of_ble_eq_true rfl) rfl rfl rfl f6 (Nat.le_of_ble_eq_true rfl) dMd_layPlain_54 (s_Md_parentIn hw) (fun _ _ hx => False.elim hx) (tk_i fun v8 h7 hw => ?_)
      refine tq_istore (ls' := [some (vR (some o)), some (vI x1), some (vR x2), none, none, some (vR x5), some (vI x6), some (vI v8)]) dMd_layPlain_57 (Nat.le_of_ble_eq_true rfl) rfl ?_
      refine tq_aload dMd_layPlain_59 rfl ?_
      refine tq_iload dMd_layPlain_61 rfl ?_
      refine tq_aload dMd_layPlain_63 rfl ?_
      refine tq_iload dMd_layPlain_65 rfl ?_
      obtain ⟨a9, e10, f11, hw⟩ := hw
      obtain ⟨f12, hw⟩ := hw
      refine te_zald dMd_layPlain_67 e10 f11 f12 ?_
      refine tq_ifeq (tgt := 85) dMd_layPlain_68 (by decide) (fun c13 => ?_) (fun c13 => ?_)
      · have hw := hw.1 c13
        refine tq_iconst (v := (0 : Int32)) dMd_layPlain_85 tni_0 ?_
        refine tpR.fo (ls' := [some (vR (some o)), some (vI x1), some (vR x2), none, none, some (vR x5), some (vI x6), none]) ?_ (And.intro rfl (And.intro rfl (And.intro rfl (And.intro rfl (And.intro rfl trivial)))))
        exact s_Md_layPlain_86 ih _ _ _ _ _ _ _ _ _ hw
      · have hw := hw.2 c13
        refine tq_aload dMd_layPlain_71 rfl ?_
        refine tq_aload_n dMd_layPlain_73 rfl rfl ?_
        refine tq_iload dMd_layPlain_74 rfl ?_
        obtain ⟨f14, hw⟩ := hw
        obtain ⟨f15, hw⟩ := hw
        refine te_iald dMd_layPlain_76 e3 (Or.inl f14) f15 ?_
        obtain ⟨f16, hw⟩ := hw
        refine te_zald dMd_layPlain_77 e10 f11 f16 ?_
        refine tq_ifeq (tgt := 85) dMd_layPlain_78 (by decide) (fun c17 => ?_) (fun c17 => ?_)
        · have hw := hw.1 c17
          refine tq_iconst (v := (0 : Int32)) dMd_layPlain_85 tni_0 ?_
          refine tpR.fo (ls' := [some (vR (some o)), some (vI x1), some (vR x2), none, none, some (vR x5), some (vI x6), none]) ?_ (And.intro rfl (And.intro rfl (And.intro rfl (And.intro rfl (And.intro rfl trivial)))))
          exact s_Md_layPlain_86 ih _ _ _ _ _ _ _ _ _ hw
        · have hw := hw.2 c17
          refine tq_iconst (v := (1 : Int32)) dMd_layPlain_81 tni_1 ?_
          refine tq_goto (tgt := 86) dMd_layPlain_82 (by decide) ?_
          refine tpR.fo (ls' := [some (vR (some o)), some (vI x1), some (vR x2), none, none, some (vR x5), some (vI x6), none]) ?_ (And.intro rfl (And.intro rfl (And.intro rfl (And.intro rfl (And.intro rfl trivial)))))
          exact s_Md_layPlain_86 ih _ _ _ _ _ _ _ _ _ hw
theorem s_Md_layPlain_3 {h0 : tpH} {av : List tpV} {R : tpH → Prop} : ∀ (n : Nat) (o : Nat) (x1 : Int32) (x2 : Option Nat) (x3 : Int32) (x4 : Option Nat) (x5 : Option Nat) (x6 : Int32) (h : tpH), w_Md_layPlain_3 R n o x1 x2 x3 x4 x5 x6 h → tpR Md_layPlain 1 h0 av (tpOv R (fun _ _ => False)) 3 [some (vR (some o)), some (vI x1), some (vR x2), some (vI x3), some (vR x4), some (vR x5), some (vI x6), none] [] h := by
  intro n
  induction n with
  | zero => intro o x1 x2 x3 x4 x5 x6 h hw; exact False.elim hw
  | succ n ih =>
    intro o x1 x2 x3 x4 x5 x6 h hw
    change b_Md_layPlain_3 R (w_Md_layPlain_3 R n) o x1 x2 x3 x4 x5 x6 h at hw
    unfold b_Md_layPlain_3 at hw
    refine tq_iload dMd_layPlain_3 rfl ?_
    refine tq_iload_n dMd_layPlain_5 rfl rfl ?_
    refine tq_icmpge (tgt := 38) dMd_layPlain_6 (by decide) (fun c1 => ?_) (fun c1 => ?_)
    · have hw := hw.1 c1
      refine tq_iload_n dMd_layPlain_38 rfl rfl ?_
      refine tq_iconst (v := (1 : Int32)) dMd_layPlain_39 tni_1 ?_
      refine tq_isub dMd_layPlain_40 ?_
      refine tq_istore (ls' := [some (vR (some o)), some (vI x1), some (vR x2), some (vI x3), some (vR x4), some (vR x5), some (vI (x3 - (1 : Int32))), none]) dMd_layPlain_41 (Nat.le_of_ble_eq_true rfl) rfl ?_
      refine tpR.fo (ls' := [some (vR (some o)), some (vI x1), some (vR x2), none, none, some (vR x5), some (vI (x3 - (1 : Int32))), none]) ?_ (And.intro rfl (And.intro rfl (And.intro rfl (And.intro rfl (And.intro rfl trivial)))))
      obtain ⟨n, hw⟩ := hw
      exact s_Md_layPlain_43 n _ _ _ _ _ _ hw
    · have hw := hw.2 c1
      refine tq_aload dMd_layPlain_9 rfl ?_
      refine tq_aload_n dMd_layPlain_11 rfl rfl ?_
      refine tq_iload dMd_layPlain_12 rfl ?_
      obtain ⟨a2, e3, f4, hw⟩ := hw
      obtain ⟨f5, hw⟩ := hw
      refine te_iald dMd_layPlain_14 e3 (Or.inl f4) f5 ?_
      refine tq_aload dMd_layPlain_15 rfl ?_
      refine tq_aload_n dMd_layPlain_17 rfl rfl ?_
      refine tq_iload dMd_layPlain_18 rfl ?_
      obtain ⟨f6, hw⟩ := hw
      refine te_iald dMd_layPlain_20 e3 (Or.inl f4) f6 ?_
      obtain ⟨a7, e8, f9, hw⟩ := hw
      obtain ⟨f10, hw⟩ := hw
      refine te_iald dMd_layPlain_21 e8 (Or.inl f9) f10 ?_
      refine tq_iconst (v := (-1 : Int32)) dMd_layPlain_22 tni_m1 ?_
      refine tq_icmpne (tgt := 30) dMd_layPlain_23 (by decide) (fun c11 => ?_) (fun c11 => ?_)
      · have hw := hw.1 c11
        refine tq_iconst (v := (0 : Int32)) dMd_layPlain_30 tni_0 ?_
        refine tpR.fo (ls' := [some (vR (some o)), some (vI x1), some (vR x2), some (vI x3), some (vR x4), some (vR x5), some (vI x6), none]) ?_ (And.intro rfl (And.intro rfl (And.intro rfl (And.intro rfl (And.intro rfl (And.intro rfl (And.intro rfl trivial)))))))
        exact s_Md_layPlain_31 ih _ _ _ _ _ _ _ _ _ _ _ hw
      · have hw := hw.2 c11
        refine tq_iconst (v := (1 : Int32)) dMd_layPlain_26 tni_1 ?_
        refine tq_goto (tgt := 31) dMd_layPlain_27 (by decide) ?_
        refine tpR.fo (ls' := [some (vR (some o)), some (vI x1), some (vR x2), some (vI x3), some (vR x4), some (vR x5), some (vI x6), none]) ?_ (And.intro rfl (And.intro rfl (And.intro rfl (And.intro rfl (And.intro rfl (And.intro rfl (And.intro rfl trivial)))))))
        exact s_Md_layPlain_31 ih _ _ _ _ _ _ _ _ _ _ _ hw
theorem s_Md_layPlain {o : Nat} {x1 : Int32} {x2 : Option Nat} {x3 : Int32} {x4 : Option Nat} {x5 : Option Nat} {h : tpH} {R : tpH → Prop} (hw : w_Md_layPlain o x1 x2 x3 x4 x5 h R) : tpC Md_layPlain 1 [vR (some o), vI x1, vR x2, vI x3, vR x4, vR x5] h (tpOv R (fun _ _ => False)) := by
  refine tpC_of mv_Md_layPlain.2.2.2.1 rfl rfl (Nat.le_of_ble_eq_true rfl) ?_
  show tpR Md_layPlain 1 h _ _ 0 [some (vR (some o)), some (vI x1), some (vR x2), some (vI x3), some (vR x4), some (vR x5), none, none] [] h
  unfold w_Md_layPlain at hw
  refine tq_iconst (v := (0 : Int32)) dMd_layPlain_0 tni_0 ?_
  refine tq_istore (ls' := [some (vR (some o)), some (vI x1), some (vR x2), some (vI x3), some (vR x4), some (vR x5), some (vI (0 : Int32)), none]) dMd_layPlain_1 (Nat.le_of_ble_eq_true rfl) rfl ?_
  refine tpR.fo (ls' := [some (vR (some o)), some (vI x1), some (vR x2), some (vI x3), some (vR x4), some (vR x5), some (vI (0 : Int32)), none]) ?_ (And.intro rfl (And.intro rfl (And.intro rfl (And.intro rfl (And.intro rfl (And.intro rfl (And.intro rfl trivial)))))))
  obtain ⟨n, hw⟩ := hw
  exact s_Md_layPlain_3 n _ _ _ _ _ _ _ _ hw
/-! TModel.pairBelow -/
theorem dMd_pairBelow_0 : decode (mB Md_pairBelow) 0 = .ok (.iconst 1, 1) := by decide +kernel
theorem dMd_pairBelow_1 : decode (mB Md_pairBelow) 1 = .ok (.istore 5, 2) := by decide +kernel
theorem dMd_pairBelow_3 : decode (mB Md_pairBelow) 3 = .ok (.aload_n 0, 1) := by decide +kernel
theorem dMd_pairBelow_4 : decode (mB Md_pairBelow) 4 = .ok (.getfield 118, 3) := by decide +kernel
theorem dMd_pairBelow_7 : decode (mB Md_pairBelow) 7 = .ok (.iconst 0, 1) := by decide +kernel
theorem dMd_pairBelow_8 : decode (mB Md_pairBelow) 8 = .ok (.iload_n 3, 1) := by decide +kernel
theorem dMd_pairBelow_9 : decode (mB Md_pairBelow) 9 = .ok (.iastore, 1) := by decide +kernel
theorem dMd_pairBelow_10 : decode (mB Md_pairBelow) 10 = .ok (.aload_n 0, 1) := by decide +kernel
theorem dMd_pairBelow_11 : decode (mB Md_pairBelow) 11 = .ok (.getfield 121, 3) := by decide +kernel
theorem dMd_pairBelow_14 : decode (mB Md_pairBelow) 14 = .ok (.iconst 0, 1) := by decide +kernel
theorem dMd_pairBelow_15 : decode (mB Md_pairBelow) 15 = .ok (.iload 4, 2) := by decide +kernel
theorem dMd_pairBelow_17 : decode (mB Md_pairBelow) 17 = .ok (.iastore, 1) := by decide +kernel
theorem dMd_pairBelow_18 : decode (mB Md_pairBelow) 18 = .ok (.iload 5, 2) := by decide +kernel
theorem dMd_pairBelow_20 : decode (mB Md_pairBelow) 20 = .ok (.ifCond .le 169, 3) := by decide +kernel
theorem dMd_pairBelow_23 : decode (mB Md_pairBelow) 23 = .ok (.iinc 5 (-1), 3) := by decide +kernel
theorem dMd_pairBelow_26 : decode (mB Md_pairBelow) 26 = .ok (.aload_n 0, 1) := by decide +kernel
theorem dMd_pairBelow_27 : decode (mB Md_pairBelow) 27 = .ok (.getfield 118, 3) := by decide +kernel
theorem dMd_pairBelow_30 : decode (mB Md_pairBelow) 30 = .ok (.iload 5, 2) := by decide +kernel
theorem dMd_pairBelow_32 : decode (mB Md_pairBelow) 32 = .ok (.iaload, 1) := by decide +kernel
theorem dMd_pairBelow_33 : decode (mB Md_pairBelow) 33 = .ok (.istore 6, 2) := by decide +kernel
theorem dMd_pairBelow_35 : decode (mB Md_pairBelow) 35 = .ok (.aload_n 0, 1) := by decide +kernel
theorem dMd_pairBelow_36 : decode (mB Md_pairBelow) 36 = .ok (.getfield 121, 3) := by decide +kernel
theorem dMd_pairBelow_39 : decode (mB Md_pairBelow) 39 = .ok (.iload 5, 2) := by decide +kernel
theorem dMd_pairBelow_41 : decode (mB Md_pairBelow) 41 = .ok (.iaload, 1) := by decide +kernel
theorem dMd_pairBelow_42 : decode (mB Md_pairBelow) 42 = .ok (.istore 7, 2) := by decide +kernel
theorem dMd_pairBelow_44 : decode (mB Md_pairBelow) 44 = .ok (.aload_n 0, 1) := by decide +kernel
theorem dMd_pairBelow_45 : decode (mB Md_pairBelow) 45 = .ok (.iload 6, 2) := by decide +kernel
theorem dMd_pairBelow_47 : decode (mB Md_pairBelow) 47 = .ok (.iload 7, 2) := by decide +kernel
theorem dMd_pairBelow_49 : decode (mB Md_pairBelow) 49 = .ok (.invokevirtual 260, 3) := by decide +kernel
theorem dMd_pairBelow_52 : decode (mB Md_pairBelow) 52 = .ok (.aload_n 0, 1) := by decide +kernel
theorem dMd_pairBelow_53 : decode (mB Md_pairBelow) 53 = .ok (.iload_n 2, 1) := by decide +kernel
theorem dMd_pairBelow_54 : decode (mB Md_pairBelow) 54 = .ok (.iload 7, 2) := by decide +kernel
theorem dMd_pairBelow_56 : decode (mB Md_pairBelow) 56 = .ok (.invokevirtual 173, 3) := by decide +kernel
theorem dMd_pairBelow_59 : decode (mB Md_pairBelow) 59 = .ok (.istore 8, 2) := by decide +kernel
theorem dMd_pairBelow_61 : decode (mB Md_pairBelow) 61 = .ok (.iload 8, 2) := by decide +kernel
theorem dMd_pairBelow_63 : decode (mB Md_pairBelow) 63 = .ok (.iconst (-1), 1) := by decide +kernel
theorem dMd_pairBelow_64 : decode (mB Md_pairBelow) 64 = .ok (.if_icmp .eq 23, 3) := by decide +kernel
theorem dMd_pairBelow_67 : decode (mB Md_pairBelow) 67 = .ok (.aload_n 0, 1) := by decide +kernel
theorem dMd_pairBelow_68 : decode (mB Md_pairBelow) 68 = .ok (.getfield 103, 3) := by decide +kernel
theorem dMd_pairBelow_71 : decode (mB Md_pairBelow) 71 = .ok (.iload 8, 2) := by decide +kernel
theorem dMd_pairBelow_73 : decode (mB Md_pairBelow) 73 = .ok (.iconst 0, 1) := by decide +kernel
theorem dMd_pairBelow_74 : decode (mB Md_pairBelow) 74 = .ok (.bastore, 1) := by decide +kernel
theorem dMd_pairBelow_75 : decode (mB Md_pairBelow) 75 = .ok (.aload_n 0, 1) := by decide +kernel
theorem dMd_pairBelow_76 : decode (mB Md_pairBelow) 76 = .ok (.iload_n 2, 1) := by decide +kernel
theorem dMd_pairBelow_77 : decode (mB Md_pairBelow) 77 = .ok (.iload 8, 2) := by decide +kernel
theorem dMd_pairBelow_79 : decode (mB Md_pairBelow) 79 = .ok (.invokevirtual 169, 3) := by decide +kernel
theorem dMd_pairBelow_82 : decode (mB Md_pairBelow) 82 = .ok (.istore 8, 2) := by decide +kernel
theorem dMd_pairBelow_84 : decode (mB Md_pairBelow) 84 = .ok (.goto (-23), 3) := by decide +kernel
theorem dMd_pairBelow_87 : decode (mB Md_pairBelow) 87 = .ok (.aload_n 0, 1) := by decide +kernel
theorem dMd_pairBelow_88 : decode (mB Md_pairBelow) 88 = .ok (.iload_n 2, 1) := by decide +kernel
theorem dMd_pairBelow_89 : decode (mB Md_pairBelow) 89 = .ok (.iload 7, 2) := by decide +kernel
theorem dMd_pairBelow_91 : decode (mB Md_pairBelow) 91 = .ok (.invokevirtual 173, 3) := by decide +kernel
theorem dMd_pairBelow_94 : decode (mB Md_pairBelow) 94 = .ok (.istore 8, 2) := by decide +kernel
theorem dMd_pairBelow_96 : decode (mB Md_pairBelow) 96 = .ok (.aload_n 0, 1) := by decide +kernel
theorem dMd_pairBelow_97 : decode (mB Md_pairBelow) 97 = .ok (.iload_n 1, 1) := by decide +kernel
theorem dMd_pairBelow_98 : decode (mB Md_pairBelow) 98 = .ok (.iload 6, 2) := by decide +kernel
theorem dMd_pairBelow_100 : decode (mB Md_pairBelow) 100 = .ok (.invokevirtual 173, 3) := by decide +kernel
theorem dMd_pairBelow_103 : decode (mB Md_pairBelow) 103 = .ok (.istore 9, 2) := by decide +kernel
theorem dMd_pairBelow_105 : decode (mB Md_pairBelow) 105 = .ok (.iload 9, 2) := by decide +kernel
theorem dMd_pairBelow_107 : decode (mB Md_pairBelow) 107 = .ok (.iconst (-1), 1) := by decide +kernel
theorem dMd_pairBelow_108 : decode (mB Md_pairBelow) 108 = .ok (.if_icmp .eq 78, 3) := by decide +kernel
theorem dMd_pairBelow_111 : decode (mB Md_pairBelow) 111 = .ok (.aload_n 0, 1) := by decide +kernel
theorem dMd_pairBelow_112 : decode (mB Md_pairBelow) 112 = .ok (.iload 6, 2) := by decide +kernel
theorem dMd_pairBelow_114 : decode (mB Md_pairBelow) 114 = .ok (.invokevirtual 176, 3) := by decide +kernel
theorem dMd_pairBelow_117 : decode (mB Md_pairBelow) 117 = .ok (.ifCond .eq 8, 3) := by decide +kernel
theorem dMd_pairBelow_120 : decode (mB Md_pairBelow) 120 = .ok (.iload 8, 2) := by decide +kernel
theorem dMd_pairBelow_122 : decode (mB Md_pairBelow) 122 = .ok (.goto 12, 3) := by decide +kernel
theorem dMd_pairBelow_125 : decode (mB Md_pairBelow) 125 = .ok (.aload_n 0, 1) := by decide +kernel
theorem dMd_pairBelow_126 : decode (mB Md_pairBelow) 126 = .ok (.iload_n 2, 1) := by decide +kernel
theorem dMd_pairBelow_127 : decode (mB Md_pairBelow) 127 = .ok (.iload 9, 2) := by decide +kernel
theorem dMd_pairBelow_129 : decode (mB Md_pairBelow) 129 = .ok (.iload 7, 2) := by decide +kernel
theorem dMd_pairBelow_131 : decode (mB Md_pairBelow) 131 = .ok (.invokevirtual 242, 3) := by decide +kernel
theorem dMd_pairBelow_134 : decode (mB Md_pairBelow) 134 = .ok (.istore 10, 2) := by decide +kernel
theorem dMd_pairBelow_136 : decode (mB Md_pairBelow) 136 = .ok (.aload_n 0, 1) := by decide +kernel
theorem dMd_pairBelow_137 : decode (mB Md_pairBelow) 137 = .ok (.getfield 103, 3) := by decide +kernel
theorem dMd_pairBelow_140 : decode (mB Md_pairBelow) 140 = .ok (.iload 10, 2) := by decide +kernel
theorem dMd_pairBelow_142 : decode (mB Md_pairBelow) 142 = .ok (.iconst 1, 1) := by decide +kernel
theorem dMd_pairBelow_143 : decode (mB Md_pairBelow) 143 = .ok (.bastore, 1) := by decide +kernel
theorem dMd_pairBelow_144 : decode (mB Md_pairBelow) 144 = .ok (.aload_n 0, 1) := by decide +kernel
theorem dMd_pairBelow_145 : decode (mB Md_pairBelow) 145 = .ok (.getfield 118, 3) := by decide +kernel
theorem dMd_pairBelow_148 : decode (mB Md_pairBelow) 148 = .ok (.iload 5, 2) := by decide +kernel
theorem dMd_pairBelow_150 : decode (mB Md_pairBelow) 150 = .ok (.iload 9, 2) := by decide +kernel
theorem dMd_pairBelow_152 : decode (mB Md_pairBelow) 152 = .ok (.iastore, 1) := by decide +kernel
theorem dMd_pairBelow_153 : decode (mB Md_pairBelow) 153 = .ok (.aload_n 0, 1) := by decide +kernel
theorem dMd_pairBelow_154 : decode (mB Md_pairBelow) 154 = .ok (.getfield 121, 3) := by decide +kernel
theorem dMd_pairBelow_157 : decode (mB Md_pairBelow) 157 = .ok (.iload 5, 2) := by decide +kernel
theorem dMd_pairBelow_159 : decode (mB Md_pairBelow) 159 = .ok (.iload 10, 2) := by decide +kernel
theorem dMd_pairBelow_161 : decode (mB Md_pairBelow) 161 = .ok (.iastore, 1) := by decide +kernel
theorem dMd_pairBelow_162 : decode (mB Md_pairBelow) 162 = .ok (.iinc 5 1, 3) := by decide +kernel
theorem dMd_pairBelow_165 : decode (mB Md_pairBelow) 165 = .ok (.aload_n 0, 1) := by decide +kernel
theorem dMd_pairBelow_166 : decode (mB Md_pairBelow) 166 = .ok (.iload_n 2, 1) := by decide +kernel
theorem dMd_pairBelow_167 : decode (mB Md_pairBelow) 167 = .ok (.iload 8, 2) := by decide +kernel
theorem dMd_pairBelow_169 : decode (mB Md_pairBelow) 169 = .ok (.invokevirtual 169, 3) := by decide +kernel
theorem dMd_pairBelow_172 : decode (mB Md_pairBelow) 172 = .ok (.istore 8, 2) := by decide +kernel
theorem dMd_pairBelow_174 : decode (mB Md_pairBelow) 174 = .ok (.aload_n 0, 1) := by decide +kernel
theorem dMd_pairBelow_175 : decode (mB Md_pairBelow) 175 = .ok (.iload_n 1, 1) := by decide +kernel
theorem dMd_pairBelow_176 : decode (mB Md_pairBelow) 176 = .ok (.iload 9, 2) := by decide +kernel
theorem dMd_pairBelow_178 : decode (mB Md_pairBelow) 178 = .ok (.invokevirtual 169, 3) := by decide +kernel
theorem dMd_pairBelow_181 : decode (mB Md_pairBelow) 181 = .ok (.istore 9, 2) := by decide +kernel
theorem dMd_pairBelow_183 : decode (mB Md_pairBelow) 183 = .ok (.goto (-78), 3) := by decide +kernel
theorem dMd_pairBelow_186 : decode (mB Md_pairBelow) 186 = .ok (.goto (-168), 3) := by decide +kernel
theorem dMd_pairBelow_189 : decode (mB Md_pairBelow) 189 = .ok (.return_, 1) := by decide +kernel
def w_Md_pairBelow_134 (R : tpH → Prop) (K105 : Nat → Int32 → Int32 → Int32 → Int32 → Int32 → Int32 → Int32 → tpH → Prop) (o : Nat) (x1 : Int32) (x2 : Int32) (x5 : Int32) (x6 : Int32) (x7 : Int32) (x8 : Int32) (x9 : Int32) (t0 : Int32) (h : tpH) : Prop :=
  hT h o = 14 ∧ (∃ a2, (hR h o 40) = some a2 ∧ hT h a2 = 16 ∧ (vp_in t0 (hL h a2) ∧ (∀ h6, h6 = sI h a2 t0.toNatClampNeg (1 : Int32) → (∃ a8, (hR h6 o 45) = some a8 ∧ hT h6 a8 = 15 ∧ (vp_in x5 (hL h6 a8) ∧ (∀ h12, h12 = sI h6 a8 x5.toNatClampNeg x9 → (∃ a14, (hR h12 o 46) = some a14 ∧ hT h12 a14 = 15 ∧ (vp_in x5 (hL h12 a14) ∧ (∀ h18, h18 = sI h12 a14 x5.toNatClampNeg t0 → (w_Md_nextIn o x2 x8 h18 (fun v21 h20 => hT h20 o = 14 ∧ (w_Md_nextIn o x1 x9 h20 (fun v24 h23 => K105 o x1 x2 (x5 + (1 : Int32)) x6 x7 v21 v24 h23)))))))))))))
def b_Md_pairBelow_105 (R : tpH → Prop) (K18 : Nat → Int32 → Int32 → Int32 → tpH → Prop) (Y : Nat → Int32 → Int32 → Int32 → Int32 → Int32 → Int32 → Int32 → tpH → Prop) (o : Nat) (x1 : Int32) (x2 : Int32) (x5 : Int32) (x6 : Int32) (x7 : Int32) (x8 : Int32) (x9 : Int32) (h : tpH) : Prop :=
  (x9 = (-1 : Int32) → (K18 o x1 x2 x5 h)) ∧ (¬ x9 = (-1 : Int32) → (hT h o = 14 ∧ (w_Md_isOrdered o x6 h (fun v4 h3 => (v4 = 0 → (hT h3 o = 14 ∧ (w_Md_partnerOf o x2 x9 x7 h3 (fun v8 h7 => w_Md_pairBelow_134 R Y o x1 x2 x5 x6 x7 x8 x9 v8 h7)))) ∧ (¬ v4 = 0 → (w_Md_pairBelow_134 R Y o x1 x2 x5 x6 x7 x8 x9 x8 h3))))))
def w_Md_pairBelow_105 (R : tpH → Prop) (K18 : Nat → Int32 → Int32 → Int32 → tpH → Prop) : Nat → Nat → Int32 → Int32 → Int32 → Int32 → Int32 → Int32 → Int32 → tpH → Prop
  | 0 => fun _ _ _ _ _ _ _ _ _ => False
  | n + 1 => b_Md_pairBelow_105 R K18 (w_Md_pairBelow_105 R K18 n)
def b_Md_pairBelow_61 (R : tpH → Prop) (K18 : Nat → Int32 → Int32 → Int32 → tpH → Prop) (Y : Nat → Int32 → Int32 → Int32 → Int32 → Int32 → Int32 → tpH → Prop) (o : Nat) (x1 : Int32) (x2 : Int32) (x5 : Int32) (x6 : Int32) (x7 : Int32) (x8 : Int32) (h : tpH) : Prop :=
  (x8 = (-1 : Int32) → (hT h o = 14 ∧ (w_Md_firstIn o x2 x7 h (fun v4 h3 => hT h3 o = 14 ∧ (w_Md_firstIn o x1 x6 h3 (fun v7 h6 => ∃ n, w_Md_pairBelow_105 R K18 n o x1 x2 x5 x6 x7 v4 v7 h6)))))) ∧ (¬ x8 = (-1 : Int32) → (hT h o = 14 ∧ (∃ a9, (hR h o 40) = some a9 ∧ hT h a9 = 16 ∧ (vp_in x8 (hL h a9) ∧ (∀ h13, h13 = sI h a9 x8.toNatClampNeg (0 : Int32) → (w_Md_nextIn o x2 x8 h13 (fun v16 h15 => Y o x1 x2 x5 x6 x7 v16 h15)))))))
def w_Md_pairBelow_61 (R : tpH → Prop) (K18 : Nat → Int32 → Int32 → Int32 → tpH → Prop) : Nat → Nat → Int32 → Int32 → Int32 → Int32 → Int32 → Int32 → tpH → Prop
  | 0 => fun _ _ _ _ _ _ _ _ => False
  | n + 1 => b_Md_pairBelow_61 R K18 (w_Md_pairBelow_61 R K18 n)
def b_Md_pairBelow_18 (R : tpH → Prop) (Y : Nat → Int32 → Int32 → Int32 → tpH → Prop) (o : Nat) (x1 : Int32) (x2 : Int32) (x5 : Int32) (h : tpH) : Prop :=
  (x5 ≤ 0 → (R h)) ∧ (¬ x5 ≤ 0 → (hT h o = 14 ∧ (∃ a3, (hR h o 45) = some a3 ∧ hT h a3 = 15 ∧ (vp_in (x5 + (-1 : Int32)) (hL h a3) ∧ (∃ a7, (hR h o 46) = some a7 ∧ hT h a7 = 15 ∧ (vp_in (x5 + (-1 : Int32)) (hL h a7) ∧ (w_Md_pair o (hI h a3 (x5 + (-1 : Int32)).toNatClampNeg) (hI h a7 (x5 + (-1 : Int32)).toNatClampNeg) h (fun h11 => hT h11 o = 14 ∧ (w_Md_firstIn o x2 (hI h a7 (x5 + (-1 : Int32)).toNatClampNeg) h11 (fun v14 h13 => ∃ n, w_Md_pairBelow_61 R Y n o x1 x2 (x5 + (-1 : Int32)) (hI h a3 (x5 + (-1 : Int32)).toNatClampNeg) (hI h a7 (x5 + (-1 : Int32)).toNatClampNeg) v14 h13))))))))))
def w_Md_pairBelow_18 (R : tpH → Prop) : Nat → Nat → Int32 → Int32 → Int32 → tpH → Prop
  | 0 => fun _ _ _ _ _ => False
  | n + 1 => b_Md_pairBelow_18 R (w_Md_pairBelow_18 R n)
def w_Md_pairBelow (o : Nat) (x1 : Int32) (x2 : Int32) (x3 : Int32) (x4 : Int32) (h : tpH) (R : tpH → Prop) : Prop :=
  hT h o = 14 ∧ (∃ a2, (hR h o 45) = some a2 ∧ hT h a2 = 15 ∧ (vp_in (0 : Int32) (hL h a2) ∧ (∀ h6, h6 = sI h a2 (0 : Int32).toNatClampNeg x3 → (∃ a8, (hR h6 o 46) = some a8 ∧ hT h6 a8 = 15 ∧ (vp_in (0 : Int32) (hL h6 a8) ∧ (∀ h12, h12 = sI h6 a8 (0 : Int32).toNatClampNeg x4 → (∃ n, w_Md_pairBelow_18 R n o x1 x2 (1 : Int32) h12)))))))
theorem s_Md_pairBelow_134 {h0 : tpH} {av : List tpV} {R : tpH → Prop} {K105 : Nat → Int32 → Int32 → Int32 → Int32 → Int32 → Int32 → Int32 → tpH → Prop} (k105 : ∀ (o : Nat) (x1 : Int32) (x2 : Int32) (x5 : Int32) (x6 : Int32) (x7 : Int32) (x8 : Int32) (x9 : Int32) (h : tpH), K105 o x1 x2 x5 x6 x7 x8 x9 h → tpR Md_pairBelow 2 h0 av (tpOv R (fun _ _ => False)) 105 [some (vR (some o)), some (vI x1), some (vI x2), none, none, some (vI x5), some (vI x6), some (vI x7), some (vI x8), some (vI x9), none] [] h) : ∀ (o : Nat) (x1 : Int32) (x2 : Int32) (x5 : Int32) (x6 : Int32) (x7 : Int32) (x8 : Int32) (x9 : Int32) (t0 : Int32) (h : tpH), w_Md_pairBelow_134 R K105 o x1 x2 x5 x6 x7 x8 x9 t0 h → tpR Md_pairBelow 2 h0 av (tpOv R (fun _ _ => False)) 134 [some (vR (some o)), some (vI x1), some (vI x2), none, none, some (vI x5), some (vI x6), some (vI x7), some (vI x8), some (vI x9), none] [vI t0] h := by
  intro o x1 x2 x5 x6 x7 x8 x9 t0 h hw
  unfold w_Md_pairBelow_134 at hw
  refine tq_istore (ls' := [some (vR (some o)), some (vI x1), some (vI x2), none, none, some (vI x5), some (vI x6), some (vI x7), some (vI x8), some (vI x9), some (vI t0)]) dMd_pairBelow_134 (Nat.le_of_ble_eq_true rfl) rfl ?_
  refine tq_aload_n dMd_pairBelow_136 rfl rfl ?_
  obtain ⟨f1, hw⟩ := hw
  refine te_getr dMd_pairBelow_137 fMd_103 rfl rfl f1 ?_
  refine tq_iload dMd_pairBelow_140 rfl ?_
  refine tq_iconst (v := (1 : Int32)) dMd_pairBelow_142 tni_1 ?_
  obtain ⟨a2, e3, f4, hw⟩ := hw
  obtain ⟨f5, hw⟩ := hw
  refine te_zast dMd_pairBelow_143 e3 f4 f5 (by decide) (fun h6 e7 => ?_)
  have hw := hw h6 e7
  refine tq_aload_n dMd_pairBelow_144 rfl rfl ?_
  refine te_getr dMd_pairBelow_145 fMd_118 rfl rfl (by rw [e7]; exact f1) ?_
  refine tq_iload dMd_pairBelow_148 rfl ?_
  refine tq_iload dMd_pairBelow_150 rfl ?_
  obtain ⟨a8, e9, f10, hw⟩ := hw
  obtain ⟨f11, hw⟩ := hw
  refine te_iast dMd_pairBelow_152 e9 f10 f11 (fun h12 e13 => ?_)
  have hw := hw h12 e13
  refine tq_aload_n dMd_pairBelow_153 rfl rfl ?_
  refine te_getr dMd_pairBelow_154 fMd_121 rfl rfl (by rw [e13]; exact (by rw [e7]; exact f1)) ?_
  refine tq_iload dMd_pairBelow_157 rfl ?_
  refine tq_iload dMd_pairBelow_159 rfl ?_
  obtain ⟨a14, e15, f16, hw⟩ := hw
  obtain ⟨f17, hw⟩ := hw
  refine te_iast dMd_pairBelow_161 e15 f16 f17 (fun h18 e19 => ?_)
  have hw := hw h18 e19
  refine tq_inc (k := (1 : Int32)) (ls' := [some (vR (some o)), some (vI x1), some (vI x2), none, none, some (vI (x5 + (1 : Int32))), some (vI x6), some (vI x7), some (vI x8), some (vI x9), some (vI t0)]) dMd_pairBelow_162 rfl tni_1 (Nat.le_of_ble_eq_true rfl) rfl ?_
  refine tq_aload_n dMd_pairBelow_165 rfl rfl ?_
  refine tq_iload_n dMd_pairBelow_166 rfl rfl ?_
  refine tq_iload dMd_pairBelow_167 rfl ?_
  refine te_callV mv_Md_nextIn (ci := 13) (dc := 0) (as := [vI x2, vI x8]) (rest := []) kMd_169 rfl (Nat.le_of_ble_eq_true rfl) (Nat.le_of_ble_eq_true rfl) rfl rfl rfl (by rw [e19]; exact (by rw [e13]; exact (by rw [e7]; exact f1))) (Nat.le_of_ble_eq_true rfl) dMd_pairBelow_169 (s_Md_nextIn hw) (fun _ _ hx => False.elim hx) (tk_i fun v21 h20 hw => ?_)
  refine tq_istore (ls' := [some (vR (some o)), some (vI x1), some (vI x2), none, none, some (vI (x5 + (1 : Int32))), some (vI x6), some (vI x7), some (vI v21), some (vI x9), some (vI t0)]) dMd_pairBelow_172 (Nat.le_of_ble_eq_true rfl) rfl ?_
  refine tq_aload_n dMd_pairBelow_174 rfl rfl ?_
  refine tq_iload_n dMd_pairBelow_175 rfl rfl ?_
  refine tq_iload dMd_pairBelow_176 rfl ?_
  obtain ⟨f22, hw⟩ := hw
  refine te_callV mv_Md_nextIn (ci := 13) (dc := 0) (as := [vI x1, vI x9]) (rest := []) kMd_169 rfl (Nat.le_of_ble_eq_true rfl) (Nat.le_of_ble_eq_true rfl) rfl rfl rfl f22 (Nat.le_of_ble_eq_true rfl) dMd_pairBelow_178 (s_Md_nextIn hw) (fun _ _ hx => False.elim hx) (tk_i fun v24 h23 hw => ?_)
  refine tq_istore (ls' := [some (vR (some o)), some (vI x1), some (vI x2), none, none, some (vI (x5 + (1 : Int32))), some (vI x6), some (vI x7), some (vI v21), some (vI v24), some (vI t0)]) dMd_pairBelow_181 (Nat.le_of_ble_eq_true rfl) rfl ?_
  refine tq_goto (tgt := 105) dMd_pairBelow_183 (by decide) ?_
  refine tpR.fo (ls' := [some (vR (some o)), some (vI x1), some (vI x2), none, none, some (vI (x5 + (1 : Int32))), some (vI x6), some (vI x7), some (vI v21), some (vI v24), none]) ?_ (And.intro rfl (And.intro rfl (And.intro rfl (And.intro rfl (And.intro rfl (And.intro rfl (And.intro rfl (And.intro rfl trivial))))))))
  exact k105 _ _ _ _ _ _ _ _ _ hw
theorem s_Md_pairBelow_105 {h0 : tpH} {av : List tpV} {R : tpH → Prop} {K18 : Nat → Int32 → Int32 → Int32 → tpH → Prop} (k18 : ∀ (o : Nat) (x1 : Int32) (x2 : Int32) (x5 : Int32) (h : tpH), K18 o x1 x2 x5 h → tpR Md_pairBelow 2 h0 av (tpOv R (fun _ _ => False)) 18 [some (vR (some o)), some (vI x1), some (vI x2), none, none, some (vI x5), none, none, none, none, none] [] h) : ∀ (n : Nat) (o : Nat) (x1 : Int32) (x2 : Int32) (x5 : Int32) (x6 : Int32) (x7 : Int32) (x8 : Int32) (x9 : Int32) (h : tpH), w_Md_pairBelow_105 R K18 n o x1 x2 x5 x6 x7 x8 x9 h → tpR Md_pairBelow 2 h0 av (tpOv R (fun _ _ => False)) 105 [some (vR (some o)), some (vI x1), some (vI x2), none, none, some (vI x5), some (vI x6), some (vI x7), some (vI x8), some (vI x9), none] [] h := by
  intro n
  induction n with
  | zero => intro o x1 x2 x5 x6 x7 x8 x9 h hw; exact False.elim hw
  | succ n ih =>
    intro o x1 x2 x5 x6 x7 x8 x9 h hw
    change b_Md_pairBelow_105 R K18 (w_Md_pairBelow_105 R K18 n) o x1 x2 x5 x6 x7 x8 x9 h at hw
    unfold b_Md_pairBelow_105 at hw
    refine tq_iload dMd_pairBelow_105 rfl ?_
    refine tq_iconst (v := (-1 : Int32)) dMd_pairBelow_107 tni_m1 ?_
    refine tq_icmpeq (tgt := 186) dMd_pairBelow_108 (by decide) (fun c1 => ?_) (fun c1 => ?_)
    · have hw := hw.1 c1
      refine tq_goto (tgt := 18) dMd_pairBelow_186 (by decide) ?_
      refine tpR.fo (ls' := [some (vR (some o)), some (vI x1), some (vI x2), none, none, some (vI x5), none, none, none, none, none]) ?_ (And.intro rfl (And.intro rfl (And.intro rfl (And.intro rfl trivial))))
      exact k18 _ _ _ _ _ hw
    · have hw := hw.2 c1
      refine tq_aload_n dMd_pairBelow_111 rfl rfl ?_
      refine tq_iload dMd_pairBelow_112 rfl ?_
      obtain ⟨f2, hw⟩ := hw
      refine te_callV mv_Md_isOrdered (ci := 13) (dc := 0) (as := [vI x6]) (rest := []) kMd_176 rfl (Nat.le_of_ble_eq_true rfl) (Nat.le_of_ble_eq_true rfl) rfl rfl rfl f2 (Nat.le_of_ble_eq_true rfl) dMd_pairBelow_114 (s_Md_isOrdered hw) (fun _ _ hx => False.elim hx) (tk_i fun v4 h3 hw => ?_)
      refine tq_ifeq (tgt := 125) dMd_pairBelow_117 (by decide) (fun c5 => ?_) (fun c5 => ?_)
      · have hw := hw.1 c5
        refine tq_aload_n dMd_pairBelow_125 rfl rfl ?_
        refine tq_iload_n dMd_pairBelow_126 rfl rfl ?_
        refine tq_iload dMd_pairBelow_127 rfl ?_
        refine tq_iload dMd_pairBelow_129 rfl ?_
        obtain ⟨f6, hw⟩ := hw
        refine te_callV mv_Md_partnerOf (ci := 13) (dc := 1) (as := [vI x2, vI x9, vI x7]) (rest := []) kMd_242 rfl (Nat.le_of_ble_eq_true rfl) (Nat.le_of_ble_eq_true rfl) rfl rfl rfl f6 (Nat.le_of_ble_eq_true rfl) dMd_pairBelow_131 (s_Md_partnerOf hw) (fun _ _ hx => False.elim hx) (tk_i fun v8 h7 hw => ?_)
        refine tpR.fo (ls' := [some (vR (some o)), some (vI x1), some (vI x2), none, none, some (vI x5), some (vI x6), some (vI x7), some (vI x8), some (vI x9), none]) ?_ (And.intro rfl (And.intro rfl (And.intro rfl (And.intro rfl (And.intro rfl (And.intro rfl (And.intro rfl (And.intro rfl trivial))))))))
        exact s_Md_pairBelow_134 ih _ _ _ _ _ _ _ _ _ _ hw
      · have hw := hw.2 c5
        refine tq_iload dMd_pairBelow_120 rfl ?_
        refine tq_goto (tgt := 134) dMd_pairBelow_122 (by decide) ?_
        refine tpR.fo (ls' := [some (vR (some o)), some (vI x1), some (vI x2), none, none, some (vI x5), some (vI x6), some (vI x7), some (vI x8), some (vI x9), none]) ?_ (And.intro rfl (And.intro rfl (And.intro rfl (And.intro rfl (And.intro rfl (And.intro rfl (And.intro rfl (And.intro rfl trivial))))))))
        exact s_Md_pairBelow_134 ih _ _ _ _ _ _ _ _ _ _ hw
theorem s_Md_pairBelow_61 {h0 : tpH} {av : List tpV} {R : tpH → Prop} {K18 : Nat → Int32 → Int32 → Int32 → tpH → Prop} (k18 : ∀ (o : Nat) (x1 : Int32) (x2 : Int32) (x5 : Int32) (h : tpH), K18 o x1 x2 x5 h → tpR Md_pairBelow 2 h0 av (tpOv R (fun _ _ => False)) 18 [some (vR (some o)), some (vI x1), some (vI x2), none, none, some (vI x5), none, none, none, none, none] [] h) : ∀ (n : Nat) (o : Nat) (x1 : Int32) (x2 : Int32) (x5 : Int32) (x6 : Int32) (x7 : Int32) (x8 : Int32) (h : tpH), w_Md_pairBelow_61 R K18 n o x1 x2 x5 x6 x7 x8 h → tpR Md_pairBelow 2 h0 av (tpOv R (fun _ _ => False)) 61 [some (vR (some o)), some (vI x1), some (vI x2), none, none, some (vI x5), some (vI x6), some (vI x7), some (vI x8), none, none] [] h := by
  intro n
  induction n with
  | zero => intro o x1 x2 x5 x6 x7 x8 h hw; exact False.elim hw
  | succ n ih =>
    intro o x1 x2 x5 x6 x7 x8 h hw
    change b_Md_pairBelow_61 R K18 (w_Md_pairBelow_61 R K18 n) o x1 x2 x5 x6 x7 x8 h at hw
    unfold b_Md_pairBelow_61 at hw
    refine tq_iload dMd_pairBelow_61 rfl ?_
    refine tq_iconst (v := (-1 : Int32)) dMd_pairBelow_63 tni_m1 ?_
    refine tq_icmpeq (tgt := 87) dMd_pairBelow_64 (by decide) (fun c1 => ?_) (fun c1 => ?_)
    · have hw := hw.1 c1
      refine tq_aload_n dMd_pairBelow_87 rfl rfl ?_
      refine tq_iload_n dMd_pairBelow_88 rfl rfl ?_
      refine tq_iload dMd_pairBelow_89 rfl ?_
      obtain ⟨f2, hw⟩ := hw
      refine te_callV mv_Md_firstIn (ci := 13) (dc := 0) (as := [vI x2, vI x7]) (rest := []) kMd_173 rfl (Nat.le_of_ble_eq_true rfl) (Nat.le_of_ble_eq_true rfl) rfl rfl rfl f2 (Nat.le_of_ble_eq_true rfl) dMd_pairBelow_91 (s_Md_firstIn hw) (fun _ _ hx => False.elim hx) (tk_i fun v4 h3 hw => ?_)
      refine tq_istore (ls' := [some (vR (some o)), some (vI x1), some (vI x2), none, none, some (vI x5), some (vI x6), some (vI x7), some (vI v4), none, none]) dMd_pairBelow_94 (Nat.le_of_ble_eq_true rfl) rfl ?_
      refine tq_aload_n dMd_pairBelow_96 rfl rfl ?_
      refine tq_iload_n dMd_pairBelow_97 rfl rfl ?_
      refine tq_iload dMd_pairBelow_98 rfl ?_
      obtain ⟨f5, hw⟩ := hw
      refine te_callV mv_Md_firstIn (ci := 13) (dc := 0) (as := [vI x1, vI x6]) (rest := []) kMd_173 rfl (Nat.le_of_ble_eq_true rfl) (Nat.le_of_ble_eq_true rfl) rfl rfl rfl f5 (Nat.le_of_ble_eq_true rfl) dMd_pairBelow_100 (s_Md_firstIn hw) (fun _ _ hx => False.elim hx) (tk_i fun v7 h6 hw => ?_)
      refine tq_istore (ls' := [some (vR (some o)), some (vI x1), some (vI x2), none, none, some (vI x5), some (vI x6), some (vI x7), some (vI v4), some (vI v7), none]) dMd_pairBelow_103 (Nat.le_of_ble_eq_true rfl) rfl ?_
      refine tpR.fo (ls' := [some (vR (some o)), some (vI x1), some (vI x2), none, none, some (vI x5), some (vI x6), some (vI x7), some (vI v4), some (vI v7), none]) ?_ (And.intro rfl (And.intro rfl (And.intro rfl (And.intro rfl (And.intro rfl (And.intro rfl (And.intro rfl (And.intro rfl trivial))))))))
      obtain ⟨n, hw⟩ := hw
      exact s_Md_pairBelow_105 k18 n _ _ _ _ _ _ _ _ _ hw
    · have hw := hw.2 c1
      refine tq_aload_n dMd_pairBelow_67 rfl rfl ?_
      obtain ⟨f8, hw⟩ := hw
      refine te_getr dMd_pairBelow_68 fMd_103 rfl rfl f8 ?_
      refine tq_iload dMd_pairBelow_71 rfl ?_
      refine tq_iconst (v := (0 : Int32)) dMd_pairBelow_73 tni_0 ?_
      obtain ⟨a9, e10, f11, hw⟩ := hw
      obtain ⟨f12, hw⟩ := hw
      refine te_zast dMd_pairBelow_74 e10 f11 f12 (by decide) (fun h13 e14 => ?_)
      have hw := hw h13 e14
      refine tq_aload_n dMd_pairBelow_75 rfl rfl ?_
      refine tq_iload_n dMd_pairBelow_76 rfl rfl ?_
      refine tq_iload dMd_pairBelow_77 rfl ?_
      refine te_callV mv_Md_nextIn (ci := 13) (dc := 0) (as := [vI x2, vI x8]) (rest := []) kMd_169 rfl (Nat.le_of_ble_eq_true rfl) (Nat.le_of_ble_eq_true rfl) rfl rfl rfl (by rw [e14]; exact f8) (Nat.le_of_ble_eq_true rfl) dMd_pairBelow_79 (s_Md_nextIn hw) (fun _ _ hx => False.elim hx) (tk_i fun v16 h15 hw => ?_)
      refine tq_istore (ls' := [some (vR (some o)), some (vI x1), some (vI x2), none, none, some (vI x5), some (vI x6), some (vI x7), some (vI v16), none, none]) dMd_pairBelow_82 (Nat.le_of_ble_eq_true rfl) rfl ?_
      refine tq_goto (tgt := 61) dMd_pairBelow_84 (by decide) ?_
      refine tpR.fo (ls' := [some (vR (some o)), some (vI x1), some (vI x2), none, none, some (vI x5), some (vI x6), some (vI x7), some (vI v16), none, none]) ?_ (And.intro rfl (And.intro rfl (And.intro rfl (And.intro rfl (And.intro rfl (And.intro rfl (And.intro rfl trivial)))))))
      exact ih _ _ _ _ _ _ _ _ hw
theorem s_Md_pairBelow_18 {h0 : tpH} {av : List tpV} {R : tpH → Prop} : ∀ (n : Nat) (o : Nat) (x1 : Int32) (x2 : Int32) (x5 : Int32) (h : tpH), w_Md_pairBelow_18 R n o x1 x2 x5 h → tpR Md_pairBelow 2 h0 av (tpOv R (fun _ _ => False)) 18 [some (vR (some o)), some (vI x1), some (vI x2), none, none, some (vI x5), none, none, none, none, none] [] h := by
  intro n
  induction n with
  | zero => intro o x1 x2 x5 h hw; exact False.elim hw
  | succ n ih =>
    intro o x1 x2 x5 h hw
    change b_Md_pairBelow_18 R (w_Md_pairBelow_18 R n) o x1 x2 x5 h at hw
    unfold b_Md_pairBelow_18 at hw
    refine tq_iload dMd_pairBelow_18 rfl ?_
    refine tq_ifle (tgt := 189) dMd_pairBelow_20 (by decide) (fun c1 => ?_) (fun c1 => ?_)
    · have hw := hw.1 c1
      exact tq_vret rfl dMd_pairBelow_189 hw
    · have hw := hw.2 c1
      refine tq_inc (k := (-1 : Int32)) (ls' := [some (vR (some o)), some (vI x1), some (vI x2), none, none, some (vI (x5 + (-1 : Int32))), none, none, none, none, none]) dMd_pairBelow_23 rfl tni_m1 (Nat.le_of_ble_eq_true rfl) rfl ?_
      refine tq_aload_n dMd_pairBelow_26 rfl rfl ?_
      obtain ⟨f2, hw⟩ := hw
      refine te_getr dMd_pairBelow_27 fMd_118 rfl rfl f2 ?_
      refine tq_iload dMd_pairBelow_30 rfl ?_
      obtain ⟨a3, e4, f5, hw⟩ := hw
      obtain ⟨f6, hw⟩ := hw
      refine te_iald dMd_pairBelow_32 e4 (Or.inl f5) f6 ?_
      refine tq_istore (ls' := [some (vR (some o)), some (vI x1), some (vI x2), none, none, some (vI (x5 + (-1 : Int32))), some (vI (hI h a3 (x5 + (-1 : Int32)).toNatClampNeg)), none, none, none, none]) dMd_pairBelow_33 (Nat.le_of_ble_eq_true rfl) rfl ?_
      refine tq_aload_n dMd_pairBelow_35 rfl rfl ?_
      refine te_getr dMd_pairBelow_36 fMd_121 rfl rfl f2 ?_
      refine tq_iload dMd_pairBelow_39 rfl ?_
      obtain ⟨a7, e8, f9, hw⟩ := hw
      obtain ⟨f10, hw⟩ := hw
      refine te_iald dMd_pairBelow_41 e8 (Or.inl f9) f10 ?_
      refine tq_istore (ls' := [some (vR (some o)), some (vI x1), some (vI x2), none, none, some (vI (x5 + (-1 : Int32))), some (vI (hI h a3 (x5 + (-1 : Int32)).toNatClampNeg)), some (vI (hI h a7 (x5 + (-1 : Int32)).toNatClampNeg)), none, none, none]) dMd_pairBelow_42 (Nat.le_of_ble_eq_true rfl) rfl ?_
      refine tq_aload_n dMd_pairBelow_44 rfl rfl ?_
      refine tq_iload dMd_pairBelow_45 rfl ?_
      refine tq_iload dMd_pairBelow_47 rfl ?_
      refine te_callV mv_Md_pair (ci := 13) (dc := 0) (as := [vI (hI h a3 (x5 + (-1 : Int32)).toNatClampNeg), vI (hI h a7 (x5 + (-1 : Int32)).toNatClampNeg)]) (rest := []) kMd_260 rfl (Nat.le_of_ble_eq_true rfl) (Nat.le_of_ble_eq_true rfl) rfl rfl rfl f2 (Nat.le_of_ble_eq_true rfl) dMd_pairBelow_49 (s_Md_pair hw) (fun _ _ hx => False.elim hx) (tk_v fun h11 hw => ?_)
      refine tq_aload_n dMd_pairBelow_52 rfl rfl ?_
      refine tq_iload_n dMd_pairBelow_53 rfl rfl ?_
      refine tq_iload dMd_pairBelow_54 rfl ?_
      obtain ⟨f12, hw⟩ := hw
      refine te_callV mv_Md_firstIn (ci := 13) (dc := 0) (as := [vI x2, vI (hI h a7 (x5 + (-1 : Int32)).toNatClampNeg)]) (rest := []) kMd_173 rfl (Nat.le_of_ble_eq_true rfl) (Nat.le_of_ble_eq_true rfl) rfl rfl rfl f12 (Nat.le_of_ble_eq_true rfl) dMd_pairBelow_56 (s_Md_firstIn hw) (fun _ _ hx => False.elim hx) (tk_i fun v14 h13 hw => ?_)
      refine tq_istore (ls' := [some (vR (some o)), some (vI x1), some (vI x2), none, none, some (vI (x5 + (-1 : Int32))), some (vI (hI h a3 (x5 + (-1 : Int32)).toNatClampNeg)), some (vI (hI h a7 (x5 + (-1 : Int32)).toNatClampNeg)), some (vI v14), none, none]) dMd_pairBelow_59 (Nat.le_of_ble_eq_true rfl) rfl ?_
      refine tpR.fo (ls' := [some (vR (some o)), some (vI x1), some (vI x2), none, none, some (vI (x5 + (-1 : Int32))), some (vI (hI h a3 (x5 + (-1 : Int32)).toNatClampNeg)), some (vI (hI h a7 (x5 + (-1 : Int32)).toNatClampNeg)), some (vI v14), none, none]) ?_ (And.intro rfl (And.intro rfl (And.intro rfl (And.intro rfl (And.intro rfl (And.intro rfl (And.intro rfl trivial)))))))
      obtain ⟨n, hw⟩ := hw
      exact s_Md_pairBelow_61 ih n _ _ _ _ _ _ _ _ hw
theorem s_Md_pairBelow {o : Nat} {x1 : Int32} {x2 : Int32} {x3 : Int32} {x4 : Int32} {h : tpH} {R : tpH → Prop} (hw : w_Md_pairBelow o x1 x2 x3 x4 h R) : tpC Md_pairBelow 2 [vR (some o), vI x1, vI x2, vI x3, vI x4] h (tpOv R (fun _ _ => False)) := by
  refine tpC_of mv_Md_pairBelow.2.2.2.1 rfl rfl (Nat.le_of_ble_eq_true rfl) ?_
  show tpR Md_pairBelow 2 h _ _ 0 [some (vR (some o)), some (vI x1), some (vI x2), some (vI x3), some (vI x4), none, none, none, none, none, none] [] h
  unfold w_Md_pairBelow at hw
  refine tq_iconst (v := (1 : Int32)) dMd_pairBelow_0 tni_1 ?_
  refine tq_istore (ls' := [some (vR (some o)), some (vI x1), some (vI x2), some (vI x3), some (vI x4), some (vI (1 : Int32)), none, none, none, none, none]) dMd_pairBelow_1 (Nat.le_of_ble_eq_true rfl) rfl ?_
  refine tq_aload_n dMd_pairBelow_3 rfl rfl ?_
  obtain ⟨f1, hw⟩ := hw
  refine te_getr dMd_pairBelow_4 fMd_118 rfl rfl f1 ?_
  refine tq_iconst (v := (0 : Int32)) dMd_pairBelow_7 tni_0 ?_
  refine tq_iload_n dMd_pairBelow_8 rfl rfl ?_
  obtain ⟨a2, e3, f4, hw⟩ := hw
  obtain ⟨f5, hw⟩ := hw
  refine te_iast dMd_pairBelow_9 e3 f4 f5 (fun h6 e7 => ?_)
  have hw := hw h6 e7
  refine tq_aload_n dMd_pairBelow_10 rfl rfl ?_
  refine te_getr dMd_pairBelow_11 fMd_121 rfl rfl (by rw [e7]; exact f1) ?_
  refine tq_iconst (v := (0 : Int32)) dMd_pairBelow_14 tni_0 ?_
  refine tq_iload dMd_pairBelow_15 rfl ?_
  obtain ⟨a8, e9, f10, hw⟩ := hw
  obtain ⟨f11, hw⟩ := hw
  refine te_iast dMd_pairBelow_17 e9 f10 f11 (fun h12 e13 => ?_)
  have hw := hw h12 e13
  refine tpR.fo (ls' := [some (vR (some o)), some (vI x1), some (vI x2), none, none, some (vI (1 : Int32)), none, none, none, none, none]) ?_ (And.intro rfl (And.intro rfl (And.intro rfl (And.intro rfl trivial))))
  obtain ⟨n, hw⟩ := hw
  exact s_Md_pairBelow_18 n _ _ _ _ _ hw
/-! TModel.matchAlike -/
theorem dMd_matchAlike_0 : decode (mB Md_matchAlike) 0 = .ok (.aload_n 0, 1) := by decide +kernel
theorem dMd_matchAlike_1 : decode (mB Md_matchAlike) 1 = .ok (.iload_n 1, 1) := by decide +kernel
theorem dMd_matchAlike_2 : decode (mB Md_matchAlike) 2 = .ok (.aload_n 0, 1) := by decide +kernel
theorem dMd_matchAlike_3 : decode (mB Md_matchAlike) 3 = .ok (.getfield 83, 3) := by decide +kernel
theorem dMd_matchAlike_6 : decode (mB Md_matchAlike) 6 = .ok (.aload_n 0, 1) := by decide +kernel
theorem dMd_matchAlike_7 : decode (mB Md_matchAlike) 7 = .ok (.getfield 246, 3) := by decide +kernel
theorem dMd_matchAlike_10 : decode (mB Md_matchAlike) 10 = .ok (.aload_n 0, 1) := by decide +kernel
theorem dMd_matchAlike_11 : decode (mB Md_matchAlike) 11 = .ok (.getfield 106, 3) := by decide +kernel
theorem dMd_matchAlike_14 : decode (mB Md_matchAlike) 14 = .ok (.aload_n 0, 1) := by decide +kernel
theorem dMd_matchAlike_15 : decode (mB Md_matchAlike) 15 = .ok (.getfield 112, 3) := by decide +kernel
theorem dMd_matchAlike_18 : decode (mB Md_matchAlike) 18 = .ok (.invokevirtual 263, 3) := by decide +kernel
theorem dMd_matchAlike_21 : decode (mB Md_matchAlike) 21 = .ok (.aload_n 0, 1) := by decide +kernel
theorem dMd_matchAlike_22 : decode (mB Md_matchAlike) 22 = .ok (.iload_n 2, 1) := by decide +kernel
theorem dMd_matchAlike_23 : decode (mB Md_matchAlike) 23 = .ok (.aload_n 0, 1) := by decide +kernel
theorem dMd_matchAlike_24 : decode (mB Md_matchAlike) 24 = .ok (.getfield 86, 3) := by decide +kernel
theorem dMd_matchAlike_27 : decode (mB Md_matchAlike) 27 = .ok (.aload_n 0, 1) := by decide +kernel
theorem dMd_matchAlike_28 : decode (mB Md_matchAlike) 28 = .ok (.getfield 249, 3) := by decide +kernel
theorem dMd_matchAlike_31 : decode (mB Md_matchAlike) 31 = .ok (.aload_n 0, 1) := by decide +kernel
theorem dMd_matchAlike_32 : decode (mB Md_matchAlike) 32 = .ok (.getfield 109, 3) := by decide +kernel
theorem dMd_matchAlike_35 : decode (mB Md_matchAlike) 35 = .ok (.aload_n 0, 1) := by decide +kernel
theorem dMd_matchAlike_36 : decode (mB Md_matchAlike) 36 = .ok (.getfield 115, 3) := by decide +kernel
theorem dMd_matchAlike_39 : decode (mB Md_matchAlike) 39 = .ok (.invokevirtual 263, 3) := by decide +kernel
theorem dMd_matchAlike_42 : decode (mB Md_matchAlike) 42 = .ok (.iconst 0, 1) := by decide +kernel
theorem dMd_matchAlike_43 : decode (mB Md_matchAlike) 43 = .ok (.istore_n 3, 1) := by decide +kernel
theorem dMd_matchAlike_44 : decode (mB Md_matchAlike) 44 = .ok (.iload_n 3, 1) := by decide +kernel
theorem dMd_matchAlike_45 : decode (mB Md_matchAlike) 45 = .ok (.aload_n 0, 1) := by decide +kernel
theorem dMd_matchAlike_46 : decode (mB Md_matchAlike) 46 = .ok (.getfield 246, 3) := by decide +kernel
theorem dMd_matchAlike_49 : decode (mB Md_matchAlike) 49 = .ok (.if_icmp .ge 156, 3) := by decide +kernel
theorem dMd_matchAlike_52 : decode (mB Md_matchAlike) 52 = .ok (.iconst (-1), 1) := by decide +kernel
theorem dMd_matchAlike_53 : decode (mB Md_matchAlike) 53 = .ok (.istore 4, 2) := by decide +kernel
theorem dMd_matchAlike_55 : decode (mB Md_matchAlike) 55 = .ok (.iconst 0, 1) := by decide +kernel
theorem dMd_matchAlike_56 : decode (mB Md_matchAlike) 56 = .ok (.istore 5, 2) := by decide +kernel
theorem dMd_matchAlike_58 : decode (mB Md_matchAlike) 58 = .ok (.iload 5, 2) := by decide +kernel
theorem dMd_matchAlike_60 : decode (mB Md_matchAlike) 60 = .ok (.aload_n 0, 1) := by decide +kernel
theorem dMd_matchAlike_61 : decode (mB Md_matchAlike) 61 = .ok (.getfield 249, 3) := by decide +kernel
theorem dMd_matchAlike_64 : decode (mB Md_matchAlike) 64 = .ok (.if_icmp .ge 73, 3) := by decide +kernel
theorem dMd_matchAlike_67 : decode (mB Md_matchAlike) 67 = .ok (.iload 4, 2) := by decide +kernel
theorem dMd_matchAlike_69 : decode (mB Md_matchAlike) 69 = .ok (.iconst (-1), 1) := by decide +kernel
theorem dMd_matchAlike_70 : decode (mB Md_matchAlike) 70 = .ok (.if_icmp .ne 67, 3) := by decide +kernel
theorem dMd_matchAlike_73 : decode (mB Md_matchAlike) 73 = .ok (.aload_n 0, 1) := by decide +kernel
theorem dMd_matchAlike_74 : decode (mB Md_matchAlike) 74 = .ok (.getfield 112, 3) := by decide +kernel
theorem dMd_matchAlike_77 : decode (mB Md_matchAlike) 77 = .ok (.aload_n 0, 1) := by decide +kernel
theorem dMd_matchAlike_78 : decode (mB Md_matchAlike) 78 = .ok (.getfield 83, 3) := by decide +kernel
theorem dMd_matchAlike_81 : decode (mB Md_matchAlike) 81 = .ok (.iload_n 3, 1) := by decide +kernel
theorem dMd_matchAlike_82 : decode (mB Md_matchAlike) 82 = .ok (.iaload, 1) := by decide +kernel
theorem dMd_matchAlike_83 : decode (mB Md_matchAlike) 83 = .ok (.baload, 1) := by decide +kernel
theorem dMd_matchAlike_84 : decode (mB Md_matchAlike) 84 = .ok (.ifCond .eq 53, 3) := by decide +kernel
theorem dMd_matchAlike_87 : decode (mB Md_matchAlike) 87 = .ok (.aload_n 0, 1) := by decide +kernel
theorem dMd_matchAlike_88 : decode (mB Md_matchAlike) 88 = .ok (.getfield 115, 3) := by decide +kernel
theorem dMd_matchAlike_91 : decode (mB Md_matchAlike) 91 = .ok (.aload_n 0, 1) := by decide +kernel
theorem dMd_matchAlike_92 : decode (mB Md_matchAlike) 92 = .ok (.getfield 86, 3) := by decide +kernel
theorem dMd_matchAlike_95 : decode (mB Md_matchAlike) 95 = .ok (.iload 5, 2) := by decide +kernel
theorem dMd_matchAlike_97 : decode (mB Md_matchAlike) 97 = .ok (.iaload, 1) := by decide +kernel
theorem dMd_matchAlike_98 : decode (mB Md_matchAlike) 98 = .ok (.baload, 1) := by decide +kernel
theorem dMd_matchAlike_99 : decode (mB Md_matchAlike) 99 = .ok (.ifCond .eq 29, 3) := by decide +kernel
theorem dMd_matchAlike_102 : decode (mB Md_matchAlike) 102 = .ok (.aload_n 0, 1) := by decide +kernel
theorem dMd_matchAlike_103 : decode (mB Md_matchAlike) 103 = .ok (.getfield 94, 3) := by decide +kernel
theorem dMd_matchAlike_106 : decode (mB Md_matchAlike) 106 = .ok (.sipush 300, 3) := by decide +kernel
theorem dMd_matchAlike_109 : decode (mB Md_matchAlike) 109 = .ok (.iload_n 3, 1) := by decide +kernel
theorem dMd_matchAlike_110 : decode (mB Md_matchAlike) 110 = .ok (.imul, 1) := by decide +kernel
theorem dMd_matchAlike_111 : decode (mB Md_matchAlike) 111 = .ok (.iload 5, 2) := by decide +kernel
theorem dMd_matchAlike_113 : decode (mB Md_matchAlike) 113 = .ok (.iadd, 1) := by decide +kernel
theorem dMd_matchAlike_114 : decode (mB Md_matchAlike) 114 = .ok (.baload, 1) := by decide +kernel
theorem dMd_matchAlike_115 : decode (mB Md_matchAlike) 115 = .ok (.ifCond .eq 13, 3) := by decide +kernel
theorem dMd_matchAlike_118 : decode (mB Md_matchAlike) 118 = .ok (.aload_n 0, 1) := by decide +kernel
theorem dMd_matchAlike_119 : decode (mB Md_matchAlike) 119 = .ok (.getfield 86, 3) := by decide +kernel
theorem dMd_matchAlike_122 : decode (mB Md_matchAlike) 122 = .ok (.iload 5, 2) := by decide +kernel
theorem dMd_matchAlike_124 : decode (mB Md_matchAlike) 124 = .ok (.iaload, 1) := by decide +kernel
theorem dMd_matchAlike_125 : decode (mB Md_matchAlike) 125 = .ok (.goto 4, 3) := by decide +kernel
theorem dMd_matchAlike_128 : decode (mB Md_matchAlike) 128 = .ok (.iconst (-1), 1) := by decide +kernel
theorem dMd_matchAlike_129 : decode (mB Md_matchAlike) 129 = .ok (.istore 4, 2) := by decide +kernel
theorem dMd_matchAlike_131 : decode (mB Md_matchAlike) 131 = .ok (.iinc 5 1, 3) := by decide +kernel
theorem dMd_matchAlike_134 : decode (mB Md_matchAlike) 134 = .ok (.goto (-76), 3) := by decide +kernel
theorem dMd_matchAlike_137 : decode (mB Md_matchAlike) 137 = .ok (.iload 4, 2) := by decide +kernel
theorem dMd_matchAlike_139 : decode (mB Md_matchAlike) 139 = .ok (.iconst (-1), 1) := by decide +kernel
theorem dMd_matchAlike_140 : decode (mB Md_matchAlike) 140 = .ok (.if_icmp .eq 59, 3) := by decide +kernel
theorem dMd_matchAlike_143 : decode (mB Md_matchAlike) 143 = .ok (.aload_n 0, 1) := by decide +kernel
theorem dMd_matchAlike_144 : decode (mB Md_matchAlike) 144 = .ok (.iload_n 1, 1) := by decide +kernel
theorem dMd_matchAlike_145 : decode (mB Md_matchAlike) 145 = .ok (.iload_n 2, 1) := by decide +kernel
theorem dMd_matchAlike_146 : decode (mB Md_matchAlike) 146 = .ok (.aload_n 0, 1) := by decide +kernel
theorem dMd_matchAlike_147 : decode (mB Md_matchAlike) 147 = .ok (.getfield 83, 3) := by decide +kernel
theorem dMd_matchAlike_150 : decode (mB Md_matchAlike) 150 = .ok (.iload_n 3, 1) := by decide +kernel
theorem dMd_matchAlike_151 : decode (mB Md_matchAlike) 151 = .ok (.iaload, 1) := by decide +kernel
theorem dMd_matchAlike_152 : decode (mB Md_matchAlike) 152 = .ok (.iload 4, 2) := by decide +kernel
theorem dMd_matchAlike_154 : decode (mB Md_matchAlike) 154 = .ok (.invokevirtual 267, 3) := by decide +kernel
theorem dMd_matchAlike_157 : decode (mB Md_matchAlike) 157 = .ok (.aload_n 0, 1) := by decide +kernel
theorem dMd_matchAlike_158 : decode (mB Md_matchAlike) 158 = .ok (.iload_n 1, 1) := by decide +kernel
theorem dMd_matchAlike_159 : decode (mB Md_matchAlike) 159 = .ok (.aload_n 0, 1) := by decide +kernel
theorem dMd_matchAlike_160 : decode (mB Md_matchAlike) 160 = .ok (.getfield 83, 3) := by decide +kernel
theorem dMd_matchAlike_163 : decode (mB Md_matchAlike) 163 = .ok (.aload_n 0, 1) := by decide +kernel
theorem dMd_matchAlike_164 : decode (mB Md_matchAlike) 164 = .ok (.getfield 246, 3) := by decide +kernel
theorem dMd_matchAlike_167 : decode (mB Md_matchAlike) 167 = .ok (.aload_n 0, 1) := by decide +kernel
theorem dMd_matchAlike_168 : decode (mB Md_matchAlike) 168 = .ok (.getfield 106, 3) := by decide +kernel
theorem dMd_matchAlike_171 : decode (mB Md_matchAlike) 171 = .ok (.aload_n 0, 1) := by decide +kernel
theorem dMd_matchAlike_172 : decode (mB Md_matchAlike) 172 = .ok (.getfield 112, 3) := by decide +kernel
theorem dMd_matchAlike_175 : decode (mB Md_matchAlike) 175 = .ok (.invokevirtual 263, 3) := by decide +kernel
theorem dMd_matchAlike_178 : decode (mB Md_matchAlike) 178 = .ok (.aload_n 0, 1) := by decide +kernel
theorem dMd_matchAlike_179 : decode (mB Md_matchAlike) 179 = .ok (.iload_n 2, 1) := by decide +kernel
theorem dMd_matchAlike_180 : decode (mB Md_matchAlike) 180 = .ok (.aload_n 0, 1) := by decide +kernel
theorem dMd_matchAlike_181 : decode (mB Md_matchAlike) 181 = .ok (.getfield 86, 3) := by decide +kernel
theorem dMd_matchAlike_184 : decode (mB Md_matchAlike) 184 = .ok (.aload_n 0, 1) := by decide +kernel
theorem dMd_matchAlike_185 : decode (mB Md_matchAlike) 185 = .ok (.getfield 249, 3) := by decide +kernel
theorem dMd_matchAlike_188 : decode (mB Md_matchAlike) 188 = .ok (.aload_n 0, 1) := by decide +kernel
theorem dMd_matchAlike_189 : decode (mB Md_matchAlike) 189 = .ok (.getfield 109, 3) := by decide +kernel
theorem dMd_matchAlike_192 : decode (mB Md_matchAlike) 192 = .ok (.aload_n 0, 1) := by decide +kernel
theorem dMd_matchAlike_193 : decode (mB Md_matchAlike) 193 = .ok (.getfield 115, 3) := by decide +kernel
theorem dMd_matchAlike_196 : decode (mB Md_matchAlike) 196 = .ok (.invokevirtual 263, 3) := by decide +kernel
theorem dMd_matchAlike_199 : decode (mB Md_matchAlike) 199 = .ok (.iinc 3 1, 3) := by decide +kernel
theorem dMd_matchAlike_202 : decode (mB Md_matchAlike) 202 = .ok (.goto (-158), 3) := by decide +kernel
theorem dMd_matchAlike_205 : decode (mB Md_matchAlike) 205 = .ok (.return_, 1) := by decide +kernel
def w_Md_matchAlike_137 (R : tpH → Prop) (K44 : Nat → Int32 → Int32 → Int32 → tpH → Prop) (o : Nat) (x1 : Int32) (x2 : Int32) (x3 : Int32) (x4 : Int32) (h : tpH) : Prop :=
  (x4 = (-1 : Int32) → (K44 o x1 x2 (x3 + (1 : Int32)) h)) ∧ (¬ x4 = (-1 : Int32) → (hT h o = 14 ∧ (∃ a3, (hR h o 32) = some a3 ∧ hT h a3 = 15 ∧ (vp_in x3 (hL h a3) ∧ (w_Md_pairBelow o x1 x2 (hI h a3 x3.toNatClampNeg) x4 h (fun h7 => hT h7 o = 14 ∧ (w_Md_layPlain o x1 (hR h7 o 32) (hI h7 o 34) (hR h7 o 41) (hR h7 o 43) h7 (fun h9 => hT h9 o = 14 ∧ (w_Md_layPlain o x2 (hR h9 o 33) (hI h9 o 35) (hR h9 o 42) (hR h9 o 44) h9 (fun h11 => K44 o x1 x2 (x3 + (1 : Int32)) h11))))))))))
def b_Md_matchAlike_58 (R : tpH → Prop) (K44 : Nat → Int32 → Int32 → Int32 → tpH → Prop) (Y : Nat → Int32 → Int32 → Int32 → Int32 → Int32 → tpH → Prop) (o : Nat) (x1 : Int32) (x2 : Int32) (x3 : Int32) (x4 : Int32) (x5 : Int32) (h : tpH) : Prop :=
  hT h o = 14 ∧ (((hI h o 35) ≤ x5 → (w_Md_matchAlike_137 R K44 o x1 x2 x3 x4 h)) ∧ (¬ (hI h o 35) ≤ x5 → ((¬ x4 = (-1 : Int32) → (w_Md_matchAlike_137 R K44 o x1 x2 x3 x4 h)) ∧ (x4 = (-1 : Int32) → (∃ a4, (hR h o 32) = some a4 ∧ hT h a4 = 15 ∧ (vp_in x3 (hL h a4) ∧ (∃ a8, (hR h o 43) = some a8 ∧ hT h a8 = 16 ∧ (vp_in (hI h a4 x3.toNatClampNeg) (hL h a8) ∧ (((hI h a8 (hI h a4 x3.toNatClampNeg).toNatClampNeg) = 0 → (w_Md_matchAlike_137 R K44 o x1 x2 x3 x4 h)) ∧ (¬ (hI h a8 (hI h a4 x3.toNatClampNeg).toNatClampNeg) = 0 → (∃ a13, (hR h o 33) = some a13 ∧ hT h a13 = 15 ∧ (vp_in x5 (hL h a13) ∧ (∃ a17, (hR h o 44) = some a17 ∧ hT h a17 = 16 ∧ (vp_in (hI h a13 x5.toNatClampNeg) (hL h a17) ∧ (((hI h a17 (hI h a13 x5.toNatClampNeg).toNatClampNeg) = 0 → (Y o x1 x2 x3 (-1 : Int32) (x5 + (1 : Int32)) h)) ∧ (¬ (hI h a17 (hI h a13 x5.toNatClampNeg).toNatClampNeg) = 0 → (∃ a22, (hR h o 37) = some a22 ∧ hT h a22 = 16 ∧ (vp_in (((300 : Int32) * x3) + x5) (hL h a22) ∧ (((hI h a22 (((300 : Int32) * x3) + x5).toNatClampNeg) = 0 → (Y o x1 x2 x3 (-1 : Int32) (x5 + (1 : Int32)) h)) ∧ (¬ (hI h a22 (((300 : Int32) * x3) + x5).toNatClampNeg) = 0 → (vp_in x5 (hL h a13) ∧ (Y o x1 x2 x3 (hI h a13 x5.toNatClampNeg) (x5 + (1 : Int32)) h))))))))))))))))))))))
def w_Md_matchAlike_58 (R : tpH → Prop) (K44 : Nat → Int32 → Int32 → Int32 → tpH → Prop) : Nat → Nat → Int32 → Int32 → Int32 → Int32 → Int32 → tpH → Prop
  | 0 => fun _ _ _ _ _ _ _ => False
  | n + 1 => b_Md_matchAlike_58 R K44 (w_Md_matchAlike_58 R K44 n)
def b_Md_matchAlike_44 (R : tpH → Prop) (Y : Nat → Int32 → Int32 → Int32 → tpH → Prop) (o : Nat) (x1 : Int32) (x2 : Int32) (x3 : Int32) (h : tpH) : Prop :=
  hT h o = 14 ∧ (((hI h o 34) ≤ x3 → (R h)) ∧ (¬ (hI h o 34) ≤ x3 → (∃ n, w_Md_matchAlike_58 R Y n o x1 x2 x3 (-1 : Int32) (0 : Int32) h)))
def w_Md_matchAlike_44 (R : tpH → Prop) : Nat → Nat → Int32 → Int32 → Int32 → tpH → Prop
  | 0 => fun _ _ _ _ _ => False
  | n + 1 => b_Md_matchAlike_44 R (w_Md_matchAlike_44 R n)
def w_Md_matchAlike (o : Nat) (x1 : Int32) (x2 : Int32) (h : tpH) (R : tpH → Prop) : Prop :=
  hT h o = 14 ∧ (w_Md_layPlain o x1 (hR h o 32) (hI h o 34) (hR h o 41) (hR h o 43) h (fun h2 => hT h2 o = 14 ∧ (w_Md_layPlain o x2 (hR h2 o 33) (hI h2 o 35) (hR h2 o 42) (hR h2 o 44) h2 (fun h4 => ∃ n, w_Md_matchAlike_44 R n o x1 x2 (0 : Int32) h4))))
theorem s_Md_matchAlike_137 {h0 : tpH} {av : List tpV} {R : tpH → Prop} {K44 : Nat → Int32 → Int32 → Int32 → tpH → Prop} (k44 : ∀ (o : Nat) (x1 : Int32) (x2 : Int32) (x3 : Int32) (h : tpH), K44 o x1 x2 x3 h → tpR Md_matchAlike 3 h0 av (tpOv R (fun _ _ => False)) 44 [some (vR (some o)), some (vI x1), some (vI x2), some (vI x3), none, none] [] h) : ∀ (o : Nat) (x1 : Int32) (x2 : Int32) (x3 : Int32) (x4 : Int32) (h : tpH), w_Md_matchAlike_137 R K44 o x1 x2 x3 x4 h → tpR Md_matchAlike 3 h0 av (tpOv R (fun _ _ => False)) 137 [some (vR (some o)), some (vI x1), some (vI x2), some (vI x3), some (vI x4), none] [] h := by
  intro o x1 x2 x3 x4 h hw
  unfold w_Md_matchAlike_137 at hw
  refine tq_iload dMd_matchAlike_137 rfl ?_
  refine tq_iconst (v := (-1 : Int32)) dMd_matchAlike_139 tni_m1 ?_
  refine tq_icmpeq (tgt := 199) dMd_matchAlike_140 (by decide) (fun c1 => ?_) (fun c1 => ?_)
  · have hw := hw.1 c1
    refine tq_inc (k := (1 : Int32)) (ls' := [some (vR (some o)), some (vI x1), some (vI x2), some (vI (x3 + (1 : Int32))), some (vI x4), none]) dMd_matchAlike_199 rfl tni_1 (Nat.le_of_ble_eq_true rfl) rfl ?_
    refine tq_goto (tgt := 44) dMd_matchAlike_202 (by decide) ?_
    refine tpR.fo (ls' := [some (vR (some o)), some (vI x1), some (vI x2), some (vI (x3 + (1 : Int32))), none, none]) ?_ (And.intro rfl (And.intro rfl (And.intro rfl (And.intro rfl trivial))))
    exact k44 _ _ _ _ _ hw
  · have hw := hw.2 c1
    refine tq_aload_n dMd_matchAlike_143 rfl rfl ?_
    refine tq_iload_n dMd_matchAlike_144 rfl rfl ?_
    refine tq_iload_n dMd_matchAlike_145 rfl rfl ?_
    refine tq_aload_n dMd_matchAlike_146 rfl rfl ?_
    obtain ⟨f2, hw⟩ := hw
    refine te_getr dMd_matchAlike_147 fMd_83 rfl rfl f2 ?_
    refine tq_iload_n dMd_matchAlike_150 rfl rfl ?_
    obtain ⟨a3, e4, f5, hw⟩ := hw
    obtain ⟨f6, hw⟩ := hw
    refine te_iald dMd_matchAlike_151 e4 (Or.inl f5) f6 ?_
    refine tq_iload dMd_matchAlike_152 rfl ?_
    refine te_callV mv_Md_pairBelow (ci := 13) (dc := 2) (as := [vI x1, vI x2, vI (hI h a3 x3.toNatClampNeg), vI x4]) (rest := []) kMd_267 rfl (Nat.le_of_ble_eq_true rfl) (Nat.le_of_ble_eq_true rfl) rfl rfl rfl f2 (Nat.le_of_ble_eq_true rfl) dMd_matchAlike_154 (s_Md_pairBelow hw) (fun _ _ hx => False.elim hx) (tk_v fun h7 hw => ?_)
    refine tq_aload_n dMd_matchAlike_157 rfl rfl ?_
    refine tq_iload_n dMd_matchAlike_158 rfl rfl ?_
    refine tq_aload_n dMd_matchAlike_159 rfl rfl ?_
    obtain ⟨f8, hw⟩ := hw
    refine te_getr dMd_matchAlike_160 fMd_83 rfl rfl f8 ?_
    refine tq_aload_n dMd_matchAlike_163 rfl rfl ?_
    refine te_geti dMd_matchAlike_164 fMd_246 rfl rfl f8 ?_
    refine tq_aload_n dMd_matchAlike_167 rfl rfl ?_
    refine te_getr dMd_matchAlike_168 fMd_106 rfl rfl f8 ?_
    refine tq_aload_n dMd_matchAlike_171 rfl rfl ?_
    refine te_getr dMd_matchAlike_172 fMd_112 rfl rfl f8 ?_
    refine te_callV mv_Md_layPlain (ci := 13) (dc := 1) (as := [vI x1, vR (hR h7 o 32), vI (hI h7 o 34), vR (hR h7 o 41), vR (hR h7 o 43)]) (rest := []) kMd_263 rfl (Nat.le_of_ble_eq_true rfl) (Nat.le_of_ble_eq_true rfl) rfl rfl rfl f8 (Nat.le_of_ble_eq_true rfl) dMd_matchAlike_175 (s_Md_layPlain hw) (fun _ _ hx => False.elim hx) (tk_v fun h9 hw => ?_)
    refine tq_aload_n dMd_matchAlike_178 rfl rfl ?_
    refine tq_iload_n dMd_matchAlike_179 rfl rfl ?_
    refine tq_aload_n dMd_matchAlike_180 rfl rfl ?_
    obtain ⟨f10, hw⟩ := hw
    refine te_getr dMd_matchAlike_181 fMd_86 rfl rfl f10 ?_
    refine tq_aload_n dMd_matchAlike_184 rfl rfl ?_
    refine te_geti dMd_matchAlike_185 fMd_249 rfl rfl f10 ?_
    refine tq_aload_n dMd_matchAlike_188 rfl rfl ?_
    refine te_getr dMd_matchAlike_189 fMd_109 rfl rfl f10 ?_
    refine tq_aload_n dMd_matchAlike_192 rfl rfl ?_
    refine te_getr dMd_matchAlike_193 fMd_115 rfl rfl f10 ?_
    refine te_callV mv_Md_layPlain (ci := 13) (dc := 1) (as := [vI x2, vR (hR h9 o 33), vI (hI h9 o 35), vR (hR h9 o 42), vR (hR h9 o 44)]) (rest := []) kMd_263 rfl (Nat.le_of_ble_eq_true rfl) (Nat.le_of_ble_eq_true rfl) rfl rfl rfl f10 (Nat.le_of_ble_eq_true rfl) dMd_matchAlike_196 (s_Md_layPlain hw) (fun _ _ hx => False.elim hx) (tk_v fun h11 hw => ?_)
    refine tq_inc (k := (1 : Int32)) (ls' := [some (vR (some o)), some (vI x1), some (vI x2), some (vI (x3 + (1 : Int32))), some (vI x4), none]) dMd_matchAlike_199 rfl tni_1 (Nat.le_of_ble_eq_true rfl) rfl ?_
    refine tq_goto (tgt := 44) dMd_matchAlike_202 (by decide) ?_
    refine tpR.fo (ls' := [some (vR (some o)), some (vI x1), some (vI x2), some (vI (x3 + (1 : Int32))), none, none]) ?_ (And.intro rfl (And.intro rfl (And.intro rfl (And.intro rfl trivial))))
    exact k44 _ _ _ _ _ hw
theorem s_Md_matchAlike_58 {h0 : tpH} {av : List tpV} {R : tpH → Prop} {K44 : Nat → Int32 → Int32 → Int32 → tpH → Prop} (k44 : ∀ (o : Nat) (x1 : Int32) (x2 : Int32) (x3 : Int32) (h : tpH), K44 o x1 x2 x3 h → tpR Md_matchAlike 3 h0 av (tpOv R (fun _ _ => False)) 44 [some (vR (some o)), some (vI x1), some (vI x2), some (vI x3), none, none] [] h) : ∀ (n : Nat) (o : Nat) (x1 : Int32) (x2 : Int32) (x3 : Int32) (x4 : Int32) (x5 : Int32) (h : tpH), w_Md_matchAlike_58 R K44 n o x1 x2 x3 x4 x5 h → tpR Md_matchAlike 3 h0 av (tpOv R (fun _ _ => False)) 58 [some (vR (some o)), some (vI x1), some (vI x2), some (vI x3), some (vI x4), some (vI x5)] [] h := by
  intro n
  induction n with
  | zero => intro o x1 x2 x3 x4 x5 h hw; exact False.elim hw
  | succ n ih =>
    intro o x1 x2 x3 x4 x5 h hw
    change b_Md_matchAlike_58 R K44 (w_Md_matchAlike_58 R K44 n) o x1 x2 x3 x4 x5 h at hw
    unfold b_Md_matchAlike_58 at hw
    refine tq_iload dMd_matchAlike_58 rfl ?_
    refine tq_aload_n dMd_matchAlike_60 rfl rfl ?_
    obtain ⟨f1, hw⟩ := hw
    refine te_geti dMd_matchAlike_61 fMd_249 rfl rfl f1 ?_
    refine tq_icmpge (tgt := 137) dMd_matchAlike_64 (by decide) (fun c2 => ?_) (fun c2 => ?_)
    · have hw := hw.1 c2
      refine tpR.fo (ls' := [some (vR (some o)), some (vI x1), some (vI x2), some (vI x3), some (vI x4), none]) ?_ (And.intro rfl (And.intro rfl (And.intro rfl (And.intro rfl (And.intro rfl trivial)))))
      exact s_Md_matchAlike_137 k44 _ _ _ _ _ _ hw
    · have hw := hw.2 c2
      refine tq_iload dMd_matchAlike_67 rfl ?_
      refine tq_iconst (v := (-1 : Int32)) dMd_matchAlike_69 tni_m1 ?_
      refine tq_icmpne (tgt := 137) dMd_matchAlike_70 (by decide) (fun c3 => ?_) (fun c3 => ?_)
      · have hw := hw.1 c3
        refine tpR.fo (ls' := [some (vR (some o)), some (vI x1), some (vI x2), some (vI x3), some (vI x4), none]) ?_ (And.intro rfl (And.intro rfl (And.intro rfl (And.intro rfl (And.intro rfl trivial)))))
        exact s_Md_matchAlike_137 k44 _ _ _ _ _ _ hw
      · have hw := hw.2 c3
        refine tq_aload_n dMd_matchAlike_73 rfl rfl ?_
        refine te_getr dMd_matchAlike_74 fMd_112 rfl rfl f1 ?_
        refine tq_aload_n dMd_matchAlike_77 rfl rfl ?_
        refine te_getr dMd_matchAlike_78 fMd_83 rfl rfl f1 ?_
        refine tq_iload_n dMd_matchAlike_81 rfl rfl ?_
        obtain ⟨a4, e5, f6, hw⟩ := hw
        obtain ⟨f7, hw⟩ := hw
        refine te_iald dMd_matchAlike_82 e5 (Or.inl f6) f7 ?_
        obtain ⟨a8, e9, f10, hw⟩ := hw
        obtain ⟨f11, hw⟩ := hw
        refine te_zald dMd_matchAlike_83 e9 f10 f11 ?_
        refine tq_ifeq (tgt := 137) dMd_matchAlike_84 (by decide) (fun c12 => ?_) (fun c12 => ?_)
        · have hw := hw.1 c12
          refine tpR.fo (ls' := [some (vR (some o)), some (vI x1), some (vI x2), some (vI x3), some (vI x4), none]) ?_ (And.intro rfl (And.intro rfl (And.intro rfl (And.intro rfl (And.intro rfl trivial)))))
          exact s_Md_matchAlike_137 k44 _ _ _ _ _ _ hw
        · have hw := hw.2 c12
          refine tq_aload_n dMd_matchAlike_87 rfl rfl ?_
          refine te_getr dMd_matchAlike_88 fMd_115 rfl rfl f1 ?_
          refine tq_aload_n dMd_matchAlike_91 rfl rfl ?_
          refine te_getr dMd_matchAlike_92 fMd_86 rfl rfl f1 ?_
          refine tq_iload dMd_matchAlike_95 rfl ?_
          obtain ⟨a13, e14, f15, hw⟩ := hw
          obtain ⟨f16, hw⟩ := hw
          refine te_iald dMd_matchAlike_97 e14 (Or.inl f15) f16 ?_
          obtain ⟨a17, e18, f19, hw⟩ := hw
          obtain ⟨f20, hw⟩ := hw
          refine te_zald dMd_matchAlike_98 e18 f19 f20 ?_
          refine tq_ifeq (tgt := 128) dMd_matchAlike_99 (by decide) (fun c21 => ?_) (fun c21 => ?_)
          · have hw := hw.1 c21
            refine tq_iconst (v := (-1 : Int32)) dMd_matchAlike_128 tni_m1 ?_
            refine tq_istore (ls' := [some (vR (some o)), some (vI x1), some (vI x2), some (vI x3), some (vI (-1 : Int32)), some (vI x5)]) dMd_matchAlike_129 (Nat.le_of_ble_eq_true rfl) rfl ?_
            refine tq_inc (k := (1 : Int32)) (ls' := [some (vR (some o)), some (vI x1), some (vI x2), some (vI x3), some (vI (-1 : Int32)), some (vI (x5 + (1 : Int32)))]) dMd_matchAlike_131 rfl tni_1 (Nat.le_of_ble_eq_true rfl) rfl ?_
            refine tq_goto (tgt := 58) dMd_matchAlike_134 (by decide) ?_
            refine tpR.fo (ls' := [some (vR (some o)), some (vI x1), some (vI x2), some (vI x3), some (vI (-1 : Int32)), some (vI (x5 + (1 : Int32)))]) ?_ (And.intro rfl (And.intro rfl (And.intro rfl (And.intro rfl (And.intro rfl (And.intro rfl trivial))))))
            exact ih _ _ _ _ _ _ _ hw
          · have hw := hw.2 c21
            refine tq_aload_n dMd_matchAlike_102 rfl rfl ?_
            refine te_getr dMd_matchAlike_103 fMd_94 rfl rfl f1 ?_
            refine tq_sipush (v := (300 : Int32)) dMd_matchAlike_106 tns_300 ?_
            refine tq_iload_n dMd_matchAlike_109 rfl rfl ?_
            refine tq_imul dMd_matchAlike_110 ?_
            refine tq_iload dMd_matchAlike_111 rfl ?_
            refine tq_iadd dMd_matchAlike_113 ?_
            obtain ⟨a22, e23, f24, hw⟩ := hw
            obtain ⟨f25, hw⟩ := hw
            refine te_zald dMd_matchAlike_114 e23 f24 f25 ?_
            refine tq_ifeq (tgt := 128) dMd_matchAlike_115 (by decide) (fun c26 => ?_) (fun c26 => ?_)
            · have hw := hw.1 c26
              refine tq_iconst (v := (-1 : Int32)) dMd_matchAlike_128 tni_m1 ?_
              refine tq_istore (ls' := [some (vR (some o)), some (vI x1), some (vI x2), some (vI x3), some (vI (-1 : Int32)), some (vI x5)]) dMd_matchAlike_129 (Nat.le_of_ble_eq_true rfl) rfl ?_
              refine tq_inc (k := (1 : Int32)) (ls' := [some (vR (some o)), some (vI x1), some (vI x2), some (vI x3), some (vI (-1 : Int32)), some (vI (x5 + (1 : Int32)))]) dMd_matchAlike_131 rfl tni_1 (Nat.le_of_ble_eq_true rfl) rfl ?_
              refine tq_goto (tgt := 58) dMd_matchAlike_134 (by decide) ?_
              refine tpR.fo (ls' := [some (vR (some o)), some (vI x1), some (vI x2), some (vI x3), some (vI (-1 : Int32)), some (vI (x5 + (1 : Int32)))]) ?_ (And.intro rfl (And.intro rfl (And.intro rfl (And.intro rfl (And.intro rfl (And.intro rfl trivial))))))
              exact ih _ _ _ _ _ _ _ hw
            · have hw := hw.2 c26
              refine tq_aload_n dMd_matchAlike_118 rfl rfl ?_
              refine te_getr dMd_matchAlike_119 fMd_86 rfl rfl f1 ?_
              refine tq_iload dMd_matchAlike_122 rfl ?_
              obtain ⟨f27, hw⟩ := hw
              refine te_iald dMd_matchAlike_124 e14 (Or.inl f15) f27 ?_
              refine tq_goto (tgt := 129) dMd_matchAlike_125 (by decide) ?_
              refine tq_istore (ls' := [some (vR (some o)), some (vI x1), some (vI x2), some (vI x3), some (vI (hI h a13 x5.toNatClampNeg)), some (vI x5)]) dMd_matchAlike_129 (Nat.le_of_ble_eq_true rfl) rfl ?_
              refine tq_inc (k := (1 : Int32)) (ls' := [some (vR (some o)), some (vI x1), some (vI x2), some (vI x3), some (vI (hI h a13 x5.toNatClampNeg)), some (vI (x5 + (1 : Int32)))]) dMd_matchAlike_131 rfl tni_1 (Nat.le_of_ble_eq_true rfl) rfl ?_
              refine tq_goto (tgt := 58) dMd_matchAlike_134 (by decide) ?_
              refine tpR.fo (ls' := [some (vR (some o)), some (vI x1), some (vI x2), some (vI x3), some (vI (hI h a13 x5.toNatClampNeg)), some (vI (x5 + (1 : Int32)))]) ?_ (And.intro rfl (And.intro rfl (And.intro rfl (And.intro rfl (And.intro rfl (And.intro rfl trivial))))))
              exact ih _ _ _ _ _ _ _ hw
theorem s_Md_matchAlike_44 {h0 : tpH} {av : List tpV} {R : tpH → Prop} : ∀ (n : Nat) (o : Nat) (x1 : Int32) (x2 : Int32) (x3 : Int32) (h : tpH), w_Md_matchAlike_44 R n o x1 x2 x3 h → tpR Md_matchAlike 3 h0 av (tpOv R (fun _ _ => False)) 44 [some (vR (some o)), some (vI x1), some (vI x2), some (vI x3), none, none] [] h := by
  intro n
  induction n with
  | zero => intro o x1 x2 x3 h hw; exact False.elim hw
  | succ n ih =>
    intro o x1 x2 x3 h hw
    change b_Md_matchAlike_44 R (w_Md_matchAlike_44 R n) o x1 x2 x3 h at hw
    unfold b_Md_matchAlike_44 at hw
    refine tq_iload_n dMd_matchAlike_44 rfl rfl ?_
    refine tq_aload_n dMd_matchAlike_45 rfl rfl ?_
    obtain ⟨f1, hw⟩ := hw
    refine te_geti dMd_matchAlike_46 fMd_246 rfl rfl f1 ?_
    refine tq_icmpge (tgt := 205) dMd_matchAlike_49 (by decide) (fun c2 => ?_) (fun c2 => ?_)
    · have hw := hw.1 c2
      exact tq_vret rfl dMd_matchAlike_205 hw
    · have hw := hw.2 c2
      refine tq_iconst (v := (-1 : Int32)) dMd_matchAlike_52 tni_m1 ?_
      refine tq_istore (ls' := [some (vR (some o)), some (vI x1), some (vI x2), some (vI x3), some (vI (-1 : Int32)), none]) dMd_matchAlike_53 (Nat.le_of_ble_eq_true rfl) rfl ?_
      refine tq_iconst (v := (0 : Int32)) dMd_matchAlike_55 tni_0 ?_
      refine tq_istore (ls' := [some (vR (some o)), some (vI x1), some (vI x2), some (vI x3), some (vI (-1 : Int32)), some (vI (0 : Int32))]) dMd_matchAlike_56 (Nat.le_of_ble_eq_true rfl) rfl ?_
      refine tpR.fo (ls' := [some (vR (some o)), some (vI x1), some (vI x2), some (vI x3), some (vI (-1 : Int32)), some (vI (0 : Int32))]) ?_ (And.intro rfl (And.intro rfl (And.intro rfl (And.intro rfl (And.intro rfl (And.intro rfl trivial))))))
      obtain ⟨n, hw⟩ := hw
      exact s_Md_matchAlike_58 ih n _ _ _ _ _ _ _ hw
theorem s_Md_matchAlike {o : Nat} {x1 : Int32} {x2 : Int32} {h : tpH} {R : tpH → Prop} (hw : w_Md_matchAlike o x1 x2 h R) : tpC Md_matchAlike 3 [vR (some o), vI x1, vI x2] h (tpOv R (fun _ _ => False)) := by
  refine tpC_of mv_Md_matchAlike.2.2.2.1 rfl rfl (Nat.le_of_ble_eq_true rfl) ?_
  show tpR Md_matchAlike 3 h _ _ 0 [some (vR (some o)), some (vI x1), some (vI x2), none, none, none] [] h
  unfold w_Md_matchAlike at hw
  refine tq_aload_n dMd_matchAlike_0 rfl rfl ?_
  refine tq_iload_n dMd_matchAlike_1 rfl rfl ?_
  refine tq_aload_n dMd_matchAlike_2 rfl rfl ?_
  obtain ⟨f1, hw⟩ := hw
  refine te_getr dMd_matchAlike_3 fMd_83 rfl rfl f1 ?_
  refine tq_aload_n dMd_matchAlike_6 rfl rfl ?_
  refine te_geti dMd_matchAlike_7 fMd_246 rfl rfl f1 ?_
  refine tq_aload_n dMd_matchAlike_10 rfl rfl ?_
  refine te_getr dMd_matchAlike_11 fMd_106 rfl rfl f1 ?_
  refine tq_aload_n dMd_matchAlike_14 rfl rfl ?_
  refine te_getr dMd_matchAlike_15 fMd_112 rfl rfl f1 ?_
  refine te_callV mv_Md_layPlain (ci := 13) (dc := 1) (as := [vI x1, vR (hR h o 32), vI (hI h o 34), vR (hR h o 41), vR (hR h o 43)]) (rest := []) kMd_263 rfl (Nat.le_of_ble_eq_true rfl) (Nat.le_of_ble_eq_true rfl) rfl rfl rfl f1 (Nat.le_of_ble_eq_true rfl) dMd_matchAlike_18 (s_Md_layPlain hw) (fun _ _ hx => False.elim hx) (tk_v fun h2 hw => ?_)
  refine tq_aload_n dMd_matchAlike_21 rfl rfl ?_
  refine tq_iload_n dMd_matchAlike_22 rfl rfl ?_
  refine tq_aload_n dMd_matchAlike_23 rfl rfl ?_
  obtain ⟨f3, hw⟩ := hw
  refine te_getr dMd_matchAlike_24 fMd_86 rfl rfl f3 ?_
  refine tq_aload_n dMd_matchAlike_27 rfl rfl ?_
  refine te_geti dMd_matchAlike_28 fMd_249 rfl rfl f3 ?_
  refine tq_aload_n dMd_matchAlike_31 rfl rfl ?_
  refine te_getr dMd_matchAlike_32 fMd_109 rfl rfl f3 ?_
  refine tq_aload_n dMd_matchAlike_35 rfl rfl ?_
  refine te_getr dMd_matchAlike_36 fMd_115 rfl rfl f3 ?_
  refine te_callV mv_Md_layPlain (ci := 13) (dc := 1) (as := [vI x2, vR (hR h2 o 33), vI (hI h2 o 35), vR (hR h2 o 42), vR (hR h2 o 44)]) (rest := []) kMd_263 rfl (Nat.le_of_ble_eq_true rfl) (Nat.le_of_ble_eq_true rfl) rfl rfl rfl f3 (Nat.le_of_ble_eq_true rfl) dMd_matchAlike_39 (s_Md_layPlain hw) (fun _ _ hx => False.elim hx) (tk_v fun h4 hw => ?_)
  refine tq_iconst (v := (0 : Int32)) dMd_matchAlike_42 tni_0 ?_
  refine tq_istore_n (ls' := [some (vR (some o)), some (vI x1), some (vI x2), some (vI (0 : Int32)), none, none]) dMd_matchAlike_43 rfl (Nat.le_of_ble_eq_true rfl) rfl ?_
  refine tpR.fo (ls' := [some (vR (some o)), some (vI x1), some (vI x2), some (vI (0 : Int32)), none, none]) ?_ (And.intro rfl (And.intro rfl (And.intro rfl (And.intro rfl trivial))))
  obtain ⟨n, hw⟩ := hw
  exact s_Md_matchAlike_44 n _ _ _ _ _ hw
/-! TModel.matchChildren -/
theorem dMd_matchChildren_0 : decode (mB Md_matchChildren) 0 = .ok (.iconst 0, 1) := by decide +kernel
theorem dMd_matchChildren_1 : decode (mB Md_matchChildren) 1 = .ok (.istore 4, 2) := by decide +kernel
theorem dMd_matchChildren_3 : decode (mB Md_matchChildren) 3 = .ok (.iload 4, 2) := by decide +kernel
theorem dMd_matchChildren_5 : decode (mB Md_matchChildren) 5 = .ok (.aload_n 0, 1) := by decide +kernel
theorem dMd_matchChildren_6 : decode (mB Md_matchChildren) 6 = .ok (.getfield 249, 3) := by decide +kernel
theorem dMd_matchChildren_9 : decode (mB Md_matchChildren) 9 = .ok (.if_icmp .ge 163, 3) := by decide +kernel
theorem dMd_matchChildren_12 : decode (mB Md_matchChildren) 12 = .ok (.aload_n 0, 1) := by decide +kernel
theorem dMd_matchChildren_13 : decode (mB Md_matchChildren) 13 = .ok (.getfield 109, 3) := by decide +kernel
theorem dMd_matchChildren_16 : decode (mB Md_matchChildren) 16 = .ok (.aload_n 0, 1) := by decide +kernel
theorem dMd_matchChildren_17 : decode (mB Md_matchChildren) 17 = .ok (.getfield 86, 3) := by decide +kernel
theorem dMd_matchChildren_20 : decode (mB Md_matchChildren) 20 = .ok (.iload 4, 2) := by decide +kernel
theorem dMd_matchChildren_22 : decode (mB Md_matchChildren) 22 = .ok (.iaload, 1) := by decide +kernel
theorem dMd_matchChildren_23 : decode (mB Md_matchChildren) 23 = .ok (.iaload, 1) := by decide +kernel
theorem dMd_matchChildren_24 : decode (mB Md_matchChildren) 24 = .ok (.istore 5, 2) := by decide +kernel
theorem dMd_matchChildren_26 : decode (mB Md_matchChildren) 26 = .ok (.aload_n 0, 1) := by decide +kernel
theorem dMd_matchChildren_27 : decode (mB Md_matchChildren) 27 = .ok (.iload_n 2, 1) := by decide +kernel
theorem dMd_matchChildren_28 : decode (mB Md_matchChildren) 28 = .ok (.aload_n 0, 1) := by decide +kernel
theorem dMd_matchChildren_29 : decode (mB Md_matchChildren) 29 = .ok (.getfield 86, 3) := by decide +kernel
theorem dMd_matchChildren_32 : decode (mB Md_matchChildren) 32 = .ok (.iload 4, 2) := by decide +kernel
theorem dMd_matchChildren_34 : decode (mB Md_matchChildren) 34 = .ok (.iaload, 1) := by decide +kernel
theorem dMd_matchChildren_35 : decode (mB Md_matchChildren) 35 = .ok (.invokevirtual 173, 3) := by decide +kernel
theorem dMd_matchChildren_38 : decode (mB Md_matchChildren) 38 = .ok (.istore 6, 2) := by decide +kernel
theorem dMd_matchChildren_40 : decode (mB Md_matchChildren) 40 = .ok (.iload 6, 2) := by decide +kernel
theorem dMd_matchChildren_42 : decode (mB Md_matchChildren) 42 = .ok (.iconst (-1), 1) := by decide +kernel
theorem dMd_matchChildren_43 : decode (mB Md_matchChildren) 43 = .ok (.if_icmp .eq 123, 3) := by decide +kernel
theorem dMd_matchChildren_46 : decode (mB Md_matchChildren) 46 = .ok (.iload 5, 2) := by decide +kernel
theorem dMd_matchChildren_48 : decode (mB Md_matchChildren) 48 = .ok (.iconst (-1), 1) := by decide +kernel
theorem dMd_matchChildren_49 : decode (mB Md_matchChildren) 49 = .ok (.if_icmp .eq 117, 3) := by decide +kernel
theorem dMd_matchChildren_52 : decode (mB Md_matchChildren) 52 = .ok (.iconst (-1), 1) := by decide +kernel
theorem dMd_matchChildren_53 : decode (mB Md_matchChildren) 53 = .ok (.istore 7, 2) := by decide +kernel
theorem dMd_matchChildren_55 : decode (mB Md_matchChildren) 55 = .ok (.aload_n 0, 1) := by decide +kernel
theorem dMd_matchChildren_56 : decode (mB Md_matchChildren) 56 = .ok (.iload_n 1, 1) := by decide +kernel
theorem dMd_matchChildren_57 : decode (mB Md_matchChildren) 57 = .ok (.iload 5, 2) := by decide +kernel
theorem dMd_matchChildren_59 : decode (mB Md_matchChildren) 59 = .ok (.invokevirtual 173, 3) := by decide +kernel
theorem dMd_matchChildren_62 : decode (mB Md_matchChildren) 62 = .ok (.istore 8, 2) := by decide +kernel
theorem dMd_matchChildren_64 : decode (mB Md_matchChildren) 64 = .ok (.iload 8, 2) := by decide +kernel
theorem dMd_matchChildren_66 : decode (mB Md_matchChildren) 66 = .ok (.iconst (-1), 1) := by decide +kernel
theorem dMd_matchChildren_67 : decode (mB Md_matchChildren) 67 = .ok (.if_icmp .eq 73, 3) := by decide +kernel
theorem dMd_matchChildren_70 : decode (mB Md_matchChildren) 70 = .ok (.iload 7, 2) := by decide +kernel
theorem dMd_matchChildren_72 : decode (mB Md_matchChildren) 72 = .ok (.iconst (-1), 1) := by decide +kernel
theorem dMd_matchChildren_73 : decode (mB Md_matchChildren) 73 = .ok (.if_icmp .ne 67, 3) := by decide +kernel
theorem dMd_matchChildren_76 : decode (mB Md_matchChildren) 76 = .ok (.aload_n 0, 1) := by decide +kernel
theorem dMd_matchChildren_77 : decode (mB Md_matchChildren) 77 = .ok (.iload 8, 2) := by decide +kernel
theorem dMd_matchChildren_79 : decode (mB Md_matchChildren) 79 = .ok (.iload 6, 2) := by decide +kernel
theorem dMd_matchChildren_81 : decode (mB Md_matchChildren) 81 = .ok (.invokevirtual 270, 3) := by decide +kernel
theorem dMd_matchChildren_84 : decode (mB Md_matchChildren) 84 = .ok (.ifCond .eq 28, 3) := by decide +kernel
theorem dMd_matchChildren_87 : decode (mB Md_matchChildren) 87 = .ok (.iload_n 3, 1) := by decide +kernel
theorem dMd_matchChildren_88 : decode (mB Md_matchChildren) 88 = .ok (.ifCond .eq 20, 3) := by decide +kernel
theorem dMd_matchChildren_91 : decode (mB Md_matchChildren) 91 = .ok (.aload_n 0, 1) := by decide +kernel
theorem dMd_matchChildren_92 : decode (mB Md_matchChildren) 92 = .ok (.iload_n 1, 1) := by decide +kernel
theorem dMd_matchChildren_93 : decode (mB Md_matchChildren) 93 = .ok (.iload 8, 2) := by decide +kernel
theorem dMd_matchChildren_95 : decode (mB Md_matchChildren) 95 = .ok (.invokevirtual 226, 3) := by decide +kernel
theorem dMd_matchChildren_98 : decode (mB Md_matchChildren) 98 = .ok (.aload_n 0, 1) := by decide +kernel
theorem dMd_matchChildren_99 : decode (mB Md_matchChildren) 99 = .ok (.iload_n 2, 1) := by decide +kernel
theorem dMd_matchChildren_100 : decode (mB Md_matchChildren) 100 = .ok (.iload 6, 2) := by decide +kernel
theorem dMd_matchChildren_102 : decode (mB Md_matchChildren) 102 = .ok (.invokevirtual 226, 3) := by decide +kernel
theorem dMd_matchChildren_105 : decode (mB Md_matchChildren) 105 = .ok (.if_icmp .ne 7, 3) := by decide +kernel
theorem dMd_matchChildren_108 : decode (mB Md_matchChildren) 108 = .ok (.iconst 1, 1) := by decide +kernel
theorem dMd_matchChildren_109 : decode (mB Md_matchChildren) 109 = .ok (.goto 4, 3) := by decide +kernel
theorem dMd_matchChildren_112 : decode (mB Md_matchChildren) 112 = .ok (.iconst 0, 1) := by decide +kernel
theorem dMd_matchChildren_113 : decode (mB Md_matchChildren) 113 = .ok (.istore 9, 2) := by decide +kernel
theorem dMd_matchChildren_115 : decode (mB Md_matchChildren) 115 = .ok (.iload 9, 2) := by decide +kernel
theorem dMd_matchChildren_117 : decode (mB Md_matchChildren) 117 = .ok (.ifCond .eq 8, 3) := by decide +kernel
theorem dMd_matchChildren_120 : decode (mB Md_matchChildren) 120 = .ok (.iload 8, 2) := by decide +kernel
theorem dMd_matchChildren_122 : decode (mB Md_matchChildren) 122 = .ok (.goto 4, 3) := by decide +kernel
theorem dMd_matchChildren_125 : decode (mB Md_matchChildren) 125 = .ok (.iconst (-1), 1) := by decide +kernel
theorem dMd_matchChildren_126 : decode (mB Md_matchChildren) 126 = .ok (.istore 7, 2) := by decide +kernel
theorem dMd_matchChildren_128 : decode (mB Md_matchChildren) 128 = .ok (.aload_n 0, 1) := by decide +kernel
theorem dMd_matchChildren_129 : decode (mB Md_matchChildren) 129 = .ok (.iload_n 1, 1) := by decide +kernel
theorem dMd_matchChildren_130 : decode (mB Md_matchChildren) 130 = .ok (.iload 8, 2) := by decide +kernel
theorem dMd_matchChildren_132 : decode (mB Md_matchChildren) 132 = .ok (.invokevirtual 169, 3) := by decide +kernel
theorem dMd_matchChildren_135 : decode (mB Md_matchChildren) 135 = .ok (.istore 8, 2) := by decide +kernel
theorem dMd_matchChildren_137 : decode (mB Md_matchChildren) 137 = .ok (.goto (-73), 3) := by decide +kernel
theorem dMd_matchChildren_140 : decode (mB Md_matchChildren) 140 = .ok (.iload 7, 2) := by decide +kernel
theorem dMd_matchChildren_142 : decode (mB Md_matchChildren) 142 = .ok (.iconst (-1), 1) := by decide +kernel
theorem dMd_matchChildren_143 : decode (mB Md_matchChildren) 143 = .ok (.if_icmp .eq 11, 3) := by decide +kernel
theorem dMd_matchChildren_146 : decode (mB Md_matchChildren) 146 = .ok (.aload_n 0, 1) := by decide +kernel
theorem dMd_matchChildren_147 : decode (mB Md_matchChildren) 147 = .ok (.iload 7, 2) := by decide +kernel
theorem dMd_matchChildren_149 : decode (mB Md_matchChildren) 149 = .ok (.iload 6, 2) := by decide +kernel
theorem dMd_matchChildren_151 : decode (mB Md_matchChildren) 151 = .ok (.invokevirtual 260, 3) := by decide +kernel
theorem dMd_matchChildren_154 : decode (mB Md_matchChildren) 154 = .ok (.aload_n 0, 1) := by decide +kernel
theorem dMd_matchChildren_155 : decode (mB Md_matchChildren) 155 = .ok (.iload_n 2, 1) := by decide +kernel
theorem dMd_matchChildren_156 : decode (mB Md_matchChildren) 156 = .ok (.iload 6, 2) := by decide +kernel
theorem dMd_matchChildren_158 : decode (mB Md_matchChildren) 158 = .ok (.invokevirtual 169, 3) := by decide +kernel
theorem dMd_matchChildren_161 : decode (mB Md_matchChildren) 161 = .ok (.istore 6, 2) := by decide +kernel
theorem dMd_matchChildren_163 : decode (mB Md_matchChildren) 163 = .ok (.goto (-123), 3) := by decide +kernel
theorem dMd_matchChildren_166 : decode (mB Md_matchChildren) 166 = .ok (.iinc 4 1, 3) := by decide +kernel
theorem dMd_matchChildren_169 : decode (mB Md_matchChildren) 169 = .ok (.goto (-166), 3) := by decide +kernel
theorem dMd_matchChildren_172 : decode (mB Md_matchChildren) 172 = .ok (.return_, 1) := by decide +kernel
def w_Md_matchChildren_126 (R : tpH → Prop) (K64 : Nat → Int32 → Int32 → Int32 → Int32 → Int32 → Int32 → Int32 → Int32 → tpH → Prop) (o : Nat) (x1 : Int32) (x2 : Int32) (x3 : Int32) (x4 : Int32) (x5 : Int32) (x6 : Int32) (x8 : Int32) (t0 : Int32) (h : tpH) : Prop :=
  hT h o = 14 ∧ (w_Md_nextIn o x1 x8 h (fun v3 h2 => K64 o x1 x2 x3 x4 x5 x6 t0 v3 h2))
def w_Md_matchChildren_113 (R : tpH → Prop) (K64 : Nat → Int32 → Int32 → Int32 → Int32 → Int32 → Int32 → Int32 → Int32 → tpH → Prop) (o : Nat) (x1 : Int32) (x2 : Int32) (x3 : Int32) (x4 : Int32) (x5 : Int32) (x6 : Int32) (x8 : Int32) (t0 : Int32) (h : tpH) : Prop :=
  (t0 = 0 → (w_Md_matchChildren_126 R K64 o x1 x2 x3 x4 x5 x6 x8 (-1 : Int32) h)) ∧ (¬ t0 = 0 → (w_Md_matchChildren_126 R K64 o x1 x2 x3 x4 x5 x6 x8 x8 h))
def w_Md_matchChildren_154 (R : tpH → Prop) (K40 : Nat → Int32 → Int32 → Int32 → Int32 → Int32 → Int32 → tpH → Prop) (o : Nat) (x1 : Int32) (x2 : Int32) (x3 : Int32) (x4 : Int32) (x5 : Int32) (x6 : Int32) (h : tpH) : Prop :=
  hT h o = 14 ∧ (w_Md_nextIn o x2 x6 h (fun v3 h2 => K40 o x1 x2 x3 x4 x5 v3 h2))
def w_Md_matchChildren_140 (R : tpH → Prop) (K40 : Nat → Int32 → Int32 → Int32 → Int32 → Int32 → Int32 → tpH → Prop) (o : Nat) (x1 : Int32) (x2 : Int32) (x3 : Int32) (x4 : Int32) (x5 : Int32) (x6 : Int32) (x7 : Int32) (h : tpH) : Prop :=
  (x7 = (-1 : Int32) → (w_Md_matchChildren_154 R K40 o x1 x2 x3 x4 x5 x6 h)) ∧ (¬ x7 = (-1 : Int32) → (hT h o = 14 ∧ (w_Md_pair o x7 x6 h (fun h3 => w_Md_matchChildren_154 R K40 o x1 x2 x3 x4 x5 x6 h3))))
def b_Md_matchChildren_64 (R : tpH → Prop) (K40 : Nat → Int32 → Int32 → Int32 → Int32 → Int32 → Int32 → tpH → Prop) (Y : Nat → Int32 → Int32 → Int32 → Int32 → Int32 → Int32 → Int32 → Int32 → tpH → Prop) (o : Nat) (x1 : Int32) (x2 : Int32) (x3 : Int32) (x4 : Int32) (x5 : Int32) (x6 : Int32) (x7 : Int32) (x8 : Int32) (h : tpH) : Prop :=
  (x8 = (-1 : Int32) → (w_Md_matchChildren_140 R K40 o x1 x2 x3 x4 x5 x6 x7 h)) ∧ (¬ x8 = (-1 : Int32) → ((¬ x7 = (-1 : Int32) → (w_Md_matchChildren_140 R K40 o x1 x2 x3 x4 x5 x6 x7 h)) ∧ (x7 = (-1 : Int32) → (hT h o = 14 ∧ (w_Md_canPair o x8 x6 h (fun v5 h4 => (v5 = 0 → (w_Md_matchChildren_113 R Y o x1 x2 x3 x4 x5 x6 x8 (0 : Int32) h4)) ∧ (¬ v5 = 0 → ((x3 = 0 → (w_Md_matchChildren_113 R Y o x1 x2 x3 x4 x5 x6 x8 (1 : Int32) h4)) ∧ (¬ x3 = 0 → (hT h4 o = 14 ∧ (w_Md_valueIn o x1 x8 h4 (fun v10 h9 => hT h9 o = 14 ∧ (w_Md_valueIn o x2 x6 h9 (fun v13 h12 => (¬ v10 = v13 → (w_Md_matchChildren_113 R Y o x1 x2 x3 x4 x5 x6 x8 (0 : Int32) h12)) ∧ (v10 = v13 → (w_Md_matchChildren_113 R Y o x1 x2 x3 x4 x5 x6 x8 (1 : Int32) h12))))))))))))))))
def w_Md_matchChildren_64 (R : tpH → Prop) (K40 : Nat → Int32 → Int32 → Int32 → Int32 → Int32 → Int32 → tpH → Prop) : Nat → Nat → Int32 → Int32 → Int32 → Int32 → Int32 → Int32 → Int32 → Int32 → tpH → Prop
  | 0 => fun _ _ _ _ _ _ _ _ _ _ => False
  | n + 1 => b_Md_matchChildren_64 R K40 (w_Md_matchChildren_64 R K40 n)
def b_Md_matchChildren_40 (R : tpH → Prop) (K3 : Nat → Int32 → Int32 → Int32 → Int32 → tpH → Prop) (Y : Nat → Int32 → Int32 → Int32 → Int32 → Int32 → Int32 → tpH → Prop) (o : Nat) (x1 : Int32) (x2 : Int32) (x3 : Int32) (x4 : Int32) (x5 : Int32) (x6 : Int32) (h : tpH) : Prop :=
  (x6 = (-1 : Int32) → (K3 o x1 x2 x3 (x4 + (1 : Int32)) h)) ∧ (¬ x6 = (-1 : Int32) → ((x5 = (-1 : Int32) → (K3 o x1 x2 x3 (x4 + (1 : Int32)) h)) ∧ (¬ x5 = (-1 : Int32) → (hT h o = 14 ∧ (w_Md_firstIn o x1 x5 h (fun v5 h4 => ∃ n, w_Md_matchChildren_64 R Y n o x1 x2 x3 x4 x5 x6 (-1 : Int32) v5 h4))))))
def w_Md_matchChildren_40 (R : tpH → Prop) (K3 : Nat → Int32 → Int32 → Int32 → Int32 → tpH → Prop) : Nat → Nat → Int32 → Int32 → Int32 → Int32 → Int32 → Int32 → tpH → Prop
  | 0 => fun _ _ _ _ _ _ _ _ => False
  | n + 1 => b_Md_matchChildren_40 R K3 (w_Md_matchChildren_40 R K3 n)
def b_Md_matchChildren_3 (R : tpH → Prop) (Y : Nat → Int32 → Int32 → Int32 → Int32 → tpH → Prop) (o : Nat) (x1 : Int32) (x2 : Int32) (x3 : Int32) (x4 : Int32) (h : tpH) : Prop :=
  hT h o = 14 ∧ (((hI h o 35) ≤ x4 → (R h)) ∧ (¬ (hI h o 35) ≤ x4 → (∃ a3, (hR h o 33) = some a3 ∧ hT h a3 = 15 ∧ (vp_in x4 (hL h a3) ∧ (∃ a7, (hR h o 42) = some a7 ∧ hT h a7 = 15 ∧ (vp_in (hI h a3 x4.toNatClampNeg) (hL h a7) ∧ (vp_in x4 (hL h a3) ∧ (w_Md_firstIn o x2 (hI h a3 x4.toNatClampNeg) h (fun v13 h12 => ∃ n, w_Md_matchChildren_40 R Y n o x1 x2 x3 x4 (hI h a7 (hI h a3 x4.toNatClampNeg).toNatClampNeg) v13 h12)))))))))
def w_Md_matchChildren_3 (R : tpH → Prop) : Nat → Nat → Int32 → Int32 → Int32 → Int32 → tpH → Prop
  | 0 => fun _ _ _ _ _ _ => False
  | n + 1 => b_Md_matchChildren_3 R (w_Md_matchChildren_3 R n)
def w_Md_matchChildren (o : Nat) (x1 : Int32) (x2 : Int32) (x3 : Int32) (h : tpH) (R : tpH → Prop) : Prop :=
  ∃ n, w_Md_matchChildren_3 R n o x1 x2 x3 (0 : Int32) h
theorem s_Md_matchChildren_126 {h0 : tpH} {av : List tpV} {R : tpH → Prop} {K64 : Nat → Int32 → Int32 → Int32 → Int32 → Int32 → Int32 → Int32 → Int32 → tpH → Prop} (k64 : ∀ (o : Nat) (x1 : Int32) (x2 : Int32) (x3 : Int32) (x4 : Int32) (x5 : Int32) (x6 : Int32) (x7 : Int32) (x8 : Int32) (h : tpH), K64 o x1 x2 x3 x4 x5 x6 x7 x8 h → tpR Md_matchChildren 2 h0 av (tpOv R (fun _ _ => False)) 64 [some (vR (some o)), some (vI x1), some (vI x2), some (vI x3), some (vI x4), some (vI x5), some (vI x6), some (vI x7), some (vI x8), none] [] h) : ∀ (o : Nat) (x1 : Int32) (x2 : Int32) (x3 : Int32) (x4 : Int32) (x5 : Int32) (x6 : Int32) (x8 : Int32) (t0 : Int32) (h : tpH), w_Md_matchChildren_126 R K64 o x1 x2 x3 x4 x5 x6 x8 t0 h → tpR Md_matchChildren 2 h0 av (tpOv R (fun _ _ => False)) 126 [some (vR (some o)), some (vI x1), some (vI x2), some (vI x3), some (vI x4), some (vI x5), some (vI x6), none, some (vI x8), none] [vI t0] h := by
  intro o x1 x2 x3 x4 x5 x6 x8 t0 h hw
  unfold w_Md_matchChildren_126 at hw
  refine tq_istore (ls' := [some (vR (some o)), some (vI x1), some (vI x2), some (vI x3), some (vI x4), some (vI x5), some (vI x6), some (vI t0), some (vI x8), none]) dMd_matchChildren_126 (Nat.le_of_ble_eq_true rfl) rfl ?_
  refine tq_aload_n dMd_matchChildren_128 rfl rfl ?_
  refine tq_iload_n dMd_matchChildren_129 rfl rfl ?_
  refine tq_iload dMd_matchChildren_130 rfl ?_
  obtain ⟨f1, hw⟩ := hw
  refine te_callV mv_Md_nextIn (ci := 13) (dc := 0) (as := [vI x1, vI x8]) (rest := []) kMd_169 rfl (Nat.le_of_ble_eq_true rfl) (Nat.le_of_ble_eq_true rfl) rfl rfl rfl f1 (Nat.le_of_ble_eq_true rfl) dMd_matchChildren_132 (s_Md_nextIn hw) (fun _ _ hx => False.elim hx) (tk_i fun v3 h2 hw => ?_)
  refine tq_istore (ls' := [some (vR (some o)), some (vI x1), some (vI x2), some (vI x3), some (vI x4), some (vI x5), some (vI x6), some (vI t0), some (vI v3), none]) dMd_matchChildren_135 (Nat.le_of_ble_eq_true rfl) rfl ?_
  refine tq_goto (tgt := 64) dMd_matchChildren_137 (by decide) ?_
  refine tpR.fo (ls' := [some (vR (some o)), some (vI x1), some (vI x2), some (vI x3), some (vI x4), some (vI x5), some (vI x6), some (vI t0), some (vI v3), none]) ?_ (And.intro rfl (And.intro rfl (And.intro rfl (And.intro rfl (And.intro rfl (And.intro rfl (And.intro rfl (And.intro rfl (And.intro rfl trivial)))))))))
  exact k64 _ _ _ _ _ _ _ _ _ _ hw
theorem s_Md_matchChildren_113 {h0 : tpH} {av : List tpV} {R : tpH → Prop} {K64 : Nat → Int32 → Int32 → Int32 → Int32 → Int32 → Int32 → Int32 → Int32 → tpH → Prop} (k64 : ∀ (o : Nat) (x1 : Int32) (x2 : Int32) (x3 : Int32) (x4 : Int32) (x5 : Int32) (x6 : Int32) (x7 : Int32) (x8 : Int32) (h : tpH), K64 o x1 x2 x3 x4 x5 x6 x7 x8 h → tpR Md_matchChildren 2 h0 av (tpOv R (fun _ _ => False)) 64 [some (vR (some o)), some (vI x1), some (vI x2), some (vI x3), some (vI x4), some (vI x5), some (vI x6), some (vI x7), some (vI x8), none] [] h) : ∀ (o : Nat) (x1 : Int32) (x2 : Int32) (x3 : Int32) (x4 : Int32) (x5 : Int32) (x6 : Int32) (x8 : Int32) (t0 : Int32) (h : tpH), w_Md_matchChildren_113 R K64 o x1 x2 x3 x4 x5 x6 x8 t0 h → tpR Md_matchChildren 2 h0 av (tpOv R (fun _ _ => False)) 113 [some (vR (some o)), some (vI x1), some (vI x2), some (vI x3), some (vI x4), some (vI x5), some (vI x6), none, some (vI x8), none] [vI t0] h := by
  intro o x1 x2 x3 x4 x5 x6 x8 t0 h hw
  unfold w_Md_matchChildren_113 at hw
  refine tq_istore (ls' := [some (vR (some o)), some (vI x1), some (vI x2), some (vI x3), some (vI x4), some (vI x5), some (vI x6), none, some (vI x8), some (vI t0)]) dMd_matchChildren_113 (Nat.le_of_ble_eq_true rfl) rfl ?_
  refine tq_iload dMd_matchChildren_115 rfl ?_
  refine tq_ifeq (tgt := 125) dMd_matchChildren_117 (by decide) (fun c1 => ?_) (fun c1 => ?_)
  · have hw := hw.1 c1
    refine tq_iconst (v := (-1 : Int32)) dMd_matchChildren_125 tni_m1 ?_
    refine tpR.fo (ls' := [some (vR (some o)), some (vI x1), some (vI x2), some (vI x3), some (vI x4), some (vI x5), some (vI x6), none, some (vI x8), none]) ?_ (And.intro rfl (And.intro rfl (And.intro rfl (And.intro rfl (And.intro rfl (And.intro rfl (And.intro rfl (And.intro rfl trivial))))))))
    exact s_Md_matchChildren_126 k64 _ _ _ _ _ _ _ _ _ _ hw
  · have hw := hw.2 c1
    refine tq_iload dMd_matchChildren_120 rfl ?_
    refine tq_goto (tgt := 126) dMd_matchChildren_122 (by decide) ?_
    refine tpR.fo (ls' := [some (vR (some o)), some (vI x1), some (vI x2), some (vI x3), some (vI x4), some (vI x5), some (vI x6), none, some (vI x8), none]) ?_ (And.intro rfl (And.intro rfl (And.intro rfl (And.intro rfl (And.intro rfl (And.intro rfl (And.intro rfl (And.intro rfl trivial))))))))
    exact s_Md_matchChildren_126 k64 _ _ _ _ _ _ _ _ _ _ hw
theorem s_Md_matchChildren_154 {h0 : tpH} {av : List tpV} {R : tpH → Prop} {K40 : Nat → Int32 → Int32 → Int32 → Int32 → Int32 → Int32 → tpH → Prop} (k40 : ∀ (o : Nat) (x1 : Int32) (x2 : Int32) (x3 : Int32) (x4 : Int32) (x5 : Int32) (x6 : Int32) (h : tpH), K40 o x1 x2 x3 x4 x5 x6 h → tpR Md_matchChildren 2 h0 av (tpOv R (fun _ _ => False)) 40 [some (vR (some o)), some (vI x1), some (vI x2), some (vI x3), some (vI x4), some (vI x5), some (vI x6), none, none, none] [] h) : ∀ (o : Nat) (x1 : Int32) (x2 : Int32) (x3 : Int32) (x4 : Int32) (x5 : Int32) (x6 : Int32) (h : tpH), w_Md_matchChildren_154 R K40 o x1 x2 x3 x4 x5 x6 h → tpR Md_matchChildren 2 h0 av (tpOv R (fun _ _ => False)) 154 [some (vR (some o)), some (vI x1), some (vI x2), some (vI x3), some (vI x4), some (vI x5), some (vI x6), none, none, none] [] h := by
  intro o x1 x2 x3 x4 x5 x6 h hw
  unfold w_Md_matchChildren_154 at hw
  refine tq_aload_n dMd_matchChildren_154 rfl rfl ?_
  refine tq_iload_n dMd_matchChildren_155 rfl rfl ?_
  refine tq_iload dMd_matchChildren_156 rfl ?_
  obtain ⟨f1, hw⟩ := hw
  refine te_callV mv_Md_nextIn (ci := 13) (dc := 0) (as := [vI x2, vI x6]) (rest := []) kMd_169 rfl (Nat.le_of_ble_eq_true rfl) (Nat.le_of_ble_eq_true rfl) rfl rfl rfl f1 (Nat.le_of_ble_eq_true rfl) dMd_matchChildren_158 (s_Md_nextIn hw) (fun _ _ hx => False.elim hx) (tk_i fun v3 h2 hw => ?_)
  refine tq_istore (ls' := [some (vR (some o)), some (vI x1), some (vI x2), some (vI x3), some (vI x4), some (vI x5), some (vI v3), none, none, none]) dMd_matchChildren_161 (Nat.le_of_ble_eq_true rfl) rfl ?_
  refine tq_goto (tgt := 40) dMd_matchChildren_163 (by decide) ?_
  refine tpR.fo (ls' := [some (vR (some o)), some (vI x1), some (vI x2), some (vI x3), some (vI x4), some (vI x5), some (vI v3), none, none, none]) ?_ (And.intro rfl (And.intro rfl (And.intro rfl (And.intro rfl (And.intro rfl (And.intro rfl (And.intro rfl trivial)))))))
  exact k40 _ _ _ _ _ _ _ _ hw
theorem s_Md_matchChildren_140 {h0 : tpH} {av : List tpV} {R : tpH → Prop} {K40 : Nat → Int32 → Int32 → Int32 → Int32 → Int32 → Int32 → tpH → Prop} (k40 : ∀ (o : Nat) (x1 : Int32) (x2 : Int32) (x3 : Int32) (x4 : Int32) (x5 : Int32) (x6 : Int32) (h : tpH), K40 o x1 x2 x3 x4 x5 x6 h → tpR Md_matchChildren 2 h0 av (tpOv R (fun _ _ => False)) 40 [some (vR (some o)), some (vI x1), some (vI x2), some (vI x3), some (vI x4), some (vI x5), some (vI x6), none, none, none] [] h) : ∀ (o : Nat) (x1 : Int32) (x2 : Int32) (x3 : Int32) (x4 : Int32) (x5 : Int32) (x6 : Int32) (x7 : Int32) (h : tpH), w_Md_matchChildren_140 R K40 o x1 x2 x3 x4 x5 x6 x7 h → tpR Md_matchChildren 2 h0 av (tpOv R (fun _ _ => False)) 140 [some (vR (some o)), some (vI x1), some (vI x2), some (vI x3), some (vI x4), some (vI x5), some (vI x6), some (vI x7), none, none] [] h := by
  intro o x1 x2 x3 x4 x5 x6 x7 h hw
  unfold w_Md_matchChildren_140 at hw
  refine tq_iload dMd_matchChildren_140 rfl ?_
  refine tq_iconst (v := (-1 : Int32)) dMd_matchChildren_142 tni_m1 ?_
  refine tq_icmpeq (tgt := 154) dMd_matchChildren_143 (by decide) (fun c1 => ?_) (fun c1 => ?_)
  · have hw := hw.1 c1
    refine tpR.fo (ls' := [some (vR (some o)), some (vI x1), some (vI x2), some (vI x3), some (vI x4), some (vI x5), some (vI x6), none, none, none]) ?_ (And.intro rfl (And.intro rfl (And.intro rfl (And.intro rfl (And.intro rfl (And.intro rfl (And.intro rfl trivial)))))))
    exact s_Md_matchChildren_154 k40 _ _ _ _ _ _ _ _ hw
  · have hw := hw.2 c1
    refine tq_aload_n dMd_matchChildren_146 rfl rfl ?_
    refine tq_iload dMd_matchChildren_147 rfl ?_
    refine tq_iload dMd_matchChildren_149 rfl ?_
    obtain ⟨f2, hw⟩ := hw
    refine te_callV mv_Md_pair (ci := 13) (dc := 0) (as := [vI x7, vI x6]) (rest := []) kMd_260 rfl (Nat.le_of_ble_eq_true rfl) (Nat.le_of_ble_eq_true rfl) rfl rfl rfl f2 (Nat.le_of_ble_eq_true rfl) dMd_matchChildren_151 (s_Md_pair hw) (fun _ _ hx => False.elim hx) (tk_v fun h3 hw => ?_)
    refine tpR.fo (ls' := [some (vR (some o)), some (vI x1), some (vI x2), some (vI x3), some (vI x4), some (vI x5), some (vI x6), none, none, none]) ?_ (And.intro rfl (And.intro rfl (And.intro rfl (And.intro rfl (And.intro rfl (And.intro rfl (And.intro rfl trivial)))))))
    exact s_Md_matchChildren_154 k40 _ _ _ _ _ _ _ _ hw
theorem s_Md_matchChildren_64 {h0 : tpH} {av : List tpV} {R : tpH → Prop} {K40 : Nat → Int32 → Int32 → Int32 → Int32 → Int32 → Int32 → tpH → Prop} (k40 : ∀ (o : Nat) (x1 : Int32) (x2 : Int32) (x3 : Int32) (x4 : Int32) (x5 : Int32) (x6 : Int32) (h : tpH), K40 o x1 x2 x3 x4 x5 x6 h → tpR Md_matchChildren 2 h0 av (tpOv R (fun _ _ => False)) 40 [some (vR (some o)), some (vI x1), some (vI x2), some (vI x3), some (vI x4), some (vI x5), some (vI x6), none, none, none] [] h) : ∀ (n : Nat) (o : Nat) (x1 : Int32) (x2 : Int32) (x3 : Int32) (x4 : Int32) (x5 : Int32) (x6 : Int32) (x7 : Int32) (x8 : Int32) (h : tpH), w_Md_matchChildren_64 R K40 n o x1 x2 x3 x4 x5 x6 x7 x8 h → tpR Md_matchChildren 2 h0 av (tpOv R (fun _ _ => False)) 64 [some (vR (some o)), some (vI x1), some (vI x2), some (vI x3), some (vI x4), some (vI x5), some (vI x6), some (vI x7), some (vI x8), none] [] h := by
  intro n
  induction n with
  | zero => intro o x1 x2 x3 x4 x5 x6 x7 x8 h hw; exact False.elim hw
  | succ n ih =>
    intro o x1 x2 x3 x4 x5 x6 x7 x8 h hw
    change b_Md_matchChildren_64 R K40 (w_Md_matchChildren_64 R K40 n) o x1 x2 x3 x4 x5 x6 x7 x8 h at hw
    unfold b_Md_matchChildren_64 at hw
    refine tq_iload dMd_matchChildren_64 rfl ?_
    refine tq_iconst (v := (-1 : Int32)) dMd_matchChildren_66 tni_m1 ?_
    refine tq_icmpeq (tgt := 140) dMd_matchChildren_67 (by decide) (fun c1 => ?_) (fun c1 => ?_)
    · have hw := hw.1 c1
      refine tpR.fo (ls' := [some (vR (some o)), some (vI x1), some (vI x2), some (vI x3), some (vI x4), some (vI x5), some (vI x6), some (vI x7), none, none]) ?_ (And.intro rfl (And.intro rfl (And.intro rfl (And.intro rfl (And.intro rfl (And.intro rfl (And.intro rfl (And.intro rfl trivial))))))))
      exact s_Md_matchChildren_140 k40 _ _ _ _ _ _ _ _ _ hw
    · have hw := hw.2 c1
      refine tq_iload dMd_matchChildren_70 rfl ?_
      refine tq_iconst (v := (-1 : Int32)) dMd_matchChildren_72 tni_m1 ?_
      refine tq_icmpne (tgt := 140) dMd_matchChildren_73 (by decide) (fun c2 => ?_) (fun c2 => ?_)
      · have hw := hw.1 c2
        refine tpR.fo (ls' := [some (vR (some o)), some (vI x1), some (vI x2), some (vI x3), some (vI x4), some (vI x5), some (vI x6), some (vI x7), none, none]) ?_ (And.intro rfl (And.intro rfl (And.intro rfl (And.intro rfl (And.intro rfl (And.intro rfl (And.intro rfl (And.intro rfl trivial))))))))
        exact s_Md_matchChildren_140 k40 _ _ _ _ _ _ _ _ _ hw
      · have hw := hw.2 c2
        refine tq_aload_n dMd_matchChildren_76 rfl rfl ?_
        refine tq_iload dMd_matchChildren_77 rfl ?_
        refine tq_iload dMd_matchChildren_79 rfl ?_
        obtain ⟨f3, hw⟩ := hw
        refine te_callV mv_Md_canPair (ci := 13) (dc := 1) (as := [vI x8, vI x6]) (rest := []) kMd_270 rfl (Nat.le_of_ble_eq_true rfl) (Nat.le_of_ble_eq_true rfl) rfl rfl rfl f3 (Nat.le_of_ble_eq_true rfl) dMd_matchChildren_81 (s_Md_canPair hw) (fun _ _ hx => False.elim hx) (tk_i fun v5 h4 hw => ?_)
        refine tq_ifeq (tgt := 112) dMd_matchChildren_84 (by decide) (fun c6 => ?_) (fun c6 => ?_)
        · have hw := hw.1 c6
          refine tq_iconst (v := (0 : Int32)) dMd_matchChildren_112 tni_0 ?_
          refine tpR.fo (ls' := [some (vR (some o)), some (vI x1), some (vI x2), some (vI x3), some (vI x4), some (vI x5), some (vI x6), none, some (vI x8), none]) ?_ (And.intro rfl (And.intro rfl (And.intro rfl (And.intro rfl (And.intro rfl (And.intro rfl (And.intro rfl (And.intro rfl trivial))))))))
          exact s_Md_matchChildren_113 ih _ _ _ _ _ _ _ _ _ _ hw
        · have hw := hw.2 c6
          refine tq_iload_n dMd_matchChildren_87 rfl rfl ?_
          refine tq_ifeq (tgt := 108) dMd_matchChildren_88 (by decide) (fun c7 => ?_) (fun c7 => ?_)
          · have hw := hw.1 c7
            refine tq_iconst (v := (1 : Int32)) dMd_matchChildren_108 tni_1 ?_
            refine tq_goto (tgt := 113) dMd_matchChildren_109 (by decide) ?_
            refine tpR.fo (ls' := [some (vR (some o)), some (vI x1), some (vI x2), some (vI x3), some (vI x4), some (vI x5), some (vI x6), none, some (vI x8), none]) ?_ (And.intro rfl (And.intro rfl (And.intro rfl (And.intro rfl (And.intro rfl (And.intro rfl (And.intro rfl (And.intro rfl trivial))))))))
            exact s_Md_matchChildren_113 ih _ _ _ _ _ _ _ _ _ _ hw
          · have hw := hw.2 c7
            refine tq_aload_n dMd_matchChildren_91 rfl rfl ?_
            refine tq_iload_n dMd_matchChildren_92 rfl rfl ?_
            refine tq_iload dMd_matchChildren_93 rfl ?_
            obtain ⟨f8, hw⟩ := hw
            refine te_callV mv_Md_valueIn (ci := 13) (dc := 0) (as := [vI x1, vI x8]) (rest := []) kMd_226 rfl (Nat.le_of_ble_eq_true rfl) (Nat.le_of_ble_eq_true rfl) rfl rfl rfl f8 (Nat.le_of_ble_eq_true rfl) dMd_matchChildren_95 (s_Md_valueIn hw) (fun _ _ hx => False.elim hx) (tk_i fun v10 h9 hw => ?_)
            refine tq_aload_n dMd_matchChildren_98 rfl rfl ?_
            refine tq_iload_n dMd_matchChildren_99 rfl rfl ?_
            refine tq_iload dMd_matchChildren_100 rfl ?_
            obtain ⟨f11, hw⟩ := hw
            refine te_callV mv_Md_valueIn (ci := 13) (dc := 0) (as := [vI x2, vI x6]) (rest := [vI v10]) kMd_226 rfl (Nat.le_of_ble_eq_true rfl) (Nat.le_of_ble_eq_true rfl) rfl rfl rfl f11 (Nat.le_of_ble_eq_true rfl) dMd_matchChildren_102 (s_Md_valueIn hw) (fun _ _ hx => False.elim hx) (tk_i fun v13 h12 hw => ?_)
            refine tq_icmpne (tgt := 112) dMd_matchChildren_105 (by decide) (fun c14 => ?_) (fun c14 => ?_)
            · have hw := hw.1 c14
              refine tq_iconst (v := (0 : Int32)) dMd_matchChildren_112 tni_0 ?_
              refine tpR.fo (ls' := [some (vR (some o)), some (vI x1), some (vI x2), some (vI x3), some (vI x4), some (vI x5), some (vI x6), none, some (vI x8), none]) ?_ (And.intro rfl (And.intro rfl (And.intro rfl (And.intro rfl (And.intro rfl (And.intro rfl (And.intro rfl (And.intro rfl trivial))))))))
              exact s_Md_matchChildren_113 ih _ _ _ _ _ _ _ _ _ _ hw
            · have hw := hw.2 c14
              refine tq_iconst (v := (1 : Int32)) dMd_matchChildren_108 tni_1 ?_
              refine tq_goto (tgt := 113) dMd_matchChildren_109 (by decide) ?_
              refine tpR.fo (ls' := [some (vR (some o)), some (vI x1), some (vI x2), some (vI x3), some (vI x4), some (vI x5), some (vI x6), none, some (vI x8), none]) ?_ (And.intro rfl (And.intro rfl (And.intro rfl (And.intro rfl (And.intro rfl (And.intro rfl (And.intro rfl (And.intro rfl trivial))))))))
              exact s_Md_matchChildren_113 ih _ _ _ _ _ _ _ _ _ _ hw
theorem s_Md_matchChildren_40 {h0 : tpH} {av : List tpV} {R : tpH → Prop} {K3 : Nat → Int32 → Int32 → Int32 → Int32 → tpH → Prop} (k3 : ∀ (o : Nat) (x1 : Int32) (x2 : Int32) (x3 : Int32) (x4 : Int32) (h : tpH), K3 o x1 x2 x3 x4 h → tpR Md_matchChildren 2 h0 av (tpOv R (fun _ _ => False)) 3 [some (vR (some o)), some (vI x1), some (vI x2), some (vI x3), some (vI x4), none, none, none, none, none] [] h) : ∀ (n : Nat) (o : Nat) (x1 : Int32) (x2 : Int32) (x3 : Int32) (x4 : Int32) (x5 : Int32) (x6 : Int32) (h : tpH), w_Md_matchChildren_40 R K3 n o x1 x2 x3 x4 x5 x6 h → tpR Md_matchChildren 2 h0 av (tpOv R (fun _ _ => False)) 40 [some (vR (some o)), some (vI x1), some (vI x2), some (vI x3), some (vI x4), some (vI x5), some (vI x6), none, none, none] [] h := by
  intro n
  induction n with
  | zero => intro o x1 x2 x3 x4 x5 x6 h hw; exact False.elim hw
  | succ n ih =>
    intro o x1 x2 x3 x4 x5 x6 h hw
    change b_Md_matchChildren_40 R K3 (w_Md_matchChildren_40 R K3 n) o x1 x2 x3 x4 x5 x6 h at hw
    unfold b_Md_matchChildren_40 at hw
    refine tq_iload dMd_matchChildren_40 rfl ?_
    refine tq_iconst (v := (-1 : Int32)) dMd_matchChildren_42 tni_m1 ?_
    refine tq_icmpeq (tgt := 166) dMd_matchChildren_43 (by decide) (fun c1 => ?_) (fun c1 => ?_)
    · have hw := hw.1 c1
      refine tq_inc (k := (1 : Int32)) (ls' := [some (vR (some o)), some (vI x1), some (vI x2), some (vI x3), some (vI (x4 + (1 : Int32))), some (vI x5), some (vI x6), none, none, none]) dMd_matchChildren_166 rfl tni_1 (Nat.le_of_ble_eq_true rfl) rfl ?_
      refine tq_goto (tgt := 3) dMd_matchChildren_169 (by decide) ?_
      refine tpR.fo (ls' := [some (vR (some o)), some (vI x1), some (vI x2), some (vI x3), some (vI (x4 + (1 : Int32))), none, none, none, none, none]) ?_ (And.intro rfl (And.intro rfl (And.intro rfl (And.intro rfl (And.intro rfl trivial)))))
      exact k3 _ _ _ _ _ _ hw
    · have hw := hw.2 c1
      refine tq_iload dMd_matchChildren_46 rfl ?_
      refine tq_iconst (v := (-1 : Int32)) dMd_matchChildren_48 tni_m1 ?_
      refine tq_icmpeq (tgt := 166) dMd_matchChildren_49 (by decide) (fun c2 => ?_) (fun c2 => ?_)
      · have hw := hw.1 c2
        refine tq_inc (k := (1 : Int32)) (ls' := [some (vR (some o)), some (vI x1), some (vI x2), some (vI x3), some (vI (x4 + (1 : Int32))), some (vI x5), some (vI x6), none, none, none]) dMd_matchChildren_166 rfl tni_1 (Nat.le_of_ble_eq_true rfl) rfl ?_
        refine tq_goto (tgt := 3) dMd_matchChildren_169 (by decide) ?_
        refine tpR.fo (ls' := [some (vR (some o)), some (vI x1), some (vI x2), some (vI x3), some (vI (x4 + (1 : Int32))), none, none, none, none, none]) ?_ (And.intro rfl (And.intro rfl (And.intro rfl (And.intro rfl (And.intro rfl trivial)))))
        exact k3 _ _ _ _ _ _ hw
      · have hw := hw.2 c2
        refine tq_iconst (v := (-1 : Int32)) dMd_matchChildren_52 tni_m1 ?_
        refine tq_istore (ls' := [some (vR (some o)), some (vI x1), some (vI x2), some (vI x3), some (vI x4), some (vI x5), some (vI x6), some (vI (-1 : Int32)), none, none]) dMd_matchChildren_53 (Nat.le_of_ble_eq_true rfl) rfl ?_
        refine tq_aload_n dMd_matchChildren_55 rfl rfl ?_
        refine tq_iload_n dMd_matchChildren_56 rfl rfl ?_
        refine tq_iload dMd_matchChildren_57 rfl ?_
        obtain ⟨f3, hw⟩ := hw
        refine te_callV mv_Md_firstIn (ci := 13) (dc := 0) (as := [vI x1, vI x5]) (rest := []) kMd_173 rfl (Nat.le_of_ble_eq_true rfl) (Nat.le_of_ble_eq_true rfl) rfl rfl rfl f3 (Nat.le_of_ble_eq_true rfl) dMd_matchChildren_59 (s_Md_firstIn hw) (fun _ _ hx => False.elim hx) (tk_i fun v5 h4 hw => ?_)
        refine tq_istore (ls' := [some (vR (some o)), some (vI x1), some (vI x2), some (vI x3), some (vI x4), some (vI x5), some (vI x6), some (vI (-1 : Int32)), some (vI v5), none]) dMd_matchChildren_62 (Nat.le_of_ble_eq_true rfl) rfl ?_
        refine tpR.fo (ls' := [some (vR (some o)), some (vI x1), some (vI x2), some (vI x3), some (vI x4), some (vI x5), some (vI x6), some (vI (-1 : Int32)), some (vI v5), none]) ?_ (And.intro rfl (And.intro rfl (And.intro rfl (And.intro rfl (And.intro rfl (And.intro rfl (And.intro rfl (And.intro rfl (And.intro rfl trivial)))))))))
        obtain ⟨n, hw⟩ := hw
        exact s_Md_matchChildren_64 ih n _ _ _ _ _ _ _ _ _ _ hw
theorem s_Md_matchChildren_3 {h0 : tpH} {av : List tpV} {R : tpH → Prop} : ∀ (n : Nat) (o : Nat) (x1 : Int32) (x2 : Int32) (x3 : Int32) (x4 : Int32) (h : tpH), w_Md_matchChildren_3 R n o x1 x2 x3 x4 h → tpR Md_matchChildren 2 h0 av (tpOv R (fun _ _ => False)) 3 [some (vR (some o)), some (vI x1), some (vI x2), some (vI x3), some (vI x4), none, none, none, none, none] [] h := by
  intro n
  induction n with
  | zero => intro o x1 x2 x3 x4 h hw; exact False.elim hw
  | succ n ih =>
    intro o x1 x2 x3 x4 h hw
    change b_Md_matchChildren_3 R (w_Md_matchChildren_3 R n) o x1 x2 x3 x4 h at hw
    unfold b_Md_matchChildren_3 at hw
    refine tq_iload dMd_matchChildren_3 rfl ?_
    refine tq_aload_n dMd_matchChildren_5 rfl rfl ?_
    obtain ⟨f1, hw⟩ := hw
    refine te_geti dMd_matchChildren_6 fMd_249 rfl rfl f1 ?_
    refine tq_icmpge (tgt := 172) dMd_matchChildren_9 (by decide) (fun c2 => ?_) (fun c2 => ?_)
    · have hw := hw.1 c2
      exact tq_vret rfl dMd_matchChildren_172 hw
    · have hw := hw.2 c2
      refine tq_aload_n dMd_matchChildren_12 rfl rfl ?_
      refine te_getr dMd_matchChildren_13 fMd_109 rfl rfl f1 ?_
      refine tq_aload_n dMd_matchChildren_16 rfl rfl ?_
      refine te_getr dMd_matchChildren_17 fMd_86 rfl rfl f1 ?_
      refine tq_iload dMd_matchChildren_20 rfl ?_
      obtain ⟨a3, e4, f5, hw⟩ := hw
      obtain ⟨f6, hw⟩ := hw
      refine te_iald dMd_matchChildren_22 e4 (Or.inl f5) f6 ?_
      obtain ⟨a7, e8, f9, hw⟩ := hw
      obtain ⟨f10, hw⟩ := hw
      refine te_iald dMd_matchChildren_23 e8 (Or.inl f9) f10 ?_
      refine tq_istore (ls' := [some (vR (some o)), some (vI x1), some (vI x2), some (vI x3), some (vI x4), some (vI (hI h a7 (hI h a3 x4.toNatClampNeg).toNatClampNeg)), none, none, none, none]) dMd_matchChildren_24 (Nat.le_of_ble_eq_true rfl) rfl ?_
      refine tq_aload_n dMd_matchChildren_26 rfl rfl ?_
      refine tq_iload_n dMd_matchChildren_27 rfl rfl ?_
      refine tq_aload_n dMd_matchChildren_28 rfl rfl ?_
      refine te_getr dMd_matchChildren_29 fMd_86 rfl rfl f1 ?_
      refine tq_iload dMd_matchChildren_32 rfl ?_
      obtain ⟨f11, hw⟩ := hw
      refine te_iald dMd_matchChildren_34 e4 (Or.inl f5) f11 ?_
      refine te_callV mv_Md_firstIn (ci := 13) (dc := 0) (as := [vI x2, vI (hI h a3 x4.toNatClampNeg)]) (rest := []) kMd_173 rfl (Nat.le_of_ble_eq_true rfl) (Nat.le_of_ble_eq_true rfl) rfl rfl rfl f1 (Nat.le_of_ble_eq_true rfl) dMd_matchChildren_35 (s_Md_firstIn hw) (fun _ _ hx => False.elim hx) (tk_i fun v13 h12 hw => ?_)
      refine tq_istore (ls' := [some (vR (some o)), some (vI x1), some (vI x2), some (vI x3), some (vI x4), some (vI (hI h a7 (hI h a3 x4.toNatClampNeg).toNatClampNeg)), some (vI v13), none, none, none]) dMd_matchChildren_38 (Nat.le_of_ble_eq_true rfl) rfl ?_
      refine tpR.fo (ls' := [some (vR (some o)), some (vI x1), some (vI x2), some (vI x3), some (vI x4), some (vI (hI h a7 (hI h a3 x4.toNatClampNeg).toNatClampNeg)), some (vI v13), none, none, none]) ?_ (And.intro rfl (And.intro rfl (And.intro rfl (And.intro rfl (And.intro rfl (And.intro rfl (And.intro rfl trivial)))))))
      obtain ⟨n, hw⟩ := hw
      exact s_Md_matchChildren_40 ih n _ _ _ _ _ _ _ _ hw
theorem s_Md_matchChildren {o : Nat} {x1 : Int32} {x2 : Int32} {x3 : Int32} {h : tpH} {R : tpH → Prop} (hw : w_Md_matchChildren o x1 x2 x3 h R) : tpC Md_matchChildren 2 [vR (some o), vI x1, vI x2, vI x3] h (tpOv R (fun _ _ => False)) := by
  refine tpC_of mv_Md_matchChildren.2.2.2.1 rfl rfl (Nat.le_of_ble_eq_true rfl) ?_
  show tpR Md_matchChildren 2 h _ _ 0 [some (vR (some o)), some (vI x1), some (vI x2), some (vI x3), none, none, none, none, none, none] [] h
  unfold w_Md_matchChildren at hw
  refine tq_iconst (v := (0 : Int32)) dMd_matchChildren_0 tni_0 ?_
  refine tq_istore (ls' := [some (vR (some o)), some (vI x1), some (vI x2), some (vI x3), some (vI (0 : Int32)), none, none, none, none, none]) dMd_matchChildren_1 (Nat.le_of_ble_eq_true rfl) rfl ?_
  refine tpR.fo (ls' := [some (vR (some o)), some (vI x1), some (vI x2), some (vI x3), some (vI (0 : Int32)), none, none, none, none, none]) ?_ (And.intro rfl (And.intro rfl (And.intro rfl (And.intro rfl (And.intro rfl trivial)))))
  obtain ⟨n, hw⟩ := hw
  exact s_Md_matchChildren_3 n _ _ _ _ _ _ hw
