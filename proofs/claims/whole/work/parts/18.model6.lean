/-! TModel.version -/
theorem dMd_version_0 : decode (mB Md_version) 0 = .ok (.aload_n 0, 1) := by decide +kernel
theorem dMd_version_1 : decode (mB Md_version) 1 = .ok (.iload_n 1, 1) := by decide +kernel
theorem dMd_version_2 : decode (mB Md_version) 2 = .ok (.invokevirtual 201, 3) := by decide +kernel
theorem dMd_version_5 : decode (mB Md_version) 5 = .ok (.ifCond .eq 33, 3) := by decide +kernel
theorem dMd_version_8 : decode (mB Md_version) 8 = .ok (.iload_n 2, 1) := by decide +kernel
theorem dMd_version_9 : decode (mB Md_version) 9 = .ok (.iconst (-1), 1) := by decide +kernel
theorem dMd_version_10 : decode (mB Md_version) 10 = .ok (.if_icmp .eq 11, 3) := by decide +kernel
theorem dMd_version_13 : decode (mB Md_version) 13 = .ok (.aload_n 0, 1) := by decide +kernel
theorem dMd_version_14 : decode (mB Md_version) 14 = .ok (.iload_n 2, 1) := by decide +kernel
theorem dMd_version_15 : decode (mB Md_version) 15 = .ok (.invokevirtual 422, 3) := by decide +kernel
theorem dMd_version_18 : decode (mB Md_version) 18 = .ok (.ifCond .eq 20, 3) := by decide +kernel
theorem dMd_version_21 : decode (mB Md_version) 21 = .ok (.iload_n 3, 1) := by decide +kernel
theorem dMd_version_22 : decode (mB Md_version) 22 = .ok (.iconst (-1), 1) := by decide +kernel
theorem dMd_version_23 : decode (mB Md_version) 23 = .ok (.if_icmp .eq 11, 3) := by decide +kernel
theorem dMd_version_26 : decode (mB Md_version) 26 = .ok (.aload_n 0, 1) := by decide +kernel
theorem dMd_version_27 : decode (mB Md_version) 27 = .ok (.iload_n 3, 1) := by decide +kernel
theorem dMd_version_28 : decode (mB Md_version) 28 = .ok (.invokevirtual 422, 3) := by decide +kernel
theorem dMd_version_31 : decode (mB Md_version) 31 = .ok (.ifCond .eq 7, 3) := by decide +kernel
theorem dMd_version_34 : decode (mB Md_version) 34 = .ok (.iconst 1, 1) := by decide +kernel
theorem dMd_version_35 : decode (mB Md_version) 35 = .ok (.goto 4, 3) := by decide +kernel
theorem dMd_version_38 : decode (mB Md_version) 38 = .ok (.iconst 0, 1) := by decide +kernel
theorem dMd_version_39 : decode (mB Md_version) 39 = .ok (.istore 4, 2) := by decide +kernel
theorem dMd_version_41 : decode (mB Md_version) 41 = .ok (.aload_n 0, 1) := by decide +kernel
theorem dMd_version_42 : decode (mB Md_version) 42 = .ok (.iload 4, 2) := by decide +kernel
theorem dMd_version_44 : decode (mB Md_version) 44 = .ok (.ifCond .ne 7, 3) := by decide +kernel
theorem dMd_version_47 : decode (mB Md_version) 47 = .ok (.iconst 1, 1) := by decide +kernel
theorem dMd_version_48 : decode (mB Md_version) 48 = .ok (.goto 36, 3) := by decide +kernel
theorem dMd_version_51 : decode (mB Md_version) 51 = .ok (.iload_n 3, 1) := by decide +kernel
theorem dMd_version_52 : decode (mB Md_version) 52 = .ok (.iconst (-1), 1) := by decide +kernel
theorem dMd_version_53 : decode (mB Md_version) 53 = .ok (.if_icmp .eq 17, 3) := by decide +kernel
theorem dMd_version_56 : decode (mB Md_version) 56 = .ok (.iload_n 2, 1) := by decide +kernel
theorem dMd_version_57 : decode (mB Md_version) 57 = .ok (.iconst (-1), 1) := by decide +kernel
theorem dMd_version_58 : decode (mB Md_version) 58 = .ok (.if_icmp .eq 8, 3) := by decide +kernel
theorem dMd_version_61 : decode (mB Md_version) 61 = .ok (.iload_n 2, 1) := by decide +kernel
theorem dMd_version_62 : decode (mB Md_version) 62 = .ok (.iload_n 3, 1) := by decide +kernel
theorem dMd_version_63 : decode (mB Md_version) 63 = .ok (.if_icmp .ne 7, 3) := by decide +kernel
theorem dMd_version_66 : decode (mB Md_version) 66 = .ok (.iconst 2, 1) := by decide +kernel
theorem dMd_version_67 : decode (mB Md_version) 67 = .ok (.goto 17, 3) := by decide +kernel
theorem dMd_version_70 : decode (mB Md_version) 70 = .ok (.aload_n 0, 1) := by decide +kernel
theorem dMd_version_71 : decode (mB Md_version) 71 = .ok (.getfield 419, 3) := by decide +kernel
theorem dMd_version_74 : decode (mB Md_version) 74 = .ok (.bipush 30, 2) := by decide +kernel
theorem dMd_version_76 : decode (mB Md_version) 76 = .ok (.if_icmp .ne 7, 3) := by decide +kernel
theorem dMd_version_79 : decode (mB Md_version) 79 = .ok (.iconst 3, 1) := by decide +kernel
theorem dMd_version_80 : decode (mB Md_version) 80 = .ok (.goto 4, 3) := by decide +kernel
theorem dMd_version_83 : decode (mB Md_version) 83 = .ok (.iconst 0, 1) := by decide +kernel
theorem dMd_version_84 : decode (mB Md_version) 84 = .ok (.putfield 151, 3) := by decide +kernel
theorem dMd_version_87 : decode (mB Md_version) 87 = .ok (.aload_n 0, 1) := by decide +kernel
theorem dMd_version_88 : decode (mB Md_version) 88 = .ok (.getfield 151, 3) := by decide +kernel
theorem dMd_version_91 : decode (mB Md_version) 91 = .ok (.ifCond .ne 13, 3) := by decide +kernel
theorem dMd_version_94 : decode (mB Md_version) 94 = .ok (.aload_n 0, 1) := by decide +kernel
theorem dMd_version_95 : decode (mB Md_version) 95 = .ok (.iload_n 1, 1) := by decide +kernel
theorem dMd_version_96 : decode (mB Md_version) 96 = .ok (.iload_n 2, 1) := by decide +kernel
theorem dMd_version_97 : decode (mB Md_version) 97 = .ok (.iload_n 3, 1) := by decide +kernel
theorem dMd_version_98 : decode (mB Md_version) 98 = .ok (.invokevirtual 425, 3) := by decide +kernel
theorem dMd_version_101 : decode (mB Md_version) 101 = .ok (.goto 4, 3) := by decide +kernel
theorem dMd_version_104 : decode (mB Md_version) 104 = .ok (.iconst 0, 1) := by decide +kernel
theorem dMd_version_105 : decode (mB Md_version) 105 = .ok (.ireturn, 1) := by decide +kernel
def w_Md_version_21 (R : Int32 → tpH → Prop) (K39 : Nat → Int32 → Int32 → Int32 → Int32 → tpH → Prop) (o : Nat) (x1 : Int32) (x2 : Int32) (x3 : Int32) (h : tpH) : Prop :=
  (x3 = (-1 : Int32) → (K39 o x1 x2 x3 (1 : Int32) h)) ∧ (¬ x3 = (-1 : Int32) → (hT h o = 14 ∧ (w_Md_isVersion o x3 h (fun v4 h3 => (v4 = 0 → (K39 o x1 x2 x3 (0 : Int32) h3)) ∧ (¬ v4 = 0 → (K39 o x1 x2 x3 (1 : Int32) h3))))))
def w_Md_version_70 (R : Int32 → tpH → Prop) (K84 : Nat → Int32 → Int32 → Int32 → Int32 → (Option Nat) → tpH → Prop) (o : Nat) (x1 : Int32) (x2 : Int32) (x3 : Int32) (t0 : Option Nat) (h : tpH) : Prop :=
  hT h o = 14 ∧ ((¬ (hI h o 26) = (30 : Int32) → (K84 o x1 x2 x3 (0 : Int32) t0 h)) ∧ ((hI h o 26) = (30 : Int32) → (K84 o x1 x2 x3 (3 : Int32) t0 h)))
def w_Md_version_84 (R : Int32 → tpH → Prop) (o : Nat) (x1 : Int32) (x2 : Int32) (x3 : Int32) (t0 : Int32) (t1 : Option Nat) (h : tpH) : Prop :=
  ∃ a1, t1 = some a1 ∧ hT h a1 = 14 ∧ (∀ h4, h4 = sI h a1 31 t0 → (hT h4 o = 14 ∧ ((¬ (hI h4 o 31) = 0 → (R (0 : Int32) h4)) ∧ ((hI h4 o 31) = 0 → (w_Md_newVersion o x1 x2 x3 h4 (fun v9 h8 => R v9 h8))))))
def w_Md_version_39 (R : Int32 → tpH → Prop) (o : Nat) (x1 : Int32) (x2 : Int32) (x3 : Int32) (t0 : Int32) (h : tpH) : Prop :=
  (¬ t0 = 0 → ((x3 = (-1 : Int32) → (w_Md_version_70 R (w_Md_version_84 R) o x1 x2 x3 (some o) h)) ∧ (¬ x3 = (-1 : Int32) → ((x2 = (-1 : Int32) → (w_Md_version_84 R o x1 x2 x3 (2 : Int32) (some o) h)) ∧ (¬ x2 = (-1 : Int32) → ((¬ x2 = x3 → (w_Md_version_70 R (w_Md_version_84 R) o x1 x2 x3 (some o) h)) ∧ (x2 = x3 → (w_Md_version_84 R o x1 x2 x3 (2 : Int32) (some o) h)))))))) ∧ (t0 = 0 → (w_Md_version_84 R o x1 x2 x3 (1 : Int32) (some o) h))
def w_Md_version (o : Nat) (x1 : Int32) (x2 : Int32) (x3 : Int32) (h : tpH) (R : Int32 → tpH → Prop) : Prop :=
  hT h o = 14 ∧ (w_Md_isTree o x1 h (fun v3 h2 => (v3 = 0 → (w_Md_version_39 R o x1 x2 x3 (0 : Int32) h2)) ∧ (¬ v3 = 0 → ((x2 = (-1 : Int32) → (w_Md_version_21 R (w_Md_version_39 R) o x1 x2 x3 h2)) ∧ (¬ x2 = (-1 : Int32) → (hT h2 o = 14 ∧ (w_Md_isVersion o x2 h2 (fun v8 h7 => (v8 = 0 → (w_Md_version_39 R o x1 x2 x3 (0 : Int32) h7)) ∧ (¬ v8 = 0 → (w_Md_version_21 R (w_Md_version_39 R) o x1 x2 x3 h7))))))))))
theorem s_Md_version_21 {h0 : tpH} {av : List tpV} {R : Int32 → tpH → Prop} {K39 : Nat → Int32 → Int32 → Int32 → Int32 → tpH → Prop} (k39 : ∀ (o : Nat) (x1 : Int32) (x2 : Int32) (x3 : Int32) (t0 : Int32) (h : tpH), K39 o x1 x2 x3 t0 h → tpR Md_version 2 h0 av (tpOi R (fun _ _ => False)) 39 [some (vR (some o)), some (vI x1), some (vI x2), some (vI x3), none] [vI t0] h) : ∀ (o : Nat) (x1 : Int32) (x2 : Int32) (x3 : Int32) (h : tpH), w_Md_version_21 R K39 o x1 x2 x3 h → tpR Md_version 2 h0 av (tpOi R (fun _ _ => False)) 21 [some (vR (some o)), some (vI x1), some (vI x2), some (vI x3), none] [] h := by
  intro o x1 x2 x3 h hw
  unfold w_Md_version_21 at hw
  refine tq_iload_n dMd_version_21 rfl rfl ?_
  refine tq_iconst (v := (-1 : Int32)) dMd_version_22 tni_m1 ?_
  refine tq_icmpeq (tgt := 34) dMd_version_23 (by decide) (fun c1 => ?_) (fun c1 => ?_)
  · have hw := hw.1 c1
    refine tq_iconst (v := (1 : Int32)) dMd_version_34 tni_1 ?_
    refine tq_goto (tgt := 39) dMd_version_35 (by decide) ?_
    refine tpR.fo (ls' := [some (vR (some o)), some (vI x1), some (vI x2), some (vI x3), none]) ?_ (And.intro rfl (And.intro rfl (And.intro rfl (And.intro rfl trivial))))
    exact k39 _ _ _ _ _ _ hw
  · have hw := hw.2 c1
    refine tq_aload_n dMd_version_26 rfl rfl ?_
    refine tq_iload_n dMd_version_27 rfl rfl ?_
    obtain ⟨f2, hw⟩ := hw
    refine te_callV mv_Md_isVersion (ci := 13) (dc := 1) (as := [vI x3]) (rest := []) kMd_422 rfl (Nat.le_of_ble_eq_true rfl) (Nat.le_of_ble_eq_true rfl) rfl rfl rfl f2 (Nat.le_of_ble_eq_true rfl) dMd_version_28 (s_Md_isVersion hw) (fun _ _ hx => False.elim hx) (tk_i fun v4 h3 hw => ?_)
    refine tq_ifeq (tgt := 38) dMd_version_31 (by decide) (fun c5 => ?_) (fun c5 => ?_)
    · have hw := hw.1 c5
      refine tq_iconst (v := (0 : Int32)) dMd_version_38 tni_0 ?_
      refine tpR.fo (ls' := [some (vR (some o)), some (vI x1), some (vI x2), some (vI x3), none]) ?_ (And.intro rfl (And.intro rfl (And.intro rfl (And.intro rfl trivial))))
      exact k39 _ _ _ _ _ _ hw
    · have hw := hw.2 c5
      refine tq_iconst (v := (1 : Int32)) dMd_version_34 tni_1 ?_
      refine tq_goto (tgt := 39) dMd_version_35 (by decide) ?_
      refine tpR.fo (ls' := [some (vR (some o)), some (vI x1), some (vI x2), some (vI x3), none]) ?_ (And.intro rfl (And.intro rfl (And.intro rfl (And.intro rfl trivial))))
      exact k39 _ _ _ _ _ _ hw
theorem s_Md_version_70 {h0 : tpH} {av : List tpV} {R : Int32 → tpH → Prop} {K84 : Nat → Int32 → Int32 → Int32 → Int32 → (Option Nat) → tpH → Prop} (k84 : ∀ (o : Nat) (x1 : Int32) (x2 : Int32) (x3 : Int32) (t0 : Int32) (t1 : Option Nat) (h : tpH), K84 o x1 x2 x3 t0 t1 h → tpR Md_version 2 h0 av (tpOi R (fun _ _ => False)) 84 [some (vR (some o)), some (vI x1), some (vI x2), some (vI x3), none] [vI t0, vR t1] h) : ∀ (o : Nat) (x1 : Int32) (x2 : Int32) (x3 : Int32) (t0 : Option Nat) (h : tpH), w_Md_version_70 R K84 o x1 x2 x3 t0 h → tpR Md_version 2 h0 av (tpOi R (fun _ _ => False)) 70 [some (vR (some o)), some (vI x1), some (vI x2), some (vI x3), none] [vR t0] h := by
  intro o x1 x2 x3 t0 h hw
  unfold w_Md_version_70 at hw
  refine tq_aload_n dMd_version_70 rfl rfl ?_
  obtain ⟨f1, hw⟩ := hw
  refine te_geti dMd_version_71 fMd_419 rfl rfl f1 ?_
  refine tq_bipush (v := (30 : Int32)) dMd_version_74 tnb_30 ?_
  refine tq_icmpne (tgt := 83) dMd_version_76 (by decide) (fun c2 => ?_) (fun c2 => ?_)
  · have hw := hw.1 c2
    refine tq_iconst (v := (0 : Int32)) dMd_version_83 tni_0 ?_
    refine tpR.fo (ls' := [some (vR (some o)), some (vI x1), some (vI x2), some (vI x3), none]) ?_ (And.intro rfl (And.intro rfl (And.intro rfl (And.intro rfl trivial))))
    exact k84 _ _ _ _ _ _ _ hw
  · have hw := hw.2 c2
    refine tq_iconst (v := (3 : Int32)) dMd_version_79 tni_3 ?_
    refine tq_goto (tgt := 84) dMd_version_80 (by decide) ?_
    refine tpR.fo (ls' := [some (vR (some o)), some (vI x1), some (vI x2), some (vI x3), none]) ?_ (And.intro rfl (And.intro rfl (And.intro rfl (And.intro rfl trivial))))
    exact k84 _ _ _ _ _ _ _ hw
theorem s_Md_version_84 {h0 : tpH} {av : List tpV} {R : Int32 → tpH → Prop} : ∀ (o : Nat) (x1 : Int32) (x2 : Int32) (x3 : Int32) (t0 : Int32) (t1 : Option Nat) (h : tpH), w_Md_version_84 R o x1 x2 x3 t0 t1 h → tpR Md_version 2 h0 av (tpOi R (fun _ _ => False)) 84 [some (vR (some o)), some (vI x1), some (vI x2), some (vI x3), none] [vI t0, vR t1] h := by
  intro o x1 x2 x3 t0 t1 h hw
  unfold w_Md_version_84 at hw
  obtain ⟨a1, e2, f3, hw⟩ := hw
  refine te_puti dMd_version_84 pMd_151 rfl rfl e2 f3 ⟨rfl, rfl⟩ (fun h4 e5 => ?_)
  have hw := hw h4 e5
  refine tq_aload_n dMd_version_87 rfl rfl ?_
  obtain ⟨f6, hw⟩ := hw
  refine te_geti dMd_version_88 fMd_151 rfl rfl f6 ?_
  refine tq_ifne (tgt := 104) dMd_version_91 (by decide) (fun c7 => ?_) (fun c7 => ?_)
  · have hw := hw.1 c7
    refine tq_iconst (v := (0 : Int32)) dMd_version_104 tni_0 ?_
    exact tq_iret rfl rfl dMd_version_105 hw
  · have hw := hw.2 c7
    refine tq_aload_n dMd_version_94 rfl rfl ?_
    refine tq_iload_n dMd_version_95 rfl rfl ?_
    refine tq_iload_n dMd_version_96 rfl rfl ?_
    refine tq_iload_n dMd_version_97 rfl rfl ?_
    refine te_callV mv_Md_newVersion (ci := 13) (dc := 0) (as := [vI x1, vI x2, vI x3]) (rest := []) kMd_425 rfl (Nat.le_of_ble_eq_true rfl) (Nat.le_of_ble_eq_true rfl) rfl rfl rfl f6 (Nat.le_of_ble_eq_true rfl) dMd_version_98 (s_Md_newVersion hw) (fun _ _ hx => False.elim hx) (tk_i fun v9 h8 hw => ?_)
    refine tq_goto (tgt := 105) dMd_version_101 (by decide) ?_
    exact tq_iret rfl rfl dMd_version_105 hw
theorem s_Md_version_39 {h0 : tpH} {av : List tpV} {R : Int32 → tpH → Prop} : ∀ (o : Nat) (x1 : Int32) (x2 : Int32) (x3 : Int32) (t0 : Int32) (h : tpH), w_Md_version_39 R o x1 x2 x3 t0 h → tpR Md_version 2 h0 av (tpOi R (fun _ _ => False)) 39 [some (vR (some o)), some (vI x1), some (vI x2), some (vI x3), none] [vI t0] h := by
  intro o x1 x2 x3 t0 h hw
  unfold w_Md_version_39 at hw
  refine tq_istore (ls' := [some (vR (some o)), some (vI x1), some (vI x2), some (vI x3), some (vI t0)]) dMd_version_39 (Nat.le_of_ble_eq_true rfl) rfl ?_
  refine tq_aload_n dMd_version_41 rfl rfl ?_
  refine tq_iload dMd_version_42 rfl ?_
  refine tq_ifne (tgt := 51) dMd_version_44 (by decide) (fun c1 => ?_) (fun c1 => ?_)
  · have hw := hw.1 c1
    refine tq_iload_n dMd_version_51 rfl rfl ?_
    refine tq_iconst (v := (-1 : Int32)) dMd_version_52 tni_m1 ?_
    refine tq_icmpeq (tgt := 70) dMd_version_53 (by decide) (fun c2 => ?_) (fun c2 => ?_)
    · have hw := hw.1 c2
      refine tpR.fo (ls' := [some (vR (some o)), some (vI x1), some (vI x2), some (vI x3), none]) ?_ (And.intro rfl (And.intro rfl (And.intro rfl (And.intro rfl trivial))))
      exact s_Md_version_70 (s_Md_version_84) _ _ _ _ _ _ hw
    · have hw := hw.2 c2
      refine tq_iload_n dMd_version_56 rfl rfl ?_
      refine tq_iconst (v := (-1 : Int32)) dMd_version_57 tni_m1 ?_
      refine tq_icmpeq (tgt := 66) dMd_version_58 (by decide) (fun c3 => ?_) (fun c3 => ?_)
      · have hw := hw.1 c3
        refine tq_iconst (v := (2 : Int32)) dMd_version_66 tni_2 ?_
        refine tq_goto (tgt := 84) dMd_version_67 (by decide) ?_
        refine tpR.fo (ls' := [some (vR (some o)), some (vI x1), some (vI x2), some (vI x3), none]) ?_ (And.intro rfl (And.intro rfl (And.intro rfl (And.intro rfl trivial))))
        exact s_Md_version_84 _ _ _ _ _ _ _ hw
      · have hw := hw.2 c3
        refine tq_iload_n dMd_version_61 rfl rfl ?_
        refine tq_iload_n dMd_version_62 rfl rfl ?_
        refine tq_icmpne (tgt := 70) dMd_version_63 (by decide) (fun c4 => ?_) (fun c4 => ?_)
        · have hw := hw.1 c4
          refine tpR.fo (ls' := [some (vR (some o)), some (vI x1), some (vI x2), some (vI x3), none]) ?_ (And.intro rfl (And.intro rfl (And.intro rfl (And.intro rfl trivial))))
          exact s_Md_version_70 (s_Md_version_84) _ _ _ _ _ _ hw
        · have hw := hw.2 c4
          refine tq_iconst (v := (2 : Int32)) dMd_version_66 tni_2 ?_
          refine tq_goto (tgt := 84) dMd_version_67 (by decide) ?_
          refine tpR.fo (ls' := [some (vR (some o)), some (vI x1), some (vI x2), some (vI x3), none]) ?_ (And.intro rfl (And.intro rfl (And.intro rfl (And.intro rfl trivial))))
          exact s_Md_version_84 _ _ _ _ _ _ _ hw
  · have hw := hw.2 c1
    refine tq_iconst (v := (1 : Int32)) dMd_version_47 tni_1 ?_
    refine tq_goto (tgt := 84) dMd_version_48 (by decide) ?_
    refine tpR.fo (ls' := [some (vR (some o)), some (vI x1), some (vI x2), some (vI x3), none]) ?_ (And.intro rfl (And.intro rfl (And.intro rfl (And.intro rfl trivial))))
    exact s_Md_version_84 _ _ _ _ _ _ _ hw
theorem s_Md_version {o : Nat} {x1 : Int32} {x2 : Int32} {x3 : Int32} {h : tpH} {R : Int32 → tpH → Prop} (hw : w_Md_version o x1 x2 x3 h R) : tpC Md_version 2 [vR (some o), vI x1, vI x2, vI x3] h (tpOi R (fun _ _ => False)) := by
  refine tpC_of mv_Md_version.2.2.2.1 rfl rfl (Nat.le_of_ble_eq_true rfl) ?_
  show tpR Md_version 2 h _ _ 0 [some (vR (some o)), some (vI x1), some (vI x2), some (vI x3), none] [] h
  unfold w_Md_version at hw
  refine tq_aload_n dMd_version_0 rfl rfl ?_
  refine tq_iload_n dMd_version_1 rfl rfl ?_
  obtain ⟨f1, hw⟩ := hw
  refine te_callV mv_Md_isTree (ci := 13) (dc := 1) (as := [vI x1]) (rest := []) kMd_201 rfl (Nat.le_of_ble_eq_true rfl) (Nat.le_of_ble_eq_true rfl) rfl rfl rfl f1 (Nat.le_of_ble_eq_true rfl) dMd_version_2 (s_Md_isTree hw) (fun _ _ hx => False.elim hx) (tk_i fun v3 h2 hw => ?_)
  refine tq_ifeq (tgt := 38) dMd_version_5 (by decide) (fun c4 => ?_) (fun c4 => ?_)
  · have hw := hw.1 c4
    refine tq_iconst (v := (0 : Int32)) dMd_version_38 tni_0 ?_
    refine tpR.fo (ls' := [some (vR (some o)), some (vI x1), some (vI x2), some (vI x3), none]) ?_ (And.intro rfl (And.intro rfl (And.intro rfl (And.intro rfl trivial))))
    exact s_Md_version_39 _ _ _ _ _ _ hw
  · have hw := hw.2 c4
    refine tq_iload_n dMd_version_8 rfl rfl ?_
    refine tq_iconst (v := (-1 : Int32)) dMd_version_9 tni_m1 ?_
    refine tq_icmpeq (tgt := 21) dMd_version_10 (by decide) (fun c5 => ?_) (fun c5 => ?_)
    · have hw := hw.1 c5
      refine tpR.fo (ls' := [some (vR (some o)), some (vI x1), some (vI x2), some (vI x3), none]) ?_ (And.intro rfl (And.intro rfl (And.intro rfl (And.intro rfl trivial))))
      exact s_Md_version_21 (s_Md_version_39) _ _ _ _ _ hw
    · have hw := hw.2 c5
      refine tq_aload_n dMd_version_13 rfl rfl ?_
      refine tq_iload_n dMd_version_14 rfl rfl ?_
      obtain ⟨f6, hw⟩ := hw
      refine te_callV mv_Md_isVersion (ci := 13) (dc := 1) (as := [vI x2]) (rest := []) kMd_422 rfl (Nat.le_of_ble_eq_true rfl) (Nat.le_of_ble_eq_true rfl) rfl rfl rfl f6 (Nat.le_of_ble_eq_true rfl) dMd_version_15 (s_Md_isVersion hw) (fun _ _ hx => False.elim hx) (tk_i fun v8 h7 hw => ?_)
      refine tq_ifeq (tgt := 38) dMd_version_18 (by decide) (fun c9 => ?_) (fun c9 => ?_)
      · have hw := hw.1 c9
        refine tq_iconst (v := (0 : Int32)) dMd_version_38 tni_0 ?_
        refine tpR.fo (ls' := [some (vR (some o)), some (vI x1), some (vI x2), some (vI x3), none]) ?_ (And.intro rfl (And.intro rfl (And.intro rfl (And.intro rfl trivial))))
        exact s_Md_version_39 _ _ _ _ _ _ hw
      · have hw := hw.2 c9
        refine tpR.fo (ls' := [some (vR (some o)), some (vI x1), some (vI x2), some (vI x3), none]) ?_ (And.intro rfl (And.intro rfl (And.intro rfl (And.intro rfl trivial))))
        exact s_Md_version_21 (s_Md_version_39) _ _ _ _ _ hw
/-! TModel.baseOf -/
theorem dMd_baseOf_0 : decode (mB Md_baseOf) 0 = .ok (.aload_n 0, 1) := by decide +kernel
theorem dMd_baseOf_1 : decode (mB Md_baseOf) 1 = .ok (.getfield 80, 3) := by decide +kernel
theorem dMd_baseOf_4 : decode (mB Md_baseOf) 4 = .ok (.iload_n 1, 1) := by decide +kernel
theorem dMd_baseOf_5 : decode (mB Md_baseOf) 5 = .ok (.iaload, 1) := by decide +kernel
theorem dMd_baseOf_6 : decode (mB Md_baseOf) 6 = .ok (.iconst 1, 1) := by decide +kernel
theorem dMd_baseOf_7 : decode (mB Md_baseOf) 7 = .ok (.iload_n 1, 1) := by decide +kernel
theorem dMd_baseOf_8 : decode (mB Md_baseOf) 8 = .ok (.ishl, 1) := by decide +kernel
theorem dMd_baseOf_9 : decode (mB Md_baseOf) 9 = .ok (.ior, 1) := by decide +kernel
theorem dMd_baseOf_10 : decode (mB Md_baseOf) 10 = .ok (.aload_n 0, 1) := by decide +kernel
theorem dMd_baseOf_11 : decode (mB Md_baseOf) 11 = .ok (.getfield 80, 3) := by decide +kernel
theorem dMd_baseOf_14 : decode (mB Md_baseOf) 14 = .ok (.iload_n 2, 1) := by decide +kernel
theorem dMd_baseOf_15 : decode (mB Md_baseOf) 15 = .ok (.iaload, 1) := by decide +kernel
theorem dMd_baseOf_16 : decode (mB Md_baseOf) 16 = .ok (.iconst 1, 1) := by decide +kernel
theorem dMd_baseOf_17 : decode (mB Md_baseOf) 17 = .ok (.iload_n 2, 1) := by decide +kernel
theorem dMd_baseOf_18 : decode (mB Md_baseOf) 18 = .ok (.ishl, 1) := by decide +kernel
theorem dMd_baseOf_19 : decode (mB Md_baseOf) 19 = .ok (.ior, 1) := by decide +kernel
theorem dMd_baseOf_20 : decode (mB Md_baseOf) 20 = .ok (.iand, 1) := by decide +kernel
theorem dMd_baseOf_21 : decode (mB Md_baseOf) 21 = .ok (.istore_n 3, 1) := by decide +kernel
theorem dMd_baseOf_22 : decode (mB Md_baseOf) 22 = .ok (.iconst (-1), 1) := by decide +kernel
theorem dMd_baseOf_23 : decode (mB Md_baseOf) 23 = .ok (.istore 4, 2) := by decide +kernel
theorem dMd_baseOf_25 : decode (mB Md_baseOf) 25 = .ok (.iconst 0, 1) := by decide +kernel
theorem dMd_baseOf_26 : decode (mB Md_baseOf) 26 = .ok (.istore 5, 2) := by decide +kernel
theorem dMd_baseOf_28 : decode (mB Md_baseOf) 28 = .ok (.iload 5, 2) := by decide +kernel
theorem dMd_baseOf_30 : decode (mB Md_baseOf) 30 = .ok (.aload_n 0, 1) := by decide +kernel
theorem dMd_baseOf_31 : decode (mB Md_baseOf) 31 = .ok (.getfield 419, 3) := by decide +kernel
theorem dMd_baseOf_34 : decode (mB Md_baseOf) 34 = .ok (.if_icmp .ge 28, 3) := by decide +kernel
theorem dMd_baseOf_37 : decode (mB Md_baseOf) 37 = .ok (.iload_n 3, 1) := by decide +kernel
theorem dMd_baseOf_38 : decode (mB Md_baseOf) 38 = .ok (.iload 5, 2) := by decide +kernel
theorem dMd_baseOf_40 : decode (mB Md_baseOf) 40 = .ok (.ishr, 1) := by decide +kernel
theorem dMd_baseOf_41 : decode (mB Md_baseOf) 41 = .ok (.iconst 1, 1) := by decide +kernel
theorem dMd_baseOf_42 : decode (mB Md_baseOf) 42 = .ok (.iand, 1) := by decide +kernel
theorem dMd_baseOf_43 : decode (mB Md_baseOf) 43 = .ok (.iconst 1, 1) := by decide +kernel
theorem dMd_baseOf_44 : decode (mB Md_baseOf) 44 = .ok (.if_icmp .ne 8, 3) := by decide +kernel
theorem dMd_baseOf_47 : decode (mB Md_baseOf) 47 = .ok (.iload 5, 2) := by decide +kernel
theorem dMd_baseOf_49 : decode (mB Md_baseOf) 49 = .ok (.goto 5, 3) := by decide +kernel
theorem dMd_baseOf_52 : decode (mB Md_baseOf) 52 = .ok (.iload 4, 2) := by decide +kernel
theorem dMd_baseOf_54 : decode (mB Md_baseOf) 54 = .ok (.istore 4, 2) := by decide +kernel
theorem dMd_baseOf_56 : decode (mB Md_baseOf) 56 = .ok (.iinc 5 1, 3) := by decide +kernel
theorem dMd_baseOf_59 : decode (mB Md_baseOf) 59 = .ok (.goto (-31), 3) := by decide +kernel
theorem dMd_baseOf_62 : decode (mB Md_baseOf) 62 = .ok (.iload 4, 2) := by decide +kernel
theorem dMd_baseOf_64 : decode (mB Md_baseOf) 64 = .ok (.ireturn, 1) := by decide +kernel
def b_Md_baseOf_28 (R : Int32 → tpH → Prop) (Y : Nat → Int32 → Int32 → Int32 → tpH → Prop) (o : Nat) (x3 : Int32) (x4 : Int32) (x5 : Int32) (h : tpH) : Prop :=
  hT h o = 14 ∧ (((hI h o 26) ≤ x5 → (R x4 h)) ∧ (¬ (hI h o 26) ≤ x5 → ((¬ ((x3 >>> (x5 &&& 31)) &&& (1 : Int32)) = (1 : Int32) → (Y o x3 x4 (x5 + (1 : Int32)) h)) ∧ (((x3 >>> (x5 &&& 31)) &&& (1 : Int32)) = (1 : Int32) → (Y o x3 x5 (x5 + (1 : Int32)) h)))))
def w_Md_baseOf_28 (R : Int32 → tpH → Prop) : Nat → Nat → Int32 → Int32 → Int32 → tpH → Prop
  | 0 => fun _ _ _ _ _ => False
  | n + 1 => b_Md_baseOf_28 R (w_Md_baseOf_28 R n)
def w_Md_baseOf (o : Nat) (x1 : Int32) (x2 : Int32) (h : tpH) (R : Int32 → tpH → Prop) : Prop :=
  hT h o = 14 ∧ (∃ a2, (hR h o 30) = some a2 ∧ hT h a2 = 15 ∧ (vp_in x1 (hL h a2) ∧ (vp_in x2 (hL h a2) ∧ (∃ n, w_Md_baseOf_28 R n o (((hI h a2 x1.toNatClampNeg) ||| ((1 : Int32) <<< (x1 &&& 31))) &&& ((hI h a2 x2.toNatClampNeg) ||| ((1 : Int32) <<< (x2 &&& 31)))) (-1 : Int32) (0 : Int32) h))))
theorem s_Md_baseOf_28 {h0 : tpH} {av : List tpV} {R : Int32 → tpH → Prop} : ∀ (n : Nat) (o : Nat) (x3 : Int32) (x4 : Int32) (x5 : Int32) (h : tpH), w_Md_baseOf_28 R n o x3 x4 x5 h → tpR Md_baseOf 0 h0 av (tpOi R (fun _ _ => False)) 28 [some (vR (some o)), none, none, some (vI x3), some (vI x4), some (vI x5)] [] h := by
  intro n
  induction n with
  | zero => intro o x3 x4 x5 h hw; exact False.elim hw
  | succ n ih =>
    intro o x3 x4 x5 h hw
    change b_Md_baseOf_28 R (w_Md_baseOf_28 R n) o x3 x4 x5 h at hw
    unfold b_Md_baseOf_28 at hw
    refine tq_iload dMd_baseOf_28 rfl ?_
    refine tq_aload_n dMd_baseOf_30 rfl rfl ?_
    obtain ⟨f1, hw⟩ := hw
    refine te_geti dMd_baseOf_31 fMd_419 rfl rfl f1 ?_
    refine tq_icmpge (tgt := 62) dMd_baseOf_34 (by decide) (fun c2 => ?_) (fun c2 => ?_)
    · have hw := hw.1 c2
      refine tq_iload dMd_baseOf_62 rfl ?_
      exact tq_iret rfl rfl dMd_baseOf_64 hw
    · have hw := hw.2 c2
      refine tq_iload_n dMd_baseOf_37 rfl rfl ?_
      refine tq_iload dMd_baseOf_38 rfl ?_
      refine tq_ishr dMd_baseOf_40 ?_
      refine tq_iconst (v := (1 : Int32)) dMd_baseOf_41 tni_1 ?_
      refine tq_iand dMd_baseOf_42 ?_
      refine tq_iconst (v := (1 : Int32)) dMd_baseOf_43 tni_1 ?_
      refine tq_icmpne (tgt := 52) dMd_baseOf_44 (by decide) (fun c3 => ?_) (fun c3 => ?_)
      · have hw := hw.1 c3
        refine tq_iload dMd_baseOf_52 rfl ?_
        refine tq_istore (ls' := [some (vR (some o)), none, none, some (vI x3), some (vI x4), some (vI x5)]) dMd_baseOf_54 (Nat.le_of_ble_eq_true rfl) rfl ?_
        refine tq_inc (k := (1 : Int32)) (ls' := [some (vR (some o)), none, none, some (vI x3), some (vI x4), some (vI (x5 + (1 : Int32)))]) dMd_baseOf_56 rfl tni_1 (Nat.le_of_ble_eq_true rfl) rfl ?_
        refine tq_goto (tgt := 28) dMd_baseOf_59 (by decide) ?_
        refine tpR.fo (ls' := [some (vR (some o)), none, none, some (vI x3), some (vI x4), some (vI (x5 + (1 : Int32)))]) ?_ (And.intro rfl (And.intro rfl (And.intro rfl (And.intro rfl trivial))))
        exact ih _ _ _ _ _ hw
      · have hw := hw.2 c3
        refine tq_iload dMd_baseOf_47 rfl ?_
        refine tq_goto (tgt := 54) dMd_baseOf_49 (by decide) ?_
        refine tq_istore (ls' := [some (vR (some o)), none, none, some (vI x3), some (vI x5), some (vI x5)]) dMd_baseOf_54 (Nat.le_of_ble_eq_true rfl) rfl ?_
        refine tq_inc (k := (1 : Int32)) (ls' := [some (vR (some o)), none, none, some (vI x3), some (vI x5), some (vI (x5 + (1 : Int32)))]) dMd_baseOf_56 rfl tni_1 (Nat.le_of_ble_eq_true rfl) rfl ?_
        refine tq_goto (tgt := 28) dMd_baseOf_59 (by decide) ?_
        refine tpR.fo (ls' := [some (vR (some o)), none, none, some (vI x3), some (vI x5), some (vI (x5 + (1 : Int32)))]) ?_ (And.intro rfl (And.intro rfl (And.intro rfl (And.intro rfl trivial))))
        exact ih _ _ _ _ _ hw
theorem s_Md_baseOf {o : Nat} {x1 : Int32} {x2 : Int32} {h : tpH} {R : Int32 → tpH → Prop} (hw : w_Md_baseOf o x1 x2 h R) : tpC Md_baseOf 0 [vR (some o), vI x1, vI x2] h (tpOi R (fun _ _ => False)) := by
  refine tpC_of mv_Md_baseOf.2.2.2.1 rfl rfl (Nat.le_of_ble_eq_true rfl) ?_
  show tpR Md_baseOf 0 h _ _ 0 [some (vR (some o)), some (vI x1), some (vI x2), none, none, none] [] h
  unfold w_Md_baseOf at hw
  refine tq_aload_n dMd_baseOf_0 rfl rfl ?_
  obtain ⟨f1, hw⟩ := hw
  refine te_getr dMd_baseOf_1 fMd_80 rfl rfl f1 ?_
  refine tq_iload_n dMd_baseOf_4 rfl rfl ?_
  obtain ⟨a2, e3, f4, hw⟩ := hw
  obtain ⟨f5, hw⟩ := hw
  refine te_iald dMd_baseOf_5 e3 (Or.inl f4) f5 ?_
  refine tq_iconst (v := (1 : Int32)) dMd_baseOf_6 tni_1 ?_
  refine tq_iload_n dMd_baseOf_7 rfl rfl ?_
  refine tq_ishl dMd_baseOf_8 ?_
  refine tq_ior dMd_baseOf_9 ?_
  refine tq_aload_n dMd_baseOf_10 rfl rfl ?_
  refine te_getr dMd_baseOf_11 fMd_80 rfl rfl f1 ?_
  refine tq_iload_n dMd_baseOf_14 rfl rfl ?_
  obtain ⟨f6, hw⟩ := hw
  refine te_iald dMd_baseOf_15 e3 (Or.inl f4) f6 ?_
  refine tq_iconst (v := (1 : Int32)) dMd_baseOf_16 tni_1 ?_
  refine tq_iload_n dMd_baseOf_17 rfl rfl ?_
  refine tq_ishl dMd_baseOf_18 ?_
  refine tq_ior dMd_baseOf_19 ?_
  refine tq_iand dMd_baseOf_20 ?_
  refine tq_istore_n (ls' := [some (vR (some o)), some (vI x1), some (vI x2), some (vI (((hI h a2 x1.toNatClampNeg) ||| ((1 : Int32) <<< (x1 &&& 31))) &&& ((hI h a2 x2.toNatClampNeg) ||| ((1 : Int32) <<< (x2 &&& 31))))), none, none]) dMd_baseOf_21 rfl (Nat.le_of_ble_eq_true rfl) rfl ?_
  refine tq_iconst (v := (-1 : Int32)) dMd_baseOf_22 tni_m1 ?_
  refine tq_istore (ls' := [some (vR (some o)), some (vI x1), some (vI x2), some (vI (((hI h a2 x1.toNatClampNeg) ||| ((1 : Int32) <<< (x1 &&& 31))) &&& ((hI h a2 x2.toNatClampNeg) ||| ((1 : Int32) <<< (x2 &&& 31))))), some (vI (-1 : Int32)), none]) dMd_baseOf_23 (Nat.le_of_ble_eq_true rfl) rfl ?_
  refine tq_iconst (v := (0 : Int32)) dMd_baseOf_25 tni_0 ?_
  refine tq_istore (ls' := [some (vR (some o)), some (vI x1), some (vI x2), some (vI (((hI h a2 x1.toNatClampNeg) ||| ((1 : Int32) <<< (x1 &&& 31))) &&& ((hI h a2 x2.toNatClampNeg) ||| ((1 : Int32) <<< (x2 &&& 31))))), some (vI (-1 : Int32)), some (vI (0 : Int32))]) dMd_baseOf_26 (Nat.le_of_ble_eq_true rfl) rfl ?_
  refine tpR.fo (ls' := [some (vR (some o)), none, none, some (vI (((hI h a2 x1.toNatClampNeg) ||| ((1 : Int32) <<< (x1 &&& 31))) &&& ((hI h a2 x2.toNatClampNeg) ||| ((1 : Int32) <<< (x2 &&& 31))))), some (vI (-1 : Int32)), some (vI (0 : Int32))]) ?_ (And.intro rfl (And.intro rfl (And.intro rfl (And.intro rfl trivial))))
  obtain ⟨n, hw⟩ := hw
  exact s_Md_baseOf_28 n _ _ _ _ _ hw
/-! TModel.canMerge -/
theorem dMd_canMerge_0 : decode (mB Md_canMerge) 0 = .ok (.aload_n 0, 1) := by decide +kernel
theorem dMd_canMerge_1 : decode (mB Md_canMerge) 1 = .ok (.iload_n 1, 1) := by decide +kernel
theorem dMd_canMerge_2 : decode (mB Md_canMerge) 2 = .ok (.iload_n 2, 1) := by decide +kernel
theorem dMd_canMerge_3 : decode (mB Md_canMerge) 3 = .ok (.iload_n 3, 1) := by decide +kernel
theorem dMd_canMerge_4 : decode (mB Md_canMerge) 4 = .ok (.invokevirtual 413, 3) := by decide +kernel
theorem dMd_canMerge_7 : decode (mB Md_canMerge) 7 = .ok (.ifCond .eq 25, 3) := by decide +kernel
theorem dMd_canMerge_10 : decode (mB Md_canMerge) 10 = .ok (.aload_n 0, 1) := by decide +kernel
theorem dMd_canMerge_11 : decode (mB Md_canMerge) 11 = .ok (.getfield 155, 3) := by decide +kernel
theorem dMd_canMerge_14 : decode (mB Md_canMerge) 14 = .ok (.bipush 40, 2) := by decide +kernel
theorem dMd_canMerge_16 : decode (mB Md_canMerge) 16 = .ok (.if_icmp .ge 16, 3) := by decide +kernel
theorem dMd_canMerge_19 : decode (mB Md_canMerge) 19 = .ok (.aload_n 0, 1) := by decide +kernel
theorem dMd_canMerge_20 : decode (mB Md_canMerge) 20 = .ok (.getfield 419, 3) := by decide +kernel
theorem dMd_canMerge_23 : decode (mB Md_canMerge) 23 = .ok (.bipush 30, 2) := by decide +kernel
theorem dMd_canMerge_25 : decode (mB Md_canMerge) 25 = .ok (.if_icmp .ge 7, 3) := by decide +kernel
theorem dMd_canMerge_28 : decode (mB Md_canMerge) 28 = .ok (.iconst 1, 1) := by decide +kernel
theorem dMd_canMerge_29 : decode (mB Md_canMerge) 29 = .ok (.goto 4, 3) := by decide +kernel
theorem dMd_canMerge_32 : decode (mB Md_canMerge) 32 = .ok (.iconst 0, 1) := by decide +kernel
theorem dMd_canMerge_33 : decode (mB Md_canMerge) 33 = .ok (.ireturn, 1) := by decide +kernel
def w_Md_canMerge (o : Nat) (x1 : Int32) (x2 : Int32) (x3 : Int32) (h : tpH) (R : Int32 → tpH → Prop) : Prop :=
  hT h o = 14 ∧ (w_Md_areRootsSame o x1 x2 x3 h (fun v3 h2 => (v3 = 0 → (R (0 : Int32) h2)) ∧ (¬ v3 = 0 → (hT h2 o = 14 ∧ (((40 : Int32) ≤ (hI h2 o 3) → (R (0 : Int32) h2)) ∧ (¬ (40 : Int32) ≤ (hI h2 o 3) → (((30 : Int32) ≤ (hI h2 o 26) → (R (0 : Int32) h2)) ∧ (¬ (30 : Int32) ≤ (hI h2 o 26) → (R (1 : Int32) h2)))))))))
theorem s_Md_canMerge {o : Nat} {x1 : Int32} {x2 : Int32} {x3 : Int32} {h : tpH} {R : Int32 → tpH → Prop} (hw : w_Md_canMerge o x1 x2 x3 h R) : tpC Md_canMerge 1 [vR (some o), vI x1, vI x2, vI x3] h (tpOi R (fun _ _ => False)) := by
  refine tpC_of mv_Md_canMerge.2.2.2.1 rfl rfl (Nat.le_of_ble_eq_true rfl) ?_
  show tpR Md_canMerge 1 h _ _ 0 [some (vR (some o)), some (vI x1), some (vI x2), some (vI x3)] [] h
  unfold w_Md_canMerge at hw
  refine tq_aload_n dMd_canMerge_0 rfl rfl ?_
  refine tq_iload_n dMd_canMerge_1 rfl rfl ?_
  refine tq_iload_n dMd_canMerge_2 rfl rfl ?_
  refine tq_iload_n dMd_canMerge_3 rfl rfl ?_
  obtain ⟨f1, hw⟩ := hw
  refine te_callV mv_Md_areRootsSame (ci := 13) (dc := 0) (as := [vI x1, vI x2, vI x3]) (rest := []) kMd_413 rfl (Nat.le_of_ble_eq_true rfl) (Nat.le_of_ble_eq_true rfl) rfl rfl rfl f1 (Nat.le_of_ble_eq_true rfl) dMd_canMerge_4 (s_Md_areRootsSame hw) (fun _ _ hx => False.elim hx) (tk_i fun v3 h2 hw => ?_)
  refine tq_ifeq (tgt := 32) dMd_canMerge_7 (by decide) (fun c4 => ?_) (fun c4 => ?_)
  · have hw := hw.1 c4
    refine tq_iconst (v := (0 : Int32)) dMd_canMerge_32 tni_0 ?_
    exact tq_iret rfl (by decide) dMd_canMerge_33 hw
  · have hw := hw.2 c4
    refine tq_aload_n dMd_canMerge_10 rfl rfl ?_
    obtain ⟨f5, hw⟩ := hw
    refine te_geti dMd_canMerge_11 fMd_155 rfl rfl f5 ?_
    refine tq_bipush (v := (40 : Int32)) dMd_canMerge_14 tnb_40 ?_
    refine tq_icmpge (tgt := 32) dMd_canMerge_16 (by decide) (fun c6 => ?_) (fun c6 => ?_)
    · have hw := hw.1 c6
      refine tq_iconst (v := (0 : Int32)) dMd_canMerge_32 tni_0 ?_
      exact tq_iret rfl (by decide) dMd_canMerge_33 hw
    · have hw := hw.2 c6
      refine tq_aload_n dMd_canMerge_19 rfl rfl ?_
      refine te_geti dMd_canMerge_20 fMd_419 rfl rfl f5 ?_
      refine tq_bipush (v := (30 : Int32)) dMd_canMerge_23 tnb_30 ?_
      refine tq_icmpge (tgt := 32) dMd_canMerge_25 (by decide) (fun c7 => ?_) (fun c7 => ?_)
      · have hw := hw.1 c7
        refine tq_iconst (v := (0 : Int32)) dMd_canMerge_32 tni_0 ?_
        exact tq_iret rfl (by decide) dMd_canMerge_33 hw
      · have hw := hw.2 c7
        refine tq_iconst (v := (1 : Int32)) dMd_canMerge_28 tni_1 ?_
        refine tq_goto (tgt := 33) dMd_canMerge_29 (by decide) ?_
        exact tq_iret rfl (by decide) dMd_canMerge_33 hw
/-! TModel.mergeVersions -/
theorem dMd_mergeVersions_0 : decode (mB Md_mergeVersions) 0 = .ok (.aload_n 0, 1) := by decide +kernel
theorem dMd_mergeVersions_1 : decode (mB Md_mergeVersions) 1 = .ok (.aload_n 0, 1) := by decide +kernel
theorem dMd_mergeVersions_2 : decode (mB Md_mergeVersions) 2 = .ok (.iload_n 1, 1) := by decide +kernel
theorem dMd_mergeVersions_3 : decode (mB Md_mergeVersions) 3 = .ok (.invokevirtual 422, 3) := by decide +kernel
theorem dMd_mergeVersions_6 : decode (mB Md_mergeVersions) 6 = .ok (.ifCond .eq 11, 3) := by decide +kernel
theorem dMd_mergeVersions_9 : decode (mB Md_mergeVersions) 9 = .ok (.aload_n 0, 1) := by decide +kernel
theorem dMd_mergeVersions_10 : decode (mB Md_mergeVersions) 10 = .ok (.iload_n 2, 1) := by decide +kernel
theorem dMd_mergeVersions_11 : decode (mB Md_mergeVersions) 11 = .ok (.invokevirtual 422, 3) := by decide +kernel
theorem dMd_mergeVersions_14 : decode (mB Md_mergeVersions) 14 = .ok (.ifCond .ne 7, 3) := by decide +kernel
theorem dMd_mergeVersions_17 : decode (mB Md_mergeVersions) 17 = .ok (.iconst 1, 1) := by decide +kernel
theorem dMd_mergeVersions_18 : decode (mB Md_mergeVersions) 18 = .ok (.goto 13, 3) := by decide +kernel
theorem dMd_mergeVersions_21 : decode (mB Md_mergeVersions) 21 = .ok (.iload_n 1, 1) := by decide +kernel
theorem dMd_mergeVersions_22 : decode (mB Md_mergeVersions) 22 = .ok (.iload_n 2, 1) := by decide +kernel
theorem dMd_mergeVersions_23 : decode (mB Md_mergeVersions) 23 = .ok (.if_icmp .ne 7, 3) := by decide +kernel
theorem dMd_mergeVersions_26 : decode (mB Md_mergeVersions) 26 = .ok (.iconst 2, 1) := by decide +kernel
theorem dMd_mergeVersions_27 : decode (mB Md_mergeVersions) 27 = .ok (.goto 4, 3) := by decide +kernel
theorem dMd_mergeVersions_30 : decode (mB Md_mergeVersions) 30 = .ok (.iconst 0, 1) := by decide +kernel
theorem dMd_mergeVersions_31 : decode (mB Md_mergeVersions) 31 = .ok (.putfield 151, 3) := by decide +kernel
theorem dMd_mergeVersions_34 : decode (mB Md_mergeVersions) 34 = .ok (.aload_n 0, 1) := by decide +kernel
theorem dMd_mergeVersions_35 : decode (mB Md_mergeVersions) 35 = .ok (.getfield 151, 3) := by decide +kernel
theorem dMd_mergeVersions_38 : decode (mB Md_mergeVersions) 38 = .ok (.ifCond .le 5, 3) := by decide +kernel
theorem dMd_mergeVersions_41 : decode (mB Md_mergeVersions) 41 = .ok (.iconst 0, 1) := by decide +kernel
theorem dMd_mergeVersions_42 : decode (mB Md_mergeVersions) 42 = .ok (.ireturn, 1) := by decide +kernel
theorem dMd_mergeVersions_43 : decode (mB Md_mergeVersions) 43 = .ok (.aload_n 0, 1) := by decide +kernel
theorem dMd_mergeVersions_44 : decode (mB Md_mergeVersions) 44 = .ok (.iload_n 1, 1) := by decide +kernel
theorem dMd_mergeVersions_45 : decode (mB Md_mergeVersions) 45 = .ok (.iload_n 2, 1) := by decide +kernel
theorem dMd_mergeVersions_46 : decode (mB Md_mergeVersions) 46 = .ok (.invokevirtual 428, 3) := by decide +kernel
theorem dMd_mergeVersions_49 : decode (mB Md_mergeVersions) 49 = .ok (.istore_n 3, 1) := by decide +kernel
theorem dMd_mergeVersions_50 : decode (mB Md_mergeVersions) 50 = .ok (.aload_n 0, 1) := by decide +kernel
theorem dMd_mergeVersions_51 : decode (mB Md_mergeVersions) 51 = .ok (.iload_n 3, 1) := by decide +kernel
theorem dMd_mergeVersions_52 : decode (mB Md_mergeVersions) 52 = .ok (.iconst (-1), 1) := by decide +kernel
theorem dMd_mergeVersions_53 : decode (mB Md_mergeVersions) 53 = .ok (.if_icmp .eq 32, 3) := by decide +kernel
theorem dMd_mergeVersions_56 : decode (mB Md_mergeVersions) 56 = .ok (.aload_n 0, 1) := by decide +kernel
theorem dMd_mergeVersions_57 : decode (mB Md_mergeVersions) 57 = .ok (.aload_n 0, 1) := by decide +kernel
theorem dMd_mergeVersions_58 : decode (mB Md_mergeVersions) 58 = .ok (.getfield 71, 3) := by decide +kernel
theorem dMd_mergeVersions_61 : decode (mB Md_mergeVersions) 61 = .ok (.iload_n 3, 1) := by decide +kernel
theorem dMd_mergeVersions_62 : decode (mB Md_mergeVersions) 62 = .ok (.iaload, 1) := by decide +kernel
theorem dMd_mergeVersions_63 : decode (mB Md_mergeVersions) 63 = .ok (.aload_n 0, 1) := by decide +kernel
theorem dMd_mergeVersions_64 : decode (mB Md_mergeVersions) 64 = .ok (.getfield 71, 3) := by decide +kernel
theorem dMd_mergeVersions_67 : decode (mB Md_mergeVersions) 67 = .ok (.iload_n 1, 1) := by decide +kernel
theorem dMd_mergeVersions_68 : decode (mB Md_mergeVersions) 68 = .ok (.iaload, 1) := by decide +kernel
theorem dMd_mergeVersions_69 : decode (mB Md_mergeVersions) 69 = .ok (.aload_n 0, 1) := by decide +kernel
theorem dMd_mergeVersions_70 : decode (mB Md_mergeVersions) 70 = .ok (.getfield 71, 3) := by decide +kernel
theorem dMd_mergeVersions_73 : decode (mB Md_mergeVersions) 73 = .ok (.iload_n 2, 1) := by decide +kernel
theorem dMd_mergeVersions_74 : decode (mB Md_mergeVersions) 74 = .ok (.iaload, 1) := by decide +kernel
theorem dMd_mergeVersions_75 : decode (mB Md_mergeVersions) 75 = .ok (.invokevirtual 431, 3) := by decide +kernel
theorem dMd_mergeVersions_78 : decode (mB Md_mergeVersions) 78 = .ok (.ifCond .eq 7, 3) := by decide +kernel
theorem dMd_mergeVersions_81 : decode (mB Md_mergeVersions) 81 = .ok (.iconst 0, 1) := by decide +kernel
theorem dMd_mergeVersions_82 : decode (mB Md_mergeVersions) 82 = .ok (.goto 4, 3) := by decide +kernel
theorem dMd_mergeVersions_85 : decode (mB Md_mergeVersions) 85 = .ok (.iconst 3, 1) := by decide +kernel
theorem dMd_mergeVersions_86 : decode (mB Md_mergeVersions) 86 = .ok (.putfield 151, 3) := by decide +kernel
theorem dMd_mergeVersions_89 : decode (mB Md_mergeVersions) 89 = .ok (.aload_n 0, 1) := by decide +kernel
theorem dMd_mergeVersions_90 : decode (mB Md_mergeVersions) 90 = .ok (.getfield 151, 3) := by decide +kernel
theorem dMd_mergeVersions_93 : decode (mB Md_mergeVersions) 93 = .ok (.ifCond .le 7, 3) := by decide +kernel
theorem dMd_mergeVersions_96 : decode (mB Md_mergeVersions) 96 = .ok (.iconst 0, 1) := by decide +kernel
theorem dMd_mergeVersions_97 : decode (mB Md_mergeVersions) 97 = .ok (.goto 31, 3) := by decide +kernel
theorem dMd_mergeVersions_100 : decode (mB Md_mergeVersions) 100 = .ok (.aload_n 0, 1) := by decide +kernel
theorem dMd_mergeVersions_101 : decode (mB Md_mergeVersions) 101 = .ok (.aload_n 0, 1) := by decide +kernel
theorem dMd_mergeVersions_102 : decode (mB Md_mergeVersions) 102 = .ok (.aload_n 0, 1) := by decide +kernel
theorem dMd_mergeVersions_103 : decode (mB Md_mergeVersions) 103 = .ok (.getfield 71, 3) := by decide +kernel
theorem dMd_mergeVersions_106 : decode (mB Md_mergeVersions) 106 = .ok (.iload_n 3, 1) := by decide +kernel
theorem dMd_mergeVersions_107 : decode (mB Md_mergeVersions) 107 = .ok (.iaload, 1) := by decide +kernel
theorem dMd_mergeVersions_108 : decode (mB Md_mergeVersions) 108 = .ok (.aload_n 0, 1) := by decide +kernel
theorem dMd_mergeVersions_109 : decode (mB Md_mergeVersions) 109 = .ok (.getfield 71, 3) := by decide +kernel
theorem dMd_mergeVersions_112 : decode (mB Md_mergeVersions) 112 = .ok (.iload_n 1, 1) := by decide +kernel
theorem dMd_mergeVersions_113 : decode (mB Md_mergeVersions) 113 = .ok (.iaload, 1) := by decide +kernel
theorem dMd_mergeVersions_114 : decode (mB Md_mergeVersions) 114 = .ok (.aload_n 0, 1) := by decide +kernel
theorem dMd_mergeVersions_115 : decode (mB Md_mergeVersions) 115 = .ok (.getfield 71, 3) := by decide +kernel
theorem dMd_mergeVersions_118 : decode (mB Md_mergeVersions) 118 = .ok (.iload_n 2, 1) := by decide +kernel
theorem dMd_mergeVersions_119 : decode (mB Md_mergeVersions) 119 = .ok (.iaload, 1) := by decide +kernel
theorem dMd_mergeVersions_120 : decode (mB Md_mergeVersions) 120 = .ok (.invokevirtual 416, 3) := by decide +kernel
theorem dMd_mergeVersions_123 : decode (mB Md_mergeVersions) 123 = .ok (.iload_n 1, 1) := by decide +kernel
theorem dMd_mergeVersions_124 : decode (mB Md_mergeVersions) 124 = .ok (.iload_n 2, 1) := by decide +kernel
theorem dMd_mergeVersions_125 : decode (mB Md_mergeVersions) 125 = .ok (.invokevirtual 425, 3) := by decide +kernel
theorem dMd_mergeVersions_128 : decode (mB Md_mergeVersions) 128 = .ok (.ireturn, 1) := by decide +kernel
def w_Md_mergeVersions_86 (R : Int32 → tpH → Prop) (o : Nat) (x1 : Int32) (x2 : Int32) (x3 : Int32) (t0 : Int32) (t1 : Option Nat) (h : tpH) : Prop :=
  ∃ a1, t1 = some a1 ∧ hT h a1 = 14 ∧ (∀ h4, h4 = sI h a1 31 t0 → (hT h4 o = 14 ∧ (((hI h4 o 31) ≤ 0 → (∃ a8, (hR h4 o 27) = some a8 ∧ hT h4 a8 = 15 ∧ (vp_in x3 (hL h4 a8) ∧ (vp_in x1 (hL h4 a8) ∧ (vp_in x2 (hL h4 a8) ∧ (w_Md_merged o (hI h4 a8 x3.toNatClampNeg) (hI h4 a8 x1.toNatClampNeg) (hI h4 a8 x2.toNatClampNeg) h4 (fun v15 h14 => hT h14 o = 14 ∧ (w_Md_newVersion o v15 x1 x2 h14 (fun v18 h17 => R v18 h17))))))))) ∧ (¬ (hI h4 o 31) ≤ 0 → (R (0 : Int32) h4)))))
def w_Md_mergeVersions_31 (R : Int32 → tpH → Prop) (o : Nat) (x1 : Int32) (x2 : Int32) (t0 : Int32) (t1 : Option Nat) (h : tpH) : Prop :=
  ∃ a1, t1 = some a1 ∧ hT h a1 = 14 ∧ (∀ h4, h4 = sI h a1 31 t0 → (hT h4 o = 14 ∧ (((hI h4 o 31) ≤ 0 → (w_Md_baseOf o x1 x2 h4 (fun v9 h8 => (v9 = (-1 : Int32) → (w_Md_mergeVersions_86 R o x1 x2 v9 (3 : Int32) (some o) h8)) ∧ (¬ v9 = (-1 : Int32) → (hT h8 o = 14 ∧ (∃ a12, (hR h8 o 27) = some a12 ∧ hT h8 a12 = 15 ∧ (vp_in v9 (hL h8 a12) ∧ (vp_in x1 (hL h8 a12) ∧ (vp_in x2 (hL h8 a12) ∧ (w_Md_canMerge o (hI h8 a12 v9.toNatClampNeg) (hI h8 a12 x1.toNatClampNeg) (hI h8 a12 x2.toNatClampNeg) h8 (fun v19 h18 => (v19 = 0 → (w_Md_mergeVersions_86 R o x1 x2 v9 (3 : Int32) (some o) h18)) ∧ (¬ v19 = 0 → (w_Md_mergeVersions_86 R o x1 x2 v9 (0 : Int32) (some o) h18))))))))))))) ∧ (¬ (hI h4 o 31) ≤ 0 → (R (0 : Int32) h4)))))
def w_Md_mergeVersions (o : Nat) (x1 : Int32) (x2 : Int32) (h : tpH) (R : Int32 → tpH → Prop) : Prop :=
  hT h o = 14 ∧ (w_Md_isVersion o x1 h (fun v3 h2 => (v3 = 0 → (w_Md_mergeVersions_31 R o x1 x2 (1 : Int32) (some o) h2)) ∧ (¬ v3 = 0 → (hT h2 o = 14 ∧ (w_Md_isVersion o x2 h2 (fun v7 h6 => (¬ v7 = 0 → ((¬ x1 = x2 → (w_Md_mergeVersions_31 R o x1 x2 (0 : Int32) (some o) h6)) ∧ (x1 = x2 → (w_Md_mergeVersions_31 R o x1 x2 (2 : Int32) (some o) h6)))) ∧ (v7 = 0 → (w_Md_mergeVersions_31 R o x1 x2 (1 : Int32) (some o) h6))))))))
theorem s_Md_mergeVersions_86 {h0 : tpH} {av : List tpV} {R : Int32 → tpH → Prop} : ∀ (o : Nat) (x1 : Int32) (x2 : Int32) (x3 : Int32) (t0 : Int32) (t1 : Option Nat) (h : tpH), w_Md_mergeVersions_86 R o x1 x2 x3 t0 t1 h → tpR Md_mergeVersions 8 h0 av (tpOi R (fun _ _ => False)) 86 [some (vR (some o)), some (vI x1), some (vI x2), some (vI x3)] [vI t0, vR t1] h := by
  intro o x1 x2 x3 t0 t1 h hw
  unfold w_Md_mergeVersions_86 at hw
  obtain ⟨a1, e2, f3, hw⟩ := hw
  refine te_puti dMd_mergeVersions_86 pMd_151 rfl rfl e2 f3 ⟨rfl, rfl⟩ (fun h4 e5 => ?_)
  have hw := hw h4 e5
  refine tq_aload_n dMd_mergeVersions_89 rfl rfl ?_
  obtain ⟨f6, hw⟩ := hw
  refine te_geti dMd_mergeVersions_90 fMd_151 rfl rfl f6 ?_
  refine tq_ifle (tgt := 100) dMd_mergeVersions_93 (by decide) (fun c7 => ?_) (fun c7 => ?_)
  · have hw := hw.1 c7
    refine tq_aload_n dMd_mergeVersions_100 rfl rfl ?_
    refine tq_aload_n dMd_mergeVersions_101 rfl rfl ?_
    refine tq_aload_n dMd_mergeVersions_102 rfl rfl ?_
    refine te_getr dMd_mergeVersions_103 fMd_71 rfl rfl f6 ?_
    refine tq_iload_n dMd_mergeVersions_106 rfl rfl ?_
    obtain ⟨a8, e9, f10, hw⟩ := hw
    obtain ⟨f11, hw⟩ := hw
    refine te_iald dMd_mergeVersions_107 e9 (Or.inl f10) f11 ?_
    refine tq_aload_n dMd_mergeVersions_108 rfl rfl ?_
    refine te_getr dMd_mergeVersions_109 fMd_71 rfl rfl f6 ?_
    refine tq_iload_n dMd_mergeVersions_112 rfl rfl ?_
    obtain ⟨f12, hw⟩ := hw
    refine te_iald dMd_mergeVersions_113 e9 (Or.inl f10) f12 ?_
    refine tq_aload_n dMd_mergeVersions_114 rfl rfl ?_
    refine te_getr dMd_mergeVersions_115 fMd_71 rfl rfl f6 ?_
    refine tq_iload_n dMd_mergeVersions_118 rfl rfl ?_
    obtain ⟨f13, hw⟩ := hw
    refine te_iald dMd_mergeVersions_119 e9 (Or.inl f10) f13 ?_
    refine te_callV mv_Md_merged (ci := 13) (dc := 7) (as := [vI (hI h4 a8 x3.toNatClampNeg), vI (hI h4 a8 x1.toNatClampNeg), vI (hI h4 a8 x2.toNatClampNeg)]) (rest := [vR (some o)]) kMd_416 rfl (Nat.le_of_ble_eq_true rfl) (Nat.le_of_ble_eq_true rfl) rfl rfl rfl f6 (Nat.le_of_ble_eq_true rfl) dMd_mergeVersions_120 (s_Md_merged hw) (fun _ _ hx => False.elim hx) (tk_i fun v15 h14 hw => ?_)
    refine tq_iload_n dMd_mergeVersions_123 rfl rfl ?_
    refine tq_iload_n dMd_mergeVersions_124 rfl rfl ?_
    obtain ⟨f16, hw⟩ := hw
    refine te_callV mv_Md_newVersion (ci := 13) (dc := 0) (as := [vI v15, vI x1, vI x2]) (rest := []) kMd_425 rfl (Nat.le_of_ble_eq_true rfl) (Nat.le_of_ble_eq_true rfl) rfl rfl rfl f16 (Nat.le_of_ble_eq_true rfl) dMd_mergeVersions_125 (s_Md_newVersion hw) (fun _ _ hx => False.elim hx) (tk_i fun v18 h17 hw => ?_)
    exact tq_iret rfl rfl dMd_mergeVersions_128 hw
  · have hw := hw.2 c7
    refine tq_iconst (v := (0 : Int32)) dMd_mergeVersions_96 tni_0 ?_
    refine tq_goto (tgt := 128) dMd_mergeVersions_97 (by decide) ?_
    exact tq_iret rfl rfl dMd_mergeVersions_128 hw
theorem s_Md_mergeVersions_31 {h0 : tpH} {av : List tpV} {R : Int32 → tpH → Prop} : ∀ (o : Nat) (x1 : Int32) (x2 : Int32) (t0 : Int32) (t1 : Option Nat) (h : tpH), w_Md_mergeVersions_31 R o x1 x2 t0 t1 h → tpR Md_mergeVersions 8 h0 av (tpOi R (fun _ _ => False)) 31 [some (vR (some o)), some (vI x1), some (vI x2), none] [vI t0, vR t1] h := by
  intro o x1 x2 t0 t1 h hw
  unfold w_Md_mergeVersions_31 at hw
  obtain ⟨a1, e2, f3, hw⟩ := hw
  refine te_puti dMd_mergeVersions_31 pMd_151 rfl rfl e2 f3 ⟨rfl, rfl⟩ (fun h4 e5 => ?_)
  have hw := hw h4 e5
  refine tq_aload_n dMd_mergeVersions_34 rfl rfl ?_
  obtain ⟨f6, hw⟩ := hw
  refine te_geti dMd_mergeVersions_35 fMd_151 rfl rfl f6 ?_
  refine tq_ifle (tgt := 43) dMd_mergeVersions_38 (by decide) (fun c7 => ?_) (fun c7 => ?_)
  · have hw := hw.1 c7
    refine tq_aload_n dMd_mergeVersions_43 rfl rfl ?_
    refine tq_iload_n dMd_mergeVersions_44 rfl rfl ?_
    refine tq_iload_n dMd_mergeVersions_45 rfl rfl ?_
    refine te_callV mv_Md_baseOf (ci := 13) (dc := 0) (as := [vI x1, vI x2]) (rest := []) kMd_428 rfl (Nat.le_of_ble_eq_true rfl) (Nat.le_of_ble_eq_true rfl) rfl rfl rfl f6 (Nat.le_of_ble_eq_true rfl) dMd_mergeVersions_46 (s_Md_baseOf hw) (fun _ _ hx => False.elim hx) (tk_i fun v9 h8 hw => ?_)
    refine tq_istore_n (ls' := [some (vR (some o)), some (vI x1), some (vI x2), some (vI v9)]) dMd_mergeVersions_49 rfl (Nat.le_of_ble_eq_true rfl) rfl ?_
    refine tq_aload_n dMd_mergeVersions_50 rfl rfl ?_
    refine tq_iload_n dMd_mergeVersions_51 rfl rfl ?_
    refine tq_iconst (v := (-1 : Int32)) dMd_mergeVersions_52 tni_m1 ?_
    refine tq_icmpeq (tgt := 85) dMd_mergeVersions_53 (by decide) (fun c10 => ?_) (fun c10 => ?_)
    · have hw := hw.1 c10
      refine tq_iconst (v := (3 : Int32)) dMd_mergeVersions_85 tni_3 ?_
      refine tpR.fo (ls' := [some (vR (some o)), some (vI x1), some (vI x2), some (vI v9)]) ?_ (And.intro rfl (And.intro rfl (And.intro rfl (And.intro rfl trivial))))
      exact s_Md_mergeVersions_86 _ _ _ _ _ _ _ hw
    · have hw := hw.2 c10
      refine tq_aload_n dMd_mergeVersions_56 rfl rfl ?_
      refine tq_aload_n dMd_mergeVersions_57 rfl rfl ?_
      obtain ⟨f11, hw⟩ := hw
      refine te_getr dMd_mergeVersions_58 fMd_71 rfl rfl f11 ?_
      refine tq_iload_n dMd_mergeVersions_61 rfl rfl ?_
      obtain ⟨a12, e13, f14, hw⟩ := hw
      obtain ⟨f15, hw⟩ := hw
      refine te_iald dMd_mergeVersions_62 e13 (Or.inl f14) f15 ?_
      refine tq_aload_n dMd_mergeVersions_63 rfl rfl ?_
      refine te_getr dMd_mergeVersions_64 fMd_71 rfl rfl f11 ?_
      refine tq_iload_n dMd_mergeVersions_67 rfl rfl ?_
      obtain ⟨f16, hw⟩ := hw
      refine te_iald dMd_mergeVersions_68 e13 (Or.inl f14) f16 ?_
      refine tq_aload_n dMd_mergeVersions_69 rfl rfl ?_
      refine te_getr dMd_mergeVersions_70 fMd_71 rfl rfl f11 ?_
      refine tq_iload_n dMd_mergeVersions_73 rfl rfl ?_
      obtain ⟨f17, hw⟩ := hw
      refine te_iald dMd_mergeVersions_74 e13 (Or.inl f14) f17 ?_
      refine te_callV mv_Md_canMerge (ci := 13) (dc := 1) (as := [vI (hI h8 a12 v9.toNatClampNeg), vI (hI h8 a12 x1.toNatClampNeg), vI (hI h8 a12 x2.toNatClampNeg)]) (rest := [vR (some o)]) kMd_431 rfl (Nat.le_of_ble_eq_true rfl) (Nat.le_of_ble_eq_true rfl) rfl rfl rfl f11 (Nat.le_of_ble_eq_true rfl) dMd_mergeVersions_75 (s_Md_canMerge hw) (fun _ _ hx => False.elim hx) (tk_i fun v19 h18 hw => ?_)
      refine tq_ifeq (tgt := 85) dMd_mergeVersions_78 (by decide) (fun c20 => ?_) (fun c20 => ?_)
      · have hw := hw.1 c20
        refine tq_iconst (v := (3 : Int32)) dMd_mergeVersions_85 tni_3 ?_
        refine tpR.fo (ls' := [some (vR (some o)), some (vI x1), some (vI x2), some (vI v9)]) ?_ (And.intro rfl (And.intro rfl (And.intro rfl (And.intro rfl trivial))))
        exact s_Md_mergeVersions_86 _ _ _ _ _ _ _ hw
      · have hw := hw.2 c20
        refine tq_iconst (v := (0 : Int32)) dMd_mergeVersions_81 tni_0 ?_
        refine tq_goto (tgt := 86) dMd_mergeVersions_82 (by decide) ?_
        refine tpR.fo (ls' := [some (vR (some o)), some (vI x1), some (vI x2), some (vI v9)]) ?_ (And.intro rfl (And.intro rfl (And.intro rfl (And.intro rfl trivial))))
        exact s_Md_mergeVersions_86 _ _ _ _ _ _ _ hw
  · have hw := hw.2 c7
    refine tq_iconst (v := (0 : Int32)) dMd_mergeVersions_41 tni_0 ?_
    exact tq_iret rfl rfl dMd_mergeVersions_42 hw
theorem s_Md_mergeVersions {o : Nat} {x1 : Int32} {x2 : Int32} {h : tpH} {R : Int32 → tpH → Prop} (hw : w_Md_mergeVersions o x1 x2 h R) : tpC Md_mergeVersions 8 [vR (some o), vI x1, vI x2] h (tpOi R (fun _ _ => False)) := by
  refine tpC_of mv_Md_mergeVersions.2.2.2.1 rfl rfl (Nat.le_of_ble_eq_true rfl) ?_
  show tpR Md_mergeVersions 8 h _ _ 0 [some (vR (some o)), some (vI x1), some (vI x2), none] [] h
  unfold w_Md_mergeVersions at hw
  refine tq_aload_n dMd_mergeVersions_0 rfl rfl ?_
  refine tq_aload_n dMd_mergeVersions_1 rfl rfl ?_
  refine tq_iload_n dMd_mergeVersions_2 rfl rfl ?_
  obtain ⟨f1, hw⟩ := hw
  refine te_callV mv_Md_isVersion (ci := 13) (dc := 1) (as := [vI x1]) (rest := [vR (some o)]) kMd_422 rfl (Nat.le_of_ble_eq_true rfl) (Nat.le_of_ble_eq_true rfl) rfl rfl rfl f1 (Nat.le_of_ble_eq_true rfl) dMd_mergeVersions_3 (s_Md_isVersion hw) (fun _ _ hx => False.elim hx) (tk_i fun v3 h2 hw => ?_)
  refine tq_ifeq (tgt := 17) dMd_mergeVersions_6 (by decide) (fun c4 => ?_) (fun c4 => ?_)
  · have hw := hw.1 c4
    refine tq_iconst (v := (1 : Int32)) dMd_mergeVersions_17 tni_1 ?_
    refine tq_goto (tgt := 31) dMd_mergeVersions_18 (by decide) ?_
    refine tpR.fo (ls' := [some (vR (some o)), some (vI x1), some (vI x2), none]) ?_ (And.intro rfl (And.intro rfl (And.intro rfl trivial)))
    exact s_Md_mergeVersions_31 _ _ _ _ _ _ hw
  · have hw := hw.2 c4
    refine tq_aload_n dMd_mergeVersions_9 rfl rfl ?_
    refine tq_iload_n dMd_mergeVersions_10 rfl rfl ?_
    obtain ⟨f5, hw⟩ := hw
    refine te_callV mv_Md_isVersion (ci := 13) (dc := 1) (as := [vI x2]) (rest := [vR (some o)]) kMd_422 rfl (Nat.le_of_ble_eq_true rfl) (Nat.le_of_ble_eq_true rfl) rfl rfl rfl f5 (Nat.le_of_ble_eq_true rfl) dMd_mergeVersions_11 (s_Md_isVersion hw) (fun _ _ hx => False.elim hx) (tk_i fun v7 h6 hw => ?_)
    refine tq_ifne (tgt := 21) dMd_mergeVersions_14 (by decide) (fun c8 => ?_) (fun c8 => ?_)
    · have hw := hw.1 c8
      refine tq_iload_n dMd_mergeVersions_21 rfl rfl ?_
      refine tq_iload_n dMd_mergeVersions_22 rfl rfl ?_
      refine tq_icmpne (tgt := 30) dMd_mergeVersions_23 (by decide) (fun c9 => ?_) (fun c9 => ?_)
      · have hw := hw.1 c9
        refine tq_iconst (v := (0 : Int32)) dMd_mergeVersions_30 tni_0 ?_
        refine tpR.fo (ls' := [some (vR (some o)), some (vI x1), some (vI x2), none]) ?_ (And.intro rfl (And.intro rfl (And.intro rfl trivial)))
        exact s_Md_mergeVersions_31 _ _ _ _ _ _ hw
      · have hw := hw.2 c9
        refine tq_iconst (v := (2 : Int32)) dMd_mergeVersions_26 tni_2 ?_
        refine tq_goto (tgt := 31) dMd_mergeVersions_27 (by decide) ?_
        refine tpR.fo (ls' := [some (vR (some o)), some (vI x1), some (vI x2), none]) ?_ (And.intro rfl (And.intro rfl (And.intro rfl trivial)))
        exact s_Md_mergeVersions_31 _ _ _ _ _ _ hw
    · have hw := hw.2 c8
      refine tq_iconst (v := (1 : Int32)) dMd_mergeVersions_17 tni_1 ?_
      refine tq_goto (tgt := 31) dMd_mergeVersions_18 (by decide) ?_
      refine tpR.fo (ls' := [some (vR (some o)), some (vI x1), some (vI x2), none]) ?_ (And.intro rfl (And.intro rfl (And.intro rfl trivial)))
      exact s_Md_mergeVersions_31 _ _ _ _ _ _ hw
/-! TModel.takeBack -/
theorem dMd_takeBack_0 : decode (mB Md_takeBack) 0 = .ok (.aload_n 0, 1) := by decide +kernel
theorem dMd_takeBack_1 : decode (mB Md_takeBack) 1 = .ok (.aload_n 0, 1) := by decide +kernel
theorem dMd_takeBack_2 : decode (mB Md_takeBack) 2 = .ok (.iload_n 1, 1) := by decide +kernel
theorem dMd_takeBack_3 : decode (mB Md_takeBack) 3 = .ok (.invokevirtual 422, 3) := by decide +kernel
theorem dMd_takeBack_6 : decode (mB Md_takeBack) 6 = .ok (.ifCond .eq 15, 3) := by decide +kernel
theorem dMd_takeBack_9 : decode (mB Md_takeBack) 9 = .ok (.aload_n 0, 1) := by decide +kernel
theorem dMd_takeBack_10 : decode (mB Md_takeBack) 10 = .ok (.iload_n 2, 1) := by decide +kernel
theorem dMd_takeBack_11 : decode (mB Md_takeBack) 11 = .ok (.invokevirtual 422, 3) := by decide +kernel
theorem dMd_takeBack_14 : decode (mB Md_takeBack) 14 = .ok (.ifCond .eq 7, 3) := by decide +kernel
theorem dMd_takeBack_17 : decode (mB Md_takeBack) 17 = .ok (.iconst 0, 1) := by decide +kernel
theorem dMd_takeBack_18 : decode (mB Md_takeBack) 18 = .ok (.goto 4, 3) := by decide +kernel
theorem dMd_takeBack_21 : decode (mB Md_takeBack) 21 = .ok (.iconst 1, 1) := by decide +kernel
theorem dMd_takeBack_22 : decode (mB Md_takeBack) 22 = .ok (.putfield 151, 3) := by decide +kernel
theorem dMd_takeBack_25 : decode (mB Md_takeBack) 25 = .ok (.aload_n 0, 1) := by decide +kernel
theorem dMd_takeBack_26 : decode (mB Md_takeBack) 26 = .ok (.getfield 151, 3) := by decide +kernel
theorem dMd_takeBack_29 : decode (mB Md_takeBack) 29 = .ok (.ifCond .le 5, 3) := by decide +kernel
theorem dMd_takeBack_32 : decode (mB Md_takeBack) 32 = .ok (.iconst 0, 1) := by decide +kernel
theorem dMd_takeBack_33 : decode (mB Md_takeBack) 33 = .ok (.ireturn, 1) := by decide +kernel
theorem dMd_takeBack_34 : decode (mB Md_takeBack) 34 = .ok (.aload_n 0, 1) := by decide +kernel
theorem dMd_takeBack_35 : decode (mB Md_takeBack) 35 = .ok (.getfield 74, 3) := by decide +kernel
theorem dMd_takeBack_38 : decode (mB Md_takeBack) 38 = .ok (.iload_n 1, 1) := by decide +kernel
theorem dMd_takeBack_39 : decode (mB Md_takeBack) 39 = .ok (.iaload, 1) := by decide +kernel
theorem dMd_takeBack_40 : decode (mB Md_takeBack) 40 = .ok (.istore_n 3, 1) := by decide +kernel
theorem dMd_takeBack_41 : decode (mB Md_takeBack) 41 = .ok (.iload_n 3, 1) := by decide +kernel
theorem dMd_takeBack_42 : decode (mB Md_takeBack) 42 = .ok (.iconst (-1), 1) := by decide +kernel
theorem dMd_takeBack_43 : decode (mB Md_takeBack) 43 = .ok (.if_icmp .eq 46, 3) := by decide +kernel
theorem dMd_takeBack_46 : decode (mB Md_takeBack) 46 = .ok (.aload_n 0, 1) := by decide +kernel
theorem dMd_takeBack_47 : decode (mB Md_takeBack) 47 = .ok (.getfield 80, 3) := by decide +kernel
theorem dMd_takeBack_50 : decode (mB Md_takeBack) 50 = .ok (.iload_n 2, 1) := by decide +kernel
theorem dMd_takeBack_51 : decode (mB Md_takeBack) 51 = .ok (.iaload, 1) := by decide +kernel
theorem dMd_takeBack_52 : decode (mB Md_takeBack) 52 = .ok (.iload_n 1, 1) := by decide +kernel
theorem dMd_takeBack_53 : decode (mB Md_takeBack) 53 = .ok (.ishr, 1) := by decide +kernel
theorem dMd_takeBack_54 : decode (mB Md_takeBack) 54 = .ok (.iconst 1, 1) := by decide +kernel
theorem dMd_takeBack_55 : decode (mB Md_takeBack) 55 = .ok (.iand, 1) := by decide +kernel
theorem dMd_takeBack_56 : decode (mB Md_takeBack) 56 = .ok (.iconst 1, 1) := by decide +kernel
theorem dMd_takeBack_57 : decode (mB Md_takeBack) 57 = .ok (.if_icmp .ne 32, 3) := by decide +kernel
theorem dMd_takeBack_60 : decode (mB Md_takeBack) 60 = .ok (.aload_n 0, 1) := by decide +kernel
theorem dMd_takeBack_61 : decode (mB Md_takeBack) 61 = .ok (.aload_n 0, 1) := by decide +kernel
theorem dMd_takeBack_62 : decode (mB Md_takeBack) 62 = .ok (.getfield 71, 3) := by decide +kernel
theorem dMd_takeBack_65 : decode (mB Md_takeBack) 65 = .ok (.iload_n 1, 1) := by decide +kernel
theorem dMd_takeBack_66 : decode (mB Md_takeBack) 66 = .ok (.iaload, 1) := by decide +kernel
theorem dMd_takeBack_67 : decode (mB Md_takeBack) 67 = .ok (.aload_n 0, 1) := by decide +kernel
theorem dMd_takeBack_68 : decode (mB Md_takeBack) 68 = .ok (.getfield 71, 3) := by decide +kernel
theorem dMd_takeBack_71 : decode (mB Md_takeBack) 71 = .ok (.iload_n 2, 1) := by decide +kernel
theorem dMd_takeBack_72 : decode (mB Md_takeBack) 72 = .ok (.iaload, 1) := by decide +kernel
theorem dMd_takeBack_73 : decode (mB Md_takeBack) 73 = .ok (.aload_n 0, 1) := by decide +kernel
theorem dMd_takeBack_74 : decode (mB Md_takeBack) 74 = .ok (.getfield 71, 3) := by decide +kernel
theorem dMd_takeBack_77 : decode (mB Md_takeBack) 77 = .ok (.iload_n 3, 1) := by decide +kernel
theorem dMd_takeBack_78 : decode (mB Md_takeBack) 78 = .ok (.iaload, 1) := by decide +kernel
theorem dMd_takeBack_79 : decode (mB Md_takeBack) 79 = .ok (.invokevirtual 431, 3) := by decide +kernel
theorem dMd_takeBack_82 : decode (mB Md_takeBack) 82 = .ok (.ifCond .eq 7, 3) := by decide +kernel
theorem dMd_takeBack_85 : decode (mB Md_takeBack) 85 = .ok (.iconst 1, 1) := by decide +kernel
theorem dMd_takeBack_86 : decode (mB Md_takeBack) 86 = .ok (.goto 4, 3) := by decide +kernel
theorem dMd_takeBack_89 : decode (mB Md_takeBack) 89 = .ok (.iconst 0, 1) := by decide +kernel
theorem dMd_takeBack_90 : decode (mB Md_takeBack) 90 = .ok (.istore 4, 2) := by decide +kernel
theorem dMd_takeBack_92 : decode (mB Md_takeBack) 92 = .ok (.aload_n 0, 1) := by decide +kernel
theorem dMd_takeBack_93 : decode (mB Md_takeBack) 93 = .ok (.iload 4, 2) := by decide +kernel
theorem dMd_takeBack_95 : decode (mB Md_takeBack) 95 = .ok (.ifCond .eq 7, 3) := by decide +kernel
theorem dMd_takeBack_98 : decode (mB Md_takeBack) 98 = .ok (.iconst 0, 1) := by decide +kernel
theorem dMd_takeBack_99 : decode (mB Md_takeBack) 99 = .ok (.goto 4, 3) := by decide +kernel
theorem dMd_takeBack_102 : decode (mB Md_takeBack) 102 = .ok (.iconst 2, 1) := by decide +kernel
theorem dMd_takeBack_103 : decode (mB Md_takeBack) 103 = .ok (.putfield 151, 3) := by decide +kernel
theorem dMd_takeBack_106 : decode (mB Md_takeBack) 106 = .ok (.aload_n 0, 1) := by decide +kernel
theorem dMd_takeBack_107 : decode (mB Md_takeBack) 107 = .ok (.getfield 151, 3) := by decide +kernel
theorem dMd_takeBack_110 : decode (mB Md_takeBack) 110 = .ok (.ifCond .le 7, 3) := by decide +kernel
theorem dMd_takeBack_113 : decode (mB Md_takeBack) 113 = .ok (.iconst 0, 1) := by decide +kernel
theorem dMd_takeBack_114 : decode (mB Md_takeBack) 114 = .ok (.goto 31, 3) := by decide +kernel
theorem dMd_takeBack_117 : decode (mB Md_takeBack) 117 = .ok (.aload_n 0, 1) := by decide +kernel
theorem dMd_takeBack_118 : decode (mB Md_takeBack) 118 = .ok (.aload_n 0, 1) := by decide +kernel
theorem dMd_takeBack_119 : decode (mB Md_takeBack) 119 = .ok (.aload_n 0, 1) := by decide +kernel
theorem dMd_takeBack_120 : decode (mB Md_takeBack) 120 = .ok (.getfield 71, 3) := by decide +kernel
theorem dMd_takeBack_123 : decode (mB Md_takeBack) 123 = .ok (.iload_n 1, 1) := by decide +kernel
theorem dMd_takeBack_124 : decode (mB Md_takeBack) 124 = .ok (.iaload, 1) := by decide +kernel
theorem dMd_takeBack_125 : decode (mB Md_takeBack) 125 = .ok (.aload_n 0, 1) := by decide +kernel
theorem dMd_takeBack_126 : decode (mB Md_takeBack) 126 = .ok (.getfield 71, 3) := by decide +kernel
theorem dMd_takeBack_129 : decode (mB Md_takeBack) 129 = .ok (.iload_n 2, 1) := by decide +kernel
theorem dMd_takeBack_130 : decode (mB Md_takeBack) 130 = .ok (.iaload, 1) := by decide +kernel
theorem dMd_takeBack_131 : decode (mB Md_takeBack) 131 = .ok (.aload_n 0, 1) := by decide +kernel
theorem dMd_takeBack_132 : decode (mB Md_takeBack) 132 = .ok (.getfield 71, 3) := by decide +kernel
theorem dMd_takeBack_135 : decode (mB Md_takeBack) 135 = .ok (.iload_n 3, 1) := by decide +kernel
theorem dMd_takeBack_136 : decode (mB Md_takeBack) 136 = .ok (.iaload, 1) := by decide +kernel
theorem dMd_takeBack_137 : decode (mB Md_takeBack) 137 = .ok (.invokevirtual 416, 3) := by decide +kernel
theorem dMd_takeBack_140 : decode (mB Md_takeBack) 140 = .ok (.iload_n 2, 1) := by decide +kernel
theorem dMd_takeBack_141 : decode (mB Md_takeBack) 141 = .ok (.iconst (-1), 1) := by decide +kernel
theorem dMd_takeBack_142 : decode (mB Md_takeBack) 142 = .ok (.invokevirtual 425, 3) := by decide +kernel
theorem dMd_takeBack_145 : decode (mB Md_takeBack) 145 = .ok (.ireturn, 1) := by decide +kernel
def w_Md_takeBack_103 (R : Int32 → tpH → Prop) (o : Nat) (x1 : Int32) (x2 : Int32) (x3 : Int32) (t0 : Int32) (t1 : Option Nat) (h : tpH) : Prop :=
  ∃ a1, t1 = some a1 ∧ hT h a1 = 14 ∧ (∀ h4, h4 = sI h a1 31 t0 → (hT h4 o = 14 ∧ (((hI h4 o 31) ≤ 0 → (∃ a8, (hR h4 o 27) = some a8 ∧ hT h4 a8 = 15 ∧ (vp_in x1 (hL h4 a8) ∧ (vp_in x2 (hL h4 a8) ∧ (vp_in x3 (hL h4 a8) ∧ (w_Md_merged o (hI h4 a8 x1.toNatClampNeg) (hI h4 a8 x2.toNatClampNeg) (hI h4 a8 x3.toNatClampNeg) h4 (fun v15 h14 => hT h14 o = 14 ∧ (w_Md_newVersion o v15 x2 (-1 : Int32) h14 (fun v18 h17 => R v18 h17))))))))) ∧ (¬ (hI h4 o 31) ≤ 0 → (R (0 : Int32) h4)))))
def w_Md_takeBack_90 (R : Int32 → tpH → Prop) (o : Nat) (x1 : Int32) (x2 : Int32) (x3 : Int32) (t0 : Int32) (h : tpH) : Prop :=
  (t0 = 0 → (w_Md_takeBack_103 R o x1 x2 x3 (2 : Int32) (some o) h)) ∧ (¬ t0 = 0 → (w_Md_takeBack_103 R o x1 x2 x3 (0 : Int32) (some o) h))
def w_Md_takeBack_22 (R : Int32 → tpH → Prop) (o : Nat) (x1 : Int32) (x2 : Int32) (t0 : Int32) (t1 : Option Nat) (h : tpH) : Prop :=
  ∃ a1, t1 = some a1 ∧ hT h a1 = 14 ∧ (∀ h4, h4 = sI h a1 31 t0 → (hT h4 o = 14 ∧ (((hI h4 o 31) ≤ 0 → (∃ a8, (hR h4 o 28) = some a8 ∧ hT h4 a8 = 15 ∧ (vp_in x1 (hL h4 a8) ∧ (((hI h4 a8 x1.toNatClampNeg) = (-1 : Int32) → (w_Md_takeBack_90 R o x1 x2 (hI h4 a8 x1.toNatClampNeg) (0 : Int32) h4)) ∧ (¬ (hI h4 a8 x1.toNatClampNeg) = (-1 : Int32) → (∃ a13, (hR h4 o 30) = some a13 ∧ hT h4 a13 = 15 ∧ (vp_in x2 (hL h4 a13) ∧ ((¬ (((hI h4 a13 x2.toNatClampNeg) >>> (x1 &&& 31)) &&& (1 : Int32)) = (1 : Int32) → (w_Md_takeBack_90 R o x1 x2 (hI h4 a8 x1.toNatClampNeg) (0 : Int32) h4)) ∧ ((((hI h4 a13 x2.toNatClampNeg) >>> (x1 &&& 31)) &&& (1 : Int32)) = (1 : Int32) → (∃ a18, (hR h4 o 27) = some a18 ∧ hT h4 a18 = 15 ∧ (vp_in x1 (hL h4 a18) ∧ (vp_in x2 (hL h4 a18) ∧ (vp_in (hI h4 a8 x1.toNatClampNeg) (hL h4 a18) ∧ (w_Md_canMerge o (hI h4 a18 x1.toNatClampNeg) (hI h4 a18 x2.toNatClampNeg) (hI h4 a18 (hI h4 a8 x1.toNatClampNeg).toNatClampNeg) h4 (fun v25 h24 => (v25 = 0 → (w_Md_takeBack_90 R o x1 x2 (hI h4 a8 x1.toNatClampNeg) (0 : Int32) h24)) ∧ (¬ v25 = 0 → (w_Md_takeBack_90 R o x1 x2 (hI h4 a8 x1.toNatClampNeg) (1 : Int32) h24))))))))))))))))) ∧ (¬ (hI h4 o 31) ≤ 0 → (R (0 : Int32) h4)))))
def w_Md_takeBack (o : Nat) (x1 : Int32) (x2 : Int32) (h : tpH) (R : Int32 → tpH → Prop) : Prop :=
  hT h o = 14 ∧ (w_Md_isVersion o x1 h (fun v3 h2 => (v3 = 0 → (w_Md_takeBack_22 R o x1 x2 (1 : Int32) (some o) h2)) ∧ (¬ v3 = 0 → (hT h2 o = 14 ∧ (w_Md_isVersion o x2 h2 (fun v7 h6 => (v7 = 0 → (w_Md_takeBack_22 R o x1 x2 (1 : Int32) (some o) h6)) ∧ (¬ v7 = 0 → (w_Md_takeBack_22 R o x1 x2 (0 : Int32) (some o) h6))))))))
theorem s_Md_takeBack_103 {h0 : tpH} {av : List tpV} {R : Int32 → tpH → Prop} : ∀ (o : Nat) (x1 : Int32) (x2 : Int32) (x3 : Int32) (t0 : Int32) (t1 : Option Nat) (h : tpH), w_Md_takeBack_103 R o x1 x2 x3 t0 t1 h → tpR Md_takeBack 8 h0 av (tpOi R (fun _ _ => False)) 103 [some (vR (some o)), some (vI x1), some (vI x2), some (vI x3), none] [vI t0, vR t1] h := by
  intro o x1 x2 x3 t0 t1 h hw
  unfold w_Md_takeBack_103 at hw
  obtain ⟨a1, e2, f3, hw⟩ := hw
  refine te_puti dMd_takeBack_103 pMd_151 rfl rfl e2 f3 ⟨rfl, rfl⟩ (fun h4 e5 => ?_)
  have hw := hw h4 e5
  refine tq_aload_n dMd_takeBack_106 rfl rfl ?_
  obtain ⟨f6, hw⟩ := hw
  refine te_geti dMd_takeBack_107 fMd_151 rfl rfl f6 ?_
  refine tq_ifle (tgt := 117) dMd_takeBack_110 (by decide) (fun c7 => ?_) (fun c7 => ?_)
  · have hw := hw.1 c7
    refine tq_aload_n dMd_takeBack_117 rfl rfl ?_
    refine tq_aload_n dMd_takeBack_118 rfl rfl ?_
    refine tq_aload_n dMd_takeBack_119 rfl rfl ?_
    refine te_getr dMd_takeBack_120 fMd_71 rfl rfl f6 ?_
    refine tq_iload_n dMd_takeBack_123 rfl rfl ?_
    obtain ⟨a8, e9, f10, hw⟩ := hw
    obtain ⟨f11, hw⟩ := hw
    refine te_iald dMd_takeBack_124 e9 (Or.inl f10) f11 ?_
    refine tq_aload_n dMd_takeBack_125 rfl rfl ?_
    refine te_getr dMd_takeBack_126 fMd_71 rfl rfl f6 ?_
    refine tq_iload_n dMd_takeBack_129 rfl rfl ?_
    obtain ⟨f12, hw⟩ := hw
    refine te_iald dMd_takeBack_130 e9 (Or.inl f10) f12 ?_
    refine tq_aload_n dMd_takeBack_131 rfl rfl ?_
    refine te_getr dMd_takeBack_132 fMd_71 rfl rfl f6 ?_
    refine tq_iload_n dMd_takeBack_135 rfl rfl ?_
    obtain ⟨f13, hw⟩ := hw
    refine te_iald dMd_takeBack_136 e9 (Or.inl f10) f13 ?_
    refine te_callV mv_Md_merged (ci := 13) (dc := 7) (as := [vI (hI h4 a8 x1.toNatClampNeg), vI (hI h4 a8 x2.toNatClampNeg), vI (hI h4 a8 x3.toNatClampNeg)]) (rest := [vR (some o)]) kMd_416 rfl (Nat.le_of_ble_eq_true rfl) (Nat.le_of_ble_eq_true rfl) rfl rfl rfl f6 (Nat.le_of_ble_eq_true rfl) dMd_takeBack_137 (s_Md_merged hw) (fun _ _ hx => False.elim hx) (tk_i fun v15 h14 hw => ?_)
    refine tq_iload_n dMd_takeBack_140 rfl rfl ?_
    refine tq_iconst (v := (-1 : Int32)) dMd_takeBack_141 tni_m1 ?_
    obtain ⟨f16, hw⟩ := hw
    refine te_callV mv_Md_newVersion (ci := 13) (dc := 0) (as := [vI v15, vI x2, vI (-1 : Int32)]) (rest := []) kMd_425 rfl (Nat.le_of_ble_eq_true rfl) (Nat.le_of_ble_eq_true rfl) rfl rfl rfl f16 (Nat.le_of_ble_eq_true rfl) dMd_takeBack_142 (s_Md_newVersion hw) (fun _ _ hx => False.elim hx) (tk_i fun v18 h17 hw => ?_)
    exact tq_iret rfl rfl dMd_takeBack_145 hw
  · have hw := hw.2 c7
    refine tq_iconst (v := (0 : Int32)) dMd_takeBack_113 tni_0 ?_
    refine tq_goto (tgt := 145) dMd_takeBack_114 (by decide) ?_
    exact tq_iret rfl rfl dMd_takeBack_145 hw
theorem s_Md_takeBack_90 {h0 : tpH} {av : List tpV} {R : Int32 → tpH → Prop} : ∀ (o : Nat) (x1 : Int32) (x2 : Int32) (x3 : Int32) (t0 : Int32) (h : tpH), w_Md_takeBack_90 R o x1 x2 x3 t0 h → tpR Md_takeBack 8 h0 av (tpOi R (fun _ _ => False)) 90 [some (vR (some o)), some (vI x1), some (vI x2), some (vI x3), none] [vI t0] h := by
  intro o x1 x2 x3 t0 h hw
  unfold w_Md_takeBack_90 at hw
  refine tq_istore (ls' := [some (vR (some o)), some (vI x1), some (vI x2), some (vI x3), some (vI t0)]) dMd_takeBack_90 (Nat.le_of_ble_eq_true rfl) rfl ?_
  refine tq_aload_n dMd_takeBack_92 rfl rfl ?_
  refine tq_iload dMd_takeBack_93 rfl ?_
  refine tq_ifeq (tgt := 102) dMd_takeBack_95 (by decide) (fun c1 => ?_) (fun c1 => ?_)
  · have hw := hw.1 c1
    refine tq_iconst (v := (2 : Int32)) dMd_takeBack_102 tni_2 ?_
    refine tpR.fo (ls' := [some (vR (some o)), some (vI x1), some (vI x2), some (vI x3), none]) ?_ (And.intro rfl (And.intro rfl (And.intro rfl (And.intro rfl trivial))))
    exact s_Md_takeBack_103 _ _ _ _ _ _ _ hw
  · have hw := hw.2 c1
    refine tq_iconst (v := (0 : Int32)) dMd_takeBack_98 tni_0 ?_
    refine tq_goto (tgt := 103) dMd_takeBack_99 (by decide) ?_
    refine tpR.fo (ls' := [some (vR (some o)), some (vI x1), some (vI x2), some (vI x3), none]) ?_ (And.intro rfl (And.intro rfl (And.intro rfl (And.intro rfl trivial))))
    exact s_Md_takeBack_103 _ _ _ _ _ _ _ hw
theorem s_Md_takeBack_22 {h0 : tpH} {av : List tpV} {R : Int32 → tpH → Prop} : ∀ (o : Nat) (x1 : Int32) (x2 : Int32) (t0 : Int32) (t1 : Option Nat) (h : tpH), w_Md_takeBack_22 R o x1 x2 t0 t1 h → tpR Md_takeBack 8 h0 av (tpOi R (fun _ _ => False)) 22 [some (vR (some o)), some (vI x1), some (vI x2), none, none] [vI t0, vR t1] h := by
  intro o x1 x2 t0 t1 h hw
  unfold w_Md_takeBack_22 at hw
  obtain ⟨a1, e2, f3, hw⟩ := hw
  refine te_puti dMd_takeBack_22 pMd_151 rfl rfl e2 f3 ⟨rfl, rfl⟩ (fun h4 e5 => ?_)
  have hw := hw h4 e5
  refine tq_aload_n dMd_takeBack_25 rfl rfl ?_
  obtain ⟨f6, hw⟩ := hw
  refine te_geti dMd_takeBack_26 fMd_151 rfl rfl f6 ?_
  refine tq_ifle (tgt := 34) dMd_takeBack_29 (by decide) (fun c7 => ?_) (fun c7 => ?_)
  · have hw := hw.1 c7
    refine tq_aload_n dMd_takeBack_34 rfl rfl ?_
    refine te_getr dMd_takeBack_35 fMd_74 rfl rfl f6 ?_
    refine tq_iload_n dMd_takeBack_38 rfl rfl ?_
    obtain ⟨a8, e9, f10, hw⟩ := hw
    obtain ⟨f11, hw⟩ := hw
    refine te_iald dMd_takeBack_39 e9 (Or.inl f10) f11 ?_
    refine tq_istore_n (ls' := [some (vR (some o)), some (vI x1), some (vI x2), some (vI (hI h4 a8 x1.toNatClampNeg)), none]) dMd_takeBack_40 rfl (Nat.le_of_ble_eq_true rfl) rfl ?_
    refine tq_iload_n dMd_takeBack_41 rfl rfl ?_
    refine tq_iconst (v := (-1 : Int32)) dMd_takeBack_42 tni_m1 ?_
    refine tq_icmpeq (tgt := 89) dMd_takeBack_43 (by decide) (fun c12 => ?_) (fun c12 => ?_)
    · have hw := hw.1 c12
      refine tq_iconst (v := (0 : Int32)) dMd_takeBack_89 tni_0 ?_
      refine tpR.fo (ls' := [some (vR (some o)), some (vI x1), some (vI x2), some (vI (hI h4 a8 x1.toNatClampNeg)), none]) ?_ (And.intro rfl (And.intro rfl (And.intro rfl (And.intro rfl trivial))))
      exact s_Md_takeBack_90 _ _ _ _ _ _ hw
    · have hw := hw.2 c12
      refine tq_aload_n dMd_takeBack_46 rfl rfl ?_
      refine te_getr dMd_takeBack_47 fMd_80 rfl rfl f6 ?_
      refine tq_iload_n dMd_takeBack_50 rfl rfl ?_
      obtain ⟨a13, e14, f15, hw⟩ := hw
      obtain ⟨f16, hw⟩ := hw
      refine te_iald dMd_takeBack_51 e14 (Or.inl f15) f16 ?_
      refine tq_iload_n dMd_takeBack_52 rfl rfl ?_
      refine tq_ishr dMd_takeBack_53 ?_
      refine tq_iconst (v := (1 : Int32)) dMd_takeBack_54 tni_1 ?_
      refine tq_iand dMd_takeBack_55 ?_
      refine tq_iconst (v := (1 : Int32)) dMd_takeBack_56 tni_1 ?_
      refine tq_icmpne (tgt := 89) dMd_takeBack_57 (by decide) (fun c17 => ?_) (fun c17 => ?_)
      · have hw := hw.1 c17
        refine tq_iconst (v := (0 : Int32)) dMd_takeBack_89 tni_0 ?_
        refine tpR.fo (ls' := [some (vR (some o)), some (vI x1), some (vI x2), some (vI (hI h4 a8 x1.toNatClampNeg)), none]) ?_ (And.intro rfl (And.intro rfl (And.intro rfl (And.intro rfl trivial))))
        exact s_Md_takeBack_90 _ _ _ _ _ _ hw
      · have hw := hw.2 c17
        refine tq_aload_n dMd_takeBack_60 rfl rfl ?_
        refine tq_aload_n dMd_takeBack_61 rfl rfl ?_
        refine te_getr dMd_takeBack_62 fMd_71 rfl rfl f6 ?_
        refine tq_iload_n dMd_takeBack_65 rfl rfl ?_
        obtain ⟨a18, e19, f20, hw⟩ := hw
        obtain ⟨f21, hw⟩ := hw
        refine te_iald dMd_takeBack_66 e19 (Or.inl f20) f21 ?_
        refine tq_aload_n dMd_takeBack_67 rfl rfl ?_
        refine te_getr dMd_takeBack_68 fMd_71 rfl rfl f6 ?_
        refine tq_iload_n dMd_takeBack_71 rfl rfl ?_
        obtain ⟨f22, hw⟩ := hw
        refine te_iald dMd_takeBack_72 e19 (Or.inl f20) f22 ?_
        refine tq_aload_n dMd_takeBack_73 rfl rfl ?_
        refine te_getr dMd_takeBack_74 fMd_71 rfl rfl f6 ?_
        refine tq_iload_n dMd_takeBack_77 rfl rfl ?_
        obtain ⟨f23, hw⟩ := hw
        refine te_iald dMd_takeBack_78 e19 (Or.inl f20) f23 ?_
        refine te_callV mv_Md_canMerge (ci := 13) (dc := 1) (as := [vI (hI h4 a18 x1.toNatClampNeg), vI (hI h4 a18 x2.toNatClampNeg), vI (hI h4 a18 (hI h4 a8 x1.toNatClampNeg).toNatClampNeg)]) (rest := []) kMd_431 rfl (Nat.le_of_ble_eq_true rfl) (Nat.le_of_ble_eq_true rfl) rfl rfl rfl f6 (Nat.le_of_ble_eq_true rfl) dMd_takeBack_79 (s_Md_canMerge hw) (fun _ _ hx => False.elim hx) (tk_i fun v25 h24 hw => ?_)
        refine tq_ifeq (tgt := 89) dMd_takeBack_82 (by decide) (fun c26 => ?_) (fun c26 => ?_)
        · have hw := hw.1 c26
          refine tq_iconst (v := (0 : Int32)) dMd_takeBack_89 tni_0 ?_
          refine tpR.fo (ls' := [some (vR (some o)), some (vI x1), some (vI x2), some (vI (hI h4 a8 x1.toNatClampNeg)), none]) ?_ (And.intro rfl (And.intro rfl (And.intro rfl (And.intro rfl trivial))))
          exact s_Md_takeBack_90 _ _ _ _ _ _ hw
        · have hw := hw.2 c26
          refine tq_iconst (v := (1 : Int32)) dMd_takeBack_85 tni_1 ?_
          refine tq_goto (tgt := 90) dMd_takeBack_86 (by decide) ?_
          refine tpR.fo (ls' := [some (vR (some o)), some (vI x1), some (vI x2), some (vI (hI h4 a8 x1.toNatClampNeg)), none]) ?_ (And.intro rfl (And.intro rfl (And.intro rfl (And.intro rfl trivial))))
          exact s_Md_takeBack_90 _ _ _ _ _ _ hw
  · have hw := hw.2 c7
    refine tq_iconst (v := (0 : Int32)) dMd_takeBack_32 tni_0 ?_
    exact tq_iret rfl rfl dMd_takeBack_33 hw
theorem s_Md_takeBack {o : Nat} {x1 : Int32} {x2 : Int32} {h : tpH} {R : Int32 → tpH → Prop} (hw : w_Md_takeBack o x1 x2 h R) : tpC Md_takeBack 8 [vR (some o), vI x1, vI x2] h (tpOi R (fun _ _ => False)) := by
  refine tpC_of mv_Md_takeBack.2.2.2.1 rfl rfl (Nat.le_of_ble_eq_true rfl) ?_
  show tpR Md_takeBack 8 h _ _ 0 [some (vR (some o)), some (vI x1), some (vI x2), none, none] [] h
  unfold w_Md_takeBack at hw
  refine tq_aload_n dMd_takeBack_0 rfl rfl ?_
  refine tq_aload_n dMd_takeBack_1 rfl rfl ?_
  refine tq_iload_n dMd_takeBack_2 rfl rfl ?_
  obtain ⟨f1, hw⟩ := hw
  refine te_callV mv_Md_isVersion (ci := 13) (dc := 1) (as := [vI x1]) (rest := [vR (some o)]) kMd_422 rfl (Nat.le_of_ble_eq_true rfl) (Nat.le_of_ble_eq_true rfl) rfl rfl rfl f1 (Nat.le_of_ble_eq_true rfl) dMd_takeBack_3 (s_Md_isVersion hw) (fun _ _ hx => False.elim hx) (tk_i fun v3 h2 hw => ?_)
  refine tq_ifeq (tgt := 21) dMd_takeBack_6 (by decide) (fun c4 => ?_) (fun c4 => ?_)
  · have hw := hw.1 c4
    refine tq_iconst (v := (1 : Int32)) dMd_takeBack_21 tni_1 ?_
    refine tpR.fo (ls' := [some (vR (some o)), some (vI x1), some (vI x2), none, none]) ?_ (And.intro rfl (And.intro rfl (And.intro rfl trivial)))
    exact s_Md_takeBack_22 _ _ _ _ _ _ hw
  · have hw := hw.2 c4
    refine tq_aload_n dMd_takeBack_9 rfl rfl ?_
    refine tq_iload_n dMd_takeBack_10 rfl rfl ?_
    obtain ⟨f5, hw⟩ := hw
    refine te_callV mv_Md_isVersion (ci := 13) (dc := 1) (as := [vI x2]) (rest := [vR (some o)]) kMd_422 rfl (Nat.le_of_ble_eq_true rfl) (Nat.le_of_ble_eq_true rfl) rfl rfl rfl f5 (Nat.le_of_ble_eq_true rfl) dMd_takeBack_11 (s_Md_isVersion hw) (fun _ _ hx => False.elim hx) (tk_i fun v7 h6 hw => ?_)
    refine tq_ifeq (tgt := 21) dMd_takeBack_14 (by decide) (fun c8 => ?_) (fun c8 => ?_)
    · have hw := hw.1 c8
      refine tq_iconst (v := (1 : Int32)) dMd_takeBack_21 tni_1 ?_
      refine tpR.fo (ls' := [some (vR (some o)), some (vI x1), some (vI x2), none, none]) ?_ (And.intro rfl (And.intro rfl (And.intro rfl trivial)))
      exact s_Md_takeBack_22 _ _ _ _ _ _ hw
    · have hw := hw.2 c8
      refine tq_iconst (v := (0 : Int32)) dMd_takeBack_17 tni_0 ?_
      refine tq_goto (tgt := 22) dMd_takeBack_18 (by decide) ?_
      refine tpR.fo (ls' := [some (vR (some o)), some (vI x1), some (vI x2), none, none]) ?_ (And.intro rfl (And.intro rfl (And.intro rfl trivial)))
      exact s_Md_takeBack_22 _ _ _ _ _ _ hw
/-! TModel.trees -/
theorem dMd_trees_0 : decode (mB Md_trees) 0 = .ok (.aload_n 0, 1) := by decide +kernel
theorem dMd_trees_1 : decode (mB Md_trees) 1 = .ok (.iconst 0, 1) := by decide +kernel
theorem dMd_trees_2 : decode (mB Md_trees) 2 = .ok (.putfield 151, 3) := by decide +kernel
theorem dMd_trees_5 : decode (mB Md_trees) 5 = .ok (.aload_n 0, 1) := by decide +kernel
theorem dMd_trees_6 : decode (mB Md_trees) 6 = .ok (.getfield 155, 3) := by decide +kernel
theorem dMd_trees_9 : decode (mB Md_trees) 9 = .ok (.ireturn, 1) := by decide +kernel
def w_Md_trees (o : Nat) (h : tpH) (R : Int32 → tpH → Prop) : Prop :=
  hT h o = 14 ∧ (∀ h2, h2 = sI h o 31 (0 : Int32) → (R (hI h2 o 3) h2))
theorem s_Md_trees {o : Nat} {h : tpH} {R : Int32 → tpH → Prop} (hw : w_Md_trees o h R) : tpC Md_trees 0 [vR (some o)] h (tpOi R (fun _ _ => False)) := by
  refine tpC_of mv_Md_trees.2.2.2.1 rfl rfl (Nat.le_of_ble_eq_true rfl) ?_
  show tpR Md_trees 0 h _ _ 0 [some (vR (some o))] [] h
  unfold w_Md_trees at hw
  refine tq_aload_n dMd_trees_0 rfl rfl ?_
  refine tq_iconst (v := (0 : Int32)) dMd_trees_1 tni_0 ?_
  obtain ⟨f1, hw⟩ := hw
  refine te_puti dMd_trees_2 pMd_151 rfl rfl rfl f1 ⟨rfl, rfl⟩ (fun h2 e3 => ?_)
  have hw := hw h2 e3
  refine tq_aload_n dMd_trees_5 rfl rfl ?_
  refine te_geti dMd_trees_6 fMd_155 rfl rfl (by rw [e3]; exact f1) ?_
  exact tq_iret rfl rfl dMd_trees_9 hw
/-! TModel.asksFor -/
theorem dMd_asksFor_0 : decode (mB Md_asksFor) 0 = .ok (.aload_n 0, 1) := by decide +kernel
theorem dMd_asksFor_1 : decode (mB Md_asksFor) 1 = .ok (.iload_n 1, 1) := by decide +kernel
theorem dMd_asksFor_2 : decode (mB Md_asksFor) 2 = .ok (.ifCond .eq 7, 3) := by decide +kernel
theorem dMd_asksFor_5 : decode (mB Md_asksFor) 5 = .ok (.iconst 0, 1) := by decide +kernel
theorem dMd_asksFor_6 : decode (mB Md_asksFor) 6 = .ok (.goto 4, 3) := by decide +kernel
theorem dMd_asksFor_9 : decode (mB Md_asksFor) 9 = .ok (.iconst 1, 1) := by decide +kernel
theorem dMd_asksFor_10 : decode (mB Md_asksFor) 10 = .ok (.putfield 151, 3) := by decide +kernel
theorem dMd_asksFor_13 : decode (mB Md_asksFor) 13 = .ok (.iload_n 1, 1) := by decide +kernel
theorem dMd_asksFor_14 : decode (mB Md_asksFor) 14 = .ok (.ireturn, 1) := by decide +kernel
def w_Md_asksFor_10 (R : Int32 → tpH → Prop) (x1 : Int32) (t0 : Int32) (t1 : Option Nat) (h : tpH) : Prop :=
  ∃ a1, t1 = some a1 ∧ hT h a1 = 14 ∧ (∀ h4, h4 = sI h a1 31 t0 → (tpB x1 ∧ (R x1 h4)))
def w_Md_asksFor (o : Nat) (x1 : Int32) (h : tpH) (R : Int32 → tpH → Prop) : Prop :=
  (x1 = 0 → (w_Md_asksFor_10 R x1 (1 : Int32) (some o) h)) ∧ (¬ x1 = 0 → (w_Md_asksFor_10 R x1 (0 : Int32) (some o) h))
theorem s_Md_asksFor_10 {h0 : tpH} {av : List tpV} {R : Int32 → tpH → Prop} : ∀ (x1 : Int32) (t0 : Int32) (t1 : Option Nat) (h : tpH), w_Md_asksFor_10 R x1 t0 t1 h → tpR Md_asksFor 0 h0 av (tpOi R (fun _ _ => False)) 10 [none, some (vI x1)] [vI t0, vR t1] h := by
  intro x1 t0 t1 h hw
  unfold w_Md_asksFor_10 at hw
  obtain ⟨a1, e2, f3, hw⟩ := hw
  refine te_puti dMd_asksFor_10 pMd_151 rfl rfl e2 f3 ⟨rfl, rfl⟩ (fun h4 e5 => ?_)
  have hw := hw h4 e5
  refine tq_iload_n dMd_asksFor_13 rfl rfl ?_
  obtain ⟨f6, hw⟩ := hw
  exact tq_iret rfl (tpB_n f6) dMd_asksFor_14 hw
theorem s_Md_asksFor {o : Nat} {x1 : Int32} {h : tpH} {R : Int32 → tpH → Prop} (hw : w_Md_asksFor o x1 h R) : tpC Md_asksFor 0 [vR (some o), vI x1] h (tpOi R (fun _ _ => False)) := by
  refine tpC_of mv_Md_asksFor.2.2.2.1 rfl rfl (Nat.le_of_ble_eq_true rfl) ?_
  show tpR Md_asksFor 0 h _ _ 0 [some (vR (some o)), some (vI x1)] [] h
  unfold w_Md_asksFor at hw
  refine tq_aload_n dMd_asksFor_0 rfl rfl ?_
  refine tq_iload_n dMd_asksFor_1 rfl rfl ?_
  refine tq_ifeq (tgt := 9) dMd_asksFor_2 (by decide) (fun c1 => ?_) (fun c1 => ?_)
  · have hw := hw.1 c1
    refine tq_iconst (v := (1 : Int32)) dMd_asksFor_9 tni_1 ?_
    refine tpR.fo (ls' := [none, some (vI x1)]) ?_ (And.intro rfl trivial)
    exact s_Md_asksFor_10 _ _ _ _ hw
  · have hw := hw.2 c1
    refine tq_iconst (v := (0 : Int32)) dMd_asksFor_5 tni_0 ?_
    refine tq_goto (tgt := 10) dMd_asksFor_6 (by decide) ?_
    refine tpR.fo (ls' := [none, some (vI x1)]) ?_ (And.intro rfl trivial)
    exact s_Md_asksFor_10 _ _ _ _ hw
/-! TModel.size -/
theorem dMd_size_0 : decode (mB Md_size) 0 = .ok (.aload_n 0, 1) := by decide +kernel
theorem dMd_size_1 : decode (mB Md_size) 1 = .ok (.aload_n 0, 1) := by decide +kernel
theorem dMd_size_2 : decode (mB Md_size) 2 = .ok (.iload_n 1, 1) := by decide +kernel
theorem dMd_size_3 : decode (mB Md_size) 3 = .ok (.invokevirtual 201, 3) := by decide +kernel
theorem dMd_size_6 : decode (mB Md_size) 6 = .ok (.invokevirtual 434, 3) := by decide +kernel
theorem dMd_size_9 : decode (mB Md_size) 9 = .ok (.ifCond .eq 15, 3) := by decide +kernel
theorem dMd_size_12 : decode (mB Md_size) 12 = .ok (.aload_n 0, 1) := by decide +kernel
theorem dMd_size_13 : decode (mB Md_size) 13 = .ok (.iload_n 1, 1) := by decide +kernel
theorem dMd_size_14 : decode (mB Md_size) 14 = .ok (.aload_n 0, 1) := by decide +kernel
theorem dMd_size_15 : decode (mB Md_size) 15 = .ok (.getfield 83, 3) := by decide +kernel
theorem dMd_size_18 : decode (mB Md_size) 18 = .ok (.invokevirtual 208, 3) := by decide +kernel
theorem dMd_size_21 : decode (mB Md_size) 21 = .ok (.goto 4, 3) := by decide +kernel
theorem dMd_size_24 : decode (mB Md_size) 24 = .ok (.iconst 0, 1) := by decide +kernel
theorem dMd_size_25 : decode (mB Md_size) 25 = .ok (.ireturn, 1) := by decide +kernel
def w_Md_size (o : Nat) (x1 : Int32) (h : tpH) (R : Int32 → tpH → Prop) : Prop :=
  hT h o = 14 ∧ (w_Md_isTree o x1 h (fun v3 h2 => hT h2 o = 14 ∧ (w_Md_asksFor o v3 h2 (fun v6 h5 => (v6 = 0 → (R (0 : Int32) h5)) ∧ (¬ v6 = 0 → (hT h5 o = 14 ∧ (w_Md_layOrder o x1 (hR h5 o 32) h5 (fun v10 h9 => R v10 h9))))))))
theorem s_Md_size {o : Nat} {x1 : Int32} {h : tpH} {R : Int32 → tpH → Prop} (hw : w_Md_size o x1 h R) : tpC Md_size 2 [vR (some o), vI x1] h (tpOi R (fun _ _ => False)) := by
  refine tpC_of mv_Md_size.2.2.2.1 rfl rfl (Nat.le_of_ble_eq_true rfl) ?_
  show tpR Md_size 2 h _ _ 0 [some (vR (some o)), some (vI x1)] [] h
  unfold w_Md_size at hw
  refine tq_aload_n dMd_size_0 rfl rfl ?_
  refine tq_aload_n dMd_size_1 rfl rfl ?_
  refine tq_iload_n dMd_size_2 rfl rfl ?_
  obtain ⟨f1, hw⟩ := hw
  refine te_callV mv_Md_isTree (ci := 13) (dc := 1) (as := [vI x1]) (rest := [vR (some o)]) kMd_201 rfl (Nat.le_of_ble_eq_true rfl) (Nat.le_of_ble_eq_true rfl) rfl rfl rfl f1 (Nat.le_of_ble_eq_true rfl) dMd_size_3 (s_Md_isTree hw) (fun _ _ hx => False.elim hx) (tk_i fun v3 h2 hw => ?_)
  obtain ⟨f4, hw⟩ := hw
  refine te_callV mv_Md_asksFor (ci := 13) (dc := 0) (as := [vI v3]) (rest := []) kMd_434 rfl (Nat.le_of_ble_eq_true rfl) (Nat.le_of_ble_eq_true rfl) rfl rfl rfl f4 (Nat.le_of_ble_eq_true rfl) dMd_size_6 (s_Md_asksFor hw) (fun _ _ hx => False.elim hx) (tk_i fun v6 h5 hw => ?_)
  refine tq_ifeq (tgt := 24) dMd_size_9 (by decide) (fun c7 => ?_) (fun c7 => ?_)
  · have hw := hw.1 c7
    refine tq_iconst (v := (0 : Int32)) dMd_size_24 tni_0 ?_
    exact tq_iret rfl rfl dMd_size_25 hw
  · have hw := hw.2 c7
    refine tq_aload_n dMd_size_12 rfl rfl ?_
    refine tq_iload_n dMd_size_13 rfl rfl ?_
    refine tq_aload_n dMd_size_14 rfl rfl ?_
    obtain ⟨f8, hw⟩ := hw
    refine te_getr dMd_size_15 fMd_83 rfl rfl f8 ?_
    refine te_callV mv_Md_layOrder (ci := 13) (dc := 1) (as := [vI x1, vR (hR h5 o 32)]) (rest := []) kMd_208 rfl (Nat.le_of_ble_eq_true rfl) (Nat.le_of_ble_eq_true rfl) rfl rfl rfl f8 (Nat.le_of_ble_eq_true rfl) dMd_size_18 (s_Md_layOrder hw) (fun _ _ hx => False.elim hx) (tk_i fun v10 h9 hw => ?_)
    refine tq_goto (tgt := 25) dMd_size_21 (by decide) ?_
    exact tq_iret rfl rfl dMd_size_25 hw
/-! TModel.markAt -/
theorem dMd_markAt_0 : decode (mB Md_markAt) 0 = .ok (.aload_n 0, 1) := by decide +kernel
theorem dMd_markAt_1 : decode (mB Md_markAt) 1 = .ok (.iload_n 1, 1) := by decide +kernel
theorem dMd_markAt_2 : decode (mB Md_markAt) 2 = .ok (.invokevirtual 201, 3) := by decide +kernel
theorem dMd_markAt_5 : decode (mB Md_markAt) 5 = .ok (.istore_n 3, 1) := by decide +kernel
theorem dMd_markAt_6 : decode (mB Md_markAt) 6 = .ok (.iload_n 3, 1) := by decide +kernel
theorem dMd_markAt_7 : decode (mB Md_markAt) 7 = .ok (.ifCond .eq 15, 3) := by decide +kernel
theorem dMd_markAt_10 : decode (mB Md_markAt) 10 = .ok (.aload_n 0, 1) := by decide +kernel
theorem dMd_markAt_11 : decode (mB Md_markAt) 11 = .ok (.iload_n 1, 1) := by decide +kernel
theorem dMd_markAt_12 : decode (mB Md_markAt) 12 = .ok (.aload_n 0, 1) := by decide +kernel
theorem dMd_markAt_13 : decode (mB Md_markAt) 13 = .ok (.getfield 83, 3) := by decide +kernel
theorem dMd_markAt_16 : decode (mB Md_markAt) 16 = .ok (.invokevirtual 208, 3) := by decide +kernel
theorem dMd_markAt_19 : decode (mB Md_markAt) 19 = .ok (.goto 4, 3) := by decide +kernel
theorem dMd_markAt_22 : decode (mB Md_markAt) 22 = .ok (.iconst 0, 1) := by decide +kernel
theorem dMd_markAt_23 : decode (mB Md_markAt) 23 = .ok (.istore 4, 2) := by decide +kernel
theorem dMd_markAt_25 : decode (mB Md_markAt) 25 = .ok (.aload_n 0, 1) := by decide +kernel
theorem dMd_markAt_26 : decode (mB Md_markAt) 26 = .ok (.iload_n 3, 1) := by decide +kernel
theorem dMd_markAt_27 : decode (mB Md_markAt) 27 = .ok (.ifCond .eq 19, 3) := by decide +kernel
theorem dMd_markAt_30 : decode (mB Md_markAt) 30 = .ok (.iload_n 2, 1) := by decide +kernel
theorem dMd_markAt_31 : decode (mB Md_markAt) 31 = .ok (.iconst 0, 1) := by decide +kernel
theorem dMd_markAt_32 : decode (mB Md_markAt) 32 = .ok (.iload 4, 2) := by decide +kernel
theorem dMd_markAt_34 : decode (mB Md_markAt) 34 = .ok (.iconst 1, 1) := by decide +kernel
theorem dMd_markAt_35 : decode (mB Md_markAt) 35 = .ok (.isub, 1) := by decide +kernel
theorem dMd_markAt_36 : decode (mB Md_markAt) 36 = .ok (.invokestatic 158, 3) := by decide +kernel
theorem dMd_markAt_39 : decode (mB Md_markAt) 39 = .ok (.ifCond .eq 7, 3) := by decide +kernel
theorem dMd_markAt_42 : decode (mB Md_markAt) 42 = .ok (.iconst 1, 1) := by decide +kernel
theorem dMd_markAt_43 : decode (mB Md_markAt) 43 = .ok (.goto 4, 3) := by decide +kernel
theorem dMd_markAt_46 : decode (mB Md_markAt) 46 = .ok (.iconst 0, 1) := by decide +kernel
theorem dMd_markAt_47 : decode (mB Md_markAt) 47 = .ok (.invokevirtual 434, 3) := by decide +kernel
theorem dMd_markAt_50 : decode (mB Md_markAt) 50 = .ok (.ifCond .eq 12, 3) := by decide +kernel
theorem dMd_markAt_53 : decode (mB Md_markAt) 53 = .ok (.aload_n 0, 1) := by decide +kernel
theorem dMd_markAt_54 : decode (mB Md_markAt) 54 = .ok (.getfield 83, 3) := by decide +kernel
theorem dMd_markAt_57 : decode (mB Md_markAt) 57 = .ok (.iload_n 2, 1) := by decide +kernel
theorem dMd_markAt_58 : decode (mB Md_markAt) 58 = .ok (.iaload, 1) := by decide +kernel
theorem dMd_markAt_59 : decode (mB Md_markAt) 59 = .ok (.goto 4, 3) := by decide +kernel
theorem dMd_markAt_62 : decode (mB Md_markAt) 62 = .ok (.iconst 0, 1) := by decide +kernel
theorem dMd_markAt_63 : decode (mB Md_markAt) 63 = .ok (.ireturn, 1) := by decide +kernel
def w_Md_markAt_47 (R : Int32 → tpH → Prop) (o : Nat) (x2 : Int32) (t0 : Int32) (t1 : Option Nat) (h : tpH) : Prop :=
  ∃ a1, t1 = some a1 ∧ hT h a1 = 14 ∧ (w_Md_asksFor a1 t0 h (fun v5 h4 => (v5 = 0 → (R (0 : Int32) h4)) ∧ (¬ v5 = 0 → (hT h4 o = 14 ∧ (∃ a8, (hR h4 o 32) = some a8 ∧ hT h4 a8 = 15 ∧ (vp_in x2 (hL h4 a8) ∧ (R (hI h4 a8 x2.toNatClampNeg) h4)))))))
def w_Md_markAt_23 (R : Int32 → tpH → Prop) (o : Nat) (x2 : Int32) (x3 : Int32) (t0 : Int32) (h : tpH) : Prop :=
  (x3 = 0 → (w_Md_markAt_47 R o x2 (0 : Int32) (some o) h)) ∧ (¬ x3 = 0 → (w_Md_in x2 (0 : Int32) (t0 - (1 : Int32)) h (fun v3 h2 => (v3 = 0 → (w_Md_markAt_47 R o x2 (0 : Int32) (some o) h2)) ∧ (¬ v3 = 0 → (w_Md_markAt_47 R o x2 (1 : Int32) (some o) h2)))))
def w_Md_markAt (o : Nat) (x1 : Int32) (x2 : Int32) (h : tpH) (R : Int32 → tpH → Prop) : Prop :=
  hT h o = 14 ∧ (w_Md_isTree o x1 h (fun v3 h2 => (v3 = 0 → (w_Md_markAt_23 R o x2 v3 (0 : Int32) h2)) ∧ (¬ v3 = 0 → (hT h2 o = 14 ∧ (w_Md_layOrder o x1 (hR h2 o 32) h2 (fun v7 h6 => w_Md_markAt_23 R o x2 v3 v7 h6))))))
theorem s_Md_markAt_47 {h0 : tpH} {av : List tpV} {R : Int32 → tpH → Prop} : ∀ (o : Nat) (x2 : Int32) (t0 : Int32) (t1 : Option Nat) (h : tpH), w_Md_markAt_47 R o x2 t0 t1 h → tpR Md_markAt 2 h0 av (tpOi R (fun _ _ => False)) 47 [some (vR (some o)), none, some (vI x2), none, none] [vI t0, vR t1] h := by
  intro o x2 t0 t1 h hw
  unfold w_Md_markAt_47 at hw
  obtain ⟨a1, e2, f3, hw⟩ := hw
  refine te_callV mv_Md_asksFor (ci := 13) (dc := 0) (as := [vI t0]) (rest := []) kMd_434 rfl (Nat.le_of_ble_eq_true rfl) (Nat.le_of_ble_eq_true rfl) rfl rfl e2 f3 (Nat.le_of_ble_eq_true rfl) dMd_markAt_47 (s_Md_asksFor hw) (fun _ _ hx => False.elim hx) (tk_i fun v5 h4 hw => ?_)
  refine tq_ifeq (tgt := 62) dMd_markAt_50 (by decide) (fun c6 => ?_) (fun c6 => ?_)
  · have hw := hw.1 c6
    refine tq_iconst (v := (0 : Int32)) dMd_markAt_62 tni_0 ?_
    exact tq_iret rfl rfl dMd_markAt_63 hw
  · have hw := hw.2 c6
    refine tq_aload_n dMd_markAt_53 rfl rfl ?_
    obtain ⟨f7, hw⟩ := hw
    refine te_getr dMd_markAt_54 fMd_83 rfl rfl f7 ?_
    refine tq_iload_n dMd_markAt_57 rfl rfl ?_
    obtain ⟨a8, e9, f10, hw⟩ := hw
    obtain ⟨f11, hw⟩ := hw
    refine te_iald dMd_markAt_58 e9 (Or.inl f10) f11 ?_
    refine tq_goto (tgt := 63) dMd_markAt_59 (by decide) ?_
    exact tq_iret rfl rfl dMd_markAt_63 hw
theorem s_Md_markAt_23 {h0 : tpH} {av : List tpV} {R : Int32 → tpH → Prop} : ∀ (o : Nat) (x2 : Int32) (x3 : Int32) (t0 : Int32) (h : tpH), w_Md_markAt_23 R o x2 x3 t0 h → tpR Md_markAt 2 h0 av (tpOi R (fun _ _ => False)) 23 [some (vR (some o)), none, some (vI x2), some (vI x3), none] [vI t0] h := by
  intro o x2 x3 t0 h hw
  unfold w_Md_markAt_23 at hw
  refine tq_istore (ls' := [some (vR (some o)), none, some (vI x2), some (vI x3), some (vI t0)]) dMd_markAt_23 (Nat.le_of_ble_eq_true rfl) rfl ?_
  refine tq_aload_n dMd_markAt_25 rfl rfl ?_
  refine tq_iload_n dMd_markAt_26 rfl rfl ?_
  refine tq_ifeq (tgt := 46) dMd_markAt_27 (by decide) (fun c1 => ?_) (fun c1 => ?_)
  · have hw := hw.1 c1
    refine tq_iconst (v := (0 : Int32)) dMd_markAt_46 tni_0 ?_
    refine tpR.fo (ls' := [some (vR (some o)), none, some (vI x2), none, none]) ?_ (And.intro rfl (And.intro rfl trivial))
    exact s_Md_markAt_47 _ _ _ _ _ hw
  · have hw := hw.2 c1
    refine tq_iload_n dMd_markAt_30 rfl rfl ?_
    refine tq_iconst (v := (0 : Int32)) dMd_markAt_31 tni_0 ?_
    refine tq_iload dMd_markAt_32 rfl ?_
    refine tq_iconst (v := (1 : Int32)) dMd_markAt_34 tni_1 ?_
    refine tq_isub dMd_markAt_35 ?_
    refine tq_callS ms_Md_in (dc := 0) (as := [vI x2, vI (0 : Int32), vI (t0 - (1 : Int32))]) (rest := [vR (some o)]) kMd_158 (Nat.le_of_ble_eq_true rfl) (Nat.le_of_ble_eq_true rfl) rfl rfl (Nat.le_of_ble_eq_true rfl) dMd_markAt_36 (s_Md_in hw) (fun _ _ hx => False.elim hx) (tk_i fun v3 h2 hw => ?_)
    refine tq_ifeq (tgt := 46) dMd_markAt_39 (by decide) (fun c4 => ?_) (fun c4 => ?_)
    · have hw := hw.1 c4
      refine tq_iconst (v := (0 : Int32)) dMd_markAt_46 tni_0 ?_
      refine tpR.fo (ls' := [some (vR (some o)), none, some (vI x2), none, none]) ?_ (And.intro rfl (And.intro rfl trivial))
      exact s_Md_markAt_47 _ _ _ _ _ hw
    · have hw := hw.2 c4
      refine tq_iconst (v := (1 : Int32)) dMd_markAt_42 tni_1 ?_
      refine tq_goto (tgt := 47) dMd_markAt_43 (by decide) ?_
      refine tpR.fo (ls' := [some (vR (some o)), none, some (vI x2), none, none]) ?_ (And.intro rfl (And.intro rfl trivial))
      exact s_Md_markAt_47 _ _ _ _ _ hw
theorem s_Md_markAt {o : Nat} {x1 : Int32} {x2 : Int32} {h : tpH} {R : Int32 → tpH → Prop} (hw : w_Md_markAt o x1 x2 h R) : tpC Md_markAt 2 [vR (some o), vI x1, vI x2] h (tpOi R (fun _ _ => False)) := by
  refine tpC_of mv_Md_markAt.2.2.2.1 rfl rfl (Nat.le_of_ble_eq_true rfl) ?_
  show tpR Md_markAt 2 h _ _ 0 [some (vR (some o)), some (vI x1), some (vI x2), none, none] [] h
  unfold w_Md_markAt at hw
  refine tq_aload_n dMd_markAt_0 rfl rfl ?_
  refine tq_iload_n dMd_markAt_1 rfl rfl ?_
  obtain ⟨f1, hw⟩ := hw
  refine te_callV mv_Md_isTree (ci := 13) (dc := 1) (as := [vI x1]) (rest := []) kMd_201 rfl (Nat.le_of_ble_eq_true rfl) (Nat.le_of_ble_eq_true rfl) rfl rfl rfl f1 (Nat.le_of_ble_eq_true rfl) dMd_markAt_2 (s_Md_isTree hw) (fun _ _ hx => False.elim hx) (tk_i fun v3 h2 hw => ?_)
  refine tq_istore_n (ls' := [some (vR (some o)), some (vI x1), some (vI x2), some (vI v3), none]) dMd_markAt_5 rfl (Nat.le_of_ble_eq_true rfl) rfl ?_
  refine tq_iload_n dMd_markAt_6 rfl rfl ?_
  refine tq_ifeq (tgt := 22) dMd_markAt_7 (by decide) (fun c4 => ?_) (fun c4 => ?_)
  · have hw := hw.1 c4
    refine tq_iconst (v := (0 : Int32)) dMd_markAt_22 tni_0 ?_
    refine tpR.fo (ls' := [some (vR (some o)), none, some (vI x2), some (vI v3), none]) ?_ (And.intro rfl (And.intro rfl (And.intro rfl trivial)))
    exact s_Md_markAt_23 _ _ _ _ _ hw
  · have hw := hw.2 c4
    refine tq_aload_n dMd_markAt_10 rfl rfl ?_
    refine tq_iload_n dMd_markAt_11 rfl rfl ?_
    refine tq_aload_n dMd_markAt_12 rfl rfl ?_
    obtain ⟨f5, hw⟩ := hw
    refine te_getr dMd_markAt_13 fMd_83 rfl rfl f5 ?_
    refine te_callV mv_Md_layOrder (ci := 13) (dc := 1) (as := [vI x1, vR (hR h2 o 32)]) (rest := []) kMd_208 rfl (Nat.le_of_ble_eq_true rfl) (Nat.le_of_ble_eq_true rfl) rfl rfl rfl f5 (Nat.le_of_ble_eq_true rfl) dMd_markAt_16 (s_Md_layOrder hw) (fun _ _ hx => False.elim hx) (tk_i fun v7 h6 hw => ?_)
    refine tq_goto (tgt := 23) dMd_markAt_19 (by decide) ?_
    refine tpR.fo (ls' := [some (vR (some o)), none, some (vI x2), some (vI v3), none]) ?_ (And.intro rfl (And.intro rfl (And.intro rfl trivial)))
    exact s_Md_markAt_23 _ _ _ _ _ hw
/-! TModel.value -/
theorem dMd_value_0 : decode (mB Md_value) 0 = .ok (.aload_n 0, 1) := by decide +kernel
theorem dMd_value_1 : decode (mB Md_value) 1 = .ok (.aload_n 0, 1) := by decide +kernel
theorem dMd_value_2 : decode (mB Md_value) 2 = .ok (.iload_n 1, 1) := by decide +kernel
theorem dMd_value_3 : decode (mB Md_value) 3 = .ok (.invokevirtual 201, 3) := by decide +kernel
theorem dMd_value_6 : decode (mB Md_value) 6 = .ok (.ifCond .eq 15, 3) := by decide +kernel
theorem dMd_value_9 : decode (mB Md_value) 9 = .ok (.aload_n 0, 1) := by decide +kernel
theorem dMd_value_10 : decode (mB Md_value) 10 = .ok (.iload_n 2, 1) := by decide +kernel
theorem dMd_value_11 : decode (mB Md_value) 11 = .ok (.invokevirtual 165, 3) := by decide +kernel
theorem dMd_value_14 : decode (mB Md_value) 14 = .ok (.ifCond .eq 7, 3) := by decide +kernel
theorem dMd_value_17 : decode (mB Md_value) 17 = .ok (.iconst 1, 1) := by decide +kernel
theorem dMd_value_18 : decode (mB Md_value) 18 = .ok (.goto 4, 3) := by decide +kernel
theorem dMd_value_21 : decode (mB Md_value) 21 = .ok (.iconst 0, 1) := by decide +kernel
theorem dMd_value_22 : decode (mB Md_value) 22 = .ok (.invokevirtual 434, 3) := by decide +kernel
theorem dMd_value_25 : decode (mB Md_value) 25 = .ok (.ifCond .ne 7, 3) := by decide +kernel
theorem dMd_value_28 : decode (mB Md_value) 28 = .ok (.iconst 0, 1) := by decide +kernel
theorem dMd_value_29 : decode (mB Md_value) 29 = .ok (.goto 22, 3) := by decide +kernel
theorem dMd_value_32 : decode (mB Md_value) 32 = .ok (.aload_n 0, 1) := by decide +kernel
theorem dMd_value_33 : decode (mB Md_value) 33 = .ok (.iload_n 1, 1) := by decide +kernel
theorem dMd_value_34 : decode (mB Md_value) 34 = .ok (.iload_n 2, 1) := by decide +kernel
theorem dMd_value_35 : decode (mB Md_value) 35 = .ok (.invokevirtual 212, 3) := by decide +kernel
theorem dMd_value_38 : decode (mB Md_value) 38 = .ok (.ifCond .eq 12, 3) := by decide +kernel
theorem dMd_value_41 : decode (mB Md_value) 41 = .ok (.aload_n 0, 1) := by decide +kernel
theorem dMd_value_42 : decode (mB Md_value) 42 = .ok (.iload_n 1, 1) := by decide +kernel
theorem dMd_value_43 : decode (mB Md_value) 43 = .ok (.iload_n 2, 1) := by decide +kernel
theorem dMd_value_44 : decode (mB Md_value) 44 = .ok (.invokevirtual 226, 3) := by decide +kernel
theorem dMd_value_47 : decode (mB Md_value) 47 = .ok (.goto 4, 3) := by decide +kernel
theorem dMd_value_50 : decode (mB Md_value) 50 = .ok (.iconst (-1), 1) := by decide +kernel
theorem dMd_value_51 : decode (mB Md_value) 51 = .ok (.ireturn, 1) := by decide +kernel
def w_Md_value_22 (R : Int32 → tpH → Prop) (o : Nat) (x1 : Int32) (x2 : Int32) (t0 : Int32) (t1 : Option Nat) (h : tpH) : Prop :=
  ∃ a1, t1 = some a1 ∧ hT h a1 = 14 ∧ (w_Md_asksFor a1 t0 h (fun v5 h4 => (¬ v5 = 0 → (hT h4 o = 14 ∧ (w_Md_has o x1 x2 h4 (fun v9 h8 => (v9 = 0 → (R (-1 : Int32) h8)) ∧ (¬ v9 = 0 → (hT h8 o = 14 ∧ (w_Md_valueIn o x1 x2 h8 (fun v13 h12 => R v13 h12)))))))) ∧ (v5 = 0 → (R (0 : Int32) h4))))
def w_Md_value (o : Nat) (x1 : Int32) (x2 : Int32) (h : tpH) (R : Int32 → tpH → Prop) : Prop :=
  hT h o = 14 ∧ (w_Md_isTree o x1 h (fun v3 h2 => (v3 = 0 → (w_Md_value_22 R o x1 x2 (0 : Int32) (some o) h2)) ∧ (¬ v3 = 0 → (hT h2 o = 14 ∧ (w_Md_isMark o x2 h2 (fun v7 h6 => (v7 = 0 → (w_Md_value_22 R o x1 x2 (0 : Int32) (some o) h6)) ∧ (¬ v7 = 0 → (w_Md_value_22 R o x1 x2 (1 : Int32) (some o) h6))))))))
theorem s_Md_value_22 {h0 : tpH} {av : List tpV} {R : Int32 → tpH → Prop} : ∀ (o : Nat) (x1 : Int32) (x2 : Int32) (t0 : Int32) (t1 : Option Nat) (h : tpH), w_Md_value_22 R o x1 x2 t0 t1 h → tpR Md_value 3 h0 av (tpOi R (fun _ _ => False)) 22 [some (vR (some o)), some (vI x1), some (vI x2)] [vI t0, vR t1] h := by
  intro o x1 x2 t0 t1 h hw
  unfold w_Md_value_22 at hw
  obtain ⟨a1, e2, f3, hw⟩ := hw
  refine te_callV mv_Md_asksFor (ci := 13) (dc := 0) (as := [vI t0]) (rest := []) kMd_434 rfl (Nat.le_of_ble_eq_true rfl) (Nat.le_of_ble_eq_true rfl) rfl rfl e2 f3 (Nat.le_of_ble_eq_true rfl) dMd_value_22 (s_Md_asksFor hw) (fun _ _ hx => False.elim hx) (tk_i fun v5 h4 hw => ?_)
  refine tq_ifne (tgt := 32) dMd_value_25 (by decide) (fun c6 => ?_) (fun c6 => ?_)
  · have hw := hw.1 c6
    refine tq_aload_n dMd_value_32 rfl rfl ?_
    refine tq_iload_n dMd_value_33 rfl rfl ?_
    refine tq_iload_n dMd_value_34 rfl rfl ?_
    obtain ⟨f7, hw⟩ := hw
    refine te_callV mv_Md_has (ci := 13) (dc := 2) (as := [vI x1, vI x2]) (rest := []) kMd_212 rfl (Nat.le_of_ble_eq_true rfl) (Nat.le_of_ble_eq_true rfl) rfl rfl rfl f7 (Nat.le_of_ble_eq_true rfl) dMd_value_35 (s_Md_has hw) (fun _ _ hx => False.elim hx) (tk_i fun v9 h8 hw => ?_)
    refine tq_ifeq (tgt := 50) dMd_value_38 (by decide) (fun c10 => ?_) (fun c10 => ?_)
    · have hw := hw.1 c10
      refine tq_iconst (v := (-1 : Int32)) dMd_value_50 tni_m1 ?_
      exact tq_iret rfl rfl dMd_value_51 hw
    · have hw := hw.2 c10
      refine tq_aload_n dMd_value_41 rfl rfl ?_
      refine tq_iload_n dMd_value_42 rfl rfl ?_
      refine tq_iload_n dMd_value_43 rfl rfl ?_
      obtain ⟨f11, hw⟩ := hw
      refine te_callV mv_Md_valueIn (ci := 13) (dc := 0) (as := [vI x1, vI x2]) (rest := []) kMd_226 rfl (Nat.le_of_ble_eq_true rfl) (Nat.le_of_ble_eq_true rfl) rfl rfl rfl f11 (Nat.le_of_ble_eq_true rfl) dMd_value_44 (s_Md_valueIn hw) (fun _ _ hx => False.elim hx) (tk_i fun v13 h12 hw => ?_)
      refine tq_goto (tgt := 51) dMd_value_47 (by decide) ?_
      exact tq_iret rfl rfl dMd_value_51 hw
  · have hw := hw.2 c6
    refine tq_iconst (v := (0 : Int32)) dMd_value_28 tni_0 ?_
    refine tq_goto (tgt := 51) dMd_value_29 (by decide) ?_
    exact tq_iret rfl rfl dMd_value_51 hw
theorem s_Md_value {o : Nat} {x1 : Int32} {x2 : Int32} {h : tpH} {R : Int32 → tpH → Prop} (hw : w_Md_value o x1 x2 h R) : tpC Md_value 3 [vR (some o), vI x1, vI x2] h (tpOi R (fun _ _ => False)) := by
  refine tpC_of mv_Md_value.2.2.2.1 rfl rfl (Nat.le_of_ble_eq_true rfl) ?_
  show tpR Md_value 3 h _ _ 0 [some (vR (some o)), some (vI x1), some (vI x2)] [] h
  unfold w_Md_value at hw
  refine tq_aload_n dMd_value_0 rfl rfl ?_
  refine tq_aload_n dMd_value_1 rfl rfl ?_
  refine tq_iload_n dMd_value_2 rfl rfl ?_
  obtain ⟨f1, hw⟩ := hw
  refine te_callV mv_Md_isTree (ci := 13) (dc := 1) (as := [vI x1]) (rest := [vR (some o)]) kMd_201 rfl (Nat.le_of_ble_eq_true rfl) (Nat.le_of_ble_eq_true rfl) rfl rfl rfl f1 (Nat.le_of_ble_eq_true rfl) dMd_value_3 (s_Md_isTree hw) (fun _ _ hx => False.elim hx) (tk_i fun v3 h2 hw => ?_)
  refine tq_ifeq (tgt := 21) dMd_value_6 (by decide) (fun c4 => ?_) (fun c4 => ?_)
  · have hw := hw.1 c4
    refine tq_iconst (v := (0 : Int32)) dMd_value_21 tni_0 ?_
    refine tpR.fo (ls' := [some (vR (some o)), some (vI x1), some (vI x2)]) ?_ (And.intro rfl (And.intro rfl (And.intro rfl trivial)))
    exact s_Md_value_22 _ _ _ _ _ _ hw
  · have hw := hw.2 c4
    refine tq_aload_n dMd_value_9 rfl rfl ?_
    refine tq_iload_n dMd_value_10 rfl rfl ?_
    obtain ⟨f5, hw⟩ := hw
    refine te_callV mv_Md_isMark (ci := 13) (dc := 1) (as := [vI x2]) (rest := [vR (some o)]) kMd_165 rfl (Nat.le_of_ble_eq_true rfl) (Nat.le_of_ble_eq_true rfl) rfl rfl rfl f5 (Nat.le_of_ble_eq_true rfl) dMd_value_11 (s_Md_isMark hw) (fun _ _ hx => False.elim hx) (tk_i fun v7 h6 hw => ?_)
    refine tq_ifeq (tgt := 21) dMd_value_14 (by decide) (fun c8 => ?_) (fun c8 => ?_)
    · have hw := hw.1 c8
      refine tq_iconst (v := (0 : Int32)) dMd_value_21 tni_0 ?_
      refine tpR.fo (ls' := [some (vR (some o)), some (vI x1), some (vI x2)]) ?_ (And.intro rfl (And.intro rfl (And.intro rfl trivial)))
      exact s_Md_value_22 _ _ _ _ _ _ hw
    · have hw := hw.2 c8
      refine tq_iconst (v := (1 : Int32)) dMd_value_17 tni_1 ?_
      refine tq_goto (tgt := 22) dMd_value_18 (by decide) ?_
      refine tpR.fo (ls' := [some (vR (some o)), some (vI x1), some (vI x2)]) ?_ (And.intro rfl (And.intro rfl (And.intro rfl trivial)))
      exact s_Md_value_22 _ _ _ _ _ _ hw
/-! TModel.parent -/
theorem dMd_parent_0 : decode (mB Md_parent) 0 = .ok (.aload_n 0, 1) := by decide +kernel
theorem dMd_parent_1 : decode (mB Md_parent) 1 = .ok (.aload_n 0, 1) := by decide +kernel
theorem dMd_parent_2 : decode (mB Md_parent) 2 = .ok (.iload_n 1, 1) := by decide +kernel
theorem dMd_parent_3 : decode (mB Md_parent) 3 = .ok (.invokevirtual 201, 3) := by decide +kernel
theorem dMd_parent_6 : decode (mB Md_parent) 6 = .ok (.ifCond .eq 15, 3) := by decide +kernel
theorem dMd_parent_9 : decode (mB Md_parent) 9 = .ok (.aload_n 0, 1) := by decide +kernel
theorem dMd_parent_10 : decode (mB Md_parent) 10 = .ok (.iload_n 2, 1) := by decide +kernel
theorem dMd_parent_11 : decode (mB Md_parent) 11 = .ok (.invokevirtual 165, 3) := by decide +kernel
theorem dMd_parent_14 : decode (mB Md_parent) 14 = .ok (.ifCond .eq 7, 3) := by decide +kernel
theorem dMd_parent_17 : decode (mB Md_parent) 17 = .ok (.iconst 1, 1) := by decide +kernel
theorem dMd_parent_18 : decode (mB Md_parent) 18 = .ok (.goto 4, 3) := by decide +kernel
theorem dMd_parent_21 : decode (mB Md_parent) 21 = .ok (.iconst 0, 1) := by decide +kernel
theorem dMd_parent_22 : decode (mB Md_parent) 22 = .ok (.invokevirtual 434, 3) := by decide +kernel
theorem dMd_parent_25 : decode (mB Md_parent) 25 = .ok (.ifCond .ne 7, 3) := by decide +kernel
theorem dMd_parent_28 : decode (mB Md_parent) 28 = .ok (.iconst 0, 1) := by decide +kernel
theorem dMd_parent_29 : decode (mB Md_parent) 29 = .ok (.goto 22, 3) := by decide +kernel
theorem dMd_parent_32 : decode (mB Md_parent) 32 = .ok (.aload_n 0, 1) := by decide +kernel
theorem dMd_parent_33 : decode (mB Md_parent) 33 = .ok (.iload_n 1, 1) := by decide +kernel
theorem dMd_parent_34 : decode (mB Md_parent) 34 = .ok (.iload_n 2, 1) := by decide +kernel
theorem dMd_parent_35 : decode (mB Md_parent) 35 = .ok (.invokevirtual 212, 3) := by decide +kernel
theorem dMd_parent_38 : decode (mB Md_parent) 38 = .ok (.ifCond .eq 12, 3) := by decide +kernel
theorem dMd_parent_41 : decode (mB Md_parent) 41 = .ok (.aload_n 0, 1) := by decide +kernel
theorem dMd_parent_42 : decode (mB Md_parent) 42 = .ok (.iload_n 1, 1) := by decide +kernel
theorem dMd_parent_43 : decode (mB Md_parent) 43 = .ok (.iload_n 2, 1) := by decide +kernel
theorem dMd_parent_44 : decode (mB Md_parent) 44 = .ok (.invokevirtual 179, 3) := by decide +kernel
theorem dMd_parent_47 : decode (mB Md_parent) 47 = .ok (.goto 4, 3) := by decide +kernel
theorem dMd_parent_50 : decode (mB Md_parent) 50 = .ok (.iconst (-1), 1) := by decide +kernel
theorem dMd_parent_51 : decode (mB Md_parent) 51 = .ok (.ireturn, 1) := by decide +kernel
def w_Md_parent_22 (R : Int32 → tpH → Prop) (o : Nat) (x1 : Int32) (x2 : Int32) (t0 : Int32) (t1 : Option Nat) (h : tpH) : Prop :=
  ∃ a1, t1 = some a1 ∧ hT h a1 = 14 ∧ (w_Md_asksFor a1 t0 h (fun v5 h4 => (¬ v5 = 0 → (hT h4 o = 14 ∧ (w_Md_has o x1 x2 h4 (fun v9 h8 => (v9 = 0 → (R (-1 : Int32) h8)) ∧ (¬ v9 = 0 → (hT h8 o = 14 ∧ (w_Md_parentIn o x1 x2 h8 (fun v13 h12 => R v13 h12)))))))) ∧ (v5 = 0 → (R (0 : Int32) h4))))
def w_Md_parent (o : Nat) (x1 : Int32) (x2 : Int32) (h : tpH) (R : Int32 → tpH → Prop) : Prop :=
  hT h o = 14 ∧ (w_Md_isTree o x1 h (fun v3 h2 => (v3 = 0 → (w_Md_parent_22 R o x1 x2 (0 : Int32) (some o) h2)) ∧ (¬ v3 = 0 → (hT h2 o = 14 ∧ (w_Md_isMark o x2 h2 (fun v7 h6 => (v7 = 0 → (w_Md_parent_22 R o x1 x2 (0 : Int32) (some o) h6)) ∧ (¬ v7 = 0 → (w_Md_parent_22 R o x1 x2 (1 : Int32) (some o) h6))))))))
theorem s_Md_parent_22 {h0 : tpH} {av : List tpV} {R : Int32 → tpH → Prop} : ∀ (o : Nat) (x1 : Int32) (x2 : Int32) (t0 : Int32) (t1 : Option Nat) (h : tpH), w_Md_parent_22 R o x1 x2 t0 t1 h → tpR Md_parent 3 h0 av (tpOi R (fun _ _ => False)) 22 [some (vR (some o)), some (vI x1), some (vI x2)] [vI t0, vR t1] h := by
  intro o x1 x2 t0 t1 h hw
  unfold w_Md_parent_22 at hw
  obtain ⟨a1, e2, f3, hw⟩ := hw
  refine te_callV mv_Md_asksFor (ci := 13) (dc := 0) (as := [vI t0]) (rest := []) kMd_434 rfl (Nat.le_of_ble_eq_true rfl) (Nat.le_of_ble_eq_true rfl) rfl rfl e2 f3 (Nat.le_of_ble_eq_true rfl) dMd_parent_22 (s_Md_asksFor hw) (fun _ _ hx => False.elim hx) (tk_i fun v5 h4 hw => ?_)
  refine tq_ifne (tgt := 32) dMd_parent_25 (by decide) (fun c6 => ?_) (fun c6 => ?_)
  · have hw := hw.1 c6
    refine tq_aload_n dMd_parent_32 rfl rfl ?_
    refine tq_iload_n dMd_parent_33 rfl rfl ?_
    refine tq_iload_n dMd_parent_34 rfl rfl ?_
    obtain ⟨f7, hw⟩ := hw
    refine te_callV mv_Md_has (ci := 13) (dc := 2) (as := [vI x1, vI x2]) (rest := []) kMd_212 rfl (Nat.le_of_ble_eq_true rfl) (Nat.le_of_ble_eq_true rfl) rfl rfl rfl f7 (Nat.le_of_ble_eq_true rfl) dMd_parent_35 (s_Md_has hw) (fun _ _ hx => False.elim hx) (tk_i fun v9 h8 hw => ?_)
    refine tq_ifeq (tgt := 50) dMd_parent_38 (by decide) (fun c10 => ?_) (fun c10 => ?_)
    · have hw := hw.1 c10
      refine tq_iconst (v := (-1 : Int32)) dMd_parent_50 tni_m1 ?_
      exact tq_iret rfl rfl dMd_parent_51 hw
    · have hw := hw.2 c10
      refine tq_aload_n dMd_parent_41 rfl rfl ?_
      refine tq_iload_n dMd_parent_42 rfl rfl ?_
      refine tq_iload_n dMd_parent_43 rfl rfl ?_
      obtain ⟨f11, hw⟩ := hw
      refine te_callV mv_Md_parentIn (ci := 13) (dc := 0) (as := [vI x1, vI x2]) (rest := []) kMd_179 rfl (Nat.le_of_ble_eq_true rfl) (Nat.le_of_ble_eq_true rfl) rfl rfl rfl f11 (Nat.le_of_ble_eq_true rfl) dMd_parent_44 (s_Md_parentIn hw) (fun _ _ hx => False.elim hx) (tk_i fun v13 h12 hw => ?_)
      refine tq_goto (tgt := 51) dMd_parent_47 (by decide) ?_
      exact tq_iret rfl rfl dMd_parent_51 hw
  · have hw := hw.2 c6
    refine tq_iconst (v := (0 : Int32)) dMd_parent_28 tni_0 ?_
    refine tq_goto (tgt := 51) dMd_parent_29 (by decide) ?_
    exact tq_iret rfl rfl dMd_parent_51 hw
theorem s_Md_parent {o : Nat} {x1 : Int32} {x2 : Int32} {h : tpH} {R : Int32 → tpH → Prop} (hw : w_Md_parent o x1 x2 h R) : tpC Md_parent 3 [vR (some o), vI x1, vI x2] h (tpOi R (fun _ _ => False)) := by
  refine tpC_of mv_Md_parent.2.2.2.1 rfl rfl (Nat.le_of_ble_eq_true rfl) ?_
  show tpR Md_parent 3 h _ _ 0 [some (vR (some o)), some (vI x1), some (vI x2)] [] h
  unfold w_Md_parent at hw
  refine tq_aload_n dMd_parent_0 rfl rfl ?_
  refine tq_aload_n dMd_parent_1 rfl rfl ?_
  refine tq_iload_n dMd_parent_2 rfl rfl ?_
  obtain ⟨f1, hw⟩ := hw
  refine te_callV mv_Md_isTree (ci := 13) (dc := 1) (as := [vI x1]) (rest := [vR (some o)]) kMd_201 rfl (Nat.le_of_ble_eq_true rfl) (Nat.le_of_ble_eq_true rfl) rfl rfl rfl f1 (Nat.le_of_ble_eq_true rfl) dMd_parent_3 (s_Md_isTree hw) (fun _ _ hx => False.elim hx) (tk_i fun v3 h2 hw => ?_)
  refine tq_ifeq (tgt := 21) dMd_parent_6 (by decide) (fun c4 => ?_) (fun c4 => ?_)
  · have hw := hw.1 c4
    refine tq_iconst (v := (0 : Int32)) dMd_parent_21 tni_0 ?_
    refine tpR.fo (ls' := [some (vR (some o)), some (vI x1), some (vI x2)]) ?_ (And.intro rfl (And.intro rfl (And.intro rfl trivial)))
    exact s_Md_parent_22 _ _ _ _ _ _ hw
  · have hw := hw.2 c4
    refine tq_aload_n dMd_parent_9 rfl rfl ?_
    refine tq_iload_n dMd_parent_10 rfl rfl ?_
    obtain ⟨f5, hw⟩ := hw
    refine te_callV mv_Md_isMark (ci := 13) (dc := 1) (as := [vI x2]) (rest := [vR (some o)]) kMd_165 rfl (Nat.le_of_ble_eq_true rfl) (Nat.le_of_ble_eq_true rfl) rfl rfl rfl f5 (Nat.le_of_ble_eq_true rfl) dMd_parent_11 (s_Md_isMark hw) (fun _ _ hx => False.elim hx) (tk_i fun v7 h6 hw => ?_)
    refine tq_ifeq (tgt := 21) dMd_parent_14 (by decide) (fun c8 => ?_) (fun c8 => ?_)
    · have hw := hw.1 c8
      refine tq_iconst (v := (0 : Int32)) dMd_parent_21 tni_0 ?_
      refine tpR.fo (ls' := [some (vR (some o)), some (vI x1), some (vI x2)]) ?_ (And.intro rfl (And.intro rfl (And.intro rfl trivial)))
      exact s_Md_parent_22 _ _ _ _ _ _ hw
    · have hw := hw.2 c8
      refine tq_iconst (v := (1 : Int32)) dMd_parent_17 tni_1 ?_
      refine tq_goto (tgt := 22) dMd_parent_18 (by decide) ?_
      refine tpR.fo (ls' := [some (vR (some o)), some (vI x1), some (vI x2)]) ?_ (And.intro rfl (And.intro rfl (And.intro rfl trivial)))
      exact s_Md_parent_22 _ _ _ _ _ _ hw
/-! TModel.areAlike -/
theorem dMd_areAlike_0 : decode (mB Md_areAlike) 0 = .ok (.aload_n 0, 1) := by decide +kernel
theorem dMd_areAlike_1 : decode (mB Md_areAlike) 1 = .ok (.aload_n 0, 1) := by decide +kernel
theorem dMd_areAlike_2 : decode (mB Md_areAlike) 2 = .ok (.iload_n 1, 1) := by decide +kernel
theorem dMd_areAlike_3 : decode (mB Md_areAlike) 3 = .ok (.invokevirtual 201, 3) := by decide +kernel
theorem dMd_areAlike_6 : decode (mB Md_areAlike) 6 = .ok (.ifCond .eq 15, 3) := by decide +kernel
theorem dMd_areAlike_9 : decode (mB Md_areAlike) 9 = .ok (.aload_n 0, 1) := by decide +kernel
theorem dMd_areAlike_10 : decode (mB Md_areAlike) 10 = .ok (.iload_n 2, 1) := by decide +kernel
theorem dMd_areAlike_11 : decode (mB Md_areAlike) 11 = .ok (.invokevirtual 201, 3) := by decide +kernel
theorem dMd_areAlike_14 : decode (mB Md_areAlike) 14 = .ok (.ifCond .eq 7, 3) := by decide +kernel
theorem dMd_areAlike_17 : decode (mB Md_areAlike) 17 = .ok (.iconst 1, 1) := by decide +kernel
theorem dMd_areAlike_18 : decode (mB Md_areAlike) 18 = .ok (.goto 4, 3) := by decide +kernel
theorem dMd_areAlike_21 : decode (mB Md_areAlike) 21 = .ok (.iconst 0, 1) := by decide +kernel
theorem dMd_areAlike_22 : decode (mB Md_areAlike) 22 = .ok (.invokevirtual 434, 3) := by decide +kernel
theorem dMd_areAlike_25 : decode (mB Md_areAlike) 25 = .ok (.ifCond .ne 5, 3) := by decide +kernel
theorem dMd_areAlike_28 : decode (mB Md_areAlike) 28 = .ok (.iconst 0, 1) := by decide +kernel
theorem dMd_areAlike_29 : decode (mB Md_areAlike) 29 = .ok (.ireturn, 1) := by decide +kernel
theorem dMd_areAlike_30 : decode (mB Md_areAlike) 30 = .ok (.aload_n 0, 1) := by decide +kernel
theorem dMd_areAlike_31 : decode (mB Md_areAlike) 31 = .ok (.iload_n 1, 1) := by decide +kernel
theorem dMd_areAlike_32 : decode (mB Md_areAlike) 32 = .ok (.iload_n 2, 1) := by decide +kernel
theorem dMd_areAlike_33 : decode (mB Md_areAlike) 33 = .ok (.invokevirtual 282, 3) := by decide +kernel
theorem dMd_areAlike_36 : decode (mB Md_areAlike) 36 = .ok (.aload_n 0, 1) := by decide +kernel
theorem dMd_areAlike_37 : decode (mB Md_areAlike) 37 = .ok (.getfield 94, 3) := by decide +kernel
theorem dMd_areAlike_40 : decode (mB Md_areAlike) 40 = .ok (.iconst 0, 1) := by decide +kernel
theorem dMd_areAlike_41 : decode (mB Md_areAlike) 41 = .ok (.baload, 1) := by decide +kernel
theorem dMd_areAlike_42 : decode (mB Md_areAlike) 42 = .ok (.ireturn, 1) := by decide +kernel
def w_Md_areAlike_22 (R : Int32 → tpH → Prop) (o : Nat) (x1 : Int32) (x2 : Int32) (t0 : Int32) (t1 : Option Nat) (h : tpH) : Prop :=
  ∃ a1, t1 = some a1 ∧ hT h a1 = 14 ∧ (w_Md_asksFor a1 t0 h (fun v5 h4 => (¬ v5 = 0 → (hT h4 o = 14 ∧ (w_Md_layAlike o x1 x2 h4 (fun h8 => hT h8 o = 14 ∧ (∃ a10, (hR h8 o 37) = some a10 ∧ hT h8 a10 = 16 ∧ (vp_in (0 : Int32) (hL h8 a10) ∧ (tpB (hI h8 a10 (0 : Int32).toNatClampNeg) ∧ (R (hI h8 a10 (0 : Int32).toNatClampNeg) h8)))))))) ∧ (v5 = 0 → (R (0 : Int32) h4))))
def w_Md_areAlike (o : Nat) (x1 : Int32) (x2 : Int32) (h : tpH) (R : Int32 → tpH → Prop) : Prop :=
  hT h o = 14 ∧ (w_Md_isTree o x1 h (fun v3 h2 => (v3 = 0 → (w_Md_areAlike_22 R o x1 x2 (0 : Int32) (some o) h2)) ∧ (¬ v3 = 0 → (hT h2 o = 14 ∧ (w_Md_isTree o x2 h2 (fun v7 h6 => (v7 = 0 → (w_Md_areAlike_22 R o x1 x2 (0 : Int32) (some o) h6)) ∧ (¬ v7 = 0 → (w_Md_areAlike_22 R o x1 x2 (1 : Int32) (some o) h6))))))))
theorem s_Md_areAlike_22 {h0 : tpH} {av : List tpV} {R : Int32 → tpH → Prop} : ∀ (o : Nat) (x1 : Int32) (x2 : Int32) (t0 : Int32) (t1 : Option Nat) (h : tpH), w_Md_areAlike_22 R o x1 x2 t0 t1 h → tpR Md_areAlike 4 h0 av (tpOi R (fun _ _ => False)) 22 [some (vR (some o)), some (vI x1), some (vI x2)] [vI t0, vR t1] h := by
  intro o x1 x2 t0 t1 h hw
  unfold w_Md_areAlike_22 at hw
  obtain ⟨a1, e2, f3, hw⟩ := hw
  refine te_callV mv_Md_asksFor (ci := 13) (dc := 0) (as := [vI t0]) (rest := []) kMd_434 rfl (Nat.le_of_ble_eq_true rfl) (Nat.le_of_ble_eq_true rfl) rfl rfl e2 f3 (Nat.le_of_ble_eq_true rfl) dMd_areAlike_22 (s_Md_asksFor hw) (fun _ _ hx => False.elim hx) (tk_i fun v5 h4 hw => ?_)
  refine tq_ifne (tgt := 30) dMd_areAlike_25 (by decide) (fun c6 => ?_) (fun c6 => ?_)
  · have hw := hw.1 c6
    refine tq_aload_n dMd_areAlike_30 rfl rfl ?_
    refine tq_iload_n dMd_areAlike_31 rfl rfl ?_
    refine tq_iload_n dMd_areAlike_32 rfl rfl ?_
    obtain ⟨f7, hw⟩ := hw
    refine te_callV mv_Md_layAlike (ci := 13) (dc := 3) (as := [vI x1, vI x2]) (rest := []) kMd_282 rfl (Nat.le_of_ble_eq_true rfl) (Nat.le_of_ble_eq_true rfl) rfl rfl rfl f7 (Nat.le_of_ble_eq_true rfl) dMd_areAlike_33 (s_Md_layAlike hw) (fun _ _ hx => False.elim hx) (tk_v fun h8 hw => ?_)
    refine tq_aload_n dMd_areAlike_36 rfl rfl ?_
    obtain ⟨f9, hw⟩ := hw
    refine te_getr dMd_areAlike_37 fMd_94 rfl rfl f9 ?_
    refine tq_iconst (v := (0 : Int32)) dMd_areAlike_40 tni_0 ?_
    obtain ⟨a10, e11, f12, hw⟩ := hw
    obtain ⟨f13, hw⟩ := hw
    refine te_zald dMd_areAlike_41 e11 f12 f13 ?_
    obtain ⟨f14, hw⟩ := hw
    exact tq_iret rfl (tpB_n f14) dMd_areAlike_42 hw
  · have hw := hw.2 c6
    refine tq_iconst (v := (0 : Int32)) dMd_areAlike_28 tni_0 ?_
    exact tq_iret rfl (by decide) dMd_areAlike_29 hw
theorem s_Md_areAlike {o : Nat} {x1 : Int32} {x2 : Int32} {h : tpH} {R : Int32 → tpH → Prop} (hw : w_Md_areAlike o x1 x2 h R) : tpC Md_areAlike 4 [vR (some o), vI x1, vI x2] h (tpOi R (fun _ _ => False)) := by
  refine tpC_of mv_Md_areAlike.2.2.2.1 rfl rfl (Nat.le_of_ble_eq_true rfl) ?_
  show tpR Md_areAlike 4 h _ _ 0 [some (vR (some o)), some (vI x1), some (vI x2)] [] h
  unfold w_Md_areAlike at hw
  refine tq_aload_n dMd_areAlike_0 rfl rfl ?_
  refine tq_aload_n dMd_areAlike_1 rfl rfl ?_
  refine tq_iload_n dMd_areAlike_2 rfl rfl ?_
  obtain ⟨f1, hw⟩ := hw
  refine te_callV mv_Md_isTree (ci := 13) (dc := 1) (as := [vI x1]) (rest := [vR (some o)]) kMd_201 rfl (Nat.le_of_ble_eq_true rfl) (Nat.le_of_ble_eq_true rfl) rfl rfl rfl f1 (Nat.le_of_ble_eq_true rfl) dMd_areAlike_3 (s_Md_isTree hw) (fun _ _ hx => False.elim hx) (tk_i fun v3 h2 hw => ?_)
  refine tq_ifeq (tgt := 21) dMd_areAlike_6 (by decide) (fun c4 => ?_) (fun c4 => ?_)
  · have hw := hw.1 c4
    refine tq_iconst (v := (0 : Int32)) dMd_areAlike_21 tni_0 ?_
    refine tpR.fo (ls' := [some (vR (some o)), some (vI x1), some (vI x2)]) ?_ (And.intro rfl (And.intro rfl (And.intro rfl trivial)))
    exact s_Md_areAlike_22 _ _ _ _ _ _ hw
  · have hw := hw.2 c4
    refine tq_aload_n dMd_areAlike_9 rfl rfl ?_
    refine tq_iload_n dMd_areAlike_10 rfl rfl ?_
    obtain ⟨f5, hw⟩ := hw
    refine te_callV mv_Md_isTree (ci := 13) (dc := 1) (as := [vI x2]) (rest := [vR (some o)]) kMd_201 rfl (Nat.le_of_ble_eq_true rfl) (Nat.le_of_ble_eq_true rfl) rfl rfl rfl f5 (Nat.le_of_ble_eq_true rfl) dMd_areAlike_11 (s_Md_isTree hw) (fun _ _ hx => False.elim hx) (tk_i fun v7 h6 hw => ?_)
    refine tq_ifeq (tgt := 21) dMd_areAlike_14 (by decide) (fun c8 => ?_) (fun c8 => ?_)
    · have hw := hw.1 c8
      refine tq_iconst (v := (0 : Int32)) dMd_areAlike_21 tni_0 ?_
      refine tpR.fo (ls' := [some (vR (some o)), some (vI x1), some (vI x2)]) ?_ (And.intro rfl (And.intro rfl (And.intro rfl trivial)))
      exact s_Md_areAlike_22 _ _ _ _ _ _ hw
    · have hw := hw.2 c8
      refine tq_iconst (v := (1 : Int32)) dMd_areAlike_17 tni_1 ?_
      refine tq_goto (tgt := 22) dMd_areAlike_18 (by decide) ?_
      refine tpR.fo (ls' := [some (vR (some o)), some (vI x1), some (vI x2)]) ?_ (And.intro rfl (And.intro rfl (And.intro rfl trivial)))
      exact s_Md_areAlike_22 _ _ _ _ _ _ hw
/-! TModel.areSame -/
theorem dMd_areSame_0 : decode (mB Md_areSame) 0 = .ok (.aload_n 0, 1) := by decide +kernel
theorem dMd_areSame_1 : decode (mB Md_areSame) 1 = .ok (.aload_n 0, 1) := by decide +kernel
theorem dMd_areSame_2 : decode (mB Md_areSame) 2 = .ok (.iload_n 1, 1) := by decide +kernel
theorem dMd_areSame_3 : decode (mB Md_areSame) 3 = .ok (.invokevirtual 201, 3) := by decide +kernel
theorem dMd_areSame_6 : decode (mB Md_areSame) 6 = .ok (.ifCond .eq 15, 3) := by decide +kernel
theorem dMd_areSame_9 : decode (mB Md_areSame) 9 = .ok (.aload_n 0, 1) := by decide +kernel
theorem dMd_areSame_10 : decode (mB Md_areSame) 10 = .ok (.iload_n 2, 1) := by decide +kernel
theorem dMd_areSame_11 : decode (mB Md_areSame) 11 = .ok (.invokevirtual 201, 3) := by decide +kernel
theorem dMd_areSame_14 : decode (mB Md_areSame) 14 = .ok (.ifCond .eq 7, 3) := by decide +kernel
theorem dMd_areSame_17 : decode (mB Md_areSame) 17 = .ok (.iconst 1, 1) := by decide +kernel
theorem dMd_areSame_18 : decode (mB Md_areSame) 18 = .ok (.goto 4, 3) := by decide +kernel
theorem dMd_areSame_21 : decode (mB Md_areSame) 21 = .ok (.iconst 0, 1) := by decide +kernel
theorem dMd_areSame_22 : decode (mB Md_areSame) 22 = .ok (.invokevirtual 434, 3) := by decide +kernel
theorem dMd_areSame_25 : decode (mB Md_areSame) 25 = .ok (.istore_n 3, 1) := by decide +kernel
theorem dMd_areSame_26 : decode (mB Md_areSame) 26 = .ok (.iconst 0, 1) := by decide +kernel
theorem dMd_areSame_27 : decode (mB Md_areSame) 27 = .ok (.istore 4, 2) := by decide +kernel
theorem dMd_areSame_29 : decode (mB Md_areSame) 29 = .ok (.iload 4, 2) := by decide +kernel
theorem dMd_areSame_31 : decode (mB Md_areSame) 31 = .ok (.aload_n 0, 1) := by decide +kernel
theorem dMd_areSame_32 : decode (mB Md_areSame) 32 = .ok (.getfield 162, 3) := by decide +kernel
theorem dMd_areSame_35 : decode (mB Md_areSame) 35 = .ok (.if_icmp .ge 96, 3) := by decide +kernel
theorem dMd_areSame_38 : decode (mB Md_areSame) 38 = .ok (.iload_n 3, 1) := by decide +kernel
theorem dMd_areSame_39 : decode (mB Md_areSame) 39 = .ok (.ifCond .eq 92, 3) := by decide +kernel
theorem dMd_areSame_42 : decode (mB Md_areSame) 42 = .ok (.aload_n 0, 1) := by decide +kernel
theorem dMd_areSame_43 : decode (mB Md_areSame) 43 = .ok (.iload_n 1, 1) := by decide +kernel
theorem dMd_areSame_44 : decode (mB Md_areSame) 44 = .ok (.iload 4, 2) := by decide +kernel
theorem dMd_areSame_46 : decode (mB Md_areSame) 46 = .ok (.invokevirtual 212, 3) := by decide +kernel
theorem dMd_areSame_49 : decode (mB Md_areSame) 49 = .ok (.istore 5, 2) := by decide +kernel
theorem dMd_areSame_51 : decode (mB Md_areSame) 51 = .ok (.iload 5, 2) := by decide +kernel
theorem dMd_areSame_53 : decode (mB Md_areSame) 53 = .ok (.aload_n 0, 1) := by decide +kernel
theorem dMd_areSame_54 : decode (mB Md_areSame) 54 = .ok (.iload_n 2, 1) := by decide +kernel
theorem dMd_areSame_55 : decode (mB Md_areSame) 55 = .ok (.iload 4, 2) := by decide +kernel
theorem dMd_areSame_57 : decode (mB Md_areSame) 57 = .ok (.invokevirtual 212, 3) := by decide +kernel
theorem dMd_areSame_60 : decode (mB Md_areSame) 60 = .ok (.if_icmp .ne 63, 3) := by decide +kernel
theorem dMd_areSame_63 : decode (mB Md_areSame) 63 = .ok (.iload 5, 2) := by decide +kernel
theorem dMd_areSame_65 : decode (mB Md_areSame) 65 = .ok (.ifCond .eq 54, 3) := by decide +kernel
theorem dMd_areSame_68 : decode (mB Md_areSame) 68 = .ok (.aload_n 0, 1) := by decide +kernel
theorem dMd_areSame_69 : decode (mB Md_areSame) 69 = .ok (.iload_n 1, 1) := by decide +kernel
theorem dMd_areSame_70 : decode (mB Md_areSame) 70 = .ok (.iload 4, 2) := by decide +kernel
theorem dMd_areSame_72 : decode (mB Md_areSame) 72 = .ok (.invokevirtual 226, 3) := by decide +kernel
theorem dMd_areSame_75 : decode (mB Md_areSame) 75 = .ok (.aload_n 0, 1) := by decide +kernel
theorem dMd_areSame_76 : decode (mB Md_areSame) 76 = .ok (.iload_n 2, 1) := by decide +kernel
theorem dMd_areSame_77 : decode (mB Md_areSame) 77 = .ok (.iload 4, 2) := by decide +kernel
theorem dMd_areSame_79 : decode (mB Md_areSame) 79 = .ok (.invokevirtual 226, 3) := by decide +kernel
theorem dMd_areSame_82 : decode (mB Md_areSame) 82 = .ok (.if_icmp .ne 41, 3) := by decide +kernel
theorem dMd_areSame_85 : decode (mB Md_areSame) 85 = .ok (.aload_n 0, 1) := by decide +kernel
theorem dMd_areSame_86 : decode (mB Md_areSame) 86 = .ok (.iload_n 1, 1) := by decide +kernel
theorem dMd_areSame_87 : decode (mB Md_areSame) 87 = .ok (.iload 4, 2) := by decide +kernel
theorem dMd_areSame_89 : decode (mB Md_areSame) 89 = .ok (.invokevirtual 179, 3) := by decide +kernel
theorem dMd_areSame_92 : decode (mB Md_areSame) 92 = .ok (.aload_n 0, 1) := by decide +kernel
theorem dMd_areSame_93 : decode (mB Md_areSame) 93 = .ok (.iload_n 2, 1) := by decide +kernel
theorem dMd_areSame_94 : decode (mB Md_areSame) 94 = .ok (.iload 4, 2) := by decide +kernel
theorem dMd_areSame_96 : decode (mB Md_areSame) 96 = .ok (.invokevirtual 179, 3) := by decide +kernel
theorem dMd_areSame_99 : decode (mB Md_areSame) 99 = .ok (.if_icmp .ne 24, 3) := by decide +kernel
theorem dMd_areSame_102 : decode (mB Md_areSame) 102 = .ok (.aload_n 0, 1) := by decide +kernel
theorem dMd_areSame_103 : decode (mB Md_areSame) 103 = .ok (.iload_n 1, 1) := by decide +kernel
theorem dMd_areSame_104 : decode (mB Md_areSame) 104 = .ok (.iload 4, 2) := by decide +kernel
theorem dMd_areSame_106 : decode (mB Md_areSame) 106 = .ok (.invokevirtual 169, 3) := by decide +kernel
theorem dMd_areSame_109 : decode (mB Md_areSame) 109 = .ok (.aload_n 0, 1) := by decide +kernel
theorem dMd_areSame_110 : decode (mB Md_areSame) 110 = .ok (.iload_n 2, 1) := by decide +kernel
theorem dMd_areSame_111 : decode (mB Md_areSame) 111 = .ok (.iload 4, 2) := by decide +kernel
theorem dMd_areSame_113 : decode (mB Md_areSame) 113 = .ok (.invokevirtual 169, 3) := by decide +kernel
theorem dMd_areSame_116 : decode (mB Md_areSame) 116 = .ok (.if_icmp .ne 7, 3) := by decide +kernel
theorem dMd_areSame_119 : decode (mB Md_areSame) 119 = .ok (.iconst 1, 1) := by decide +kernel
theorem dMd_areSame_120 : decode (mB Md_areSame) 120 = .ok (.goto 4, 3) := by decide +kernel
theorem dMd_areSame_123 : decode (mB Md_areSame) 123 = .ok (.iconst 0, 1) := by decide +kernel
theorem dMd_areSame_124 : decode (mB Md_areSame) 124 = .ok (.istore_n 3, 1) := by decide +kernel
theorem dMd_areSame_125 : decode (mB Md_areSame) 125 = .ok (.iinc 4 1, 3) := by decide +kernel
theorem dMd_areSame_128 : decode (mB Md_areSame) 128 = .ok (.goto (-99), 3) := by decide +kernel
theorem dMd_areSame_131 : decode (mB Md_areSame) 131 = .ok (.iload_n 3, 1) := by decide +kernel
theorem dMd_areSame_132 : decode (mB Md_areSame) 132 = .ok (.ireturn, 1) := by decide +kernel
def b_Md_areSame_29 (R : Int32 → tpH → Prop) (Y : Nat → Int32 → Int32 → Int32 → Int32 → tpH → Prop) (o : Nat) (x1 : Int32) (x2 : Int32) (x3 : Int32) (x4 : Int32) (h : tpH) : Prop :=
  hT h o = 14 ∧ (((hI h o 0) ≤ x4 → (tpB x3 ∧ (R x3 h))) ∧ (¬ (hI h o 0) ≤ x4 → ((x3 = 0 → (tpB x3 ∧ (R x3 h))) ∧ (¬ x3 = 0 → (w_Md_has o x1 x4 h (fun v7 h6 => hT h6 o = 14 ∧ (w_Md_has o x2 x4 h6 (fun v10 h9 => (¬ v7 = v10 → (Y o x1 x2 (0 : Int32) (x4 + (1 : Int32)) h9)) ∧ (v7 = v10 → ((v7 = 0 → (Y o x1 x2 (1 : Int32) (x4 + (1 : Int32)) h9)) ∧ (¬ v7 = 0 → (hT h9 o = 14 ∧ (w_Md_valueIn o x1 x4 h9 (fun v15 h14 => hT h14 o = 14 ∧ (w_Md_valueIn o x2 x4 h14 (fun v18 h17 => (¬ v15 = v18 → (Y o x1 x2 (0 : Int32) (x4 + (1 : Int32)) h17)) ∧ (v15 = v18 → (hT h17 o = 14 ∧ (w_Md_parentIn o x1 x4 h17 (fun v22 h21 => hT h21 o = 14 ∧ (w_Md_parentIn o x2 x4 h21 (fun v25 h24 => (¬ v22 = v25 → (Y o x1 x2 (0 : Int32) (x4 + (1 : Int32)) h24)) ∧ (v22 = v25 → (hT h24 o = 14 ∧ (w_Md_nextIn o x1 x4 h24 (fun v29 h28 => hT h28 o = 14 ∧ (w_Md_nextIn o x2 x4 h28 (fun v32 h31 => (¬ v29 = v32 → (Y o x1 x2 (0 : Int32) (x4 + (1 : Int32)) h31)) ∧ (v29 = v32 → (Y o x1 x2 (1 : Int32) (x4 + (1 : Int32)) h31))))))))))))))))))))))))))))))
def w_Md_areSame_29 (R : Int32 → tpH → Prop) : Nat → Nat → Int32 → Int32 → Int32 → Int32 → tpH → Prop
  | 0 => fun _ _ _ _ _ _ => False
  | n + 1 => b_Md_areSame_29 R (w_Md_areSame_29 R n)
def w_Md_areSame_22 (R : Int32 → tpH → Prop) (o : Nat) (x1 : Int32) (x2 : Int32) (t0 : Int32) (t1 : Option Nat) (h : tpH) : Prop :=
  ∃ a1, t1 = some a1 ∧ hT h a1 = 14 ∧ (w_Md_asksFor a1 t0 h (fun v5 h4 => ∃ n, w_Md_areSame_29 R n o x1 x2 v5 (0 : Int32) h4))
def w_Md_areSame (o : Nat) (x1 : Int32) (x2 : Int32) (h : tpH) (R : Int32 → tpH → Prop) : Prop :=
  hT h o = 14 ∧ (w_Md_isTree o x1 h (fun v3 h2 => (v3 = 0 → (w_Md_areSame_22 R o x1 x2 (0 : Int32) (some o) h2)) ∧ (¬ v3 = 0 → (hT h2 o = 14 ∧ (w_Md_isTree o x2 h2 (fun v7 h6 => (v7 = 0 → (w_Md_areSame_22 R o x1 x2 (0 : Int32) (some o) h6)) ∧ (¬ v7 = 0 → (w_Md_areSame_22 R o x1 x2 (1 : Int32) (some o) h6))))))))
theorem s_Md_areSame_29 {h0 : tpH} {av : List tpV} {R : Int32 → tpH → Prop} : ∀ (n : Nat) (o : Nat) (x1 : Int32) (x2 : Int32) (x3 : Int32) (x4 : Int32) (h : tpH), w_Md_areSame_29 R n o x1 x2 x3 x4 h → tpR Md_areSame 3 h0 av (tpOi R (fun _ _ => False)) 29 [some (vR (some o)), some (vI x1), some (vI x2), some (vI x3), some (vI x4), none] [] h := by
  intro n
  induction n with
  | zero => intro o x1 x2 x3 x4 h hw; exact False.elim hw
  | succ n ih =>
    intro o x1 x2 x3 x4 h hw
    change b_Md_areSame_29 R (w_Md_areSame_29 R n) o x1 x2 x3 x4 h at hw
    unfold b_Md_areSame_29 at hw
    refine tq_iload dMd_areSame_29 rfl ?_
    refine tq_aload_n dMd_areSame_31 rfl rfl ?_
    obtain ⟨f1, hw⟩ := hw
    refine te_geti dMd_areSame_32 fMd_162 rfl rfl f1 ?_
    refine tq_icmpge (tgt := 131) dMd_areSame_35 (by decide) (fun c2 => ?_) (fun c2 => ?_)
    · have hw := hw.1 c2
      refine tq_iload_n dMd_areSame_131 rfl rfl ?_
      obtain ⟨f3, hw⟩ := hw
      exact tq_iret rfl (tpB_n f3) dMd_areSame_132 hw
    · have hw := hw.2 c2
      refine tq_iload_n dMd_areSame_38 rfl rfl ?_
      refine tq_ifeq (tgt := 131) dMd_areSame_39 (by decide) (fun c4 => ?_) (fun c4 => ?_)
      · have hw := hw.1 c4
        refine tq_iload_n dMd_areSame_131 rfl rfl ?_
        obtain ⟨f5, hw⟩ := hw
        exact tq_iret rfl (tpB_n f5) dMd_areSame_132 hw
      · have hw := hw.2 c4
        refine tq_aload_n dMd_areSame_42 rfl rfl ?_
        refine tq_iload_n dMd_areSame_43 rfl rfl ?_
        refine tq_iload dMd_areSame_44 rfl ?_
        refine te_callV mv_Md_has (ci := 13) (dc := 2) (as := [vI x1, vI x4]) (rest := []) kMd_212 rfl (Nat.le_of_ble_eq_true rfl) (Nat.le_of_ble_eq_true rfl) rfl rfl rfl f1 (Nat.le_of_ble_eq_true rfl) dMd_areSame_46 (s_Md_has hw) (fun _ _ hx => False.elim hx) (tk_i fun v7 h6 hw => ?_)
        refine tq_istore (ls' := [some (vR (some o)), some (vI x1), some (vI x2), some (vI x3), some (vI x4), some (vI v7)]) dMd_areSame_49 (Nat.le_of_ble_eq_true rfl) rfl ?_
        refine tq_iload dMd_areSame_51 rfl ?_
        refine tq_aload_n dMd_areSame_53 rfl rfl ?_
        refine tq_iload_n dMd_areSame_54 rfl rfl ?_
        refine tq_iload dMd_areSame_55 rfl ?_
        obtain ⟨f8, hw⟩ := hw
        refine te_callV mv_Md_has (ci := 13) (dc := 2) (as := [vI x2, vI x4]) (rest := [vI v7]) kMd_212 rfl (Nat.le_of_ble_eq_true rfl) (Nat.le_of_ble_eq_true rfl) rfl rfl rfl f8 (Nat.le_of_ble_eq_true rfl) dMd_areSame_57 (s_Md_has hw) (fun _ _ hx => False.elim hx) (tk_i fun v10 h9 hw => ?_)
        refine tq_icmpne (tgt := 123) dMd_areSame_60 (by decide) (fun c11 => ?_) (fun c11 => ?_)
        · have hw := hw.1 c11
          refine tq_iconst (v := (0 : Int32)) dMd_areSame_123 tni_0 ?_
          refine tq_istore_n (ls' := [some (vR (some o)), some (vI x1), some (vI x2), some (vI (0 : Int32)), some (vI x4), some (vI v7)]) dMd_areSame_124 rfl (Nat.le_of_ble_eq_true rfl) rfl ?_
          refine tq_inc (k := (1 : Int32)) (ls' := [some (vR (some o)), some (vI x1), some (vI x2), some (vI (0 : Int32)), some (vI (x4 + (1 : Int32))), some (vI v7)]) dMd_areSame_125 rfl tni_1 (Nat.le_of_ble_eq_true rfl) rfl ?_
          refine tq_goto (tgt := 29) dMd_areSame_128 (by decide) ?_
          refine tpR.fo (ls' := [some (vR (some o)), some (vI x1), some (vI x2), some (vI (0 : Int32)), some (vI (x4 + (1 : Int32))), none]) ?_ (And.intro rfl (And.intro rfl (And.intro rfl (And.intro rfl (And.intro rfl trivial)))))
          exact ih _ _ _ _ _ _ hw
        · have hw := hw.2 c11
          refine tq_iload dMd_areSame_63 rfl ?_
          refine tq_ifeq (tgt := 119) dMd_areSame_65 (by decide) (fun c12 => ?_) (fun c12 => ?_)
          · have hw := hw.1 c12
            refine tq_iconst (v := (1 : Int32)) dMd_areSame_119 tni_1 ?_
            refine tq_goto (tgt := 124) dMd_areSame_120 (by decide) ?_
            refine tq_istore_n (ls' := [some (vR (some o)), some (vI x1), some (vI x2), some (vI (1 : Int32)), some (vI x4), some (vI v7)]) dMd_areSame_124 rfl (Nat.le_of_ble_eq_true rfl) rfl ?_
            refine tq_inc (k := (1 : Int32)) (ls' := [some (vR (some o)), some (vI x1), some (vI x2), some (vI (1 : Int32)), some (vI (x4 + (1 : Int32))), some (vI v7)]) dMd_areSame_125 rfl tni_1 (Nat.le_of_ble_eq_true rfl) rfl ?_
            refine tq_goto (tgt := 29) dMd_areSame_128 (by decide) ?_
            refine tpR.fo (ls' := [some (vR (some o)), some (vI x1), some (vI x2), some (vI (1 : Int32)), some (vI (x4 + (1 : Int32))), none]) ?_ (And.intro rfl (And.intro rfl (And.intro rfl (And.intro rfl (And.intro rfl trivial)))))
            exact ih _ _ _ _ _ _ hw
          · have hw := hw.2 c12
            refine tq_aload_n dMd_areSame_68 rfl rfl ?_
            refine tq_iload_n dMd_areSame_69 rfl rfl ?_
            refine tq_iload dMd_areSame_70 rfl ?_
            obtain ⟨f13, hw⟩ := hw
            refine te_callV mv_Md_valueIn (ci := 13) (dc := 0) (as := [vI x1, vI x4]) (rest := []) kMd_226 rfl (Nat.le_of_ble_eq_true rfl) (Nat.le_of_ble_eq_true rfl) rfl rfl rfl f13 (Nat.le_of_ble_eq_true rfl) dMd_areSame_72 (s_Md_valueIn hw) (fun _ _ hx => False.elim hx) (tk_i fun v15 h14 hw => ?_)
            refine tq_aload_n dMd_areSame_75 rfl rfl ?_
            refine tq_iload_n dMd_areSame_76 rfl rfl ?_
            refine tq_iload dMd_areSame_77 rfl ?_
            obtain ⟨f16, hw⟩ := hw
            refine te_callV mv_Md_valueIn (ci := 13) (dc := 0) (as := [vI x2, vI x4]) (rest := [vI v15]) kMd_226 rfl (Nat.le_of_ble_eq_true rfl) (Nat.le_of_ble_eq_true rfl) rfl rfl rfl f16 (Nat.le_of_ble_eq_true rfl) dMd_areSame_79 (s_Md_valueIn hw) (fun _ _ hx => False.elim hx) (tk_i fun v18 h17 hw => ?_)
            refine tq_icmpne (tgt := 123) dMd_areSame_82 (by decide) (fun c19 => ?_) (fun c19 => ?_)
            · have hw := hw.1 c19
              refine tq_iconst (v := (0 : Int32)) dMd_areSame_123 tni_0 ?_
              refine tq_istore_n (ls' := [some (vR (some o)), some (vI x1), some (vI x2), some (vI (0 : Int32)), some (vI x4), some (vI v7)]) dMd_areSame_124 rfl (Nat.le_of_ble_eq_true rfl) rfl ?_
              refine tq_inc (k := (1 : Int32)) (ls' := [some (vR (some o)), some (vI x1), some (vI x2), some (vI (0 : Int32)), some (vI (x4 + (1 : Int32))), some (vI v7)]) dMd_areSame_125 rfl tni_1 (Nat.le_of_ble_eq_true rfl) rfl ?_
              refine tq_goto (tgt := 29) dMd_areSame_128 (by decide) ?_
              refine tpR.fo (ls' := [some (vR (some o)), some (vI x1), some (vI x2), some (vI (0 : Int32)), some (vI (x4 + (1 : Int32))), none]) ?_ (And.intro rfl (And.intro rfl (And.intro rfl (And.intro rfl (And.intro rfl trivial)))))
              exact ih _ _ _ _ _ _ hw
            · have hw := hw.2 c19
              refine tq_aload_n dMd_areSame_85 rfl rfl ?_
              refine tq_iload_n dMd_areSame_86 rfl rfl ?_
              refine tq_iload dMd_areSame_87 rfl ?_
              obtain ⟨f20, hw⟩ := hw
              refine te_callV mv_Md_parentIn (ci := 13) (dc := 0) (as := [vI x1, vI x4]) (rest := []) kMd_179 rfl (Nat.le_of_ble_eq_true rfl) (Nat.le_of_ble_eq_true rfl) rfl rfl rfl f20 (Nat.le_of_ble_eq_true rfl) dMd_areSame_89 (s_Md_parentIn hw) (fun _ _ hx => False.elim hx) (tk_i fun v22 h21 hw => ?_)
              refine tq_aload_n dMd_areSame_92 rfl rfl ?_
              refine tq_iload_n dMd_areSame_93 rfl rfl ?_
              refine tq_iload dMd_areSame_94 rfl ?_
              obtain ⟨f23, hw⟩ := hw
              refine te_callV mv_Md_parentIn (ci := 13) (dc := 0) (as := [vI x2, vI x4]) (rest := [vI v22]) kMd_179 rfl (Nat.le_of_ble_eq_true rfl) (Nat.le_of_ble_eq_true rfl) rfl rfl rfl f23 (Nat.le_of_ble_eq_true rfl) dMd_areSame_96 (s_Md_parentIn hw) (fun _ _ hx => False.elim hx) (tk_i fun v25 h24 hw => ?_)
              refine tq_icmpne (tgt := 123) dMd_areSame_99 (by decide) (fun c26 => ?_) (fun c26 => ?_)
              · have hw := hw.1 c26
                refine tq_iconst (v := (0 : Int32)) dMd_areSame_123 tni_0 ?_
                refine tq_istore_n (ls' := [some (vR (some o)), some (vI x1), some (vI x2), some (vI (0 : Int32)), some (vI x4), some (vI v7)]) dMd_areSame_124 rfl (Nat.le_of_ble_eq_true rfl) rfl ?_
                refine tq_inc (k := (1 : Int32)) (ls' := [some (vR (some o)), some (vI x1), some (vI x2), some (vI (0 : Int32)), some (vI (x4 + (1 : Int32))), some (vI v7)]) dMd_areSame_125 rfl tni_1 (Nat.le_of_ble_eq_true rfl) rfl ?_
                refine tq_goto (tgt := 29) dMd_areSame_128 (by decide) ?_
                refine tpR.fo (ls' := [some (vR (some o)), some (vI x1), some (vI x2), some (vI (0 : Int32)), some (vI (x4 + (1 : Int32))), none]) ?_ (And.intro rfl (And.intro rfl (And.intro rfl (And.intro rfl (And.intro rfl trivial)))))
                exact ih _ _ _ _ _ _ hw
              · have hw := hw.2 c26
                refine tq_aload_n dMd_areSame_102 rfl rfl ?_
                refine tq_iload_n dMd_areSame_103 rfl rfl ?_
                refine tq_iload dMd_areSame_104 rfl ?_
                obtain ⟨f27, hw⟩ := hw
                refine te_callV mv_Md_nextIn (ci := 13) (dc := 0) (as := [vI x1, vI x4]) (rest := []) kMd_169 rfl (Nat.le_of_ble_eq_true rfl) (Nat.le_of_ble_eq_true rfl) rfl rfl rfl f27 (Nat.le_of_ble_eq_true rfl) dMd_areSame_106 (s_Md_nextIn hw) (fun _ _ hx => False.elim hx) (tk_i fun v29 h28 hw => ?_)
                refine tq_aload_n dMd_areSame_109 rfl rfl ?_
                refine tq_iload_n dMd_areSame_110 rfl rfl ?_
                refine tq_iload dMd_areSame_111 rfl ?_
                obtain ⟨f30, hw⟩ := hw
                refine te_callV mv_Md_nextIn (ci := 13) (dc := 0) (as := [vI x2, vI x4]) (rest := [vI v29]) kMd_169 rfl (Nat.le_of_ble_eq_true rfl) (Nat.le_of_ble_eq_true rfl) rfl rfl rfl f30 (Nat.le_of_ble_eq_true rfl) dMd_areSame_113 (s_Md_nextIn hw) (fun _ _ hx => False.elim hx) (tk_i fun v32 h31 hw => ?_)
                refine tq_icmpne (tgt := 123) dMd_areSame_116 (by decide) (fun c33 => ?_) (fun c33 => ?_)
                · have hw := hw.1 c33
                  refine tq_iconst (v := (0 : Int32)) dMd_areSame_123 tni_0 ?_
                  refine tq_istore_n (ls' := [some (vR (some o)), some (vI x1), some (vI x2), some (vI (0 : Int32)), some (vI x4), some (vI v7)]) dMd_areSame_124 rfl (Nat.le_of_ble_eq_true rfl) rfl ?_
                  refine tq_inc (k := (1 : Int32)) (ls' := [some (vR (some o)), some (vI x1), some (vI x2), some (vI (0 : Int32)), some (vI (x4 + (1 : Int32))), some (vI v7)]) dMd_areSame_125 rfl tni_1 (Nat.le_of_ble_eq_true rfl) rfl ?_
                  refine tq_goto (tgt := 29) dMd_areSame_128 (by decide) ?_
                  refine tpR.fo (ls' := [some (vR (some o)), some (vI x1), some (vI x2), some (vI (0 : Int32)), some (vI (x4 + (1 : Int32))), none]) ?_ (And.intro rfl (And.intro rfl (And.intro rfl (And.intro rfl (And.intro rfl trivial)))))
                  exact ih _ _ _ _ _ _ hw
                · have hw := hw.2 c33
                  refine tq_iconst (v := (1 : Int32)) dMd_areSame_119 tni_1 ?_
                  refine tq_goto (tgt := 124) dMd_areSame_120 (by decide) ?_
                  refine tq_istore_n (ls' := [some (vR (some o)), some (vI x1), some (vI x2), some (vI (1 : Int32)), some (vI x4), some (vI v7)]) dMd_areSame_124 rfl (Nat.le_of_ble_eq_true rfl) rfl ?_
                  refine tq_inc (k := (1 : Int32)) (ls' := [some (vR (some o)), some (vI x1), some (vI x2), some (vI (1 : Int32)), some (vI (x4 + (1 : Int32))), some (vI v7)]) dMd_areSame_125 rfl tni_1 (Nat.le_of_ble_eq_true rfl) rfl ?_
                  refine tq_goto (tgt := 29) dMd_areSame_128 (by decide) ?_
                  refine tpR.fo (ls' := [some (vR (some o)), some (vI x1), some (vI x2), some (vI (1 : Int32)), some (vI (x4 + (1 : Int32))), none]) ?_ (And.intro rfl (And.intro rfl (And.intro rfl (And.intro rfl (And.intro rfl trivial)))))
                  exact ih _ _ _ _ _ _ hw
theorem s_Md_areSame_22 {h0 : tpH} {av : List tpV} {R : Int32 → tpH → Prop} : ∀ (o : Nat) (x1 : Int32) (x2 : Int32) (t0 : Int32) (t1 : Option Nat) (h : tpH), w_Md_areSame_22 R o x1 x2 t0 t1 h → tpR Md_areSame 3 h0 av (tpOi R (fun _ _ => False)) 22 [some (vR (some o)), some (vI x1), some (vI x2), none, none, none] [vI t0, vR t1] h := by
  intro o x1 x2 t0 t1 h hw
  unfold w_Md_areSame_22 at hw
  obtain ⟨a1, e2, f3, hw⟩ := hw
  refine te_callV mv_Md_asksFor (ci := 13) (dc := 0) (as := [vI t0]) (rest := []) kMd_434 rfl (Nat.le_of_ble_eq_true rfl) (Nat.le_of_ble_eq_true rfl) rfl rfl e2 f3 (Nat.le_of_ble_eq_true rfl) dMd_areSame_22 (s_Md_asksFor hw) (fun _ _ hx => False.elim hx) (tk_i fun v5 h4 hw => ?_)
  refine tq_istore_n (ls' := [some (vR (some o)), some (vI x1), some (vI x2), some (vI v5), none, none]) dMd_areSame_25 rfl (Nat.le_of_ble_eq_true rfl) rfl ?_
  refine tq_iconst (v := (0 : Int32)) dMd_areSame_26 tni_0 ?_
  refine tq_istore (ls' := [some (vR (some o)), some (vI x1), some (vI x2), some (vI v5), some (vI (0 : Int32)), none]) dMd_areSame_27 (Nat.le_of_ble_eq_true rfl) rfl ?_
  refine tpR.fo (ls' := [some (vR (some o)), some (vI x1), some (vI x2), some (vI v5), some (vI (0 : Int32)), none]) ?_ (And.intro rfl (And.intro rfl (And.intro rfl (And.intro rfl (And.intro rfl trivial)))))
  obtain ⟨n, hw⟩ := hw
  exact s_Md_areSame_29 n _ _ _ _ _ _ hw
theorem s_Md_areSame {o : Nat} {x1 : Int32} {x2 : Int32} {h : tpH} {R : Int32 → tpH → Prop} (hw : w_Md_areSame o x1 x2 h R) : tpC Md_areSame 3 [vR (some o), vI x1, vI x2] h (tpOi R (fun _ _ => False)) := by
  refine tpC_of mv_Md_areSame.2.2.2.1 rfl rfl (Nat.le_of_ble_eq_true rfl) ?_
  show tpR Md_areSame 3 h _ _ 0 [some (vR (some o)), some (vI x1), some (vI x2), none, none, none] [] h
  unfold w_Md_areSame at hw
  refine tq_aload_n dMd_areSame_0 rfl rfl ?_
  refine tq_aload_n dMd_areSame_1 rfl rfl ?_
  refine tq_iload_n dMd_areSame_2 rfl rfl ?_
  obtain ⟨f1, hw⟩ := hw
  refine te_callV mv_Md_isTree (ci := 13) (dc := 1) (as := [vI x1]) (rest := [vR (some o)]) kMd_201 rfl (Nat.le_of_ble_eq_true rfl) (Nat.le_of_ble_eq_true rfl) rfl rfl rfl f1 (Nat.le_of_ble_eq_true rfl) dMd_areSame_3 (s_Md_isTree hw) (fun _ _ hx => False.elim hx) (tk_i fun v3 h2 hw => ?_)
  refine tq_ifeq (tgt := 21) dMd_areSame_6 (by decide) (fun c4 => ?_) (fun c4 => ?_)
  · have hw := hw.1 c4
    refine tq_iconst (v := (0 : Int32)) dMd_areSame_21 tni_0 ?_
    refine tpR.fo (ls' := [some (vR (some o)), some (vI x1), some (vI x2), none, none, none]) ?_ (And.intro rfl (And.intro rfl (And.intro rfl trivial)))
    exact s_Md_areSame_22 _ _ _ _ _ _ hw
  · have hw := hw.2 c4
    refine tq_aload_n dMd_areSame_9 rfl rfl ?_
    refine tq_iload_n dMd_areSame_10 rfl rfl ?_
    obtain ⟨f5, hw⟩ := hw
    refine te_callV mv_Md_isTree (ci := 13) (dc := 1) (as := [vI x2]) (rest := [vR (some o)]) kMd_201 rfl (Nat.le_of_ble_eq_true rfl) (Nat.le_of_ble_eq_true rfl) rfl rfl rfl f5 (Nat.le_of_ble_eq_true rfl) dMd_areSame_11 (s_Md_isTree hw) (fun _ _ hx => False.elim hx) (tk_i fun v7 h6 hw => ?_)
    refine tq_ifeq (tgt := 21) dMd_areSame_14 (by decide) (fun c8 => ?_) (fun c8 => ?_)
    · have hw := hw.1 c8
      refine tq_iconst (v := (0 : Int32)) dMd_areSame_21 tni_0 ?_
      refine tpR.fo (ls' := [some (vR (some o)), some (vI x1), some (vI x2), none, none, none]) ?_ (And.intro rfl (And.intro rfl (And.intro rfl trivial)))
      exact s_Md_areSame_22 _ _ _ _ _ _ hw
    · have hw := hw.2 c8
      refine tq_iconst (v := (1 : Int32)) dMd_areSame_17 tni_1 ?_
      refine tq_goto (tgt := 22) dMd_areSame_18 (by decide) ?_
      refine tpR.fo (ls' := [some (vR (some o)), some (vI x1), some (vI x2), none, none, none]) ?_ (And.intro rfl (And.intro rfl (And.intro rfl trivial)))
      exact s_Md_areSame_22 _ _ _ _ _ _ hw
/-! TModel.matchesTrees -/
theorem dMd_matchesTrees_0 : decode (mB Md_matchesTrees) 0 = .ok (.aload_n 0, 1) := by decide +kernel
theorem dMd_matchesTrees_1 : decode (mB Md_matchesTrees) 1 = .ok (.iload_n 1, 1) := by decide +kernel
theorem dMd_matchesTrees_2 : decode (mB Md_matchesTrees) 2 = .ok (.invokevirtual 201, 3) := by decide +kernel
theorem dMd_matchesTrees_5 : decode (mB Md_matchesTrees) 5 = .ok (.ifCond .eq 15, 3) := by decide +kernel
theorem dMd_matchesTrees_8 : decode (mB Md_matchesTrees) 8 = .ok (.aload_n 0, 1) := by decide +kernel
theorem dMd_matchesTrees_9 : decode (mB Md_matchesTrees) 9 = .ok (.iload_n 2, 1) := by decide +kernel
theorem dMd_matchesTrees_10 : decode (mB Md_matchesTrees) 10 = .ok (.invokevirtual 201, 3) := by decide +kernel
theorem dMd_matchesTrees_13 : decode (mB Md_matchesTrees) 13 = .ok (.ifCond .eq 7, 3) := by decide +kernel
theorem dMd_matchesTrees_16 : decode (mB Md_matchesTrees) 16 = .ok (.iconst 1, 1) := by decide +kernel
theorem dMd_matchesTrees_17 : decode (mB Md_matchesTrees) 17 = .ok (.goto 4, 3) := by decide +kernel
theorem dMd_matchesTrees_20 : decode (mB Md_matchesTrees) 20 = .ok (.iconst 0, 1) := by decide +kernel
theorem dMd_matchesTrees_21 : decode (mB Md_matchesTrees) 21 = .ok (.istore 4, 2) := by decide +kernel
theorem dMd_matchesTrees_23 : decode (mB Md_matchesTrees) 23 = .ok (.aload_n 0, 1) := by decide +kernel
theorem dMd_matchesTrees_24 : decode (mB Md_matchesTrees) 24 = .ok (.iload 4, 2) := by decide +kernel
theorem dMd_matchesTrees_26 : decode (mB Md_matchesTrees) 26 = .ok (.ifCond .eq 7, 3) := by decide +kernel
theorem dMd_matchesTrees_29 : decode (mB Md_matchesTrees) 29 = .ok (.iload_n 3, 1) := by decide +kernel
theorem dMd_matchesTrees_30 : decode (mB Md_matchesTrees) 30 = .ok (.ifCond .ne 7, 3) := by decide +kernel
theorem dMd_matchesTrees_33 : decode (mB Md_matchesTrees) 33 = .ok (.iconst 1, 1) := by decide +kernel
theorem dMd_matchesTrees_34 : decode (mB Md_matchesTrees) 34 = .ok (.goto 17, 3) := by decide +kernel
theorem dMd_matchesTrees_37 : decode (mB Md_matchesTrees) 37 = .ok (.aload_n 0, 1) := by decide +kernel
theorem dMd_matchesTrees_38 : decode (mB Md_matchesTrees) 38 = .ok (.iload_n 1, 1) := by decide +kernel
theorem dMd_matchesTrees_39 : decode (mB Md_matchesTrees) 39 = .ok (.iload_n 2, 1) := by decide +kernel
theorem dMd_matchesTrees_40 : decode (mB Md_matchesTrees) 40 = .ok (.invokevirtual 316, 3) := by decide +kernel
theorem dMd_matchesTrees_43 : decode (mB Md_matchesTrees) 43 = .ok (.ifCond .ne 7, 3) := by decide +kernel
theorem dMd_matchesTrees_46 : decode (mB Md_matchesTrees) 46 = .ok (.iconst 2, 1) := by decide +kernel
theorem dMd_matchesTrees_47 : decode (mB Md_matchesTrees) 47 = .ok (.goto 4, 3) := by decide +kernel
theorem dMd_matchesTrees_50 : decode (mB Md_matchesTrees) 50 = .ok (.iconst 0, 1) := by decide +kernel
theorem dMd_matchesTrees_51 : decode (mB Md_matchesTrees) 51 = .ok (.putfield 151, 3) := by decide +kernel
theorem dMd_matchesTrees_54 : decode (mB Md_matchesTrees) 54 = .ok (.aload_n 0, 1) := by decide +kernel
theorem dMd_matchesTrees_55 : decode (mB Md_matchesTrees) 55 = .ok (.getfield 151, 3) := by decide +kernel
theorem dMd_matchesTrees_58 : decode (mB Md_matchesTrees) 58 = .ok (.ifCond .ne 9, 3) := by decide +kernel
theorem dMd_matchesTrees_61 : decode (mB Md_matchesTrees) 61 = .ok (.aload_n 0, 1) := by decide +kernel
theorem dMd_matchesTrees_62 : decode (mB Md_matchesTrees) 62 = .ok (.iload_n 1, 1) := by decide +kernel
theorem dMd_matchesTrees_63 : decode (mB Md_matchesTrees) 63 = .ok (.iload_n 2, 1) := by decide +kernel
theorem dMd_matchesTrees_64 : decode (mB Md_matchesTrees) 64 = .ok (.invokevirtual 319, 3) := by decide +kernel
theorem dMd_matchesTrees_67 : decode (mB Md_matchesTrees) 67 = .ok (.aload_n 0, 1) := by decide +kernel
theorem dMd_matchesTrees_68 : decode (mB Md_matchesTrees) 68 = .ok (.getfield 151, 3) := by decide +kernel
theorem dMd_matchesTrees_71 : decode (mB Md_matchesTrees) 71 = .ok (.ifCond .ne 7, 3) := by decide +kernel
theorem dMd_matchesTrees_74 : decode (mB Md_matchesTrees) 74 = .ok (.iconst 1, 1) := by decide +kernel
theorem dMd_matchesTrees_75 : decode (mB Md_matchesTrees) 75 = .ok (.goto 4, 3) := by decide +kernel
theorem dMd_matchesTrees_78 : decode (mB Md_matchesTrees) 78 = .ok (.iconst 0, 1) := by decide +kernel
theorem dMd_matchesTrees_79 : decode (mB Md_matchesTrees) 79 = .ok (.ireturn, 1) := by decide +kernel
def w_Md_matchesTrees_67 (R : Int32 → tpH → Prop) (o : Nat) (h : tpH) : Prop :=
  hT h o = 14 ∧ ((¬ (hI h o 31) = 0 → (R (0 : Int32) h)) ∧ ((hI h o 31) = 0 → (R (1 : Int32) h)))
def w_Md_matchesTrees_51 (R : Int32 → tpH → Prop) (o : Nat) (x1 : Int32) (x2 : Int32) (t0 : Int32) (t1 : Option Nat) (h : tpH) : Prop :=
  ∃ a1, t1 = some a1 ∧ hT h a1 = 14 ∧ (∀ h4, h4 = sI h a1 31 t0 → (hT h4 o = 14 ∧ ((¬ (hI h4 o 31) = 0 → (w_Md_matchesTrees_67 R o h4)) ∧ ((hI h4 o 31) = 0 → (w_Md_matchTrees o x1 x2 h4 (fun h8 => w_Md_matchesTrees_67 R o h8))))))
def w_Md_matchesTrees_21 (R : Int32 → tpH → Prop) (o : Nat) (x1 : Int32) (x2 : Int32) (x3 : Int32) (t0 : Int32) (h : tpH) : Prop :=
  (t0 = 0 → (w_Md_matchesTrees_51 R o x1 x2 (1 : Int32) (some o) h)) ∧ (¬ t0 = 0 → ((¬ x3 = 0 → (hT h o = 14 ∧ (w_Md_areRootsLike o x1 x2 h (fun v5 h4 => (¬ v5 = 0 → (w_Md_matchesTrees_51 R o x1 x2 (0 : Int32) (some o) h4)) ∧ (v5 = 0 → (w_Md_matchesTrees_51 R o x1 x2 (2 : Int32) (some o) h4)))))) ∧ (x3 = 0 → (w_Md_matchesTrees_51 R o x1 x2 (1 : Int32) (some o) h))))
def w_Md_matchesTrees (o : Nat) (x1 : Int32) (x2 : Int32) (x3 : Int32) (h : tpH) (R : Int32 → tpH → Prop) : Prop :=
  hT h o = 14 ∧ (w_Md_isTree o x1 h (fun v3 h2 => (v3 = 0 → (w_Md_matchesTrees_21 R o x1 x2 x3 (0 : Int32) h2)) ∧ (¬ v3 = 0 → (hT h2 o = 14 ∧ (w_Md_isTree o x2 h2 (fun v7 h6 => (v7 = 0 → (w_Md_matchesTrees_21 R o x1 x2 x3 (0 : Int32) h6)) ∧ (¬ v7 = 0 → (w_Md_matchesTrees_21 R o x1 x2 x3 (1 : Int32) h6))))))))
theorem s_Md_matchesTrees_67 {h0 : tpH} {av : List tpV} {R : Int32 → tpH → Prop} : ∀ (o : Nat) (h : tpH), w_Md_matchesTrees_67 R o h → tpR Md_matchesTrees 6 h0 av (tpOi R (fun _ _ => False)) 67 [some (vR (some o)), none, none, none, none] [] h := by
  intro o h hw
  unfold w_Md_matchesTrees_67 at hw
  refine tq_aload_n dMd_matchesTrees_67 rfl rfl ?_
  obtain ⟨f1, hw⟩ := hw
  refine te_geti dMd_matchesTrees_68 fMd_151 rfl rfl f1 ?_
  refine tq_ifne (tgt := 78) dMd_matchesTrees_71 (by decide) (fun c2 => ?_) (fun c2 => ?_)
  · have hw := hw.1 c2
    refine tq_iconst (v := (0 : Int32)) dMd_matchesTrees_78 tni_0 ?_
    exact tq_iret rfl (by decide) dMd_matchesTrees_79 hw
  · have hw := hw.2 c2
    refine tq_iconst (v := (1 : Int32)) dMd_matchesTrees_74 tni_1 ?_
    refine tq_goto (tgt := 79) dMd_matchesTrees_75 (by decide) ?_
    exact tq_iret rfl (by decide) dMd_matchesTrees_79 hw
theorem s_Md_matchesTrees_51 {h0 : tpH} {av : List tpV} {R : Int32 → tpH → Prop} : ∀ (o : Nat) (x1 : Int32) (x2 : Int32) (t0 : Int32) (t1 : Option Nat) (h : tpH), w_Md_matchesTrees_51 R o x1 x2 t0 t1 h → tpR Md_matchesTrees 6 h0 av (tpOi R (fun _ _ => False)) 51 [some (vR (some o)), some (vI x1), some (vI x2), none, none] [vI t0, vR t1] h := by
  intro o x1 x2 t0 t1 h hw
  unfold w_Md_matchesTrees_51 at hw
  obtain ⟨a1, e2, f3, hw⟩ := hw
  refine te_puti dMd_matchesTrees_51 pMd_151 rfl rfl e2 f3 ⟨rfl, rfl⟩ (fun h4 e5 => ?_)
  have hw := hw h4 e5
  refine tq_aload_n dMd_matchesTrees_54 rfl rfl ?_
  obtain ⟨f6, hw⟩ := hw
  refine te_geti dMd_matchesTrees_55 fMd_151 rfl rfl f6 ?_
  refine tq_ifne (tgt := 67) dMd_matchesTrees_58 (by decide) (fun c7 => ?_) (fun c7 => ?_)
  · have hw := hw.1 c7
    refine tpR.fo (ls' := [some (vR (some o)), none, none, none, none]) ?_ (And.intro rfl trivial)
    exact s_Md_matchesTrees_67 _ _ hw
  · have hw := hw.2 c7
    refine tq_aload_n dMd_matchesTrees_61 rfl rfl ?_
    refine tq_iload_n dMd_matchesTrees_62 rfl rfl ?_
    refine tq_iload_n dMd_matchesTrees_63 rfl rfl ?_
    refine te_callV mv_Md_matchTrees (ci := 13) (dc := 5) (as := [vI x1, vI x2]) (rest := []) kMd_319 rfl (Nat.le_of_ble_eq_true rfl) (Nat.le_of_ble_eq_true rfl) rfl rfl rfl f6 (Nat.le_of_ble_eq_true rfl) dMd_matchesTrees_64 (s_Md_matchTrees hw) (fun _ _ hx => False.elim hx) (tk_v fun h8 hw => ?_)
    refine tpR.fo (ls' := [some (vR (some o)), none, none, none, none]) ?_ (And.intro rfl trivial)
    exact s_Md_matchesTrees_67 _ _ hw
theorem s_Md_matchesTrees_21 {h0 : tpH} {av : List tpV} {R : Int32 → tpH → Prop} : ∀ (o : Nat) (x1 : Int32) (x2 : Int32) (x3 : Int32) (t0 : Int32) (h : tpH), w_Md_matchesTrees_21 R o x1 x2 x3 t0 h → tpR Md_matchesTrees 6 h0 av (tpOi R (fun _ _ => False)) 21 [some (vR (some o)), some (vI x1), some (vI x2), some (vI x3), none] [vI t0] h := by
  intro o x1 x2 x3 t0 h hw
  unfold w_Md_matchesTrees_21 at hw
  refine tq_istore (ls' := [some (vR (some o)), some (vI x1), some (vI x2), some (vI x3), some (vI t0)]) dMd_matchesTrees_21 (Nat.le_of_ble_eq_true rfl) rfl ?_
  refine tq_aload_n dMd_matchesTrees_23 rfl rfl ?_
  refine tq_iload dMd_matchesTrees_24 rfl ?_
  refine tq_ifeq (tgt := 33) dMd_matchesTrees_26 (by decide) (fun c1 => ?_) (fun c1 => ?_)
  · have hw := hw.1 c1
    refine tq_iconst (v := (1 : Int32)) dMd_matchesTrees_33 tni_1 ?_
    refine tq_goto (tgt := 51) dMd_matchesTrees_34 (by decide) ?_
    refine tpR.fo (ls' := [some (vR (some o)), some (vI x1), some (vI x2), none, none]) ?_ (And.intro rfl (And.intro rfl (And.intro rfl trivial)))
    exact s_Md_matchesTrees_51 _ _ _ _ _ _ hw
  · have hw := hw.2 c1
    refine tq_iload_n dMd_matchesTrees_29 rfl rfl ?_
    refine tq_ifne (tgt := 37) dMd_matchesTrees_30 (by decide) (fun c2 => ?_) (fun c2 => ?_)
    · have hw := hw.1 c2
      refine tq_aload_n dMd_matchesTrees_37 rfl rfl ?_
      refine tq_iload_n dMd_matchesTrees_38 rfl rfl ?_
      refine tq_iload_n dMd_matchesTrees_39 rfl rfl ?_
      obtain ⟨f3, hw⟩ := hw
      refine te_callV mv_Md_areRootsLike (ci := 13) (dc := 1) (as := [vI x1, vI x2]) (rest := [vR (some o)]) kMd_316 rfl (Nat.le_of_ble_eq_true rfl) (Nat.le_of_ble_eq_true rfl) rfl rfl rfl f3 (Nat.le_of_ble_eq_true rfl) dMd_matchesTrees_40 (s_Md_areRootsLike hw) (fun _ _ hx => False.elim hx) (tk_i fun v5 h4 hw => ?_)
      refine tq_ifne (tgt := 50) dMd_matchesTrees_43 (by decide) (fun c6 => ?_) (fun c6 => ?_)
      · have hw := hw.1 c6
        refine tq_iconst (v := (0 : Int32)) dMd_matchesTrees_50 tni_0 ?_
        refine tpR.fo (ls' := [some (vR (some o)), some (vI x1), some (vI x2), none, none]) ?_ (And.intro rfl (And.intro rfl (And.intro rfl trivial)))
        exact s_Md_matchesTrees_51 _ _ _ _ _ _ hw
      · have hw := hw.2 c6
        refine tq_iconst (v := (2 : Int32)) dMd_matchesTrees_46 tni_2 ?_
        refine tq_goto (tgt := 51) dMd_matchesTrees_47 (by decide) ?_
        refine tpR.fo (ls' := [some (vR (some o)), some (vI x1), some (vI x2), none, none]) ?_ (And.intro rfl (And.intro rfl (And.intro rfl trivial)))
        exact s_Md_matchesTrees_51 _ _ _ _ _ _ hw
    · have hw := hw.2 c2
      refine tq_iconst (v := (1 : Int32)) dMd_matchesTrees_33 tni_1 ?_
      refine tq_goto (tgt := 51) dMd_matchesTrees_34 (by decide) ?_
      refine tpR.fo (ls' := [some (vR (some o)), some (vI x1), some (vI x2), none, none]) ?_ (And.intro rfl (And.intro rfl (And.intro rfl trivial)))
      exact s_Md_matchesTrees_51 _ _ _ _ _ _ hw
theorem s_Md_matchesTrees {o : Nat} {x1 : Int32} {x2 : Int32} {x3 : Int32} {h : tpH} {R : Int32 → tpH → Prop} (hw : w_Md_matchesTrees o x1 x2 x3 h R) : tpC Md_matchesTrees 6 [vR (some o), vI x1, vI x2, vI x3] h (tpOi R (fun _ _ => False)) := by
  refine tpC_of mv_Md_matchesTrees.2.2.2.1 rfl rfl (Nat.le_of_ble_eq_true rfl) ?_
  show tpR Md_matchesTrees 6 h _ _ 0 [some (vR (some o)), some (vI x1), some (vI x2), some (vI x3), none] [] h
  unfold w_Md_matchesTrees at hw
  refine tq_aload_n dMd_matchesTrees_0 rfl rfl ?_
  refine tq_iload_n dMd_matchesTrees_1 rfl rfl ?_
  obtain ⟨f1, hw⟩ := hw
  refine te_callV mv_Md_isTree (ci := 13) (dc := 1) (as := [vI x1]) (rest := []) kMd_201 rfl (Nat.le_of_ble_eq_true rfl) (Nat.le_of_ble_eq_true rfl) rfl rfl rfl f1 (Nat.le_of_ble_eq_true rfl) dMd_matchesTrees_2 (s_Md_isTree hw) (fun _ _ hx => False.elim hx) (tk_i fun v3 h2 hw => ?_)
  refine tq_ifeq (tgt := 20) dMd_matchesTrees_5 (by decide) (fun c4 => ?_) (fun c4 => ?_)
  · have hw := hw.1 c4
    refine tq_iconst (v := (0 : Int32)) dMd_matchesTrees_20 tni_0 ?_
    refine tpR.fo (ls' := [some (vR (some o)), some (vI x1), some (vI x2), some (vI x3), none]) ?_ (And.intro rfl (And.intro rfl (And.intro rfl (And.intro rfl trivial))))
    exact s_Md_matchesTrees_21 _ _ _ _ _ _ hw
  · have hw := hw.2 c4
    refine tq_aload_n dMd_matchesTrees_8 rfl rfl ?_
    refine tq_iload_n dMd_matchesTrees_9 rfl rfl ?_
    obtain ⟨f5, hw⟩ := hw
    refine te_callV mv_Md_isTree (ci := 13) (dc := 1) (as := [vI x2]) (rest := []) kMd_201 rfl (Nat.le_of_ble_eq_true rfl) (Nat.le_of_ble_eq_true rfl) rfl rfl rfl f5 (Nat.le_of_ble_eq_true rfl) dMd_matchesTrees_10 (s_Md_isTree hw) (fun _ _ hx => False.elim hx) (tk_i fun v7 h6 hw => ?_)
    refine tq_ifeq (tgt := 20) dMd_matchesTrees_13 (by decide) (fun c8 => ?_) (fun c8 => ?_)
    · have hw := hw.1 c8
      refine tq_iconst (v := (0 : Int32)) dMd_matchesTrees_20 tni_0 ?_
      refine tpR.fo (ls' := [some (vR (some o)), some (vI x1), some (vI x2), some (vI x3), none]) ?_ (And.intro rfl (And.intro rfl (And.intro rfl (And.intro rfl trivial))))
      exact s_Md_matchesTrees_21 _ _ _ _ _ _ hw
    · have hw := hw.2 c8
      refine tq_iconst (v := (1 : Int32)) dMd_matchesTrees_16 tni_1 ?_
      refine tq_goto (tgt := 21) dMd_matchesTrees_17 (by decide) ?_
      refine tpR.fo (ls' := [some (vR (some o)), some (vI x1), some (vI x2), some (vI x3), none]) ?_ (And.intro rfl (And.intro rfl (And.intro rfl (And.intro rfl trivial))))
      exact s_Md_matchesTrees_21 _ _ _ _ _ _ hw
/-! TModel.match -/
theorem dMd_match_0 : decode (mB Md_match) 0 = .ok (.aload_n 0, 1) := by decide +kernel
theorem dMd_match_1 : decode (mB Md_match) 1 = .ok (.iload_n 1, 1) := by decide +kernel
theorem dMd_match_2 : decode (mB Md_match) 2 = .ok (.iload_n 2, 1) := by decide +kernel
theorem dMd_match_3 : decode (mB Md_match) 3 = .ok (.aload_n 0, 1) := by decide +kernel
theorem dMd_match_4 : decode (mB Md_match) 4 = .ok (.iload_n 1, 1) := by decide +kernel
theorem dMd_match_5 : decode (mB Md_match) 5 = .ok (.invokevirtual 201, 3) := by decide +kernel
theorem dMd_match_8 : decode (mB Md_match) 8 = .ok (.ifCond .eq 16, 3) := by decide +kernel
theorem dMd_match_11 : decode (mB Md_match) 11 = .ok (.aload_n 0, 1) := by decide +kernel
theorem dMd_match_12 : decode (mB Md_match) 12 = .ok (.iload_n 1, 1) := by decide +kernel
theorem dMd_match_13 : decode (mB Md_match) 13 = .ok (.iload_n 3, 1) := by decide +kernel
theorem dMd_match_14 : decode (mB Md_match) 14 = .ok (.invokevirtual 212, 3) := by decide +kernel
theorem dMd_match_17 : decode (mB Md_match) 17 = .ok (.ifCond .eq 7, 3) := by decide +kernel
theorem dMd_match_20 : decode (mB Md_match) 20 = .ok (.iconst 1, 1) := by decide +kernel
theorem dMd_match_21 : decode (mB Md_match) 21 = .ok (.goto 4, 3) := by decide +kernel
theorem dMd_match_24 : decode (mB Md_match) 24 = .ok (.iconst 0, 1) := by decide +kernel
theorem dMd_match_25 : decode (mB Md_match) 25 = .ok (.invokevirtual 438, 3) := by decide +kernel
theorem dMd_match_28 : decode (mB Md_match) 28 = .ok (.ifCond .eq 12, 3) := by decide +kernel
theorem dMd_match_31 : decode (mB Md_match) 31 = .ok (.aload_n 0, 1) := by decide +kernel
theorem dMd_match_32 : decode (mB Md_match) 32 = .ok (.getfield 106, 3) := by decide +kernel
theorem dMd_match_35 : decode (mB Md_match) 35 = .ok (.iload_n 3, 1) := by decide +kernel
theorem dMd_match_36 : decode (mB Md_match) 36 = .ok (.iaload, 1) := by decide +kernel
theorem dMd_match_37 : decode (mB Md_match) 37 = .ok (.goto 4, 3) := by decide +kernel
theorem dMd_match_40 : decode (mB Md_match) 40 = .ok (.iconst 0, 1) := by decide +kernel
theorem dMd_match_41 : decode (mB Md_match) 41 = .ok (.ireturn, 1) := by decide +kernel
def w_Md_match_25 (R : Int32 → tpH → Prop) (o : Nat) (x3 : Int32) (t0 : Int32) (t1 : Int32) (t2 : Int32) (t3 : Option Nat) (h : tpH) : Prop :=
  ∃ a1, t3 = some a1 ∧ hT h a1 = 14 ∧ (w_Md_matchesTrees a1 t2 t1 t0 h (fun v5 h4 => (v5 = 0 → (R (0 : Int32) h4)) ∧ (¬ v5 = 0 → (hT h4 o = 14 ∧ (∃ a8, (hR h4 o 41) = some a8 ∧ hT h4 a8 = 15 ∧ (vp_in x3 (hL h4 a8) ∧ (R (hI h4 a8 x3.toNatClampNeg) h4)))))))
def w_Md_match (o : Nat) (x1 : Int32) (x2 : Int32) (x3 : Int32) (h : tpH) (R : Int32 → tpH → Prop) : Prop :=
  hT h o = 14 ∧ (w_Md_isTree o x1 h (fun v3 h2 => (v3 = 0 → (w_Md_match_25 R o x3 (0 : Int32) x2 x1 (some o) h2)) ∧ (¬ v3 = 0 → (hT h2 o = 14 ∧ (w_Md_has o x1 x3 h2 (fun v7 h6 => (v7 = 0 → (w_Md_match_25 R o x3 (0 : Int32) x2 x1 (some o) h6)) ∧ (¬ v7 = 0 → (w_Md_match_25 R o x3 (1 : Int32) x2 x1 (some o) h6))))))))
theorem s_Md_match_25 {h0 : tpH} {av : List tpV} {R : Int32 → tpH → Prop} : ∀ (o : Nat) (x3 : Int32) (t0 : Int32) (t1 : Int32) (t2 : Int32) (t3 : Option Nat) (h : tpH), w_Md_match_25 R o x3 t0 t1 t2 t3 h → tpR Md_match 7 h0 av (tpOi R (fun _ _ => False)) 25 [some (vR (some o)), none, none, some (vI x3)] [vI t0, vI t1, vI t2, vR t3] h := by
  intro o x3 t0 t1 t2 t3 h hw
  unfold w_Md_match_25 at hw
  obtain ⟨a1, e2, f3, hw⟩ := hw
  refine te_callV mv_Md_matchesTrees (ci := 13) (dc := 6) (as := [vI t2, vI t1, vI t0]) (rest := []) kMd_438 rfl (Nat.le_of_ble_eq_true rfl) (Nat.le_of_ble_eq_true rfl) rfl rfl e2 f3 (Nat.le_of_ble_eq_true rfl) dMd_match_25 (s_Md_matchesTrees hw) (fun _ _ hx => False.elim hx) (tk_i fun v5 h4 hw => ?_)
  refine tq_ifeq (tgt := 40) dMd_match_28 (by decide) (fun c6 => ?_) (fun c6 => ?_)
  · have hw := hw.1 c6
    refine tq_iconst (v := (0 : Int32)) dMd_match_40 tni_0 ?_
    exact tq_iret rfl rfl dMd_match_41 hw
  · have hw := hw.2 c6
    refine tq_aload_n dMd_match_31 rfl rfl ?_
    obtain ⟨f7, hw⟩ := hw
    refine te_getr dMd_match_32 fMd_106 rfl rfl f7 ?_
    refine tq_iload_n dMd_match_35 rfl rfl ?_
    obtain ⟨a8, e9, f10, hw⟩ := hw
    obtain ⟨f11, hw⟩ := hw
    refine te_iald dMd_match_36 e9 (Or.inl f10) f11 ?_
    refine tq_goto (tgt := 41) dMd_match_37 (by decide) ?_
    exact tq_iret rfl rfl dMd_match_41 hw
theorem s_Md_match {o : Nat} {x1 : Int32} {x2 : Int32} {x3 : Int32} {h : tpH} {R : Int32 → tpH → Prop} (hw : w_Md_match o x1 x2 x3 h R) : tpC Md_match 7 [vR (some o), vI x1, vI x2, vI x3] h (tpOi R (fun _ _ => False)) := by
  refine tpC_of mv_Md_match.2.2.2.1 rfl rfl (Nat.le_of_ble_eq_true rfl) ?_
  show tpR Md_match 7 h _ _ 0 [some (vR (some o)), some (vI x1), some (vI x2), some (vI x3)] [] h
  unfold w_Md_match at hw
  refine tq_aload_n dMd_match_0 rfl rfl ?_
  refine tq_iload_n dMd_match_1 rfl rfl ?_
  refine tq_iload_n dMd_match_2 rfl rfl ?_
  refine tq_aload_n dMd_match_3 rfl rfl ?_
  refine tq_iload_n dMd_match_4 rfl rfl ?_
  obtain ⟨f1, hw⟩ := hw
  refine te_callV mv_Md_isTree (ci := 13) (dc := 1) (as := [vI x1]) (rest := [vI x2, vI x1, vR (some o)]) kMd_201 rfl (Nat.le_of_ble_eq_true rfl) (Nat.le_of_ble_eq_true rfl) rfl rfl rfl f1 (Nat.le_of_ble_eq_true rfl) dMd_match_5 (s_Md_isTree hw) (fun _ _ hx => False.elim hx) (tk_i fun v3 h2 hw => ?_)
  refine tq_ifeq (tgt := 24) dMd_match_8 (by decide) (fun c4 => ?_) (fun c4 => ?_)
  · have hw := hw.1 c4
    refine tq_iconst (v := (0 : Int32)) dMd_match_24 tni_0 ?_
    refine tpR.fo (ls' := [some (vR (some o)), none, none, some (vI x3)]) ?_ (And.intro rfl (And.intro rfl trivial))
    exact s_Md_match_25 _ _ _ _ _ _ _ hw
  · have hw := hw.2 c4
    refine tq_aload_n dMd_match_11 rfl rfl ?_
    refine tq_iload_n dMd_match_12 rfl rfl ?_
    refine tq_iload_n dMd_match_13 rfl rfl ?_
    obtain ⟨f5, hw⟩ := hw
    refine te_callV mv_Md_has (ci := 13) (dc := 2) (as := [vI x1, vI x3]) (rest := [vI x2, vI x1, vR (some o)]) kMd_212 rfl (Nat.le_of_ble_eq_true rfl) (Nat.le_of_ble_eq_true rfl) rfl rfl rfl f5 (Nat.le_of_ble_eq_true rfl) dMd_match_14 (s_Md_has hw) (fun _ _ hx => False.elim hx) (tk_i fun v7 h6 hw => ?_)
    refine tq_ifeq (tgt := 24) dMd_match_17 (by decide) (fun c8 => ?_) (fun c8 => ?_)
    · have hw := hw.1 c8
      refine tq_iconst (v := (0 : Int32)) dMd_match_24 tni_0 ?_
      refine tpR.fo (ls' := [some (vR (some o)), none, none, some (vI x3)]) ?_ (And.intro rfl (And.intro rfl trivial))
      exact s_Md_match_25 _ _ _ _ _ _ _ hw
    · have hw := hw.2 c8
      refine tq_iconst (v := (1 : Int32)) dMd_match_20 tni_1 ?_
      refine tq_goto (tgt := 25) dMd_match_21 (by decide) ?_
      refine tpR.fo (ls' := [some (vR (some o)), none, none, some (vI x3)]) ?_ (And.intro rfl (And.intro rfl trivial))
      exact s_Md_match_25 _ _ _ _ _ _ _ hw
/-! TModel.likeness -/
theorem dMd_likeness_0 : decode (mB Md_likeness) 0 = .ok (.aload_n 0, 1) := by decide +kernel
theorem dMd_likeness_1 : decode (mB Md_likeness) 1 = .ok (.iload_n 1, 1) := by decide +kernel
theorem dMd_likeness_2 : decode (mB Md_likeness) 2 = .ok (.iload_n 2, 1) := by decide +kernel
theorem dMd_likeness_3 : decode (mB Md_likeness) 3 = .ok (.aload_n 0, 1) := by decide +kernel
theorem dMd_likeness_4 : decode (mB Md_likeness) 4 = .ok (.iload_n 1, 1) := by decide +kernel
theorem dMd_likeness_5 : decode (mB Md_likeness) 5 = .ok (.invokevirtual 201, 3) := by decide +kernel
theorem dMd_likeness_8 : decode (mB Md_likeness) 8 = .ok (.ifCond .eq 34, 3) := by decide +kernel
theorem dMd_likeness_11 : decode (mB Md_likeness) 11 = .ok (.aload_n 0, 1) := by decide +kernel
theorem dMd_likeness_12 : decode (mB Md_likeness) 12 = .ok (.iload_n 1, 1) := by decide +kernel
theorem dMd_likeness_13 : decode (mB Md_likeness) 13 = .ok (.iload_n 3, 1) := by decide +kernel
theorem dMd_likeness_14 : decode (mB Md_likeness) 14 = .ok (.invokevirtual 212, 3) := by decide +kernel
theorem dMd_likeness_17 : decode (mB Md_likeness) 17 = .ok (.ifCond .eq 25, 3) := by decide +kernel
theorem dMd_likeness_20 : decode (mB Md_likeness) 20 = .ok (.aload_n 0, 1) := by decide +kernel
theorem dMd_likeness_21 : decode (mB Md_likeness) 21 = .ok (.iload_n 2, 1) := by decide +kernel
theorem dMd_likeness_22 : decode (mB Md_likeness) 22 = .ok (.invokevirtual 201, 3) := by decide +kernel
theorem dMd_likeness_25 : decode (mB Md_likeness) 25 = .ok (.ifCond .eq 17, 3) := by decide +kernel
theorem dMd_likeness_28 : decode (mB Md_likeness) 28 = .ok (.aload_n 0, 1) := by decide +kernel
theorem dMd_likeness_29 : decode (mB Md_likeness) 29 = .ok (.iload_n 2, 1) := by decide +kernel
theorem dMd_likeness_30 : decode (mB Md_likeness) 30 = .ok (.iload 4, 2) := by decide +kernel
theorem dMd_likeness_32 : decode (mB Md_likeness) 32 = .ok (.invokevirtual 212, 3) := by decide +kernel
theorem dMd_likeness_35 : decode (mB Md_likeness) 35 = .ok (.ifCond .eq 7, 3) := by decide +kernel
theorem dMd_likeness_38 : decode (mB Md_likeness) 38 = .ok (.iconst 1, 1) := by decide +kernel
theorem dMd_likeness_39 : decode (mB Md_likeness) 39 = .ok (.goto 4, 3) := by decide +kernel
theorem dMd_likeness_42 : decode (mB Md_likeness) 42 = .ok (.iconst 0, 1) := by decide +kernel
theorem dMd_likeness_43 : decode (mB Md_likeness) 43 = .ok (.invokevirtual 438, 3) := by decide +kernel
theorem dMd_likeness_46 : decode (mB Md_likeness) 46 = .ok (.ifCond .eq 15, 3) := by decide +kernel
theorem dMd_likeness_49 : decode (mB Md_likeness) 49 = .ok (.aload_n 0, 1) := by decide +kernel
theorem dMd_likeness_50 : decode (mB Md_likeness) 50 = .ok (.iload_n 1, 1) := by decide +kernel
theorem dMd_likeness_51 : decode (mB Md_likeness) 51 = .ok (.iload_n 2, 1) := by decide +kernel
theorem dMd_likeness_52 : decode (mB Md_likeness) 52 = .ok (.iload_n 3, 1) := by decide +kernel
theorem dMd_likeness_53 : decode (mB Md_likeness) 53 = .ok (.iload 4, 2) := by decide +kernel
theorem dMd_likeness_55 : decode (mB Md_likeness) 55 = .ok (.invokevirtual 277, 3) := by decide +kernel
theorem dMd_likeness_58 : decode (mB Md_likeness) 58 = .ok (.goto 4, 3) := by decide +kernel
theorem dMd_likeness_61 : decode (mB Md_likeness) 61 = .ok (.fconst 0, 1) := by decide +kernel
theorem dMd_likeness_62 : decode (mB Md_likeness) 62 = .ok (.freturn, 1) := by decide +kernel
def w_Md_likeness_43 (R : UInt32 → tpH → Prop) (o : Nat) (x1 : Int32) (x2 : Int32) (x3 : Int32) (x4 : Int32) (t0 : Int32) (t1 : Int32) (t2 : Int32) (t3 : Option Nat) (h : tpH) : Prop :=
  ∃ a1, t3 = some a1 ∧ hT h a1 = 14 ∧ (w_Md_matchesTrees a1 t2 t1 t0 h (fun v5 h4 => (v5 = 0 → (R (FP.fconst0) h4)) ∧ (¬ v5 = 0 → (hT h4 o = 14 ∧ (w_Md_likenessOf o x1 x2 x3 x4 h4 (fun v9 h8 => R v9 h8))))))
def w_Md_likeness (o : Nat) (x1 : Int32) (x2 : Int32) (x3 : Int32) (x4 : Int32) (h : tpH) (R : UInt32 → tpH → Prop) : Prop :=
  hT h o = 14 ∧ (w_Md_isTree o x1 h (fun v3 h2 => (v3 = 0 → (w_Md_likeness_43 R o x1 x2 x3 x4 (0 : Int32) x2 x1 (some o) h2)) ∧ (¬ v3 = 0 → (hT h2 o = 14 ∧ (w_Md_has o x1 x3 h2 (fun v7 h6 => (v7 = 0 → (w_Md_likeness_43 R o x1 x2 x3 x4 (0 : Int32) x2 x1 (some o) h6)) ∧ (¬ v7 = 0 → (hT h6 o = 14 ∧ (w_Md_isTree o x2 h6 (fun v11 h10 => (v11 = 0 → (w_Md_likeness_43 R o x1 x2 x3 x4 (0 : Int32) x2 x1 (some o) h10)) ∧ (¬ v11 = 0 → (hT h10 o = 14 ∧ (w_Md_has o x2 x4 h10 (fun v15 h14 => (v15 = 0 → (w_Md_likeness_43 R o x1 x2 x3 x4 (0 : Int32) x2 x1 (some o) h14)) ∧ (¬ v15 = 0 → (w_Md_likeness_43 R o x1 x2 x3 x4 (1 : Int32) x2 x1 (some o) h14))))))))))))))))
theorem s_Md_likeness_43 {h0 : tpH} {av : List tpV} {R : UInt32 → tpH → Prop} : ∀ (o : Nat) (x1 : Int32) (x2 : Int32) (x3 : Int32) (x4 : Int32) (t0 : Int32) (t1 : Int32) (t2 : Int32) (t3 : Option Nat) (h : tpH), w_Md_likeness_43 R o x1 x2 x3 x4 t0 t1 t2 t3 h → tpR Md_likeness 7 h0 av (tpOf R (fun _ _ => False)) 43 [some (vR (some o)), some (vI x1), some (vI x2), some (vI x3), some (vI x4)] [vI t0, vI t1, vI t2, vR t3] h := by
  intro o x1 x2 x3 x4 t0 t1 t2 t3 h hw
  unfold w_Md_likeness_43 at hw
  obtain ⟨a1, e2, f3, hw⟩ := hw
  refine te_callV mv_Md_matchesTrees (ci := 13) (dc := 6) (as := [vI t2, vI t1, vI t0]) (rest := []) kMd_438 rfl (Nat.le_of_ble_eq_true rfl) (Nat.le_of_ble_eq_true rfl) rfl rfl e2 f3 (Nat.le_of_ble_eq_true rfl) dMd_likeness_43 (s_Md_matchesTrees hw) (fun _ _ hx => False.elim hx) (tk_i fun v5 h4 hw => ?_)
  refine tq_ifeq (tgt := 61) dMd_likeness_46 (by decide) (fun c6 => ?_) (fun c6 => ?_)
  · have hw := hw.1 c6
    refine tq_fconst0 dMd_likeness_61 ?_
    exact tq_fret rfl dMd_likeness_62 hw
  · have hw := hw.2 c6
    refine tq_aload_n dMd_likeness_49 rfl rfl ?_
    refine tq_iload_n dMd_likeness_50 rfl rfl ?_
    refine tq_iload_n dMd_likeness_51 rfl rfl ?_
    refine tq_iload_n dMd_likeness_52 rfl rfl ?_
    refine tq_iload dMd_likeness_53 rfl ?_
    obtain ⟨f7, hw⟩ := hw
    refine te_callV mv_Md_likenessOf (ci := 13) (dc := 3) (as := [vI x1, vI x2, vI x3, vI x4]) (rest := []) kMd_277 rfl (Nat.le_of_ble_eq_true rfl) (Nat.le_of_ble_eq_true rfl) rfl rfl rfl f7 (Nat.le_of_ble_eq_true rfl) dMd_likeness_55 (s_Md_likenessOf hw) (fun _ _ hx => False.elim hx) (tk_f fun v9 h8 hw => ?_)
    refine tq_goto (tgt := 62) dMd_likeness_58 (by decide) ?_
    exact tq_fret rfl dMd_likeness_62 hw
theorem s_Md_likeness {o : Nat} {x1 : Int32} {x2 : Int32} {x3 : Int32} {x4 : Int32} {h : tpH} {R : UInt32 → tpH → Prop} (hw : w_Md_likeness o x1 x2 x3 x4 h R) : tpC Md_likeness 7 [vR (some o), vI x1, vI x2, vI x3, vI x4] h (tpOf R (fun _ _ => False)) := by
  refine tpC_of mv_Md_likeness.2.2.2.1 rfl rfl (Nat.le_of_ble_eq_true rfl) ?_
  show tpR Md_likeness 7 h _ _ 0 [some (vR (some o)), some (vI x1), some (vI x2), some (vI x3), some (vI x4)] [] h
  unfold w_Md_likeness at hw
  refine tq_aload_n dMd_likeness_0 rfl rfl ?_
  refine tq_iload_n dMd_likeness_1 rfl rfl ?_
  refine tq_iload_n dMd_likeness_2 rfl rfl ?_
  refine tq_aload_n dMd_likeness_3 rfl rfl ?_
  refine tq_iload_n dMd_likeness_4 rfl rfl ?_
  obtain ⟨f1, hw⟩ := hw
  refine te_callV mv_Md_isTree (ci := 13) (dc := 1) (as := [vI x1]) (rest := [vI x2, vI x1, vR (some o)]) kMd_201 rfl (Nat.le_of_ble_eq_true rfl) (Nat.le_of_ble_eq_true rfl) rfl rfl rfl f1 (Nat.le_of_ble_eq_true rfl) dMd_likeness_5 (s_Md_isTree hw) (fun _ _ hx => False.elim hx) (tk_i fun v3 h2 hw => ?_)
  refine tq_ifeq (tgt := 42) dMd_likeness_8 (by decide) (fun c4 => ?_) (fun c4 => ?_)
  · have hw := hw.1 c4
    refine tq_iconst (v := (0 : Int32)) dMd_likeness_42 tni_0 ?_
    refine tpR.fo (ls' := [some (vR (some o)), some (vI x1), some (vI x2), some (vI x3), some (vI x4)]) ?_ (And.intro rfl (And.intro rfl (And.intro rfl (And.intro rfl (And.intro rfl trivial)))))
    exact s_Md_likeness_43 _ _ _ _ _ _ _ _ _ _ hw
  · have hw := hw.2 c4
    refine tq_aload_n dMd_likeness_11 rfl rfl ?_
    refine tq_iload_n dMd_likeness_12 rfl rfl ?_
    refine tq_iload_n dMd_likeness_13 rfl rfl ?_
    obtain ⟨f5, hw⟩ := hw
    refine te_callV mv_Md_has (ci := 13) (dc := 2) (as := [vI x1, vI x3]) (rest := [vI x2, vI x1, vR (some o)]) kMd_212 rfl (Nat.le_of_ble_eq_true rfl) (Nat.le_of_ble_eq_true rfl) rfl rfl rfl f5 (Nat.le_of_ble_eq_true rfl) dMd_likeness_14 (s_Md_has hw) (fun _ _ hx => False.elim hx) (tk_i fun v7 h6 hw => ?_)
    refine tq_ifeq (tgt := 42) dMd_likeness_17 (by decide) (fun c8 => ?_) (fun c8 => ?_)
    · have hw := hw.1 c8
      refine tq_iconst (v := (0 : Int32)) dMd_likeness_42 tni_0 ?_
      refine tpR.fo (ls' := [some (vR (some o)), some (vI x1), some (vI x2), some (vI x3), some (vI x4)]) ?_ (And.intro rfl (And.intro rfl (And.intro rfl (And.intro rfl (And.intro rfl trivial)))))
      exact s_Md_likeness_43 _ _ _ _ _ _ _ _ _ _ hw
    · have hw := hw.2 c8
      refine tq_aload_n dMd_likeness_20 rfl rfl ?_
      refine tq_iload_n dMd_likeness_21 rfl rfl ?_
      obtain ⟨f9, hw⟩ := hw
      refine te_callV mv_Md_isTree (ci := 13) (dc := 1) (as := [vI x2]) (rest := [vI x2, vI x1, vR (some o)]) kMd_201 rfl (Nat.le_of_ble_eq_true rfl) (Nat.le_of_ble_eq_true rfl) rfl rfl rfl f9 (Nat.le_of_ble_eq_true rfl) dMd_likeness_22 (s_Md_isTree hw) (fun _ _ hx => False.elim hx) (tk_i fun v11 h10 hw => ?_)
      refine tq_ifeq (tgt := 42) dMd_likeness_25 (by decide) (fun c12 => ?_) (fun c12 => ?_)
      · have hw := hw.1 c12
        refine tq_iconst (v := (0 : Int32)) dMd_likeness_42 tni_0 ?_
        refine tpR.fo (ls' := [some (vR (some o)), some (vI x1), some (vI x2), some (vI x3), some (vI x4)]) ?_ (And.intro rfl (And.intro rfl (And.intro rfl (And.intro rfl (And.intro rfl trivial)))))
        exact s_Md_likeness_43 _ _ _ _ _ _ _ _ _ _ hw
      · have hw := hw.2 c12
        refine tq_aload_n dMd_likeness_28 rfl rfl ?_
        refine tq_iload_n dMd_likeness_29 rfl rfl ?_
        refine tq_iload dMd_likeness_30 rfl ?_
        obtain ⟨f13, hw⟩ := hw
        refine te_callV mv_Md_has (ci := 13) (dc := 2) (as := [vI x2, vI x4]) (rest := [vI x2, vI x1, vR (some o)]) kMd_212 rfl (Nat.le_of_ble_eq_true rfl) (Nat.le_of_ble_eq_true rfl) rfl rfl rfl f13 (Nat.le_of_ble_eq_true rfl) dMd_likeness_32 (s_Md_has hw) (fun _ _ hx => False.elim hx) (tk_i fun v15 h14 hw => ?_)
        refine tq_ifeq (tgt := 42) dMd_likeness_35 (by decide) (fun c16 => ?_) (fun c16 => ?_)
        · have hw := hw.1 c16
          refine tq_iconst (v := (0 : Int32)) dMd_likeness_42 tni_0 ?_
          refine tpR.fo (ls' := [some (vR (some o)), some (vI x1), some (vI x2), some (vI x3), some (vI x4)]) ?_ (And.intro rfl (And.intro rfl (And.intro rfl (And.intro rfl (And.intro rfl trivial)))))
          exact s_Md_likeness_43 _ _ _ _ _ _ _ _ _ _ hw
        · have hw := hw.2 c16
          refine tq_iconst (v := (1 : Int32)) dMd_likeness_38 tni_1 ?_
          refine tq_goto (tgt := 43) dMd_likeness_39 (by decide) ?_
          refine tpR.fo (ls' := [some (vR (some o)), some (vI x1), some (vI x2), some (vI x3), some (vI x4)]) ?_ (And.intro rfl (And.intro rfl (And.intro rfl (And.intro rfl (And.intro rfl trivial)))))
          exact s_Md_likeness_43 _ _ _ _ _ _ _ _ _ _ hw
/-! TModel.steps -/
theorem dMd_steps_0 : decode (mB Md_steps) 0 = .ok (.aload_n 0, 1) := by decide +kernel
theorem dMd_steps_1 : decode (mB Md_steps) 1 = .ok (.aload_n 0, 1) := by decide +kernel
theorem dMd_steps_2 : decode (mB Md_steps) 2 = .ok (.iload_n 1, 1) := by decide +kernel
theorem dMd_steps_3 : decode (mB Md_steps) 3 = .ok (.invokevirtual 325, 3) := by decide +kernel
theorem dMd_steps_6 : decode (mB Md_steps) 6 = .ok (.invokevirtual 434, 3) := by decide +kernel
theorem dMd_steps_9 : decode (mB Md_steps) 9 = .ok (.ifCond .eq 12, 3) := by decide +kernel
theorem dMd_steps_12 : decode (mB Md_steps) 12 = .ok (.aload_n 0, 1) := by decide +kernel
theorem dMd_steps_13 : decode (mB Md_steps) 13 = .ok (.getfield 31, 3) := by decide +kernel
theorem dMd_steps_16 : decode (mB Md_steps) 16 = .ok (.iload_n 1, 1) := by decide +kernel
theorem dMd_steps_17 : decode (mB Md_steps) 17 = .ok (.iaload, 1) := by decide +kernel
theorem dMd_steps_18 : decode (mB Md_steps) 18 = .ok (.goto 4, 3) := by decide +kernel
theorem dMd_steps_21 : decode (mB Md_steps) 21 = .ok (.iconst 0, 1) := by decide +kernel
theorem dMd_steps_22 : decode (mB Md_steps) 22 = .ok (.ireturn, 1) := by decide +kernel
def w_Md_steps (o : Nat) (x1 : Int32) (h : tpH) (R : Int32 → tpH → Prop) : Prop :=
  hT h o = 14 ∧ (w_Md_isScript o x1 h (fun v3 h2 => hT h2 o = 14 ∧ (w_Md_asksFor o v3 h2 (fun v6 h5 => (v6 = 0 → (R (0 : Int32) h5)) ∧ (¬ v6 = 0 → (hT h5 o = 14 ∧ (∃ a9, (hR h5 o 11) = some a9 ∧ hT h5 a9 = 15 ∧ (vp_in x1 (hL h5 a9) ∧ (R (hI h5 a9 x1.toNatClampNeg) h5)))))))))
theorem s_Md_steps {o : Nat} {x1 : Int32} {h : tpH} {R : Int32 → tpH → Prop} (hw : w_Md_steps o x1 h R) : tpC Md_steps 2 [vR (some o), vI x1] h (tpOi R (fun _ _ => False)) := by
  refine tpC_of mv_Md_steps.2.2.2.1 rfl rfl (Nat.le_of_ble_eq_true rfl) ?_
  show tpR Md_steps 2 h _ _ 0 [some (vR (some o)), some (vI x1)] [] h
  unfold w_Md_steps at hw
  refine tq_aload_n dMd_steps_0 rfl rfl ?_
  refine tq_aload_n dMd_steps_1 rfl rfl ?_
  refine tq_iload_n dMd_steps_2 rfl rfl ?_
  obtain ⟨f1, hw⟩ := hw
  refine te_callV mv_Md_isScript (ci := 13) (dc := 1) (as := [vI x1]) (rest := [vR (some o)]) kMd_325 rfl (Nat.le_of_ble_eq_true rfl) (Nat.le_of_ble_eq_true rfl) rfl rfl rfl f1 (Nat.le_of_ble_eq_true rfl) dMd_steps_3 (s_Md_isScript hw) (fun _ _ hx => False.elim hx) (tk_i fun v3 h2 hw => ?_)
  obtain ⟨f4, hw⟩ := hw
  refine te_callV mv_Md_asksFor (ci := 13) (dc := 0) (as := [vI v3]) (rest := []) kMd_434 rfl (Nat.le_of_ble_eq_true rfl) (Nat.le_of_ble_eq_true rfl) rfl rfl rfl f4 (Nat.le_of_ble_eq_true rfl) dMd_steps_6 (s_Md_asksFor hw) (fun _ _ hx => False.elim hx) (tk_i fun v6 h5 hw => ?_)
  refine tq_ifeq (tgt := 21) dMd_steps_9 (by decide) (fun c7 => ?_) (fun c7 => ?_)
  · have hw := hw.1 c7
    refine tq_iconst (v := (0 : Int32)) dMd_steps_21 tni_0 ?_
    exact tq_iret rfl rfl dMd_steps_22 hw
  · have hw := hw.2 c7
    refine tq_aload_n dMd_steps_12 rfl rfl ?_
    obtain ⟨f8, hw⟩ := hw
    refine te_getr dMd_steps_13 fMd_31 rfl rfl f8 ?_
    refine tq_iload_n dMd_steps_16 rfl rfl ?_
    obtain ⟨a9, e10, f11, hw⟩ := hw
    obtain ⟨f12, hw⟩ := hw
    refine te_iald dMd_steps_17 e10 (Or.inl f11) f12 ?_
    refine tq_goto (tgt := 22) dMd_steps_18 (by decide) ?_
    exact tq_iret rfl rfl dMd_steps_22 hw
/-! TModel.asksStep -/
theorem dMd_asksStep_0 : decode (mB Md_asksStep) 0 = .ok (.aload_n 0, 1) := by decide +kernel
theorem dMd_asksStep_1 : decode (mB Md_asksStep) 1 = .ok (.aload_n 0, 1) := by decide +kernel
theorem dMd_asksStep_2 : decode (mB Md_asksStep) 2 = .ok (.iload_n 1, 1) := by decide +kernel
theorem dMd_asksStep_3 : decode (mB Md_asksStep) 3 = .ok (.invokevirtual 325, 3) := by decide +kernel
theorem dMd_asksStep_6 : decode (mB Md_asksStep) 6 = .ok (.ifCond .eq 23, 3) := by decide +kernel
theorem dMd_asksStep_9 : decode (mB Md_asksStep) 9 = .ok (.iload_n 2, 1) := by decide +kernel
theorem dMd_asksStep_10 : decode (mB Md_asksStep) 10 = .ok (.iconst 0, 1) := by decide +kernel
theorem dMd_asksStep_11 : decode (mB Md_asksStep) 11 = .ok (.aload_n 0, 1) := by decide +kernel
theorem dMd_asksStep_12 : decode (mB Md_asksStep) 12 = .ok (.getfield 31, 3) := by decide +kernel
theorem dMd_asksStep_15 : decode (mB Md_asksStep) 15 = .ok (.iload_n 1, 1) := by decide +kernel
theorem dMd_asksStep_16 : decode (mB Md_asksStep) 16 = .ok (.iaload, 1) := by decide +kernel
theorem dMd_asksStep_17 : decode (mB Md_asksStep) 17 = .ok (.iconst 1, 1) := by decide +kernel
theorem dMd_asksStep_18 : decode (mB Md_asksStep) 18 = .ok (.isub, 1) := by decide +kernel
theorem dMd_asksStep_19 : decode (mB Md_asksStep) 19 = .ok (.invokestatic 158, 3) := by decide +kernel
theorem dMd_asksStep_22 : decode (mB Md_asksStep) 22 = .ok (.ifCond .eq 7, 3) := by decide +kernel
theorem dMd_asksStep_25 : decode (mB Md_asksStep) 25 = .ok (.iconst 1, 1) := by decide +kernel
theorem dMd_asksStep_26 : decode (mB Md_asksStep) 26 = .ok (.goto 4, 3) := by decide +kernel
theorem dMd_asksStep_29 : decode (mB Md_asksStep) 29 = .ok (.iconst 0, 1) := by decide +kernel
theorem dMd_asksStep_30 : decode (mB Md_asksStep) 30 = .ok (.invokevirtual 434, 3) := by decide +kernel
theorem dMd_asksStep_33 : decode (mB Md_asksStep) 33 = .ok (.ireturn, 1) := by decide +kernel
def w_Md_asksStep_30 (R : Int32 → tpH → Prop) (t0 : Int32) (t1 : Option Nat) (h : tpH) : Prop :=
  ∃ a1, t1 = some a1 ∧ hT h a1 = 14 ∧ (w_Md_asksFor a1 t0 h (fun v5 h4 => tpB v5 ∧ (R v5 h4)))
def w_Md_asksStep (o : Nat) (x1 : Int32) (x2 : Int32) (h : tpH) (R : Int32 → tpH → Prop) : Prop :=
  hT h o = 14 ∧ (w_Md_isScript o x1 h (fun v3 h2 => (v3 = 0 → (w_Md_asksStep_30 R (0 : Int32) (some o) h2)) ∧ (¬ v3 = 0 → (hT h2 o = 14 ∧ (∃ a6, (hR h2 o 11) = some a6 ∧ hT h2 a6 = 15 ∧ (vp_in x1 (hL h2 a6) ∧ (w_Md_in x2 (0 : Int32) ((hI h2 a6 x1.toNatClampNeg) - (1 : Int32)) h2 (fun v11 h10 => (v11 = 0 → (w_Md_asksStep_30 R (0 : Int32) (some o) h10)) ∧ (¬ v11 = 0 → (w_Md_asksStep_30 R (1 : Int32) (some o) h10))))))))))
theorem s_Md_asksStep_30 {h0 : tpH} {av : List tpV} {R : Int32 → tpH → Prop} : ∀ (t0 : Int32) (t1 : Option Nat) (h : tpH), w_Md_asksStep_30 R t0 t1 h → tpR Md_asksStep 2 h0 av (tpOi R (fun _ _ => False)) 30 [none, none, none] [vI t0, vR t1] h := by
  intro t0 t1 h hw
  unfold w_Md_asksStep_30 at hw
  obtain ⟨a1, e2, f3, hw⟩ := hw
  refine te_callV mv_Md_asksFor (ci := 13) (dc := 0) (as := [vI t0]) (rest := []) kMd_434 rfl (Nat.le_of_ble_eq_true rfl) (Nat.le_of_ble_eq_true rfl) rfl rfl e2 f3 (Nat.le_of_ble_eq_true rfl) dMd_asksStep_30 (s_Md_asksFor hw) (fun _ _ hx => False.elim hx) (tk_i fun v5 h4 hw => ?_)
  obtain ⟨f6, hw⟩ := hw
  exact tq_iret rfl (tpB_n f6) dMd_asksStep_33 hw
theorem s_Md_asksStep {o : Nat} {x1 : Int32} {x2 : Int32} {h : tpH} {R : Int32 → tpH → Prop} (hw : w_Md_asksStep o x1 x2 h R) : tpC Md_asksStep 2 [vR (some o), vI x1, vI x2] h (tpOi R (fun _ _ => False)) := by
  refine tpC_of mv_Md_asksStep.2.2.2.1 rfl rfl (Nat.le_of_ble_eq_true rfl) ?_
  show tpR Md_asksStep 2 h _ _ 0 [some (vR (some o)), some (vI x1), some (vI x2)] [] h
  unfold w_Md_asksStep at hw
  refine tq_aload_n dMd_asksStep_0 rfl rfl ?_
  refine tq_aload_n dMd_asksStep_1 rfl rfl ?_
  refine tq_iload_n dMd_asksStep_2 rfl rfl ?_
  obtain ⟨f1, hw⟩ := hw
  refine te_callV mv_Md_isScript (ci := 13) (dc := 1) (as := [vI x1]) (rest := [vR (some o)]) kMd_325 rfl (Nat.le_of_ble_eq_true rfl) (Nat.le_of_ble_eq_true rfl) rfl rfl rfl f1 (Nat.le_of_ble_eq_true rfl) dMd_asksStep_3 (s_Md_isScript hw) (fun _ _ hx => False.elim hx) (tk_i fun v3 h2 hw => ?_)
  refine tq_ifeq (tgt := 29) dMd_asksStep_6 (by decide) (fun c4 => ?_) (fun c4 => ?_)
  · have hw := hw.1 c4
    refine tq_iconst (v := (0 : Int32)) dMd_asksStep_29 tni_0 ?_
    refine tpR.fo (ls' := [none, none, none]) ?_ (trivial)
    exact s_Md_asksStep_30 _ _ _ hw
  · have hw := hw.2 c4
    refine tq_iload_n dMd_asksStep_9 rfl rfl ?_
    refine tq_iconst (v := (0 : Int32)) dMd_asksStep_10 tni_0 ?_
    refine tq_aload_n dMd_asksStep_11 rfl rfl ?_
    obtain ⟨f5, hw⟩ := hw
    refine te_getr dMd_asksStep_12 fMd_31 rfl rfl f5 ?_
    refine tq_iload_n dMd_asksStep_15 rfl rfl ?_
    obtain ⟨a6, e7, f8, hw⟩ := hw
    obtain ⟨f9, hw⟩ := hw
    refine te_iald dMd_asksStep_16 e7 (Or.inl f8) f9 ?_
    refine tq_iconst (v := (1 : Int32)) dMd_asksStep_17 tni_1 ?_
    refine tq_isub dMd_asksStep_18 ?_
    refine tq_callS ms_Md_in (dc := 0) (as := [vI x2, vI (0 : Int32), vI ((hI h2 a6 x1.toNatClampNeg) - (1 : Int32))]) (rest := [vR (some o)]) kMd_158 (Nat.le_of_ble_eq_true rfl) (Nat.le_of_ble_eq_true rfl) rfl rfl (Nat.le_of_ble_eq_true rfl) dMd_asksStep_19 (s_Md_in hw) (fun _ _ hx => False.elim hx) (tk_i fun v11 h10 hw => ?_)
    refine tq_ifeq (tgt := 29) dMd_asksStep_22 (by decide) (fun c12 => ?_) (fun c12 => ?_)
    · have hw := hw.1 c12
      refine tq_iconst (v := (0 : Int32)) dMd_asksStep_29 tni_0 ?_
      refine tpR.fo (ls' := [none, none, none]) ?_ (trivial)
      exact s_Md_asksStep_30 _ _ _ hw
    · have hw := hw.2 c12
      refine tq_iconst (v := (1 : Int32)) dMd_asksStep_25 tni_1 ?_
      refine tq_goto (tgt := 30) dMd_asksStep_26 (by decide) ?_
      refine tpR.fo (ls' := [none, none, none]) ?_ (trivial)
      exact s_Md_asksStep_30 _ _ _ hw
/-! TModel.stepKind -/
theorem dMd_stepKind_0 : decode (mB Md_stepKind) 0 = .ok (.aload_n 0, 1) := by decide +kernel
theorem dMd_stepKind_1 : decode (mB Md_stepKind) 1 = .ok (.iload_n 1, 1) := by decide +kernel
theorem dMd_stepKind_2 : decode (mB Md_stepKind) 2 = .ok (.iload_n 2, 1) := by decide +kernel
theorem dMd_stepKind_3 : decode (mB Md_stepKind) 3 = .ok (.invokevirtual 442, 3) := by decide +kernel
theorem dMd_stepKind_6 : decode (mB Md_stepKind) 6 = .ok (.ifCond .eq 17, 3) := by decide +kernel
theorem dMd_stepKind_9 : decode (mB Md_stepKind) 9 = .ok (.aload_n 0, 1) := by decide +kernel
theorem dMd_stepKind_10 : decode (mB Md_stepKind) 10 = .ok (.getfield 34, 3) := by decide +kernel
theorem dMd_stepKind_13 : decode (mB Md_stepKind) 13 = .ok (.bipush 100, 2) := by decide +kernel
theorem dMd_stepKind_15 : decode (mB Md_stepKind) 15 = .ok (.iload_n 1, 1) := by decide +kernel
theorem dMd_stepKind_16 : decode (mB Md_stepKind) 16 = .ok (.imul, 1) := by decide +kernel
theorem dMd_stepKind_17 : decode (mB Md_stepKind) 17 = .ok (.iload_n 2, 1) := by decide +kernel
theorem dMd_stepKind_18 : decode (mB Md_stepKind) 18 = .ok (.iadd, 1) := by decide +kernel
theorem dMd_stepKind_19 : decode (mB Md_stepKind) 19 = .ok (.iaload, 1) := by decide +kernel
theorem dMd_stepKind_20 : decode (mB Md_stepKind) 20 = .ok (.goto 4, 3) := by decide +kernel
theorem dMd_stepKind_23 : decode (mB Md_stepKind) 23 = .ok (.iconst 0, 1) := by decide +kernel
theorem dMd_stepKind_24 : decode (mB Md_stepKind) 24 = .ok (.ireturn, 1) := by decide +kernel
def w_Md_stepKind (o : Nat) (x1 : Int32) (x2 : Int32) (h : tpH) (R : Int32 → tpH → Prop) : Prop :=
  hT h o = 14 ∧ (w_Md_asksStep o x1 x2 h (fun v3 h2 => (v3 = 0 → (R (0 : Int32) h2)) ∧ (¬ v3 = 0 → (hT h2 o = 14 ∧ (∃ a6, (hR h2 o 12) = some a6 ∧ hT h2 a6 = 15 ∧ (vp_in (((100 : Int32) * x1) + x2) (hL h2 a6) ∧ (R (hI h2 a6 (((100 : Int32) * x1) + x2).toNatClampNeg) h2)))))))
theorem s_Md_stepKind {o : Nat} {x1 : Int32} {x2 : Int32} {h : tpH} {R : Int32 → tpH → Prop} (hw : w_Md_stepKind o x1 x2 h R) : tpC Md_stepKind 3 [vR (some o), vI x1, vI x2] h (tpOi R (fun _ _ => False)) := by
  refine tpC_of mv_Md_stepKind.2.2.2.1 rfl rfl (Nat.le_of_ble_eq_true rfl) ?_
  show tpR Md_stepKind 3 h _ _ 0 [some (vR (some o)), some (vI x1), some (vI x2)] [] h
  unfold w_Md_stepKind at hw
  refine tq_aload_n dMd_stepKind_0 rfl rfl ?_
  refine tq_iload_n dMd_stepKind_1 rfl rfl ?_
  refine tq_iload_n dMd_stepKind_2 rfl rfl ?_
  obtain ⟨f1, hw⟩ := hw
  refine te_callV mv_Md_asksStep (ci := 13) (dc := 2) (as := [vI x1, vI x2]) (rest := []) kMd_442 rfl (Nat.le_of_ble_eq_true rfl) (Nat.le_of_ble_eq_true rfl) rfl rfl rfl f1 (Nat.le_of_ble_eq_true rfl) dMd_stepKind_3 (s_Md_asksStep hw) (fun _ _ hx => False.elim hx) (tk_i fun v3 h2 hw => ?_)
  refine tq_ifeq (tgt := 23) dMd_stepKind_6 (by decide) (fun c4 => ?_) (fun c4 => ?_)
  · have hw := hw.1 c4
    refine tq_iconst (v := (0 : Int32)) dMd_stepKind_23 tni_0 ?_
    exact tq_iret rfl rfl dMd_stepKind_24 hw
  · have hw := hw.2 c4
    refine tq_aload_n dMd_stepKind_9 rfl rfl ?_
    obtain ⟨f5, hw⟩ := hw
    refine te_getr dMd_stepKind_10 fMd_34 rfl rfl f5 ?_
    refine tq_bipush (v := (100 : Int32)) dMd_stepKind_13 tnb_100 ?_
    refine tq_iload_n dMd_stepKind_15 rfl rfl ?_
    refine tq_imul dMd_stepKind_16 ?_
    refine tq_iload_n dMd_stepKind_17 rfl rfl ?_
    refine tq_iadd dMd_stepKind_18 ?_
    obtain ⟨a6, e7, f8, hw⟩ := hw
    obtain ⟨f9, hw⟩ := hw
    refine te_iald dMd_stepKind_19 e7 (Or.inl f8) f9 ?_
    refine tq_goto (tgt := 24) dMd_stepKind_20 (by decide) ?_
    exact tq_iret rfl rfl dMd_stepKind_24 hw
/-! TModel.stepMark -/
theorem dMd_stepMark_0 : decode (mB Md_stepMark) 0 = .ok (.aload_n 0, 1) := by decide +kernel
theorem dMd_stepMark_1 : decode (mB Md_stepMark) 1 = .ok (.iload_n 1, 1) := by decide +kernel
theorem dMd_stepMark_2 : decode (mB Md_stepMark) 2 = .ok (.iload_n 2, 1) := by decide +kernel
theorem dMd_stepMark_3 : decode (mB Md_stepMark) 3 = .ok (.invokevirtual 442, 3) := by decide +kernel
theorem dMd_stepMark_6 : decode (mB Md_stepMark) 6 = .ok (.ifCond .eq 17, 3) := by decide +kernel
theorem dMd_stepMark_9 : decode (mB Md_stepMark) 9 = .ok (.aload_n 0, 1) := by decide +kernel
theorem dMd_stepMark_10 : decode (mB Md_stepMark) 10 = .ok (.getfield 37, 3) := by decide +kernel
theorem dMd_stepMark_13 : decode (mB Md_stepMark) 13 = .ok (.bipush 100, 2) := by decide +kernel
theorem dMd_stepMark_15 : decode (mB Md_stepMark) 15 = .ok (.iload_n 1, 1) := by decide +kernel
theorem dMd_stepMark_16 : decode (mB Md_stepMark) 16 = .ok (.imul, 1) := by decide +kernel
theorem dMd_stepMark_17 : decode (mB Md_stepMark) 17 = .ok (.iload_n 2, 1) := by decide +kernel
theorem dMd_stepMark_18 : decode (mB Md_stepMark) 18 = .ok (.iadd, 1) := by decide +kernel
theorem dMd_stepMark_19 : decode (mB Md_stepMark) 19 = .ok (.iaload, 1) := by decide +kernel
theorem dMd_stepMark_20 : decode (mB Md_stepMark) 20 = .ok (.goto 4, 3) := by decide +kernel
theorem dMd_stepMark_23 : decode (mB Md_stepMark) 23 = .ok (.iconst 0, 1) := by decide +kernel
theorem dMd_stepMark_24 : decode (mB Md_stepMark) 24 = .ok (.ireturn, 1) := by decide +kernel
def w_Md_stepMark (o : Nat) (x1 : Int32) (x2 : Int32) (h : tpH) (R : Int32 → tpH → Prop) : Prop :=
  hT h o = 14 ∧ (w_Md_asksStep o x1 x2 h (fun v3 h2 => (v3 = 0 → (R (0 : Int32) h2)) ∧ (¬ v3 = 0 → (hT h2 o = 14 ∧ (∃ a6, (hR h2 o 13) = some a6 ∧ hT h2 a6 = 15 ∧ (vp_in (((100 : Int32) * x1) + x2) (hL h2 a6) ∧ (R (hI h2 a6 (((100 : Int32) * x1) + x2).toNatClampNeg) h2)))))))
theorem s_Md_stepMark {o : Nat} {x1 : Int32} {x2 : Int32} {h : tpH} {R : Int32 → tpH → Prop} (hw : w_Md_stepMark o x1 x2 h R) : tpC Md_stepMark 3 [vR (some o), vI x1, vI x2] h (tpOi R (fun _ _ => False)) := by
  refine tpC_of mv_Md_stepMark.2.2.2.1 rfl rfl (Nat.le_of_ble_eq_true rfl) ?_
  show tpR Md_stepMark 3 h _ _ 0 [some (vR (some o)), some (vI x1), some (vI x2)] [] h
  unfold w_Md_stepMark at hw
  refine tq_aload_n dMd_stepMark_0 rfl rfl ?_
  refine tq_iload_n dMd_stepMark_1 rfl rfl ?_
  refine tq_iload_n dMd_stepMark_2 rfl rfl ?_
  obtain ⟨f1, hw⟩ := hw
  refine te_callV mv_Md_asksStep (ci := 13) (dc := 2) (as := [vI x1, vI x2]) (rest := []) kMd_442 rfl (Nat.le_of_ble_eq_true rfl) (Nat.le_of_ble_eq_true rfl) rfl rfl rfl f1 (Nat.le_of_ble_eq_true rfl) dMd_stepMark_3 (s_Md_asksStep hw) (fun _ _ hx => False.elim hx) (tk_i fun v3 h2 hw => ?_)
  refine tq_ifeq (tgt := 23) dMd_stepMark_6 (by decide) (fun c4 => ?_) (fun c4 => ?_)
  · have hw := hw.1 c4
    refine tq_iconst (v := (0 : Int32)) dMd_stepMark_23 tni_0 ?_
    exact tq_iret rfl rfl dMd_stepMark_24 hw
  · have hw := hw.2 c4
    refine tq_aload_n dMd_stepMark_9 rfl rfl ?_
    obtain ⟨f5, hw⟩ := hw
    refine te_getr dMd_stepMark_10 fMd_37 rfl rfl f5 ?_
    refine tq_bipush (v := (100 : Int32)) dMd_stepMark_13 tnb_100 ?_
    refine tq_iload_n dMd_stepMark_15 rfl rfl ?_
    refine tq_imul dMd_stepMark_16 ?_
    refine tq_iload_n dMd_stepMark_17 rfl rfl ?_
    refine tq_iadd dMd_stepMark_18 ?_
    obtain ⟨a6, e7, f8, hw⟩ := hw
    obtain ⟨f9, hw⟩ := hw
    refine te_iald dMd_stepMark_19 e7 (Or.inl f8) f9 ?_
    refine tq_goto (tgt := 24) dMd_stepMark_20 (by decide) ?_
    exact tq_iret rfl rfl dMd_stepMark_24 hw
/-! TModel.stepTo -/
theorem dMd_stepTo_0 : decode (mB Md_stepTo) 0 = .ok (.aload_n 0, 1) := by decide +kernel
theorem dMd_stepTo_1 : decode (mB Md_stepTo) 1 = .ok (.iload_n 1, 1) := by decide +kernel
theorem dMd_stepTo_2 : decode (mB Md_stepTo) 2 = .ok (.iload_n 2, 1) := by decide +kernel
theorem dMd_stepTo_3 : decode (mB Md_stepTo) 3 = .ok (.invokevirtual 442, 3) := by decide +kernel
theorem dMd_stepTo_6 : decode (mB Md_stepTo) 6 = .ok (.ifCond .ne 7, 3) := by decide +kernel
theorem dMd_stepTo_9 : decode (mB Md_stepTo) 9 = .ok (.iconst 0, 1) := by decide +kernel
theorem dMd_stepTo_10 : decode (mB Md_stepTo) 10 = .ok (.goto 32, 3) := by decide +kernel
theorem dMd_stepTo_13 : decode (mB Md_stepTo) 13 = .ok (.iload_n 3, 1) := by decide +kernel
theorem dMd_stepTo_14 : decode (mB Md_stepTo) 14 = .ok (.ifCond .eq 17, 3) := by decide +kernel
theorem dMd_stepTo_17 : decode (mB Md_stepTo) 17 = .ok (.aload_n 0, 1) := by decide +kernel
theorem dMd_stepTo_18 : decode (mB Md_stepTo) 18 = .ok (.getfield 46, 3) := by decide +kernel
theorem dMd_stepTo_21 : decode (mB Md_stepTo) 21 = .ok (.bipush 100, 2) := by decide +kernel
theorem dMd_stepTo_23 : decode (mB Md_stepTo) 23 = .ok (.iload_n 1, 1) := by decide +kernel
theorem dMd_stepTo_24 : decode (mB Md_stepTo) 24 = .ok (.imul, 1) := by decide +kernel
theorem dMd_stepTo_25 : decode (mB Md_stepTo) 25 = .ok (.iload_n 2, 1) := by decide +kernel
theorem dMd_stepTo_26 : decode (mB Md_stepTo) 26 = .ok (.iadd, 1) := by decide +kernel
theorem dMd_stepTo_27 : decode (mB Md_stepTo) 27 = .ok (.iaload, 1) := by decide +kernel
theorem dMd_stepTo_28 : decode (mB Md_stepTo) 28 = .ok (.goto 14, 3) := by decide +kernel
theorem dMd_stepTo_31 : decode (mB Md_stepTo) 31 = .ok (.aload_n 0, 1) := by decide +kernel
theorem dMd_stepTo_32 : decode (mB Md_stepTo) 32 = .ok (.getfield 49, 3) := by decide +kernel
theorem dMd_stepTo_35 : decode (mB Md_stepTo) 35 = .ok (.bipush 100, 2) := by decide +kernel
theorem dMd_stepTo_37 : decode (mB Md_stepTo) 37 = .ok (.iload_n 1, 1) := by decide +kernel
theorem dMd_stepTo_38 : decode (mB Md_stepTo) 38 = .ok (.imul, 1) := by decide +kernel
theorem dMd_stepTo_39 : decode (mB Md_stepTo) 39 = .ok (.iload_n 2, 1) := by decide +kernel
theorem dMd_stepTo_40 : decode (mB Md_stepTo) 40 = .ok (.iadd, 1) := by decide +kernel
theorem dMd_stepTo_41 : decode (mB Md_stepTo) 41 = .ok (.iaload, 1) := by decide +kernel
theorem dMd_stepTo_42 : decode (mB Md_stepTo) 42 = .ok (.ireturn, 1) := by decide +kernel
def w_Md_stepTo (o : Nat) (x1 : Int32) (x2 : Int32) (x3 : Int32) (h : tpH) (R : Int32 → tpH → Prop) : Prop :=
  hT h o = 14 ∧ (w_Md_asksStep o x1 x2 h (fun v3 h2 => (¬ v3 = 0 → ((x3 = 0 → (hT h2 o = 14 ∧ (∃ a7, (hR h2 o 17) = some a7 ∧ hT h2 a7 = 15 ∧ (vp_in (((100 : Int32) * x1) + x2) (hL h2 a7) ∧ (R (hI h2 a7 (((100 : Int32) * x1) + x2).toNatClampNeg) h2))))) ∧ (¬ x3 = 0 → (hT h2 o = 14 ∧ (∃ a12, (hR h2 o 16) = some a12 ∧ hT h2 a12 = 15 ∧ (vp_in (((100 : Int32) * x1) + x2) (hL h2 a12) ∧ (R (hI h2 a12 (((100 : Int32) * x1) + x2).toNatClampNeg) h2))))))) ∧ (v3 = 0 → (R (0 : Int32) h2))))
theorem s_Md_stepTo {o : Nat} {x1 : Int32} {x2 : Int32} {x3 : Int32} {h : tpH} {R : Int32 → tpH → Prop} (hw : w_Md_stepTo o x1 x2 x3 h R) : tpC Md_stepTo 3 [vR (some o), vI x1, vI x2, vI x3] h (tpOi R (fun _ _ => False)) := by
  refine tpC_of mv_Md_stepTo.2.2.2.1 rfl rfl (Nat.le_of_ble_eq_true rfl) ?_
  show tpR Md_stepTo 3 h _ _ 0 [some (vR (some o)), some (vI x1), some (vI x2), some (vI x3)] [] h
  unfold w_Md_stepTo at hw
  refine tq_aload_n dMd_stepTo_0 rfl rfl ?_
  refine tq_iload_n dMd_stepTo_1 rfl rfl ?_
  refine tq_iload_n dMd_stepTo_2 rfl rfl ?_
  obtain ⟨f1, hw⟩ := hw
  refine te_callV mv_Md_asksStep (ci := 13) (dc := 2) (as := [vI x1, vI x2]) (rest := []) kMd_442 rfl (Nat.le_of_ble_eq_true rfl) (Nat.le_of_ble_eq_true rfl) rfl rfl rfl f1 (Nat.le_of_ble_eq_true rfl) dMd_stepTo_3 (s_Md_asksStep hw) (fun _ _ hx => False.elim hx) (tk_i fun v3 h2 hw => ?_)
  refine tq_ifne (tgt := 13) dMd_stepTo_6 (by decide) (fun c4 => ?_) (fun c4 => ?_)
  · have hw := hw.1 c4
    refine tq_iload_n dMd_stepTo_13 rfl rfl ?_
    refine tq_ifeq (tgt := 31) dMd_stepTo_14 (by decide) (fun c5 => ?_) (fun c5 => ?_)
    · have hw := hw.1 c5
      refine tq_aload_n dMd_stepTo_31 rfl rfl ?_
      obtain ⟨f6, hw⟩ := hw
      refine te_getr dMd_stepTo_32 fMd_49 rfl rfl f6 ?_
      refine tq_bipush (v := (100 : Int32)) dMd_stepTo_35 tnb_100 ?_
      refine tq_iload_n dMd_stepTo_37 rfl rfl ?_
      refine tq_imul dMd_stepTo_38 ?_
      refine tq_iload_n dMd_stepTo_39 rfl rfl ?_
      refine tq_iadd dMd_stepTo_40 ?_
      obtain ⟨a7, e8, f9, hw⟩ := hw
      obtain ⟨f10, hw⟩ := hw
      refine te_iald dMd_stepTo_41 e8 (Or.inl f9) f10 ?_
      exact tq_iret rfl rfl dMd_stepTo_42 hw
    · have hw := hw.2 c5
      refine tq_aload_n dMd_stepTo_17 rfl rfl ?_
      obtain ⟨f11, hw⟩ := hw
      refine te_getr dMd_stepTo_18 fMd_46 rfl rfl f11 ?_
      refine tq_bipush (v := (100 : Int32)) dMd_stepTo_21 tnb_100 ?_
      refine tq_iload_n dMd_stepTo_23 rfl rfl ?_
      refine tq_imul dMd_stepTo_24 ?_
      refine tq_iload_n dMd_stepTo_25 rfl rfl ?_
      refine tq_iadd dMd_stepTo_26 ?_
      obtain ⟨a12, e13, f14, hw⟩ := hw
      obtain ⟨f15, hw⟩ := hw
      refine te_iald dMd_stepTo_27 e13 (Or.inl f14) f15 ?_
      refine tq_goto (tgt := 42) dMd_stepTo_28 (by decide) ?_
      exact tq_iret rfl rfl dMd_stepTo_42 hw
  · have hw := hw.2 c4
    refine tq_iconst (v := (0 : Int32)) dMd_stepTo_9 tni_0 ?_
    refine tq_goto (tgt := 42) dMd_stepTo_10 (by decide) ?_
    exact tq_iret rfl rfl dMd_stepTo_42 hw
/-! TModel.conflicts -/
theorem dMd_conflicts_0 : decode (mB Md_conflicts) 0 = .ok (.aload_n 0, 1) := by decide +kernel
theorem dMd_conflicts_1 : decode (mB Md_conflicts) 1 = .ok (.iconst 0, 1) := by decide +kernel
theorem dMd_conflicts_2 : decode (mB Md_conflicts) 2 = .ok (.putfield 151, 3) := by decide +kernel
theorem dMd_conflicts_5 : decode (mB Md_conflicts) 5 = .ok (.aload_n 0, 1) := by decide +kernel
theorem dMd_conflicts_6 : decode (mB Md_conflicts) 6 = .ok (.getfield 343, 3) := by decide +kernel
theorem dMd_conflicts_9 : decode (mB Md_conflicts) 9 = .ok (.ireturn, 1) := by decide +kernel
def w_Md_conflicts (o : Nat) (h : tpH) (R : Int32 → tpH → Prop) : Prop :=
  hT h o = 14 ∧ (∀ h2, h2 = sI h o 31 (0 : Int32) → (R (hI h2 o 24) h2))
theorem s_Md_conflicts {o : Nat} {h : tpH} {R : Int32 → tpH → Prop} (hw : w_Md_conflicts o h R) : tpC Md_conflicts 0 [vR (some o)] h (tpOi R (fun _ _ => False)) := by
  refine tpC_of mv_Md_conflicts.2.2.2.1 rfl rfl (Nat.le_of_ble_eq_true rfl) ?_
  show tpR Md_conflicts 0 h _ _ 0 [some (vR (some o))] [] h
  unfold w_Md_conflicts at hw
  refine tq_aload_n dMd_conflicts_0 rfl rfl ?_
  refine tq_iconst (v := (0 : Int32)) dMd_conflicts_1 tni_0 ?_
  obtain ⟨f1, hw⟩ := hw
  refine te_puti dMd_conflicts_2 pMd_151 rfl rfl rfl f1 ⟨rfl, rfl⟩ (fun h2 e3 => ?_)
  have hw := hw h2 e3
  refine tq_aload_n dMd_conflicts_5 rfl rfl ?_
  refine te_geti dMd_conflicts_6 fMd_343 rfl rfl (by rw [e3]; exact f1) ?_
  exact tq_iret rfl rfl dMd_conflicts_9 hw
/-! TModel.conflictKind -/
theorem dMd_conflictKind_0 : decode (mB Md_conflictKind) 0 = .ok (.aload_n 0, 1) := by decide +kernel
theorem dMd_conflictKind_1 : decode (mB Md_conflictKind) 1 = .ok (.iload_n 1, 1) := by decide +kernel
theorem dMd_conflictKind_2 : decode (mB Md_conflictKind) 2 = .ok (.iconst 0, 1) := by decide +kernel
theorem dMd_conflictKind_3 : decode (mB Md_conflictKind) 3 = .ok (.aload_n 0, 1) := by decide +kernel
theorem dMd_conflictKind_4 : decode (mB Md_conflictKind) 4 = .ok (.getfield 343, 3) := by decide +kernel
theorem dMd_conflictKind_7 : decode (mB Md_conflictKind) 7 = .ok (.iconst 1, 1) := by decide +kernel
theorem dMd_conflictKind_8 : decode (mB Md_conflictKind) 8 = .ok (.isub, 1) := by decide +kernel
theorem dMd_conflictKind_9 : decode (mB Md_conflictKind) 9 = .ok (.invokestatic 158, 3) := by decide +kernel
theorem dMd_conflictKind_12 : decode (mB Md_conflictKind) 12 = .ok (.invokevirtual 434, 3) := by decide +kernel
theorem dMd_conflictKind_15 : decode (mB Md_conflictKind) 15 = .ok (.ifCond .eq 16, 3) := by decide +kernel
theorem dMd_conflictKind_18 : decode (mB Md_conflictKind) 18 = .ok (.aload_n 0, 1) := by decide +kernel
theorem dMd_conflictKind_19 : decode (mB Md_conflictKind) 19 = .ok (.getfield 68, 3) := by decide +kernel
theorem dMd_conflictKind_22 : decode (mB Md_conflictKind) 22 = .ok (.iload_n 1, 1) := by decide +kernel
theorem dMd_conflictKind_23 : decode (mB Md_conflictKind) 23 = .ok (.iaload, 1) := by decide +kernel
theorem dMd_conflictKind_24 : decode (mB Md_conflictKind) 24 = .ok (.sipush 300, 3) := by decide +kernel
theorem dMd_conflictKind_27 : decode (mB Md_conflictKind) 27 = .ok (.idiv, 1) := by decide +kernel
theorem dMd_conflictKind_28 : decode (mB Md_conflictKind) 28 = .ok (.goto 4, 3) := by decide +kernel
theorem dMd_conflictKind_31 : decode (mB Md_conflictKind) 31 = .ok (.iconst 0, 1) := by decide +kernel
theorem dMd_conflictKind_32 : decode (mB Md_conflictKind) 32 = .ok (.ireturn, 1) := by decide +kernel
def w_Md_conflictKind (o : Nat) (x1 : Int32) (h : tpH) (R : Int32 → tpH → Prop) : Prop :=
  hT h o = 14 ∧ (w_Md_in x1 (0 : Int32) ((hI h o 24) - (1 : Int32)) h (fun v3 h2 => hT h2 o = 14 ∧ (w_Md_asksFor o v3 h2 (fun v6 h5 => (v6 = 0 → (R (0 : Int32) h5)) ∧ (¬ v6 = 0 → (hT h5 o = 14 ∧ (∃ a9, (hR h5 o 25) = some a9 ∧ hT h5 a9 = 15 ∧ (vp_in x1 (hL h5 a9) ∧ (R ((hI h5 a9 x1.toNatClampNeg) / (300 : Int32)) h5)))))))))
theorem s_Md_conflictKind {o : Nat} {x1 : Int32} {h : tpH} {R : Int32 → tpH → Prop} (hw : w_Md_conflictKind o x1 h R) : tpC Md_conflictKind 1 [vR (some o), vI x1] h (tpOi R (fun _ _ => False)) := by
  refine tpC_of mv_Md_conflictKind.2.2.2.1 rfl rfl (Nat.le_of_ble_eq_true rfl) ?_
  show tpR Md_conflictKind 1 h _ _ 0 [some (vR (some o)), some (vI x1)] [] h
  unfold w_Md_conflictKind at hw
  refine tq_aload_n dMd_conflictKind_0 rfl rfl ?_
  refine tq_iload_n dMd_conflictKind_1 rfl rfl ?_
  refine tq_iconst (v := (0 : Int32)) dMd_conflictKind_2 tni_0 ?_
  refine tq_aload_n dMd_conflictKind_3 rfl rfl ?_
  obtain ⟨f1, hw⟩ := hw
  refine te_geti dMd_conflictKind_4 fMd_343 rfl rfl f1 ?_
  refine tq_iconst (v := (1 : Int32)) dMd_conflictKind_7 tni_1 ?_
  refine tq_isub dMd_conflictKind_8 ?_
  refine tq_callS ms_Md_in (dc := 0) (as := [vI x1, vI (0 : Int32), vI ((hI h o 24) - (1 : Int32))]) (rest := [vR (some o)]) kMd_158 (Nat.le_of_ble_eq_true rfl) (Nat.le_of_ble_eq_true rfl) rfl rfl (Nat.le_of_ble_eq_true rfl) dMd_conflictKind_9 (s_Md_in hw) (fun _ _ hx => False.elim hx) (tk_i fun v3 h2 hw => ?_)
  obtain ⟨f4, hw⟩ := hw
  refine te_callV mv_Md_asksFor (ci := 13) (dc := 0) (as := [vI v3]) (rest := []) kMd_434 rfl (Nat.le_of_ble_eq_true rfl) (Nat.le_of_ble_eq_true rfl) rfl rfl rfl f4 (Nat.le_of_ble_eq_true rfl) dMd_conflictKind_12 (s_Md_asksFor hw) (fun _ _ hx => False.elim hx) (tk_i fun v6 h5 hw => ?_)
  refine tq_ifeq (tgt := 31) dMd_conflictKind_15 (by decide) (fun c7 => ?_) (fun c7 => ?_)
  · have hw := hw.1 c7
    refine tq_iconst (v := (0 : Int32)) dMd_conflictKind_31 tni_0 ?_
    exact tq_iret rfl rfl dMd_conflictKind_32 hw
  · have hw := hw.2 c7
    refine tq_aload_n dMd_conflictKind_18 rfl rfl ?_
    obtain ⟨f8, hw⟩ := hw
    refine te_getr dMd_conflictKind_19 fMd_68 rfl rfl f8 ?_
    refine tq_iload_n dMd_conflictKind_22 rfl rfl ?_
    obtain ⟨a9, e10, f11, hw⟩ := hw
    obtain ⟨f12, hw⟩ := hw
    refine te_iald dMd_conflictKind_23 e10 (Or.inl f11) f12 ?_
    refine tq_sipush (v := (300 : Int32)) dMd_conflictKind_24 tns_300 ?_
    refine tq_idiv dMd_conflictKind_27 (by decide) ?_
    refine tq_goto (tgt := 32) dMd_conflictKind_28 (by decide) ?_
    exact tq_iret rfl rfl dMd_conflictKind_32 hw
/-! TModel.conflictMark -/
theorem dMd_conflictMark_0 : decode (mB Md_conflictMark) 0 = .ok (.aload_n 0, 1) := by decide +kernel
theorem dMd_conflictMark_1 : decode (mB Md_conflictMark) 1 = .ok (.iload_n 1, 1) := by decide +kernel
theorem dMd_conflictMark_2 : decode (mB Md_conflictMark) 2 = .ok (.iconst 0, 1) := by decide +kernel
theorem dMd_conflictMark_3 : decode (mB Md_conflictMark) 3 = .ok (.aload_n 0, 1) := by decide +kernel
theorem dMd_conflictMark_4 : decode (mB Md_conflictMark) 4 = .ok (.getfield 343, 3) := by decide +kernel
theorem dMd_conflictMark_7 : decode (mB Md_conflictMark) 7 = .ok (.iconst 1, 1) := by decide +kernel
theorem dMd_conflictMark_8 : decode (mB Md_conflictMark) 8 = .ok (.isub, 1) := by decide +kernel
theorem dMd_conflictMark_9 : decode (mB Md_conflictMark) 9 = .ok (.invokestatic 158, 3) := by decide +kernel
theorem dMd_conflictMark_12 : decode (mB Md_conflictMark) 12 = .ok (.invokevirtual 434, 3) := by decide +kernel
theorem dMd_conflictMark_15 : decode (mB Md_conflictMark) 15 = .ok (.ifCond .eq 16, 3) := by decide +kernel
theorem dMd_conflictMark_18 : decode (mB Md_conflictMark) 18 = .ok (.aload_n 0, 1) := by decide +kernel
theorem dMd_conflictMark_19 : decode (mB Md_conflictMark) 19 = .ok (.getfield 68, 3) := by decide +kernel
theorem dMd_conflictMark_22 : decode (mB Md_conflictMark) 22 = .ok (.iload_n 1, 1) := by decide +kernel
theorem dMd_conflictMark_23 : decode (mB Md_conflictMark) 23 = .ok (.iaload, 1) := by decide +kernel
theorem dMd_conflictMark_24 : decode (mB Md_conflictMark) 24 = .ok (.sipush 300, 3) := by decide +kernel
theorem dMd_conflictMark_27 : decode (mB Md_conflictMark) 27 = .ok (.irem, 1) := by decide +kernel
theorem dMd_conflictMark_28 : decode (mB Md_conflictMark) 28 = .ok (.goto 4, 3) := by decide +kernel
theorem dMd_conflictMark_31 : decode (mB Md_conflictMark) 31 = .ok (.iconst 0, 1) := by decide +kernel
theorem dMd_conflictMark_32 : decode (mB Md_conflictMark) 32 = .ok (.ireturn, 1) := by decide +kernel
def w_Md_conflictMark (o : Nat) (x1 : Int32) (h : tpH) (R : Int32 → tpH → Prop) : Prop :=
  hT h o = 14 ∧ (w_Md_in x1 (0 : Int32) ((hI h o 24) - (1 : Int32)) h (fun v3 h2 => hT h2 o = 14 ∧ (w_Md_asksFor o v3 h2 (fun v6 h5 => (v6 = 0 → (R (0 : Int32) h5)) ∧ (¬ v6 = 0 → (hT h5 o = 14 ∧ (∃ a9, (hR h5 o 25) = some a9 ∧ hT h5 a9 = 15 ∧ (vp_in x1 (hL h5 a9) ∧ (R ((hI h5 a9 x1.toNatClampNeg) - (hI h5 a9 x1.toNatClampNeg) / (300 : Int32) * (300 : Int32)) h5)))))))))
theorem s_Md_conflictMark {o : Nat} {x1 : Int32} {h : tpH} {R : Int32 → tpH → Prop} (hw : w_Md_conflictMark o x1 h R) : tpC Md_conflictMark 1 [vR (some o), vI x1] h (tpOi R (fun _ _ => False)) := by
  refine tpC_of mv_Md_conflictMark.2.2.2.1 rfl rfl (Nat.le_of_ble_eq_true rfl) ?_
  show tpR Md_conflictMark 1 h _ _ 0 [some (vR (some o)), some (vI x1)] [] h
  unfold w_Md_conflictMark at hw
  refine tq_aload_n dMd_conflictMark_0 rfl rfl ?_
  refine tq_iload_n dMd_conflictMark_1 rfl rfl ?_
  refine tq_iconst (v := (0 : Int32)) dMd_conflictMark_2 tni_0 ?_
  refine tq_aload_n dMd_conflictMark_3 rfl rfl ?_
  obtain ⟨f1, hw⟩ := hw
  refine te_geti dMd_conflictMark_4 fMd_343 rfl rfl f1 ?_
  refine tq_iconst (v := (1 : Int32)) dMd_conflictMark_7 tni_1 ?_
  refine tq_isub dMd_conflictMark_8 ?_
  refine tq_callS ms_Md_in (dc := 0) (as := [vI x1, vI (0 : Int32), vI ((hI h o 24) - (1 : Int32))]) (rest := [vR (some o)]) kMd_158 (Nat.le_of_ble_eq_true rfl) (Nat.le_of_ble_eq_true rfl) rfl rfl (Nat.le_of_ble_eq_true rfl) dMd_conflictMark_9 (s_Md_in hw) (fun _ _ hx => False.elim hx) (tk_i fun v3 h2 hw => ?_)
  obtain ⟨f4, hw⟩ := hw
  refine te_callV mv_Md_asksFor (ci := 13) (dc := 0) (as := [vI v3]) (rest := []) kMd_434 rfl (Nat.le_of_ble_eq_true rfl) (Nat.le_of_ble_eq_true rfl) rfl rfl rfl f4 (Nat.le_of_ble_eq_true rfl) dMd_conflictMark_12 (s_Md_asksFor hw) (fun _ _ hx => False.elim hx) (tk_i fun v6 h5 hw => ?_)
  refine tq_ifeq (tgt := 31) dMd_conflictMark_15 (by decide) (fun c7 => ?_) (fun c7 => ?_)
  · have hw := hw.1 c7
    refine tq_iconst (v := (0 : Int32)) dMd_conflictMark_31 tni_0 ?_
    exact tq_iret rfl rfl dMd_conflictMark_32 hw
  · have hw := hw.2 c7
    refine tq_aload_n dMd_conflictMark_18 rfl rfl ?_
    obtain ⟨f8, hw⟩ := hw
    refine te_getr dMd_conflictMark_19 fMd_68 rfl rfl f8 ?_
    refine tq_iload_n dMd_conflictMark_22 rfl rfl ?_
    obtain ⟨a9, e10, f11, hw⟩ := hw
    obtain ⟨f12, hw⟩ := hw
    refine te_iald dMd_conflictMark_23 e10 (Or.inl f11) f12 ?_
    refine tq_sipush (v := (300 : Int32)) dMd_conflictMark_24 tns_300 ?_
    refine tq_irem dMd_conflictMark_27 (by decide) ?_
    refine tq_goto (tgt := 32) dMd_conflictMark_28 (by decide) ?_
    exact tq_iret rfl rfl dMd_conflictMark_32 hw
/-! TModel.versions -/
theorem dMd_versions_0 : decode (mB Md_versions) 0 = .ok (.aload_n 0, 1) := by decide +kernel
theorem dMd_versions_1 : decode (mB Md_versions) 1 = .ok (.iconst 0, 1) := by decide +kernel
theorem dMd_versions_2 : decode (mB Md_versions) 2 = .ok (.putfield 151, 3) := by decide +kernel
theorem dMd_versions_5 : decode (mB Md_versions) 5 = .ok (.aload_n 0, 1) := by decide +kernel
theorem dMd_versions_6 : decode (mB Md_versions) 6 = .ok (.getfield 419, 3) := by decide +kernel
theorem dMd_versions_9 : decode (mB Md_versions) 9 = .ok (.ireturn, 1) := by decide +kernel
def w_Md_versions (o : Nat) (h : tpH) (R : Int32 → tpH → Prop) : Prop :=
  hT h o = 14 ∧ (∀ h2, h2 = sI h o 31 (0 : Int32) → (R (hI h2 o 26) h2))
theorem s_Md_versions {o : Nat} {h : tpH} {R : Int32 → tpH → Prop} (hw : w_Md_versions o h R) : tpC Md_versions 0 [vR (some o)] h (tpOi R (fun _ _ => False)) := by
  refine tpC_of mv_Md_versions.2.2.2.1 rfl rfl (Nat.le_of_ble_eq_true rfl) ?_
  show tpR Md_versions 0 h _ _ 0 [some (vR (some o))] [] h
  unfold w_Md_versions at hw
  refine tq_aload_n dMd_versions_0 rfl rfl ?_
  refine tq_iconst (v := (0 : Int32)) dMd_versions_1 tni_0 ?_
  obtain ⟨f1, hw⟩ := hw
  refine te_puti dMd_versions_2 pMd_151 rfl rfl rfl f1 ⟨rfl, rfl⟩ (fun h2 e3 => ?_)
  have hw := hw h2 e3
  refine tq_aload_n dMd_versions_5 rfl rfl ?_
  refine te_geti dMd_versions_6 fMd_419 rfl rfl (by rw [e3]; exact f1) ?_
  exact tq_iret rfl rfl dMd_versions_9 hw
/-! TModel.treeOf -/
theorem dMd_treeOf_0 : decode (mB Md_treeOf) 0 = .ok (.aload_n 0, 1) := by decide +kernel
theorem dMd_treeOf_1 : decode (mB Md_treeOf) 1 = .ok (.aload_n 0, 1) := by decide +kernel
theorem dMd_treeOf_2 : decode (mB Md_treeOf) 2 = .ok (.iload_n 1, 1) := by decide +kernel
theorem dMd_treeOf_3 : decode (mB Md_treeOf) 3 = .ok (.invokevirtual 422, 3) := by decide +kernel
theorem dMd_treeOf_6 : decode (mB Md_treeOf) 6 = .ok (.invokevirtual 434, 3) := by decide +kernel
theorem dMd_treeOf_9 : decode (mB Md_treeOf) 9 = .ok (.ifCond .eq 12, 3) := by decide +kernel
theorem dMd_treeOf_12 : decode (mB Md_treeOf) 12 = .ok (.aload_n 0, 1) := by decide +kernel
theorem dMd_treeOf_13 : decode (mB Md_treeOf) 13 = .ok (.getfield 71, 3) := by decide +kernel
theorem dMd_treeOf_16 : decode (mB Md_treeOf) 16 = .ok (.iload_n 1, 1) := by decide +kernel
theorem dMd_treeOf_17 : decode (mB Md_treeOf) 17 = .ok (.iaload, 1) := by decide +kernel
theorem dMd_treeOf_18 : decode (mB Md_treeOf) 18 = .ok (.goto 4, 3) := by decide +kernel
theorem dMd_treeOf_21 : decode (mB Md_treeOf) 21 = .ok (.iconst 0, 1) := by decide +kernel
theorem dMd_treeOf_22 : decode (mB Md_treeOf) 22 = .ok (.ireturn, 1) := by decide +kernel
def w_Md_treeOf (o : Nat) (x1 : Int32) (h : tpH) (R : Int32 → tpH → Prop) : Prop :=
  hT h o = 14 ∧ (w_Md_isVersion o x1 h (fun v3 h2 => hT h2 o = 14 ∧ (w_Md_asksFor o v3 h2 (fun v6 h5 => (v6 = 0 → (R (0 : Int32) h5)) ∧ (¬ v6 = 0 → (hT h5 o = 14 ∧ (∃ a9, (hR h5 o 27) = some a9 ∧ hT h5 a9 = 15 ∧ (vp_in x1 (hL h5 a9) ∧ (R (hI h5 a9 x1.toNatClampNeg) h5)))))))))
theorem s_Md_treeOf {o : Nat} {x1 : Int32} {h : tpH} {R : Int32 → tpH → Prop} (hw : w_Md_treeOf o x1 h R) : tpC Md_treeOf 2 [vR (some o), vI x1] h (tpOi R (fun _ _ => False)) := by
  refine tpC_of mv_Md_treeOf.2.2.2.1 rfl rfl (Nat.le_of_ble_eq_true rfl) ?_
  show tpR Md_treeOf 2 h _ _ 0 [some (vR (some o)), some (vI x1)] [] h
  unfold w_Md_treeOf at hw
  refine tq_aload_n dMd_treeOf_0 rfl rfl ?_
  refine tq_aload_n dMd_treeOf_1 rfl rfl ?_
  refine tq_iload_n dMd_treeOf_2 rfl rfl ?_
  obtain ⟨f1, hw⟩ := hw
  refine te_callV mv_Md_isVersion (ci := 13) (dc := 1) (as := [vI x1]) (rest := [vR (some o)]) kMd_422 rfl (Nat.le_of_ble_eq_true rfl) (Nat.le_of_ble_eq_true rfl) rfl rfl rfl f1 (Nat.le_of_ble_eq_true rfl) dMd_treeOf_3 (s_Md_isVersion hw) (fun _ _ hx => False.elim hx) (tk_i fun v3 h2 hw => ?_)
  obtain ⟨f4, hw⟩ := hw
  refine te_callV mv_Md_asksFor (ci := 13) (dc := 0) (as := [vI v3]) (rest := []) kMd_434 rfl (Nat.le_of_ble_eq_true rfl) (Nat.le_of_ble_eq_true rfl) rfl rfl rfl f4 (Nat.le_of_ble_eq_true rfl) dMd_treeOf_6 (s_Md_asksFor hw) (fun _ _ hx => False.elim hx) (tk_i fun v6 h5 hw => ?_)
  refine tq_ifeq (tgt := 21) dMd_treeOf_9 (by decide) (fun c7 => ?_) (fun c7 => ?_)
  · have hw := hw.1 c7
    refine tq_iconst (v := (0 : Int32)) dMd_treeOf_21 tni_0 ?_
    exact tq_iret rfl rfl dMd_treeOf_22 hw
  · have hw := hw.2 c7
    refine tq_aload_n dMd_treeOf_12 rfl rfl ?_
    obtain ⟨f8, hw⟩ := hw
    refine te_getr dMd_treeOf_13 fMd_71 rfl rfl f8 ?_
    refine tq_iload_n dMd_treeOf_16 rfl rfl ?_
    obtain ⟨a9, e10, f11, hw⟩ := hw
    obtain ⟨f12, hw⟩ := hw
    refine te_iald dMd_treeOf_17 e10 (Or.inl f11) f12 ?_
    refine tq_goto (tgt := 22) dMd_treeOf_18 (by decide) ?_
    exact tq_iret rfl rfl dMd_treeOf_22 hw
/-! TModel.hasSame -/
theorem dMd_hasSame_0 : decode (mB Md_hasSame) 0 = .ok (.iload_n 2, 1) := by decide +kernel
theorem dMd_hasSame_1 : decode (mB Md_hasSame) 1 = .ok (.iconst (-1), 1) := by decide +kernel
theorem dMd_hasSame_2 : decode (mB Md_hasSame) 2 = .ok (.if_icmp .ne 5, 3) := by decide +kernel
theorem dMd_hasSame_5 : decode (mB Md_hasSame) 5 = .ok (.iconst 0, 1) := by decide +kernel
theorem dMd_hasSame_6 : decode (mB Md_hasSame) 6 = .ok (.ireturn, 1) := by decide +kernel
theorem dMd_hasSame_7 : decode (mB Md_hasSame) 7 = .ok (.aload_n 0, 1) := by decide +kernel
theorem dMd_hasSame_8 : decode (mB Md_hasSame) 8 = .ok (.getfield 71, 3) := by decide +kernel
theorem dMd_hasSame_11 : decode (mB Md_hasSame) 11 = .ok (.iload_n 1, 1) := by decide +kernel
theorem dMd_hasSame_12 : decode (mB Md_hasSame) 12 = .ok (.iaload, 1) := by decide +kernel
theorem dMd_hasSame_13 : decode (mB Md_hasSame) 13 = .ok (.istore 4, 2) := by decide +kernel
theorem dMd_hasSame_15 : decode (mB Md_hasSame) 15 = .ok (.aload_n 0, 1) := by decide +kernel
theorem dMd_hasSame_16 : decode (mB Md_hasSame) 16 = .ok (.getfield 71, 3) := by decide +kernel
theorem dMd_hasSame_19 : decode (mB Md_hasSame) 19 = .ok (.iload_n 2, 1) := by decide +kernel
theorem dMd_hasSame_20 : decode (mB Md_hasSame) 20 = .ok (.iaload, 1) := by decide +kernel
theorem dMd_hasSame_21 : decode (mB Md_hasSame) 21 = .ok (.istore 5, 2) := by decide +kernel
theorem dMd_hasSame_23 : decode (mB Md_hasSame) 23 = .ok (.aload_n 0, 1) := by decide +kernel
theorem dMd_hasSame_24 : decode (mB Md_hasSame) 24 = .ok (.iload 5, 2) := by decide +kernel
theorem dMd_hasSame_26 : decode (mB Md_hasSame) 26 = .ok (.iload_n 3, 1) := by decide +kernel
theorem dMd_hasSame_27 : decode (mB Md_hasSame) 27 = .ok (.invokevirtual 212, 3) := by decide +kernel
theorem dMd_hasSame_30 : decode (mB Md_hasSame) 30 = .ok (.ifCond .eq 41, 3) := by decide +kernel
theorem dMd_hasSame_33 : decode (mB Md_hasSame) 33 = .ok (.aload_n 0, 1) := by decide +kernel
theorem dMd_hasSame_34 : decode (mB Md_hasSame) 34 = .ok (.iload 4, 2) := by decide +kernel
theorem dMd_hasSame_36 : decode (mB Md_hasSame) 36 = .ok (.iload_n 3, 1) := by decide +kernel
theorem dMd_hasSame_37 : decode (mB Md_hasSame) 37 = .ok (.invokevirtual 226, 3) := by decide +kernel
theorem dMd_hasSame_40 : decode (mB Md_hasSame) 40 = .ok (.aload_n 0, 1) := by decide +kernel
theorem dMd_hasSame_41 : decode (mB Md_hasSame) 41 = .ok (.iload 5, 2) := by decide +kernel
theorem dMd_hasSame_43 : decode (mB Md_hasSame) 43 = .ok (.iload_n 3, 1) := by decide +kernel
theorem dMd_hasSame_44 : decode (mB Md_hasSame) 44 = .ok (.invokevirtual 226, 3) := by decide +kernel
theorem dMd_hasSame_47 : decode (mB Md_hasSame) 47 = .ok (.if_icmp .ne 24, 3) := by decide +kernel
theorem dMd_hasSame_50 : decode (mB Md_hasSame) 50 = .ok (.aload_n 0, 1) := by decide +kernel
theorem dMd_hasSame_51 : decode (mB Md_hasSame) 51 = .ok (.iload 4, 2) := by decide +kernel
theorem dMd_hasSame_53 : decode (mB Md_hasSame) 53 = .ok (.iload_n 3, 1) := by decide +kernel
theorem dMd_hasSame_54 : decode (mB Md_hasSame) 54 = .ok (.invokevirtual 179, 3) := by decide +kernel
theorem dMd_hasSame_57 : decode (mB Md_hasSame) 57 = .ok (.aload_n 0, 1) := by decide +kernel
theorem dMd_hasSame_58 : decode (mB Md_hasSame) 58 = .ok (.iload 5, 2) := by decide +kernel
theorem dMd_hasSame_60 : decode (mB Md_hasSame) 60 = .ok (.iload_n 3, 1) := by decide +kernel
theorem dMd_hasSame_61 : decode (mB Md_hasSame) 61 = .ok (.invokevirtual 179, 3) := by decide +kernel
theorem dMd_hasSame_64 : decode (mB Md_hasSame) 64 = .ok (.if_icmp .ne 7, 3) := by decide +kernel
theorem dMd_hasSame_67 : decode (mB Md_hasSame) 67 = .ok (.iconst 1, 1) := by decide +kernel
theorem dMd_hasSame_68 : decode (mB Md_hasSame) 68 = .ok (.goto 4, 3) := by decide +kernel
theorem dMd_hasSame_71 : decode (mB Md_hasSame) 71 = .ok (.iconst 0, 1) := by decide +kernel
theorem dMd_hasSame_72 : decode (mB Md_hasSame) 72 = .ok (.ireturn, 1) := by decide +kernel
def w_Md_hasSame (o : Nat) (x1 : Int32) (x2 : Int32) (x3 : Int32) (h : tpH) (R : Int32 → tpH → Prop) : Prop :=
  (¬ x2 = (-1 : Int32) → (hT h o = 14 ∧ (∃ a3, (hR h o 27) = some a3 ∧ hT h a3 = 15 ∧ (vp_in x1 (hL h a3) ∧ (vp_in x2 (hL h a3) ∧ (w_Md_has o (hI h a3 x2.toNatClampNeg) x3 h (fun v9 h8 => (v9 = 0 → (R (0 : Int32) h8)) ∧ (¬ v9 = 0 → (hT h8 o = 14 ∧ (w_Md_valueIn o (hI h a3 x1.toNatClampNeg) x3 h8 (fun v13 h12 => hT h12 o = 14 ∧ (w_Md_valueIn o (hI h a3 x2.toNatClampNeg) x3 h12 (fun v16 h15 => (¬ v13 = v16 → (R (0 : Int32) h15)) ∧ (v13 = v16 → (hT h15 o = 14 ∧ (w_Md_parentIn o (hI h a3 x1.toNatClampNeg) x3 h15 (fun v20 h19 => hT h19 o = 14 ∧ (w_Md_parentIn o (hI h a3 x2.toNatClampNeg) x3 h19 (fun v23 h22 => (¬ v20 = v23 → (R (0 : Int32) h22)) ∧ (v20 = v23 → (R (1 : Int32) h22))))))))))))))))))))) ∧ (x2 = (-1 : Int32) → (R (0 : Int32) h))
theorem s_Md_hasSame {o : Nat} {x1 : Int32} {x2 : Int32} {x3 : Int32} {h : tpH} {R : Int32 → tpH → Prop} (hw : w_Md_hasSame o x1 x2 x3 h R) : tpC Md_hasSame 3 [vR (some o), vI x1, vI x2, vI x3] h (tpOi R (fun _ _ => False)) := by
  refine tpC_of mv_Md_hasSame.2.2.2.1 rfl rfl (Nat.le_of_ble_eq_true rfl) ?_
  show tpR Md_hasSame 3 h _ _ 0 [some (vR (some o)), some (vI x1), some (vI x2), some (vI x3), none, none] [] h
  unfold w_Md_hasSame at hw
  refine tq_iload_n dMd_hasSame_0 rfl rfl ?_
  refine tq_iconst (v := (-1 : Int32)) dMd_hasSame_1 tni_m1 ?_
  refine tq_icmpne (tgt := 7) dMd_hasSame_2 (by decide) (fun c1 => ?_) (fun c1 => ?_)
  · have hw := hw.1 c1
    refine tq_aload_n dMd_hasSame_7 rfl rfl ?_
    obtain ⟨f2, hw⟩ := hw
    refine te_getr dMd_hasSame_8 fMd_71 rfl rfl f2 ?_
    refine tq_iload_n dMd_hasSame_11 rfl rfl ?_
    obtain ⟨a3, e4, f5, hw⟩ := hw
    obtain ⟨f6, hw⟩ := hw
    refine te_iald dMd_hasSame_12 e4 (Or.inl f5) f6 ?_
    refine tq_istore (ls' := [some (vR (some o)), some (vI x1), some (vI x2), some (vI x3), some (vI (hI h a3 x1.toNatClampNeg)), none]) dMd_hasSame_13 (Nat.le_of_ble_eq_true rfl) rfl ?_
    refine tq_aload_n dMd_hasSame_15 rfl rfl ?_
    refine te_getr dMd_hasSame_16 fMd_71 rfl rfl f2 ?_
    refine tq_iload_n dMd_hasSame_19 rfl rfl ?_
    obtain ⟨f7, hw⟩ := hw
    refine te_iald dMd_hasSame_20 e4 (Or.inl f5) f7 ?_
    refine tq_istore (ls' := [some (vR (some o)), some (vI x1), some (vI x2), some (vI x3), some (vI (hI h a3 x1.toNatClampNeg)), some (vI (hI h a3 x2.toNatClampNeg))]) dMd_hasSame_21 (Nat.le_of_ble_eq_true rfl) rfl ?_
    refine tq_aload_n dMd_hasSame_23 rfl rfl ?_
    refine tq_iload dMd_hasSame_24 rfl ?_
    refine tq_iload_n dMd_hasSame_26 rfl rfl ?_
    refine te_callV mv_Md_has (ci := 13) (dc := 2) (as := [vI (hI h a3 x2.toNatClampNeg), vI x3]) (rest := []) kMd_212 rfl (Nat.le_of_ble_eq_true rfl) (Nat.le_of_ble_eq_true rfl) rfl rfl rfl f2 (Nat.le_of_ble_eq_true rfl) dMd_hasSame_27 (s_Md_has hw) (fun _ _ hx => False.elim hx) (tk_i fun v9 h8 hw => ?_)
    refine tq_ifeq (tgt := 71) dMd_hasSame_30 (by decide) (fun c10 => ?_) (fun c10 => ?_)
    · have hw := hw.1 c10
      refine tq_iconst (v := (0 : Int32)) dMd_hasSame_71 tni_0 ?_
      exact tq_iret rfl (by decide) dMd_hasSame_72 hw
    · have hw := hw.2 c10
      refine tq_aload_n dMd_hasSame_33 rfl rfl ?_
      refine tq_iload dMd_hasSame_34 rfl ?_
      refine tq_iload_n dMd_hasSame_36 rfl rfl ?_
      obtain ⟨f11, hw⟩ := hw
      refine te_callV mv_Md_valueIn (ci := 13) (dc := 0) (as := [vI (hI h a3 x1.toNatClampNeg), vI x3]) (rest := []) kMd_226 rfl (Nat.le_of_ble_eq_true rfl) (Nat.le_of_ble_eq_true rfl) rfl rfl rfl f11 (Nat.le_of_ble_eq_true rfl) dMd_hasSame_37 (s_Md_valueIn hw) (fun _ _ hx => False.elim hx) (tk_i fun v13 h12 hw => ?_)
      refine tq_aload_n dMd_hasSame_40 rfl rfl ?_
      refine tq_iload dMd_hasSame_41 rfl ?_
      refine tq_iload_n dMd_hasSame_43 rfl rfl ?_
      obtain ⟨f14, hw⟩ := hw
      refine te_callV mv_Md_valueIn (ci := 13) (dc := 0) (as := [vI (hI h a3 x2.toNatClampNeg), vI x3]) (rest := [vI v13]) kMd_226 rfl (Nat.le_of_ble_eq_true rfl) (Nat.le_of_ble_eq_true rfl) rfl rfl rfl f14 (Nat.le_of_ble_eq_true rfl) dMd_hasSame_44 (s_Md_valueIn hw) (fun _ _ hx => False.elim hx) (tk_i fun v16 h15 hw => ?_)
      refine tq_icmpne (tgt := 71) dMd_hasSame_47 (by decide) (fun c17 => ?_) (fun c17 => ?_)
      · have hw := hw.1 c17
        refine tq_iconst (v := (0 : Int32)) dMd_hasSame_71 tni_0 ?_
        exact tq_iret rfl (by decide) dMd_hasSame_72 hw
      · have hw := hw.2 c17
        refine tq_aload_n dMd_hasSame_50 rfl rfl ?_
        refine tq_iload dMd_hasSame_51 rfl ?_
        refine tq_iload_n dMd_hasSame_53 rfl rfl ?_
        obtain ⟨f18, hw⟩ := hw
        refine te_callV mv_Md_parentIn (ci := 13) (dc := 0) (as := [vI (hI h a3 x1.toNatClampNeg), vI x3]) (rest := []) kMd_179 rfl (Nat.le_of_ble_eq_true rfl) (Nat.le_of_ble_eq_true rfl) rfl rfl rfl f18 (Nat.le_of_ble_eq_true rfl) dMd_hasSame_54 (s_Md_parentIn hw) (fun _ _ hx => False.elim hx) (tk_i fun v20 h19 hw => ?_)
        refine tq_aload_n dMd_hasSame_57 rfl rfl ?_
        refine tq_iload dMd_hasSame_58 rfl ?_
        refine tq_iload_n dMd_hasSame_60 rfl rfl ?_
        obtain ⟨f21, hw⟩ := hw
        refine te_callV mv_Md_parentIn (ci := 13) (dc := 0) (as := [vI (hI h a3 x2.toNatClampNeg), vI x3]) (rest := [vI v20]) kMd_179 rfl (Nat.le_of_ble_eq_true rfl) (Nat.le_of_ble_eq_true rfl) rfl rfl rfl f21 (Nat.le_of_ble_eq_true rfl) dMd_hasSame_61 (s_Md_parentIn hw) (fun _ _ hx => False.elim hx) (tk_i fun v23 h22 hw => ?_)
        refine tq_icmpne (tgt := 71) dMd_hasSame_64 (by decide) (fun c24 => ?_) (fun c24 => ?_)
        · have hw := hw.1 c24
          refine tq_iconst (v := (0 : Int32)) dMd_hasSame_71 tni_0 ?_
          exact tq_iret rfl (by decide) dMd_hasSame_72 hw
        · have hw := hw.2 c24
          refine tq_iconst (v := (1 : Int32)) dMd_hasSame_67 tni_1 ?_
          refine tq_goto (tgt := 72) dMd_hasSame_68 (by decide) ?_
          exact tq_iret rfl (by decide) dMd_hasSame_72 hw
  · have hw := hw.2 c1
    refine tq_iconst (v := (0 : Int32)) dMd_hasSame_5 tni_0 ?_
    exact tq_iret rfl (by decide) dMd_hasSame_6 hw
/-! TModel.touched -/
theorem dMd_touched_0 : decode (mB Md_touched) 0 = .ok (.aload_n 0, 1) := by decide +kernel
theorem dMd_touched_1 : decode (mB Md_touched) 1 = .ok (.aload_n 0, 1) := by decide +kernel
theorem dMd_touched_2 : decode (mB Md_touched) 2 = .ok (.iload_n 1, 1) := by decide +kernel
theorem dMd_touched_3 : decode (mB Md_touched) 3 = .ok (.invokevirtual 422, 3) := by decide +kernel
theorem dMd_touched_6 : decode (mB Md_touched) 6 = .ok (.ifCond .eq 15, 3) := by decide +kernel
theorem dMd_touched_9 : decode (mB Md_touched) 9 = .ok (.aload_n 0, 1) := by decide +kernel
theorem dMd_touched_10 : decode (mB Md_touched) 10 = .ok (.iload_n 2, 1) := by decide +kernel
theorem dMd_touched_11 : decode (mB Md_touched) 11 = .ok (.invokevirtual 165, 3) := by decide +kernel
theorem dMd_touched_14 : decode (mB Md_touched) 14 = .ok (.ifCond .eq 7, 3) := by decide +kernel
theorem dMd_touched_17 : decode (mB Md_touched) 17 = .ok (.iconst 1, 1) := by decide +kernel
theorem dMd_touched_18 : decode (mB Md_touched) 18 = .ok (.goto 4, 3) := by decide +kernel
theorem dMd_touched_21 : decode (mB Md_touched) 21 = .ok (.iconst 0, 1) := by decide +kernel
theorem dMd_touched_22 : decode (mB Md_touched) 22 = .ok (.invokevirtual 434, 3) := by decide +kernel
theorem dMd_touched_25 : decode (mB Md_touched) 25 = .ok (.ifCond .ne 5, 3) := by decide +kernel
theorem dMd_touched_28 : decode (mB Md_touched) 28 = .ok (.iconst 0, 1) := by decide +kernel
theorem dMd_touched_29 : decode (mB Md_touched) 29 = .ok (.ireturn, 1) := by decide +kernel
theorem dMd_touched_30 : decode (mB Md_touched) 30 = .ok (.aload_n 0, 1) := by decide +kernel
theorem dMd_touched_31 : decode (mB Md_touched) 31 = .ok (.aload_n 0, 1) := by decide +kernel
theorem dMd_touched_32 : decode (mB Md_touched) 32 = .ok (.getfield 71, 3) := by decide +kernel
theorem dMd_touched_35 : decode (mB Md_touched) 35 = .ok (.iload_n 1, 1) := by decide +kernel
theorem dMd_touched_36 : decode (mB Md_touched) 36 = .ok (.iaload, 1) := by decide +kernel
theorem dMd_touched_37 : decode (mB Md_touched) 37 = .ok (.iload_n 2, 1) := by decide +kernel
theorem dMd_touched_38 : decode (mB Md_touched) 38 = .ok (.invokevirtual 212, 3) := by decide +kernel
theorem dMd_touched_41 : decode (mB Md_touched) 41 = .ok (.ifCond .ne 5, 3) := by decide +kernel
theorem dMd_touched_44 : decode (mB Md_touched) 44 = .ok (.iconst (-1), 1) := by decide +kernel
theorem dMd_touched_45 : decode (mB Md_touched) 45 = .ok (.ireturn, 1) := by decide +kernel
theorem dMd_touched_46 : decode (mB Md_touched) 46 = .ok (.iload_n 1, 1) := by decide +kernel
theorem dMd_touched_47 : decode (mB Md_touched) 47 = .ok (.istore_n 3, 1) := by decide +kernel
theorem dMd_touched_48 : decode (mB Md_touched) 48 = .ok (.iconst 1, 1) := by decide +kernel
theorem dMd_touched_49 : decode (mB Md_touched) 49 = .ok (.istore 4, 2) := by decide +kernel
theorem dMd_touched_51 : decode (mB Md_touched) 51 = .ok (.iload 4, 2) := by decide +kernel
theorem dMd_touched_53 : decode (mB Md_touched) 53 = .ok (.ifCond .eq 77, 3) := by decide +kernel
theorem dMd_touched_56 : decode (mB Md_touched) 56 = .ok (.aload_n 0, 1) := by decide +kernel
theorem dMd_touched_57 : decode (mB Md_touched) 57 = .ok (.iload_n 3, 1) := by decide +kernel
theorem dMd_touched_58 : decode (mB Md_touched) 58 = .ok (.aload_n 0, 1) := by decide +kernel
theorem dMd_touched_59 : decode (mB Md_touched) 59 = .ok (.getfield 74, 3) := by decide +kernel
theorem dMd_touched_62 : decode (mB Md_touched) 62 = .ok (.iload_n 3, 1) := by decide +kernel
theorem dMd_touched_63 : decode (mB Md_touched) 63 = .ok (.iaload, 1) := by decide +kernel
theorem dMd_touched_64 : decode (mB Md_touched) 64 = .ok (.iload_n 2, 1) := by decide +kernel
theorem dMd_touched_65 : decode (mB Md_touched) 65 = .ok (.invokevirtual 445, 3) := by decide +kernel
theorem dMd_touched_68 : decode (mB Md_touched) 68 = .ok (.istore 5, 2) := by decide +kernel
theorem dMd_touched_70 : decode (mB Md_touched) 70 = .ok (.iload 5, 2) := by decide +kernel
theorem dMd_touched_72 : decode (mB Md_touched) 72 = .ok (.ifCond .ne 18, 3) := by decide +kernel
theorem dMd_touched_75 : decode (mB Md_touched) 75 = .ok (.aload_n 0, 1) := by decide +kernel
theorem dMd_touched_76 : decode (mB Md_touched) 76 = .ok (.iload_n 3, 1) := by decide +kernel
theorem dMd_touched_77 : decode (mB Md_touched) 77 = .ok (.aload_n 0, 1) := by decide +kernel
theorem dMd_touched_78 : decode (mB Md_touched) 78 = .ok (.getfield 77, 3) := by decide +kernel
theorem dMd_touched_81 : decode (mB Md_touched) 81 = .ok (.iload_n 3, 1) := by decide +kernel
theorem dMd_touched_82 : decode (mB Md_touched) 82 = .ok (.iaload, 1) := by decide +kernel
theorem dMd_touched_83 : decode (mB Md_touched) 83 = .ok (.iload_n 2, 1) := by decide +kernel
theorem dMd_touched_84 : decode (mB Md_touched) 84 = .ok (.invokevirtual 445, 3) := by decide +kernel
theorem dMd_touched_87 : decode (mB Md_touched) 87 = .ok (.ifCond .eq 7, 3) := by decide +kernel
theorem dMd_touched_90 : decode (mB Md_touched) 90 = .ok (.iconst 1, 1) := by decide +kernel
theorem dMd_touched_91 : decode (mB Md_touched) 91 = .ok (.goto 4, 3) := by decide +kernel
theorem dMd_touched_94 : decode (mB Md_touched) 94 = .ok (.iconst 0, 1) := by decide +kernel
theorem dMd_touched_95 : decode (mB Md_touched) 95 = .ok (.istore 4, 2) := by decide +kernel
theorem dMd_touched_97 : decode (mB Md_touched) 97 = .ok (.iload 5, 2) := by decide +kernel
theorem dMd_touched_99 : decode (mB Md_touched) 99 = .ok (.ifCond .eq 12, 3) := by decide +kernel
theorem dMd_touched_102 : decode (mB Md_touched) 102 = .ok (.aload_n 0, 1) := by decide +kernel
theorem dMd_touched_103 : decode (mB Md_touched) 103 = .ok (.getfield 74, 3) := by decide +kernel
theorem dMd_touched_106 : decode (mB Md_touched) 106 = .ok (.iload_n 3, 1) := by decide +kernel
theorem dMd_touched_107 : decode (mB Md_touched) 107 = .ok (.iaload, 1) := by decide +kernel
theorem dMd_touched_108 : decode (mB Md_touched) 108 = .ok (.goto 18, 3) := by decide +kernel
theorem dMd_touched_111 : decode (mB Md_touched) 111 = .ok (.iload 4, 2) := by decide +kernel
theorem dMd_touched_113 : decode (mB Md_touched) 113 = .ok (.ifCond .eq 12, 3) := by decide +kernel
theorem dMd_touched_116 : decode (mB Md_touched) 116 = .ok (.aload_n 0, 1) := by decide +kernel
theorem dMd_touched_117 : decode (mB Md_touched) 117 = .ok (.getfield 77, 3) := by decide +kernel
theorem dMd_touched_120 : decode (mB Md_touched) 120 = .ok (.iload_n 3, 1) := by decide +kernel
theorem dMd_touched_121 : decode (mB Md_touched) 121 = .ok (.iaload, 1) := by decide +kernel
theorem dMd_touched_122 : decode (mB Md_touched) 122 = .ok (.goto 4, 3) := by decide +kernel
theorem dMd_touched_125 : decode (mB Md_touched) 125 = .ok (.iload_n 3, 1) := by decide +kernel
theorem dMd_touched_126 : decode (mB Md_touched) 126 = .ok (.istore_n 3, 1) := by decide +kernel
theorem dMd_touched_127 : decode (mB Md_touched) 127 = .ok (.goto (-76), 3) := by decide +kernel
theorem dMd_touched_130 : decode (mB Md_touched) 130 = .ok (.iload_n 3, 1) := by decide +kernel
theorem dMd_touched_131 : decode (mB Md_touched) 131 = .ok (.ireturn, 1) := by decide +kernel
def w_Md_touched_95 (R : Int32 → tpH → Prop) (K51 : Nat → Int32 → Int32 → Int32 → tpH → Prop) (o : Nat) (x2 : Int32) (x3 : Int32) (x5 : Int32) (t0 : Int32) (h : tpH) : Prop :=
  (x5 = 0 → ((t0 = 0 → (K51 o x2 x3 t0 h)) ∧ (¬ t0 = 0 → (hT h o = 14 ∧ (∃ a4, (hR h o 29) = some a4 ∧ hT h a4 = 15 ∧ (vp_in x3 (hL h a4) ∧ (K51 o x2 (hI h a4 x3.toNatClampNeg) t0 h))))))) ∧ (¬ x5 = 0 → (hT h o = 14 ∧ (∃ a9, (hR h o 28) = some a9 ∧ hT h a9 = 15 ∧ (vp_in x3 (hL h a9) ∧ (K51 o x2 (hI h a9 x3.toNatClampNeg) t0 h)))))
def b_Md_touched_51 (R : Int32 → tpH → Prop) (Y : Nat → Int32 → Int32 → Int32 → tpH → Prop) (o : Nat) (x2 : Int32) (x3 : Int32) (x4 : Int32) (h : tpH) : Prop :=
  (x4 = 0 → (R x3 h)) ∧ (¬ x4 = 0 → (hT h o = 14 ∧ (∃ a3, (hR h o 28) = some a3 ∧ hT h a3 = 15 ∧ (vp_in x3 (hL h a3) ∧ (w_Md_hasSame o x3 (hI h a3 x3.toNatClampNeg) x2 h (fun v8 h7 => (¬ v8 = 0 → (w_Md_touched_95 R Y o x2 x3 v8 (1 : Int32) h7)) ∧ (v8 = 0 → (hT h7 o = 14 ∧ (∃ a11, (hR h7 o 29) = some a11 ∧ hT h7 a11 = 15 ∧ (vp_in x3 (hL h7 a11) ∧ (w_Md_hasSame o x3 (hI h7 a11 x3.toNatClampNeg) x2 h7 (fun v16 h15 => (v16 = 0 → (w_Md_touched_95 R Y o x2 x3 v8 (0 : Int32) h15)) ∧ (¬ v16 = 0 → (w_Md_touched_95 R Y o x2 x3 v8 (1 : Int32) h15))))))))))))))
def w_Md_touched_51 (R : Int32 → tpH → Prop) : Nat → Nat → Int32 → Int32 → Int32 → tpH → Prop
  | 0 => fun _ _ _ _ _ => False
  | n + 1 => b_Md_touched_51 R (w_Md_touched_51 R n)
def w_Md_touched_22 (R : Int32 → tpH → Prop) (o : Nat) (x1 : Int32) (x2 : Int32) (t0 : Int32) (t1 : Option Nat) (h : tpH) : Prop :=
  ∃ a1, t1 = some a1 ∧ hT h a1 = 14 ∧ (w_Md_asksFor a1 t0 h (fun v5 h4 => (¬ v5 = 0 → (hT h4 o = 14 ∧ (∃ a8, (hR h4 o 27) = some a8 ∧ hT h4 a8 = 15 ∧ (vp_in x1 (hL h4 a8) ∧ (w_Md_has o (hI h4 a8 x1.toNatClampNeg) x2 h4 (fun v13 h12 => (¬ v13 = 0 → (∃ n, w_Md_touched_51 R n o x2 x1 (1 : Int32) h12)) ∧ (v13 = 0 → (R (-1 : Int32) h12)))))))) ∧ (v5 = 0 → (R (0 : Int32) h4))))
def w_Md_touched (o : Nat) (x1 : Int32) (x2 : Int32) (h : tpH) (R : Int32 → tpH → Prop) : Prop :=
  hT h o = 14 ∧ (w_Md_isVersion o x1 h (fun v3 h2 => (v3 = 0 → (w_Md_touched_22 R o x1 x2 (0 : Int32) (some o) h2)) ∧ (¬ v3 = 0 → (hT h2 o = 14 ∧ (w_Md_isMark o x2 h2 (fun v7 h6 => (v7 = 0 → (w_Md_touched_22 R o x1 x2 (0 : Int32) (some o) h6)) ∧ (¬ v7 = 0 → (w_Md_touched_22 R o x1 x2 (1 : Int32) (some o) h6))))))))
theorem s_Md_touched_95 {h0 : tpH} {av : List tpV} {R : Int32 → tpH → Prop} {K51 : Nat → Int32 → Int32 → Int32 → tpH → Prop} (k51 : ∀ (o : Nat) (x2 : Int32) (x3 : Int32) (x4 : Int32) (h : tpH), K51 o x2 x3 x4 h → tpR Md_touched 4 h0 av (tpOi R (fun _ _ => False)) 51 [some (vR (some o)), none, some (vI x2), some (vI x3), some (vI x4), none] [] h) : ∀ (o : Nat) (x2 : Int32) (x3 : Int32) (x5 : Int32) (t0 : Int32) (h : tpH), w_Md_touched_95 R K51 o x2 x3 x5 t0 h → tpR Md_touched 4 h0 av (tpOi R (fun _ _ => False)) 95 [some (vR (some o)), none, some (vI x2), some (vI x3), none, some (vI x5)] [vI t0] h := by
  intro o x2 x3 x5 t0 h hw
  unfold w_Md_touched_95 at hw
  refine tq_istore (ls' := [some (vR (some o)), none, some (vI x2), some (vI x3), some (vI t0), some (vI x5)]) dMd_touched_95 (Nat.le_of_ble_eq_true rfl) rfl ?_
  refine tq_iload dMd_touched_97 rfl ?_
  refine tq_ifeq (tgt := 111) dMd_touched_99 (by decide) (fun c1 => ?_) (fun c1 => ?_)
  · have hw := hw.1 c1
    refine tq_iload dMd_touched_111 rfl ?_
    refine tq_ifeq (tgt := 125) dMd_touched_113 (by decide) (fun c2 => ?_) (fun c2 => ?_)
    · have hw := hw.1 c2
      refine tq_iload_n dMd_touched_125 rfl rfl ?_
      refine tq_istore_n (ls' := [some (vR (some o)), none, some (vI x2), some (vI x3), some (vI t0), some (vI x5)]) dMd_touched_126 rfl (Nat.le_of_ble_eq_true rfl) rfl ?_
      refine tq_goto (tgt := 51) dMd_touched_127 (by decide) ?_
      refine tpR.fo (ls' := [some (vR (some o)), none, some (vI x2), some (vI x3), some (vI t0), none]) ?_ (And.intro rfl (And.intro rfl (And.intro rfl (And.intro rfl trivial))))
      exact k51 _ _ _ _ _ hw
    · have hw := hw.2 c2
      refine tq_aload_n dMd_touched_116 rfl rfl ?_
      obtain ⟨f3, hw⟩ := hw
      refine te_getr dMd_touched_117 fMd_77 rfl rfl f3 ?_
      refine tq_iload_n dMd_touched_120 rfl rfl ?_
      obtain ⟨a4, e5, f6, hw⟩ := hw
      obtain ⟨f7, hw⟩ := hw
      refine te_iald dMd_touched_121 e5 (Or.inl f6) f7 ?_
      refine tq_goto (tgt := 126) dMd_touched_122 (by decide) ?_
      refine tq_istore_n (ls' := [some (vR (some o)), none, some (vI x2), some (vI (hI h a4 x3.toNatClampNeg)), some (vI t0), some (vI x5)]) dMd_touched_126 rfl (Nat.le_of_ble_eq_true rfl) rfl ?_
      refine tq_goto (tgt := 51) dMd_touched_127 (by decide) ?_
      refine tpR.fo (ls' := [some (vR (some o)), none, some (vI x2), some (vI (hI h a4 x3.toNatClampNeg)), some (vI t0), none]) ?_ (And.intro rfl (And.intro rfl (And.intro rfl (And.intro rfl trivial))))
      exact k51 _ _ _ _ _ hw
  · have hw := hw.2 c1
    refine tq_aload_n dMd_touched_102 rfl rfl ?_
    obtain ⟨f8, hw⟩ := hw
    refine te_getr dMd_touched_103 fMd_74 rfl rfl f8 ?_
    refine tq_iload_n dMd_touched_106 rfl rfl ?_
    obtain ⟨a9, e10, f11, hw⟩ := hw
    obtain ⟨f12, hw⟩ := hw
    refine te_iald dMd_touched_107 e10 (Or.inl f11) f12 ?_
    refine tq_goto (tgt := 126) dMd_touched_108 (by decide) ?_
    refine tq_istore_n (ls' := [some (vR (some o)), none, some (vI x2), some (vI (hI h a9 x3.toNatClampNeg)), some (vI t0), some (vI x5)]) dMd_touched_126 rfl (Nat.le_of_ble_eq_true rfl) rfl ?_
    refine tq_goto (tgt := 51) dMd_touched_127 (by decide) ?_
    refine tpR.fo (ls' := [some (vR (some o)), none, some (vI x2), some (vI (hI h a9 x3.toNatClampNeg)), some (vI t0), none]) ?_ (And.intro rfl (And.intro rfl (And.intro rfl (And.intro rfl trivial))))
    exact k51 _ _ _ _ _ hw
theorem s_Md_touched_51 {h0 : tpH} {av : List tpV} {R : Int32 → tpH → Prop} : ∀ (n : Nat) (o : Nat) (x2 : Int32) (x3 : Int32) (x4 : Int32) (h : tpH), w_Md_touched_51 R n o x2 x3 x4 h → tpR Md_touched 4 h0 av (tpOi R (fun _ _ => False)) 51 [some (vR (some o)), none, some (vI x2), some (vI x3), some (vI x4), none] [] h := by
  intro n
  induction n with
  | zero => intro o x2 x3 x4 h hw; exact False.elim hw
  | succ n ih =>
    intro o x2 x3 x4 h hw
    change b_Md_touched_51 R (w_Md_touched_51 R n) o x2 x3 x4 h at hw
    unfold b_Md_touched_51 at hw
    refine tq_iload dMd_touched_51 rfl ?_
    refine tq_ifeq (tgt := 130) dMd_touched_53 (by decide) (fun c1 => ?_) (fun c1 => ?_)
    · have hw := hw.1 c1
      refine tq_iload_n dMd_touched_130 rfl rfl ?_
      exact tq_iret rfl rfl dMd_touched_131 hw
    · have hw := hw.2 c1
      refine tq_aload_n dMd_touched_56 rfl rfl ?_
      refine tq_iload_n dMd_touched_57 rfl rfl ?_
      refine tq_aload_n dMd_touched_58 rfl rfl ?_
      obtain ⟨f2, hw⟩ := hw
      refine te_getr dMd_touched_59 fMd_74 rfl rfl f2 ?_
      refine tq_iload_n dMd_touched_62 rfl rfl ?_
      obtain ⟨a3, e4, f5, hw⟩ := hw
      obtain ⟨f6, hw⟩ := hw
      refine te_iald dMd_touched_63 e4 (Or.inl f5) f6 ?_
      refine tq_iload_n dMd_touched_64 rfl rfl ?_
      refine te_callV mv_Md_hasSame (ci := 13) (dc := 3) (as := [vI x3, vI (hI h a3 x3.toNatClampNeg), vI x2]) (rest := []) kMd_445 rfl (Nat.le_of_ble_eq_true rfl) (Nat.le_of_ble_eq_true rfl) rfl rfl rfl f2 (Nat.le_of_ble_eq_true rfl) dMd_touched_65 (s_Md_hasSame hw) (fun _ _ hx => False.elim hx) (tk_i fun v8 h7 hw => ?_)
      refine tq_istore (ls' := [some (vR (some o)), none, some (vI x2), some (vI x3), some (vI x4), some (vI v8)]) dMd_touched_68 (Nat.le_of_ble_eq_true rfl) rfl ?_
      refine tq_iload dMd_touched_70 rfl ?_
      refine tq_ifne (tgt := 90) dMd_touched_72 (by decide) (fun c9 => ?_) (fun c9 => ?_)
      · have hw := hw.1 c9
        refine tq_iconst (v := (1 : Int32)) dMd_touched_90 tni_1 ?_
        refine tq_goto (tgt := 95) dMd_touched_91 (by decide) ?_
        refine tpR.fo (ls' := [some (vR (some o)), none, some (vI x2), some (vI x3), none, some (vI v8)]) ?_ (And.intro rfl (And.intro rfl (And.intro rfl (And.intro rfl trivial))))
        exact s_Md_touched_95 ih _ _ _ _ _ _ hw
      · have hw := hw.2 c9
        refine tq_aload_n dMd_touched_75 rfl rfl ?_
        refine tq_iload_n dMd_touched_76 rfl rfl ?_
        refine tq_aload_n dMd_touched_77 rfl rfl ?_
        obtain ⟨f10, hw⟩ := hw
        refine te_getr dMd_touched_78 fMd_77 rfl rfl f10 ?_
        refine tq_iload_n dMd_touched_81 rfl rfl ?_
        obtain ⟨a11, e12, f13, hw⟩ := hw
        obtain ⟨f14, hw⟩ := hw
        refine te_iald dMd_touched_82 e12 (Or.inl f13) f14 ?_
        refine tq_iload_n dMd_touched_83 rfl rfl ?_
        refine te_callV mv_Md_hasSame (ci := 13) (dc := 3) (as := [vI x3, vI (hI h7 a11 x3.toNatClampNeg), vI x2]) (rest := []) kMd_445 rfl (Nat.le_of_ble_eq_true rfl) (Nat.le_of_ble_eq_true rfl) rfl rfl rfl f10 (Nat.le_of_ble_eq_true rfl) dMd_touched_84 (s_Md_hasSame hw) (fun _ _ hx => False.elim hx) (tk_i fun v16 h15 hw => ?_)
        refine tq_ifeq (tgt := 94) dMd_touched_87 (by decide) (fun c17 => ?_) (fun c17 => ?_)
        · have hw := hw.1 c17
          refine tq_iconst (v := (0 : Int32)) dMd_touched_94 tni_0 ?_
          refine tpR.fo (ls' := [some (vR (some o)), none, some (vI x2), some (vI x3), none, some (vI v8)]) ?_ (And.intro rfl (And.intro rfl (And.intro rfl (And.intro rfl trivial))))
          exact s_Md_touched_95 ih _ _ _ _ _ _ hw
        · have hw := hw.2 c17
          refine tq_iconst (v := (1 : Int32)) dMd_touched_90 tni_1 ?_
          refine tq_goto (tgt := 95) dMd_touched_91 (by decide) ?_
          refine tpR.fo (ls' := [some (vR (some o)), none, some (vI x2), some (vI x3), none, some (vI v8)]) ?_ (And.intro rfl (And.intro rfl (And.intro rfl (And.intro rfl trivial))))
          exact s_Md_touched_95 ih _ _ _ _ _ _ hw
theorem s_Md_touched_22 {h0 : tpH} {av : List tpV} {R : Int32 → tpH → Prop} : ∀ (o : Nat) (x1 : Int32) (x2 : Int32) (t0 : Int32) (t1 : Option Nat) (h : tpH), w_Md_touched_22 R o x1 x2 t0 t1 h → tpR Md_touched 4 h0 av (tpOi R (fun _ _ => False)) 22 [some (vR (some o)), some (vI x1), some (vI x2), none, none, none] [vI t0, vR t1] h := by
  intro o x1 x2 t0 t1 h hw
  unfold w_Md_touched_22 at hw
  obtain ⟨a1, e2, f3, hw⟩ := hw
  refine te_callV mv_Md_asksFor (ci := 13) (dc := 0) (as := [vI t0]) (rest := []) kMd_434 rfl (Nat.le_of_ble_eq_true rfl) (Nat.le_of_ble_eq_true rfl) rfl rfl e2 f3 (Nat.le_of_ble_eq_true rfl) dMd_touched_22 (s_Md_asksFor hw) (fun _ _ hx => False.elim hx) (tk_i fun v5 h4 hw => ?_)
  refine tq_ifne (tgt := 30) dMd_touched_25 (by decide) (fun c6 => ?_) (fun c6 => ?_)
  · have hw := hw.1 c6
    refine tq_aload_n dMd_touched_30 rfl rfl ?_
    refine tq_aload_n dMd_touched_31 rfl rfl ?_
    obtain ⟨f7, hw⟩ := hw
    refine te_getr dMd_touched_32 fMd_71 rfl rfl f7 ?_
    refine tq_iload_n dMd_touched_35 rfl rfl ?_
    obtain ⟨a8, e9, f10, hw⟩ := hw
    obtain ⟨f11, hw⟩ := hw
    refine te_iald dMd_touched_36 e9 (Or.inl f10) f11 ?_
    refine tq_iload_n dMd_touched_37 rfl rfl ?_
    refine te_callV mv_Md_has (ci := 13) (dc := 2) (as := [vI (hI h4 a8 x1.toNatClampNeg), vI x2]) (rest := []) kMd_212 rfl (Nat.le_of_ble_eq_true rfl) (Nat.le_of_ble_eq_true rfl) rfl rfl rfl f7 (Nat.le_of_ble_eq_true rfl) dMd_touched_38 (s_Md_has hw) (fun _ _ hx => False.elim hx) (tk_i fun v13 h12 hw => ?_)
    refine tq_ifne (tgt := 46) dMd_touched_41 (by decide) (fun c14 => ?_) (fun c14 => ?_)
    · have hw := hw.1 c14
      refine tq_iload_n dMd_touched_46 rfl rfl ?_
      refine tq_istore_n (ls' := [some (vR (some o)), some (vI x1), some (vI x2), some (vI x1), none, none]) dMd_touched_47 rfl (Nat.le_of_ble_eq_true rfl) rfl ?_
      refine tq_iconst (v := (1 : Int32)) dMd_touched_48 tni_1 ?_
      refine tq_istore (ls' := [some (vR (some o)), some (vI x1), some (vI x2), some (vI x1), some (vI (1 : Int32)), none]) dMd_touched_49 (Nat.le_of_ble_eq_true rfl) rfl ?_
      refine tpR.fo (ls' := [some (vR (some o)), none, some (vI x2), some (vI x1), some (vI (1 : Int32)), none]) ?_ (And.intro rfl (And.intro rfl (And.intro rfl (And.intro rfl trivial))))
      obtain ⟨n, hw⟩ := hw
      exact s_Md_touched_51 n _ _ _ _ _ hw
    · have hw := hw.2 c14
      refine tq_iconst (v := (-1 : Int32)) dMd_touched_44 tni_m1 ?_
      exact tq_iret rfl rfl dMd_touched_45 hw
  · have hw := hw.2 c6
    refine tq_iconst (v := (0 : Int32)) dMd_touched_28 tni_0 ?_
    exact tq_iret rfl rfl dMd_touched_29 hw
theorem s_Md_touched {o : Nat} {x1 : Int32} {x2 : Int32} {h : tpH} {R : Int32 → tpH → Prop} (hw : w_Md_touched o x1 x2 h R) : tpC Md_touched 4 [vR (some o), vI x1, vI x2] h (tpOi R (fun _ _ => False)) := by
  refine tpC_of mv_Md_touched.2.2.2.1 rfl rfl (Nat.le_of_ble_eq_true rfl) ?_
  show tpR Md_touched 4 h _ _ 0 [some (vR (some o)), some (vI x1), some (vI x2), none, none, none] [] h
  unfold w_Md_touched at hw
  refine tq_aload_n dMd_touched_0 rfl rfl ?_
  refine tq_aload_n dMd_touched_1 rfl rfl ?_
  refine tq_iload_n dMd_touched_2 rfl rfl ?_
  obtain ⟨f1, hw⟩ := hw
  refine te_callV mv_Md_isVersion (ci := 13) (dc := 1) (as := [vI x1]) (rest := [vR (some o)]) kMd_422 rfl (Nat.le_of_ble_eq_true rfl) (Nat.le_of_ble_eq_true rfl) rfl rfl rfl f1 (Nat.le_of_ble_eq_true rfl) dMd_touched_3 (s_Md_isVersion hw) (fun _ _ hx => False.elim hx) (tk_i fun v3 h2 hw => ?_)
  refine tq_ifeq (tgt := 21) dMd_touched_6 (by decide) (fun c4 => ?_) (fun c4 => ?_)
  · have hw := hw.1 c4
    refine tq_iconst (v := (0 : Int32)) dMd_touched_21 tni_0 ?_
    refine tpR.fo (ls' := [some (vR (some o)), some (vI x1), some (vI x2), none, none, none]) ?_ (And.intro rfl (And.intro rfl (And.intro rfl trivial)))
    exact s_Md_touched_22 _ _ _ _ _ _ hw
  · have hw := hw.2 c4
    refine tq_aload_n dMd_touched_9 rfl rfl ?_
    refine tq_iload_n dMd_touched_10 rfl rfl ?_
    obtain ⟨f5, hw⟩ := hw
    refine te_callV mv_Md_isMark (ci := 13) (dc := 1) (as := [vI x2]) (rest := [vR (some o)]) kMd_165 rfl (Nat.le_of_ble_eq_true rfl) (Nat.le_of_ble_eq_true rfl) rfl rfl rfl f5 (Nat.le_of_ble_eq_true rfl) dMd_touched_11 (s_Md_isMark hw) (fun _ _ hx => False.elim hx) (tk_i fun v7 h6 hw => ?_)
    refine tq_ifeq (tgt := 21) dMd_touched_14 (by decide) (fun c8 => ?_) (fun c8 => ?_)
    · have hw := hw.1 c8
      refine tq_iconst (v := (0 : Int32)) dMd_touched_21 tni_0 ?_
      refine tpR.fo (ls' := [some (vR (some o)), some (vI x1), some (vI x2), none, none, none]) ?_ (And.intro rfl (And.intro rfl (And.intro rfl trivial)))
      exact s_Md_touched_22 _ _ _ _ _ _ hw
    · have hw := hw.2 c8
      refine tq_iconst (v := (1 : Int32)) dMd_touched_17 tni_1 ?_
      refine tq_goto (tgt := 22) dMd_touched_18 (by decide) ?_
      refine tpR.fo (ls' := [some (vR (some o)), some (vI x1), some (vI x2), none, none, none]) ?_ (And.intro rfl (And.intro rfl (And.intro rfl trivial)))
      exact s_Md_touched_22 _ _ _ _ _ _ hw
