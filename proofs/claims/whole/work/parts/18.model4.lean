/-! TModel.find -/
theorem dMd_find_0 : decode (mB Md_find) 0 = .ok (.aload_n 0, 1) := by decide +kernel
theorem dMd_find_1 : decode (mB Md_find) 1 = .ok (.aload_n 0, 1) := by decide +kernel
theorem dMd_find_2 : decode (mB Md_find) 2 = .ok (.iload_n 1, 1) := by decide +kernel
theorem dMd_find_3 : decode (mB Md_find) 3 = .ok (.invokevirtual 201, 3) := by decide +kernel
theorem dMd_find_6 : decode (mB Md_find) 6 = .ok (.ifCond .eq 11, 3) := by decide +kernel
theorem dMd_find_9 : decode (mB Md_find) 9 = .ok (.aload_n 0, 1) := by decide +kernel
theorem dMd_find_10 : decode (mB Md_find) 10 = .ok (.iload_n 2, 1) := by decide +kernel
theorem dMd_find_11 : decode (mB Md_find) 11 = .ok (.invokevirtual 201, 3) := by decide +kernel
theorem dMd_find_14 : decode (mB Md_find) 14 = .ok (.ifCond .ne 7, 3) := by decide +kernel
theorem dMd_find_17 : decode (mB Md_find) 17 = .ok (.iconst 1, 1) := by decide +kernel
theorem dMd_find_18 : decode (mB Md_find) 18 = .ok (.goto 26, 3) := by decide +kernel
theorem dMd_find_21 : decode (mB Md_find) 21 = .ok (.aload_n 0, 1) := by decide +kernel
theorem dMd_find_22 : decode (mB Md_find) 22 = .ok (.iload_n 1, 1) := by decide +kernel
theorem dMd_find_23 : decode (mB Md_find) 23 = .ok (.iload_n 2, 1) := by decide +kernel
theorem dMd_find_24 : decode (mB Md_find) 24 = .ok (.invokevirtual 316, 3) := by decide +kernel
theorem dMd_find_27 : decode (mB Md_find) 27 = .ok (.ifCond .eq 12, 3) := by decide +kernel
theorem dMd_find_30 : decode (mB Md_find) 30 = .ok (.aload_n 0, 1) := by decide +kernel
theorem dMd_find_31 : decode (mB Md_find) 31 = .ok (.getfield 295, 3) := by decide +kernel
theorem dMd_find_34 : decode (mB Md_find) 34 = .ok (.bipush 40, 2) := by decide +kernel
theorem dMd_find_36 : decode (mB Md_find) 36 = .ok (.if_icmp .ne 7, 3) := by decide +kernel
theorem dMd_find_39 : decode (mB Md_find) 39 = .ok (.iconst 2, 1) := by decide +kernel
theorem dMd_find_40 : decode (mB Md_find) 40 = .ok (.goto 4, 3) := by decide +kernel
theorem dMd_find_43 : decode (mB Md_find) 43 = .ok (.iconst 0, 1) := by decide +kernel
theorem dMd_find_44 : decode (mB Md_find) 44 = .ok (.putfield 151, 3) := by decide +kernel
theorem dMd_find_47 : decode (mB Md_find) 47 = .ok (.aload_n 0, 1) := by decide +kernel
theorem dMd_find_48 : decode (mB Md_find) 48 = .ok (.getfield 151, 3) := by decide +kernel
theorem dMd_find_51 : decode (mB Md_find) 51 = .ok (.ifCond .le 5, 3) := by decide +kernel
theorem dMd_find_54 : decode (mB Md_find) 54 = .ok (.iconst 0, 1) := by decide +kernel
theorem dMd_find_55 : decode (mB Md_find) 55 = .ok (.ireturn, 1) := by decide +kernel
theorem dMd_find_56 : decode (mB Md_find) 56 = .ok (.aload_n 0, 1) := by decide +kernel
theorem dMd_find_57 : decode (mB Md_find) 57 = .ok (.iload_n 1, 1) := by decide +kernel
theorem dMd_find_58 : decode (mB Md_find) 58 = .ok (.iload_n 2, 1) := by decide +kernel
theorem dMd_find_59 : decode (mB Md_find) 59 = .ok (.invokevirtual 319, 3) := by decide +kernel
theorem dMd_find_62 : decode (mB Md_find) 62 = .ok (.aload_n 0, 1) := by decide +kernel
theorem dMd_find_63 : decode (mB Md_find) 63 = .ok (.iload_n 1, 1) := by decide +kernel
theorem dMd_find_64 : decode (mB Md_find) 64 = .ok (.bipush 41, 2) := by decide +kernel
theorem dMd_find_66 : decode (mB Md_find) 66 = .ok (.invokevirtual 204, 3) := by decide +kernel
theorem dMd_find_69 : decode (mB Md_find) 69 = .ok (.aload_n 0, 1) := by decide +kernel
theorem dMd_find_70 : decode (mB Md_find) 70 = .ok (.aload_n 0, 1) := by decide +kernel
theorem dMd_find_71 : decode (mB Md_find) 71 = .ok (.iload_n 1, 1) := by decide +kernel
theorem dMd_find_72 : decode (mB Md_find) 72 = .ok (.iload_n 2, 1) := by decide +kernel
theorem dMd_find_73 : decode (mB Md_find) 73 = .ok (.aload_n 0, 1) := by decide +kernel
theorem dMd_find_74 : decode (mB Md_find) 74 = .ok (.getfield 295, 3) := by decide +kernel
theorem dMd_find_77 : decode (mB Md_find) 77 = .ok (.invokevirtual 322, 3) := by decide +kernel
theorem dMd_find_80 : decode (mB Md_find) 80 = .ok (.ifCond .eq 7, 3) := by decide +kernel
theorem dMd_find_83 : decode (mB Md_find) 83 = .ok (.iconst 0, 1) := by decide +kernel
theorem dMd_find_84 : decode (mB Md_find) 84 = .ok (.goto 4, 3) := by decide +kernel
theorem dMd_find_87 : decode (mB Md_find) 87 = .ok (.iconst 2, 1) := by decide +kernel
theorem dMd_find_88 : decode (mB Md_find) 88 = .ok (.putfield 151, 3) := by decide +kernel
theorem dMd_find_91 : decode (mB Md_find) 91 = .ok (.aload_n 0, 1) := by decide +kernel
theorem dMd_find_92 : decode (mB Md_find) 92 = .ok (.dup, 1) := by decide +kernel
theorem dMd_find_93 : decode (mB Md_find) 93 = .ok (.getfield 295, 3) := by decide +kernel
theorem dMd_find_96 : decode (mB Md_find) 96 = .ok (.aload_n 0, 1) := by decide +kernel
theorem dMd_find_97 : decode (mB Md_find) 97 = .ok (.getfield 151, 3) := by decide +kernel
theorem dMd_find_100 : decode (mB Md_find) 100 = .ok (.ifCond .ne 7, 3) := by decide +kernel
theorem dMd_find_103 : decode (mB Md_find) 103 = .ok (.iconst 1, 1) := by decide +kernel
theorem dMd_find_104 : decode (mB Md_find) 104 = .ok (.goto 4, 3) := by decide +kernel
theorem dMd_find_107 : decode (mB Md_find) 107 = .ok (.iconst 0, 1) := by decide +kernel
theorem dMd_find_108 : decode (mB Md_find) 108 = .ok (.iadd, 1) := by decide +kernel
theorem dMd_find_109 : decode (mB Md_find) 109 = .ok (.putfield 295, 3) := by decide +kernel
theorem dMd_find_112 : decode (mB Md_find) 112 = .ok (.aload_n 0, 1) := by decide +kernel
theorem dMd_find_113 : decode (mB Md_find) 113 = .ok (.getfield 151, 3) := by decide +kernel
theorem dMd_find_116 : decode (mB Md_find) 116 = .ok (.ifCond .ne 12, 3) := by decide +kernel
theorem dMd_find_119 : decode (mB Md_find) 119 = .ok (.aload_n 0, 1) := by decide +kernel
theorem dMd_find_120 : decode (mB Md_find) 120 = .ok (.getfield 295, 3) := by decide +kernel
theorem dMd_find_123 : decode (mB Md_find) 123 = .ok (.iconst 1, 1) := by decide +kernel
theorem dMd_find_124 : decode (mB Md_find) 124 = .ok (.isub, 1) := by decide +kernel
theorem dMd_find_125 : decode (mB Md_find) 125 = .ok (.goto 4, 3) := by decide +kernel
theorem dMd_find_128 : decode (mB Md_find) 128 = .ok (.iconst 0, 1) := by decide +kernel
theorem dMd_find_129 : decode (mB Md_find) 129 = .ok (.ireturn, 1) := by decide +kernel
def w_Md_find_108 (R : Int32 → tpH → Prop) (o : Nat) (t0 : Int32) (t1 : Int32) (t2 : Option Nat) (h : tpH) : Prop :=
  ∃ a1, t2 = some a1 ∧ hT h a1 = 14 ∧ (∀ h4, h4 = sI h a1 10 (t1 + t0) → (hT h4 o = 14 ∧ ((¬ (hI h4 o 31) = 0 → (R (0 : Int32) h4)) ∧ ((hI h4 o 31) = 0 → (R ((hI h4 o 10) - (1 : Int32)) h4)))))
def w_Md_find_88 (R : Int32 → tpH → Prop) (o : Nat) (t0 : Int32) (t1 : Option Nat) (h : tpH) : Prop :=
  ∃ a1, t1 = some a1 ∧ hT h a1 = 14 ∧ (∀ h4, h4 = sI h a1 31 t0 → (hT h4 o = 14 ∧ ((¬ (hI h4 o 31) = 0 → (w_Md_find_108 R o (0 : Int32) (hI h4 o 10) (some o) h4)) ∧ ((hI h4 o 31) = 0 → (w_Md_find_108 R o (1 : Int32) (hI h4 o 10) (some o) h4)))))
def w_Md_find_44 (R : Int32 → tpH → Prop) (o : Nat) (x1 : Int32) (x2 : Int32) (t0 : Int32) (t1 : Option Nat) (h : tpH) : Prop :=
  ∃ a1, t1 = some a1 ∧ hT h a1 = 14 ∧ (∀ h4, h4 = sI h a1 31 t0 → (hT h4 o = 14 ∧ (((hI h4 o 31) ≤ 0 → (w_Md_matchTrees o x1 x2 h4 (fun h8 => hT h8 o = 14 ∧ (w_Md_copyTree o x1 (41 : Int32) h8 (fun h10 => hT h10 o = 14 ∧ (w_Md_makes o x1 x2 (hI h10 o 10) h10 (fun v13 h12 => (v13 = 0 → (w_Md_find_88 R o (2 : Int32) (some o) h12)) ∧ (¬ v13 = 0 → (w_Md_find_88 R o (0 : Int32) (some o) h12))))))))) ∧ (¬ (hI h4 o 31) ≤ 0 → (R (0 : Int32) h4)))))
def w_Md_find (o : Nat) (x1 : Int32) (x2 : Int32) (h : tpH) (R : Int32 → tpH → Prop) : Prop :=
  hT h o = 14 ∧ (w_Md_isTree o x1 h (fun v3 h2 => (v3 = 0 → (w_Md_find_44 R o x1 x2 (1 : Int32) (some o) h2)) ∧ (¬ v3 = 0 → (hT h2 o = 14 ∧ (w_Md_isTree o x2 h2 (fun v7 h6 => (¬ v7 = 0 → (hT h6 o = 14 ∧ (w_Md_areRootsLike o x1 x2 h6 (fun v11 h10 => (v11 = 0 → (w_Md_find_44 R o x1 x2 (2 : Int32) (some o) h10)) ∧ (¬ v11 = 0 → (hT h10 o = 14 ∧ ((¬ (hI h10 o 10) = (40 : Int32) → (w_Md_find_44 R o x1 x2 (0 : Int32) (some o) h10)) ∧ ((hI h10 o 10) = (40 : Int32) → (w_Md_find_44 R o x1 x2 (2 : Int32) (some o) h10))))))))) ∧ (v7 = 0 → (w_Md_find_44 R o x1 x2 (1 : Int32) (some o) h6))))))))
theorem s_Md_find_108 {h0 : tpH} {av : List tpV} {R : Int32 → tpH → Prop} : ∀ (o : Nat) (t0 : Int32) (t1 : Int32) (t2 : Option Nat) (h : tpH), w_Md_find_108 R o t0 t1 t2 h → tpR Md_find 6 h0 av (tpOi R (fun _ _ => False)) 108 [some (vR (some o)), none, none] [vI t0, vI t1, vR t2] h := by
  intro o t0 t1 t2 h hw
  unfold w_Md_find_108 at hw
  refine tq_iadd dMd_find_108 ?_
  obtain ⟨a1, e2, f3, hw⟩ := hw
  refine te_puti dMd_find_109 pMd_295 rfl rfl e2 f3 ⟨rfl, rfl⟩ (fun h4 e5 => ?_)
  have hw := hw h4 e5
  refine tq_aload_n dMd_find_112 rfl rfl ?_
  obtain ⟨f6, hw⟩ := hw
  refine te_geti dMd_find_113 fMd_151 rfl rfl f6 ?_
  refine tq_ifne (tgt := 128) dMd_find_116 (by decide) (fun c7 => ?_) (fun c7 => ?_)
  · have hw := hw.1 c7
    refine tq_iconst (v := (0 : Int32)) dMd_find_128 tni_0 ?_
    exact tq_iret rfl rfl dMd_find_129 hw
  · have hw := hw.2 c7
    refine tq_aload_n dMd_find_119 rfl rfl ?_
    refine te_geti dMd_find_120 fMd_295 rfl rfl f6 ?_
    refine tq_iconst (v := (1 : Int32)) dMd_find_123 tni_1 ?_
    refine tq_isub dMd_find_124 ?_
    refine tq_goto (tgt := 129) dMd_find_125 (by decide) ?_
    exact tq_iret rfl rfl dMd_find_129 hw
theorem s_Md_find_88 {h0 : tpH} {av : List tpV} {R : Int32 → tpH → Prop} : ∀ (o : Nat) (t0 : Int32) (t1 : Option Nat) (h : tpH), w_Md_find_88 R o t0 t1 h → tpR Md_find 6 h0 av (tpOi R (fun _ _ => False)) 88 [some (vR (some o)), none, none] [vI t0, vR t1] h := by
  intro o t0 t1 h hw
  unfold w_Md_find_88 at hw
  obtain ⟨a1, e2, f3, hw⟩ := hw
  refine te_puti dMd_find_88 pMd_151 rfl rfl e2 f3 ⟨rfl, rfl⟩ (fun h4 e5 => ?_)
  have hw := hw h4 e5
  refine tq_aload_n dMd_find_91 rfl rfl ?_
  refine tq_dup dMd_find_92 rfl ?_
  obtain ⟨f6, hw⟩ := hw
  refine te_geti dMd_find_93 fMd_295 rfl rfl f6 ?_
  refine tq_aload_n dMd_find_96 rfl rfl ?_
  refine te_geti dMd_find_97 fMd_151 rfl rfl f6 ?_
  refine tq_ifne (tgt := 107) dMd_find_100 (by decide) (fun c7 => ?_) (fun c7 => ?_)
  · have hw := hw.1 c7
    refine tq_iconst (v := (0 : Int32)) dMd_find_107 tni_0 ?_
    refine tpR.fo (ls' := [some (vR (some o)), none, none]) ?_ (And.intro rfl trivial)
    exact s_Md_find_108 _ _ _ _ _ hw
  · have hw := hw.2 c7
    refine tq_iconst (v := (1 : Int32)) dMd_find_103 tni_1 ?_
    refine tq_goto (tgt := 108) dMd_find_104 (by decide) ?_
    refine tpR.fo (ls' := [some (vR (some o)), none, none]) ?_ (And.intro rfl trivial)
    exact s_Md_find_108 _ _ _ _ _ hw
theorem s_Md_find_44 {h0 : tpH} {av : List tpV} {R : Int32 → tpH → Prop} : ∀ (o : Nat) (x1 : Int32) (x2 : Int32) (t0 : Int32) (t1 : Option Nat) (h : tpH), w_Md_find_44 R o x1 x2 t0 t1 h → tpR Md_find 6 h0 av (tpOi R (fun _ _ => False)) 44 [some (vR (some o)), some (vI x1), some (vI x2)] [vI t0, vR t1] h := by
  intro o x1 x2 t0 t1 h hw
  unfold w_Md_find_44 at hw
  obtain ⟨a1, e2, f3, hw⟩ := hw
  refine te_puti dMd_find_44 pMd_151 rfl rfl e2 f3 ⟨rfl, rfl⟩ (fun h4 e5 => ?_)
  have hw := hw h4 e5
  refine tq_aload_n dMd_find_47 rfl rfl ?_
  obtain ⟨f6, hw⟩ := hw
  refine te_geti dMd_find_48 fMd_151 rfl rfl f6 ?_
  refine tq_ifle (tgt := 56) dMd_find_51 (by decide) (fun c7 => ?_) (fun c7 => ?_)
  · have hw := hw.1 c7
    refine tq_aload_n dMd_find_56 rfl rfl ?_
    refine tq_iload_n dMd_find_57 rfl rfl ?_
    refine tq_iload_n dMd_find_58 rfl rfl ?_
    refine te_callV mv_Md_matchTrees (ci := 13) (dc := 5) (as := [vI x1, vI x2]) (rest := []) kMd_319 rfl (Nat.le_of_ble_eq_true rfl) (Nat.le_of_ble_eq_true rfl) rfl rfl rfl f6 (Nat.le_of_ble_eq_true rfl) dMd_find_59 (s_Md_matchTrees hw) (fun _ _ hx => False.elim hx) (tk_v fun h8 hw => ?_)
    refine tq_aload_n dMd_find_62 rfl rfl ?_
    refine tq_iload_n dMd_find_63 rfl rfl ?_
    refine tq_bipush (v := (41 : Int32)) dMd_find_64 tnb_41 ?_
    obtain ⟨f9, hw⟩ := hw
    refine te_callV mv_Md_copyTree (ci := 13) (dc := 0) (as := [vI x1, vI (41 : Int32)]) (rest := []) kMd_204 rfl (Nat.le_of_ble_eq_true rfl) (Nat.le_of_ble_eq_true rfl) rfl rfl rfl f9 (Nat.le_of_ble_eq_true rfl) dMd_find_66 (s_Md_copyTree hw) (fun _ _ hx => False.elim hx) (tk_v fun h10 hw => ?_)
    refine tq_aload_n dMd_find_69 rfl rfl ?_
    refine tq_aload_n dMd_find_70 rfl rfl ?_
    refine tq_iload_n dMd_find_71 rfl rfl ?_
    refine tq_iload_n dMd_find_72 rfl rfl ?_
    refine tq_aload_n dMd_find_73 rfl rfl ?_
    obtain ⟨f11, hw⟩ := hw
    refine te_geti dMd_find_74 fMd_295 rfl rfl f11 ?_
    refine te_callV mv_Md_makes (ci := 13) (dc := 4) (as := [vI x1, vI x2, vI (hI h10 o 10)]) (rest := [vR (some o)]) kMd_322 rfl (Nat.le_of_ble_eq_true rfl) (Nat.le_of_ble_eq_true rfl) rfl rfl rfl f11 (Nat.le_of_ble_eq_true rfl) dMd_find_77 (s_Md_makes hw) (fun _ _ hx => False.elim hx) (tk_i fun v13 h12 hw => ?_)
    refine tq_ifeq (tgt := 87) dMd_find_80 (by decide) (fun c14 => ?_) (fun c14 => ?_)
    · have hw := hw.1 c14
      refine tq_iconst (v := (2 : Int32)) dMd_find_87 tni_2 ?_
      refine tpR.fo (ls' := [some (vR (some o)), none, none]) ?_ (And.intro rfl trivial)
      exact s_Md_find_88 _ _ _ _ hw
    · have hw := hw.2 c14
      refine tq_iconst (v := (0 : Int32)) dMd_find_83 tni_0 ?_
      refine tq_goto (tgt := 88) dMd_find_84 (by decide) ?_
      refine tpR.fo (ls' := [some (vR (some o)), none, none]) ?_ (And.intro rfl trivial)
      exact s_Md_find_88 _ _ _ _ hw
  · have hw := hw.2 c7
    refine tq_iconst (v := (0 : Int32)) dMd_find_54 tni_0 ?_
    exact tq_iret rfl rfl dMd_find_55 hw
theorem s_Md_find {o : Nat} {x1 : Int32} {x2 : Int32} {h : tpH} {R : Int32 → tpH → Prop} (hw : w_Md_find o x1 x2 h R) : tpC Md_find 6 [vR (some o), vI x1, vI x2] h (tpOi R (fun _ _ => False)) := by
  refine tpC_of mv_Md_find.2.2.2.1 rfl rfl (Nat.le_of_ble_eq_true rfl) ?_
  show tpR Md_find 6 h _ _ 0 [some (vR (some o)), some (vI x1), some (vI x2)] [] h
  unfold w_Md_find at hw
  refine tq_aload_n dMd_find_0 rfl rfl ?_
  refine tq_aload_n dMd_find_1 rfl rfl ?_
  refine tq_iload_n dMd_find_2 rfl rfl ?_
  obtain ⟨f1, hw⟩ := hw
  refine te_callV mv_Md_isTree (ci := 13) (dc := 1) (as := [vI x1]) (rest := [vR (some o)]) kMd_201 rfl (Nat.le_of_ble_eq_true rfl) (Nat.le_of_ble_eq_true rfl) rfl rfl rfl f1 (Nat.le_of_ble_eq_true rfl) dMd_find_3 (s_Md_isTree hw) (fun _ _ hx => False.elim hx) (tk_i fun v3 h2 hw => ?_)
  refine tq_ifeq (tgt := 17) dMd_find_6 (by decide) (fun c4 => ?_) (fun c4 => ?_)
  · have hw := hw.1 c4
    refine tq_iconst (v := (1 : Int32)) dMd_find_17 tni_1 ?_
    refine tq_goto (tgt := 44) dMd_find_18 (by decide) ?_
    refine tpR.fo (ls' := [some (vR (some o)), some (vI x1), some (vI x2)]) ?_ (And.intro rfl (And.intro rfl (And.intro rfl trivial)))
    exact s_Md_find_44 _ _ _ _ _ _ hw
  · have hw := hw.2 c4
    refine tq_aload_n dMd_find_9 rfl rfl ?_
    refine tq_iload_n dMd_find_10 rfl rfl ?_
    obtain ⟨f5, hw⟩ := hw
    refine te_callV mv_Md_isTree (ci := 13) (dc := 1) (as := [vI x2]) (rest := [vR (some o)]) kMd_201 rfl (Nat.le_of_ble_eq_true rfl) (Nat.le_of_ble_eq_true rfl) rfl rfl rfl f5 (Nat.le_of_ble_eq_true rfl) dMd_find_11 (s_Md_isTree hw) (fun _ _ hx => False.elim hx) (tk_i fun v7 h6 hw => ?_)
    refine tq_ifne (tgt := 21) dMd_find_14 (by decide) (fun c8 => ?_) (fun c8 => ?_)
    · have hw := hw.1 c8
      refine tq_aload_n dMd_find_21 rfl rfl ?_
      refine tq_iload_n dMd_find_22 rfl rfl ?_
      refine tq_iload_n dMd_find_23 rfl rfl ?_
      obtain ⟨f9, hw⟩ := hw
      refine te_callV mv_Md_areRootsLike (ci := 13) (dc := 1) (as := [vI x1, vI x2]) (rest := [vR (some o)]) kMd_316 rfl (Nat.le_of_ble_eq_true rfl) (Nat.le_of_ble_eq_true rfl) rfl rfl rfl f9 (Nat.le_of_ble_eq_true rfl) dMd_find_24 (s_Md_areRootsLike hw) (fun _ _ hx => False.elim hx) (tk_i fun v11 h10 hw => ?_)
      refine tq_ifeq (tgt := 39) dMd_find_27 (by decide) (fun c12 => ?_) (fun c12 => ?_)
      · have hw := hw.1 c12
        refine tq_iconst (v := (2 : Int32)) dMd_find_39 tni_2 ?_
        refine tq_goto (tgt := 44) dMd_find_40 (by decide) ?_
        refine tpR.fo (ls' := [some (vR (some o)), some (vI x1), some (vI x2)]) ?_ (And.intro rfl (And.intro rfl (And.intro rfl trivial)))
        exact s_Md_find_44 _ _ _ _ _ _ hw
      · have hw := hw.2 c12
        refine tq_aload_n dMd_find_30 rfl rfl ?_
        obtain ⟨f13, hw⟩ := hw
        refine te_geti dMd_find_31 fMd_295 rfl rfl f13 ?_
        refine tq_bipush (v := (40 : Int32)) dMd_find_34 tnb_40 ?_
        refine tq_icmpne (tgt := 43) dMd_find_36 (by decide) (fun c14 => ?_) (fun c14 => ?_)
        · have hw := hw.1 c14
          refine tq_iconst (v := (0 : Int32)) dMd_find_43 tni_0 ?_
          refine tpR.fo (ls' := [some (vR (some o)), some (vI x1), some (vI x2)]) ?_ (And.intro rfl (And.intro rfl (And.intro rfl trivial)))
          exact s_Md_find_44 _ _ _ _ _ _ hw
        · have hw := hw.2 c14
          refine tq_iconst (v := (2 : Int32)) dMd_find_39 tni_2 ?_
          refine tq_goto (tgt := 44) dMd_find_40 (by decide) ?_
          refine tpR.fo (ls' := [some (vR (some o)), some (vI x1), some (vI x2)]) ?_ (And.intro rfl (And.intro rfl (And.intro rfl trivial)))
          exact s_Md_find_44 _ _ _ _ _ _ hw
    · have hw := hw.2 c8
      refine tq_iconst (v := (1 : Int32)) dMd_find_17 tni_1 ?_
      refine tq_goto (tgt := 44) dMd_find_18 (by decide) ?_
      refine tpR.fo (ls' := [some (vR (some o)), some (vI x1), some (vI x2)]) ?_ (And.intro rfl (And.intro rfl (And.intro rfl trivial)))
      exact s_Md_find_44 _ _ _ _ _ _ hw
/-! TModel.turn -/
theorem dMd_turn_0 : decode (mB Md_turn) 0 = .ok (.aload_n 0, 1) := by decide +kernel
theorem dMd_turn_1 : decode (mB Md_turn) 1 = .ok (.aload_n 0, 1) := by decide +kernel
theorem dMd_turn_2 : decode (mB Md_turn) 2 = .ok (.iload_n 1, 1) := by decide +kernel
theorem dMd_turn_3 : decode (mB Md_turn) 3 = .ok (.invokevirtual 325, 3) := by decide +kernel
theorem dMd_turn_6 : decode (mB Md_turn) 6 = .ok (.ifCond .ne 7, 3) := by decide +kernel
theorem dMd_turn_9 : decode (mB Md_turn) 9 = .ok (.iconst 1, 1) := by decide +kernel
theorem dMd_turn_10 : decode (mB Md_turn) 10 = .ok (.goto 17, 3) := by decide +kernel
theorem dMd_turn_13 : decode (mB Md_turn) 13 = .ok (.aload_n 0, 1) := by decide +kernel
theorem dMd_turn_14 : decode (mB Md_turn) 14 = .ok (.getfield 295, 3) := by decide +kernel
theorem dMd_turn_17 : decode (mB Md_turn) 17 = .ok (.bipush 40, 2) := by decide +kernel
theorem dMd_turn_19 : decode (mB Md_turn) 19 = .ok (.if_icmp .ne 7, 3) := by decide +kernel
theorem dMd_turn_22 : decode (mB Md_turn) 22 = .ok (.iconst 2, 1) := by decide +kernel
theorem dMd_turn_23 : decode (mB Md_turn) 23 = .ok (.goto 4, 3) := by decide +kernel
theorem dMd_turn_26 : decode (mB Md_turn) 26 = .ok (.iconst 0, 1) := by decide +kernel
theorem dMd_turn_27 : decode (mB Md_turn) 27 = .ok (.putfield 151, 3) := by decide +kernel
theorem dMd_turn_30 : decode (mB Md_turn) 30 = .ok (.aload_n 0, 1) := by decide +kernel
theorem dMd_turn_31 : decode (mB Md_turn) 31 = .ok (.getfield 151, 3) := by decide +kernel
theorem dMd_turn_34 : decode (mB Md_turn) 34 = .ok (.ifCond .le 5, 3) := by decide +kernel
theorem dMd_turn_37 : decode (mB Md_turn) 37 = .ok (.iconst 0, 1) := by decide +kernel
theorem dMd_turn_38 : decode (mB Md_turn) 38 = .ok (.ireturn, 1) := by decide +kernel
theorem dMd_turn_39 : decode (mB Md_turn) 39 = .ok (.aload_n 0, 1) := by decide +kernel
theorem dMd_turn_40 : decode (mB Md_turn) 40 = .ok (.getfield 31, 3) := by decide +kernel
theorem dMd_turn_43 : decode (mB Md_turn) 43 = .ok (.aload_n 0, 1) := by decide +kernel
theorem dMd_turn_44 : decode (mB Md_turn) 44 = .ok (.getfield 295, 3) := by decide +kernel
theorem dMd_turn_47 : decode (mB Md_turn) 47 = .ok (.iconst 0, 1) := by decide +kernel
theorem dMd_turn_48 : decode (mB Md_turn) 48 = .ok (.iastore, 1) := by decide +kernel
theorem dMd_turn_49 : decode (mB Md_turn) 49 = .ok (.bipush 100, 2) := by decide +kernel
theorem dMd_turn_51 : decode (mB Md_turn) 51 = .ok (.iload_n 1, 1) := by decide +kernel
theorem dMd_turn_52 : decode (mB Md_turn) 52 = .ok (.imul, 1) := by decide +kernel
theorem dMd_turn_53 : decode (mB Md_turn) 53 = .ok (.aload_n 0, 1) := by decide +kernel
theorem dMd_turn_54 : decode (mB Md_turn) 54 = .ok (.getfield 31, 3) := by decide +kernel
theorem dMd_turn_57 : decode (mB Md_turn) 57 = .ok (.iload_n 1, 1) := by decide +kernel
theorem dMd_turn_58 : decode (mB Md_turn) 58 = .ok (.iaload, 1) := by decide +kernel
theorem dMd_turn_59 : decode (mB Md_turn) 59 = .ok (.iadd, 1) := by decide +kernel
theorem dMd_turn_60 : decode (mB Md_turn) 60 = .ok (.iconst 1, 1) := by decide +kernel
theorem dMd_turn_61 : decode (mB Md_turn) 61 = .ok (.isub, 1) := by decide +kernel
theorem dMd_turn_62 : decode (mB Md_turn) 62 = .ok (.istore_n 2, 1) := by decide +kernel
theorem dMd_turn_63 : decode (mB Md_turn) 63 = .ok (.iload_n 2, 1) := by decide +kernel
theorem dMd_turn_64 : decode (mB Md_turn) 64 = .ok (.bipush 100, 2) := by decide +kernel
theorem dMd_turn_66 : decode (mB Md_turn) 66 = .ok (.iload_n 1, 1) := by decide +kernel
theorem dMd_turn_67 : decode (mB Md_turn) 67 = .ok (.imul, 1) := by decide +kernel
theorem dMd_turn_68 : decode (mB Md_turn) 68 = .ok (.if_icmp .lt 155, 3) := by decide +kernel
theorem dMd_turn_71 : decode (mB Md_turn) 71 = .ok (.aload_n 0, 1) := by decide +kernel
theorem dMd_turn_72 : decode (mB Md_turn) 72 = .ok (.getfield 34, 3) := by decide +kernel
theorem dMd_turn_75 : decode (mB Md_turn) 75 = .ok (.iload_n 2, 1) := by decide +kernel
theorem dMd_turn_76 : decode (mB Md_turn) 76 = .ok (.iaload, 1) := by decide +kernel
theorem dMd_turn_77 : decode (mB Md_turn) 77 = .ok (.istore_n 3, 1) := by decide +kernel
theorem dMd_turn_78 : decode (mB Md_turn) 78 = .ok (.aload_n 0, 1) := by decide +kernel
theorem dMd_turn_79 : decode (mB Md_turn) 79 = .ok (.aload_n 0, 1) := by decide +kernel
theorem dMd_turn_80 : decode (mB Md_turn) 80 = .ok (.getfield 295, 3) := by decide +kernel
theorem dMd_turn_83 : decode (mB Md_turn) 83 = .ok (.iload_n 3, 1) := by decide +kernel
theorem dMd_turn_84 : decode (mB Md_turn) 84 = .ok (.iconst 1, 1) := by decide +kernel
theorem dMd_turn_85 : decode (mB Md_turn) 85 = .ok (.if_icmp .ne 7, 3) := by decide +kernel
theorem dMd_turn_88 : decode (mB Md_turn) 88 = .ok (.iconst 3, 1) := by decide +kernel
theorem dMd_turn_89 : decode (mB Md_turn) 89 = .ok (.goto 13, 3) := by decide +kernel
theorem dMd_turn_92 : decode (mB Md_turn) 92 = .ok (.iload_n 3, 1) := by decide +kernel
theorem dMd_turn_93 : decode (mB Md_turn) 93 = .ok (.iconst 3, 1) := by decide +kernel
theorem dMd_turn_94 : decode (mB Md_turn) 94 = .ok (.if_icmp .ne 7, 3) := by decide +kernel
theorem dMd_turn_97 : decode (mB Md_turn) 97 = .ok (.iconst 1, 1) := by decide +kernel
theorem dMd_turn_98 : decode (mB Md_turn) 98 = .ok (.goto 4, 3) := by decide +kernel
theorem dMd_turn_101 : decode (mB Md_turn) 101 = .ok (.iload_n 3, 1) := by decide +kernel
theorem dMd_turn_102 : decode (mB Md_turn) 102 = .ok (.aload_n 0, 1) := by decide +kernel
theorem dMd_turn_103 : decode (mB Md_turn) 103 = .ok (.getfield 37, 3) := by decide +kernel
theorem dMd_turn_106 : decode (mB Md_turn) 106 = .ok (.iload_n 2, 1) := by decide +kernel
theorem dMd_turn_107 : decode (mB Md_turn) 107 = .ok (.iaload, 1) := by decide +kernel
theorem dMd_turn_108 : decode (mB Md_turn) 108 = .ok (.invokevirtual 298, 3) := by decide +kernel
theorem dMd_turn_111 : decode (mB Md_turn) 111 = .ok (.istore 4, 2) := by decide +kernel
theorem dMd_turn_113 : decode (mB Md_turn) 113 = .ok (.aload_n 0, 1) := by decide +kernel
theorem dMd_turn_114 : decode (mB Md_turn) 114 = .ok (.getfield 40, 3) := by decide +kernel
theorem dMd_turn_117 : decode (mB Md_turn) 117 = .ok (.iload 4, 2) := by decide +kernel
theorem dMd_turn_119 : decode (mB Md_turn) 119 = .ok (.aload_n 0, 1) := by decide +kernel
theorem dMd_turn_120 : decode (mB Md_turn) 120 = .ok (.getfield 43, 3) := by decide +kernel
theorem dMd_turn_123 : decode (mB Md_turn) 123 = .ok (.iload_n 2, 1) := by decide +kernel
theorem dMd_turn_124 : decode (mB Md_turn) 124 = .ok (.iaload, 1) := by decide +kernel
theorem dMd_turn_125 : decode (mB Md_turn) 125 = .ok (.iastore, 1) := by decide +kernel
theorem dMd_turn_126 : decode (mB Md_turn) 126 = .ok (.aload_n 0, 1) := by decide +kernel
theorem dMd_turn_127 : decode (mB Md_turn) 127 = .ok (.getfield 43, 3) := by decide +kernel
theorem dMd_turn_130 : decode (mB Md_turn) 130 = .ok (.iload 4, 2) := by decide +kernel
theorem dMd_turn_132 : decode (mB Md_turn) 132 = .ok (.aload_n 0, 1) := by decide +kernel
theorem dMd_turn_133 : decode (mB Md_turn) 133 = .ok (.getfield 40, 3) := by decide +kernel
theorem dMd_turn_136 : decode (mB Md_turn) 136 = .ok (.iload_n 2, 1) := by decide +kernel
theorem dMd_turn_137 : decode (mB Md_turn) 137 = .ok (.iaload, 1) := by decide +kernel
theorem dMd_turn_138 : decode (mB Md_turn) 138 = .ok (.iastore, 1) := by decide +kernel
theorem dMd_turn_139 : decode (mB Md_turn) 139 = .ok (.aload_n 0, 1) := by decide +kernel
theorem dMd_turn_140 : decode (mB Md_turn) 140 = .ok (.getfield 46, 3) := by decide +kernel
theorem dMd_turn_143 : decode (mB Md_turn) 143 = .ok (.iload 4, 2) := by decide +kernel
theorem dMd_turn_145 : decode (mB Md_turn) 145 = .ok (.aload_n 0, 1) := by decide +kernel
theorem dMd_turn_146 : decode (mB Md_turn) 146 = .ok (.getfield 55, 3) := by decide +kernel
theorem dMd_turn_149 : decode (mB Md_turn) 149 = .ok (.iload_n 2, 1) := by decide +kernel
theorem dMd_turn_150 : decode (mB Md_turn) 150 = .ok (.iaload, 1) := by decide +kernel
theorem dMd_turn_151 : decode (mB Md_turn) 151 = .ok (.iastore, 1) := by decide +kernel
theorem dMd_turn_152 : decode (mB Md_turn) 152 = .ok (.aload_n 0, 1) := by decide +kernel
theorem dMd_turn_153 : decode (mB Md_turn) 153 = .ok (.getfield 49, 3) := by decide +kernel
theorem dMd_turn_156 : decode (mB Md_turn) 156 = .ok (.iload 4, 2) := by decide +kernel
theorem dMd_turn_158 : decode (mB Md_turn) 158 = .ok (.aload_n 0, 1) := by decide +kernel
theorem dMd_turn_159 : decode (mB Md_turn) 159 = .ok (.getfield 58, 3) := by decide +kernel
theorem dMd_turn_162 : decode (mB Md_turn) 162 = .ok (.iload_n 2, 1) := by decide +kernel
theorem dMd_turn_163 : decode (mB Md_turn) 163 = .ok (.iaload, 1) := by decide +kernel
theorem dMd_turn_164 : decode (mB Md_turn) 164 = .ok (.iastore, 1) := by decide +kernel
theorem dMd_turn_165 : decode (mB Md_turn) 165 = .ok (.aload_n 0, 1) := by decide +kernel
theorem dMd_turn_166 : decode (mB Md_turn) 166 = .ok (.getfield 52, 3) := by decide +kernel
theorem dMd_turn_169 : decode (mB Md_turn) 169 = .ok (.iload 4, 2) := by decide +kernel
theorem dMd_turn_171 : decode (mB Md_turn) 171 = .ok (.aload_n 0, 1) := by decide +kernel
theorem dMd_turn_172 : decode (mB Md_turn) 172 = .ok (.getfield 61, 3) := by decide +kernel
theorem dMd_turn_175 : decode (mB Md_turn) 175 = .ok (.iload_n 2, 1) := by decide +kernel
theorem dMd_turn_176 : decode (mB Md_turn) 176 = .ok (.iaload, 1) := by decide +kernel
theorem dMd_turn_177 : decode (mB Md_turn) 177 = .ok (.iastore, 1) := by decide +kernel
theorem dMd_turn_178 : decode (mB Md_turn) 178 = .ok (.aload_n 0, 1) := by decide +kernel
theorem dMd_turn_179 : decode (mB Md_turn) 179 = .ok (.getfield 55, 3) := by decide +kernel
theorem dMd_turn_182 : decode (mB Md_turn) 182 = .ok (.iload 4, 2) := by decide +kernel
theorem dMd_turn_184 : decode (mB Md_turn) 184 = .ok (.aload_n 0, 1) := by decide +kernel
theorem dMd_turn_185 : decode (mB Md_turn) 185 = .ok (.getfield 46, 3) := by decide +kernel
theorem dMd_turn_188 : decode (mB Md_turn) 188 = .ok (.iload_n 2, 1) := by decide +kernel
theorem dMd_turn_189 : decode (mB Md_turn) 189 = .ok (.iaload, 1) := by decide +kernel
theorem dMd_turn_190 : decode (mB Md_turn) 190 = .ok (.iastore, 1) := by decide +kernel
theorem dMd_turn_191 : decode (mB Md_turn) 191 = .ok (.aload_n 0, 1) := by decide +kernel
theorem dMd_turn_192 : decode (mB Md_turn) 192 = .ok (.getfield 58, 3) := by decide +kernel
theorem dMd_turn_195 : decode (mB Md_turn) 195 = .ok (.iload 4, 2) := by decide +kernel
theorem dMd_turn_197 : decode (mB Md_turn) 197 = .ok (.aload_n 0, 1) := by decide +kernel
theorem dMd_turn_198 : decode (mB Md_turn) 198 = .ok (.getfield 49, 3) := by decide +kernel
theorem dMd_turn_201 : decode (mB Md_turn) 201 = .ok (.iload_n 2, 1) := by decide +kernel
theorem dMd_turn_202 : decode (mB Md_turn) 202 = .ok (.iaload, 1) := by decide +kernel
theorem dMd_turn_203 : decode (mB Md_turn) 203 = .ok (.iastore, 1) := by decide +kernel
theorem dMd_turn_204 : decode (mB Md_turn) 204 = .ok (.aload_n 0, 1) := by decide +kernel
theorem dMd_turn_205 : decode (mB Md_turn) 205 = .ok (.getfield 61, 3) := by decide +kernel
theorem dMd_turn_208 : decode (mB Md_turn) 208 = .ok (.iload 4, 2) := by decide +kernel
theorem dMd_turn_210 : decode (mB Md_turn) 210 = .ok (.aload_n 0, 1) := by decide +kernel
theorem dMd_turn_211 : decode (mB Md_turn) 211 = .ok (.getfield 52, 3) := by decide +kernel
theorem dMd_turn_214 : decode (mB Md_turn) 214 = .ok (.iload_n 2, 1) := by decide +kernel
theorem dMd_turn_215 : decode (mB Md_turn) 215 = .ok (.iaload, 1) := by decide +kernel
theorem dMd_turn_216 : decode (mB Md_turn) 216 = .ok (.iastore, 1) := by decide +kernel
theorem dMd_turn_217 : decode (mB Md_turn) 217 = .ok (.iinc 2 (-1), 3) := by decide +kernel
theorem dMd_turn_220 : decode (mB Md_turn) 220 = .ok (.goto (-157), 3) := by decide +kernel
theorem dMd_turn_223 : decode (mB Md_turn) 223 = .ok (.aload_n 0, 1) := by decide +kernel
theorem dMd_turn_224 : decode (mB Md_turn) 224 = .ok (.dup, 1) := by decide +kernel
theorem dMd_turn_225 : decode (mB Md_turn) 225 = .ok (.getfield 295, 3) := by decide +kernel
theorem dMd_turn_228 : decode (mB Md_turn) 228 = .ok (.iconst 1, 1) := by decide +kernel
theorem dMd_turn_229 : decode (mB Md_turn) 229 = .ok (.iadd, 1) := by decide +kernel
theorem dMd_turn_230 : decode (mB Md_turn) 230 = .ok (.putfield 295, 3) := by decide +kernel
theorem dMd_turn_233 : decode (mB Md_turn) 233 = .ok (.aload_n 0, 1) := by decide +kernel
theorem dMd_turn_234 : decode (mB Md_turn) 234 = .ok (.getfield 295, 3) := by decide +kernel
theorem dMd_turn_237 : decode (mB Md_turn) 237 = .ok (.iconst 1, 1) := by decide +kernel
theorem dMd_turn_238 : decode (mB Md_turn) 238 = .ok (.isub, 1) := by decide +kernel
theorem dMd_turn_239 : decode (mB Md_turn) 239 = .ok (.ireturn, 1) := by decide +kernel
def w_Md_turn_102 (R : Int32 → tpH → Prop) (K63 : Nat → Int32 → Int32 → tpH → Prop) (o : Nat) (x1 : Int32) (x2 : Int32) (t0 : Int32) (t1 : Int32) (t2 : Option Nat) (h : tpH) : Prop :=
  hT h o = 14 ∧ (∃ a2, (hR h o 13) = some a2 ∧ hT h a2 = 15 ∧ (vp_in x2 (hL h a2) ∧ (∃ a6, t2 = some a6 ∧ hT h a6 = 14 ∧ (w_Md_newStep a6 t1 t0 (hI h a2 x2.toNatClampNeg) h (fun v10 h9 => hT h9 o = 14 ∧ (∃ a12, (hR h9 o 15) = some a12 ∧ hT h9 a12 = 15 ∧ (vp_in x2 (hL h9 a12) ∧ (∃ a16, (hR h9 o 14) = some a16 ∧ hT h9 a16 = 15 ∧ (vp_in v10 (hL h9 a16) ∧ (∀ h20, h20 = sI h9 a16 v10.toNatClampNeg (hI h9 a12 x2.toNatClampNeg) → (∃ a22, (hR h20 o 14) = some a22 ∧ hT h20 a22 = 15 ∧ (vp_in x2 (hL h20 a22) ∧ (∃ a26, (hR h20 o 15) = some a26 ∧ hT h20 a26 = 15 ∧ (vp_in v10 (hL h20 a26) ∧ (∀ h30, h30 = sI h20 a26 v10.toNatClampNeg (hI h20 a22 x2.toNatClampNeg) → (∃ a32, (hR h30 o 19) = some a32 ∧ hT h30 a32 = 15 ∧ (vp_in x2 (hL h30 a32) ∧ (∃ a36, (hR h30 o 16) = some a36 ∧ hT h30 a36 = 15 ∧ (vp_in v10 (hL h30 a36) ∧ (∀ h40, h40 = sI h30 a36 v10.toNatClampNeg (hI h30 a32 x2.toNatClampNeg) → (∃ a42, (hR h40 o 20) = some a42 ∧ hT h40 a42 = 15 ∧ (vp_in x2 (hL h40 a42) ∧ (∃ a46, (hR h40 o 17) = some a46 ∧ hT h40 a46 = 15 ∧ (vp_in v10 (hL h40 a46) ∧ (∀ h50, h50 = sI h40 a46 v10.toNatClampNeg (hI h40 a42 x2.toNatClampNeg) → (∃ a52, (hR h50 o 21) = some a52 ∧ hT h50 a52 = 15 ∧ (vp_in x2 (hL h50 a52) ∧ (∃ a56, (hR h50 o 18) = some a56 ∧ hT h50 a56 = 15 ∧ (vp_in v10 (hL h50 a56) ∧ (∀ h60, h60 = sI h50 a56 v10.toNatClampNeg (hI h50 a52 x2.toNatClampNeg) → (∃ a62, (hR h60 o 16) = some a62 ∧ hT h60 a62 = 15 ∧ (vp_in x2 (hL h60 a62) ∧ (∃ a66, (hR h60 o 19) = some a66 ∧ hT h60 a66 = 15 ∧ (vp_in v10 (hL h60 a66) ∧ (∀ h70, h70 = sI h60 a66 v10.toNatClampNeg (hI h60 a62 x2.toNatClampNeg) → (∃ a72, (hR h70 o 17) = some a72 ∧ hT h70 a72 = 15 ∧ (vp_in x2 (hL h70 a72) ∧ (∃ a76, (hR h70 o 20) = some a76 ∧ hT h70 a76 = 15 ∧ (vp_in v10 (hL h70 a76) ∧ (∀ h80, h80 = sI h70 a76 v10.toNatClampNeg (hI h70 a72 x2.toNatClampNeg) → (∃ a82, (hR h80 o 18) = some a82 ∧ hT h80 a82 = 15 ∧ (vp_in x2 (hL h80 a82) ∧ (∃ a86, (hR h80 o 21) = some a86 ∧ hT h80 a86 = 15 ∧ (vp_in v10 (hL h80 a86) ∧ (∀ h90, h90 = sI h80 a86 v10.toNatClampNeg (hI h80 a82 x2.toNatClampNeg) → (K63 o x1 (x2 + (-1 : Int32)) h90))))))))))))))))))))))))))))))))))))))))))))))
def b_Md_turn_63 (R : Int32 → tpH → Prop) (Y : Nat → Int32 → Int32 → tpH → Prop) (o : Nat) (x1 : Int32) (x2 : Int32) (h : tpH) : Prop :=
  (x2 < ((100 : Int32) * x1) → (hT h o = 14 ∧ (∀ h3, h3 = sI h o 10 ((hI h o 10) + (1 : Int32)) → (R ((hI h3 o 10) - (1 : Int32)) h3)))) ∧ (¬ x2 < ((100 : Int32) * x1) → (hT h o = 14 ∧ (∃ a6, (hR h o 12) = some a6 ∧ hT h a6 = 15 ∧ (vp_in x2 (hL h a6) ∧ ((¬ (hI h a6 x2.toNatClampNeg) = (1 : Int32) → ((¬ (hI h a6 x2.toNatClampNeg) = (3 : Int32) → (w_Md_turn_102 R Y o x1 x2 (hI h a6 x2.toNatClampNeg) (hI h o 10) (some o) h)) ∧ ((hI h a6 x2.toNatClampNeg) = (3 : Int32) → (w_Md_turn_102 R Y o x1 x2 (1 : Int32) (hI h o 10) (some o) h)))) ∧ ((hI h a6 x2.toNatClampNeg) = (1 : Int32) → (w_Md_turn_102 R Y o x1 x2 (3 : Int32) (hI h o 10) (some o) h)))))))
def w_Md_turn_63 (R : Int32 → tpH → Prop) : Nat → Nat → Int32 → Int32 → tpH → Prop
  | 0 => fun _ _ _ _ => False
  | n + 1 => b_Md_turn_63 R (w_Md_turn_63 R n)
def w_Md_turn_27 (R : Int32 → tpH → Prop) (o : Nat) (x1 : Int32) (t0 : Int32) (t1 : Option Nat) (h : tpH) : Prop :=
  ∃ a1, t1 = some a1 ∧ hT h a1 = 14 ∧ (∀ h4, h4 = sI h a1 31 t0 → (hT h4 o = 14 ∧ (((hI h4 o 31) ≤ 0 → (∃ a8, (hR h4 o 11) = some a8 ∧ hT h4 a8 = 15 ∧ (vp_in (hI h4 o 10) (hL h4 a8) ∧ (∀ h12, h12 = sI h4 a8 (hI h4 o 10).toNatClampNeg (0 : Int32) → (∃ a14, (hR h12 o 11) = some a14 ∧ hT h12 a14 = 15 ∧ (vp_in x1 (hL h12 a14) ∧ (∃ n, w_Md_turn_63 R n o x1 ((((100 : Int32) * x1) + (hI h12 a14 x1.toNatClampNeg)) - (1 : Int32)) h12))))))) ∧ (¬ (hI h4 o 31) ≤ 0 → (R (0 : Int32) h4)))))
def w_Md_turn (o : Nat) (x1 : Int32) (h : tpH) (R : Int32 → tpH → Prop) : Prop :=
  hT h o = 14 ∧ (w_Md_isScript o x1 h (fun v3 h2 => (¬ v3 = 0 → (hT h2 o = 14 ∧ ((¬ (hI h2 o 10) = (40 : Int32) → (w_Md_turn_27 R o x1 (0 : Int32) (some o) h2)) ∧ ((hI h2 o 10) = (40 : Int32) → (w_Md_turn_27 R o x1 (2 : Int32) (some o) h2))))) ∧ (v3 = 0 → (w_Md_turn_27 R o x1 (1 : Int32) (some o) h2))))
theorem s_Md_turn_102 {h0 : tpH} {av : List tpV} {R : Int32 → tpH → Prop} {K63 : Nat → Int32 → Int32 → tpH → Prop} (k63 : ∀ (o : Nat) (x1 : Int32) (x2 : Int32) (h : tpH), K63 o x1 x2 h → tpR Md_turn 2 h0 av (tpOi R (fun _ _ => False)) 63 [some (vR (some o)), some (vI x1), some (vI x2), none, none] [] h) : ∀ (o : Nat) (x1 : Int32) (x2 : Int32) (t0 : Int32) (t1 : Int32) (t2 : Option Nat) (h : tpH), w_Md_turn_102 R K63 o x1 x2 t0 t1 t2 h → tpR Md_turn 2 h0 av (tpOi R (fun _ _ => False)) 102 [some (vR (some o)), some (vI x1), some (vI x2), none, none] [vI t0, vI t1, vR t2] h := by
  intro o x1 x2 t0 t1 t2 h hw
  unfold w_Md_turn_102 at hw
  refine tq_aload_n dMd_turn_102 rfl rfl ?_
  obtain ⟨f1, hw⟩ := hw
  refine te_getr dMd_turn_103 fMd_37 rfl rfl f1 ?_
  refine tq_iload_n dMd_turn_106 rfl rfl ?_
  obtain ⟨a2, e3, f4, hw⟩ := hw
  obtain ⟨f5, hw⟩ := hw
  refine te_iald dMd_turn_107 e3 (Or.inl f4) f5 ?_
  obtain ⟨a6, e7, f8, hw⟩ := hw
  refine te_callV mv_Md_newStep (ci := 13) (dc := 0) (as := [vI t1, vI t0, vI (hI h a2 x2.toNatClampNeg)]) (rest := []) kMd_298 rfl (Nat.le_of_ble_eq_true rfl) (Nat.le_of_ble_eq_true rfl) rfl rfl e7 f8 (Nat.le_of_ble_eq_true rfl) dMd_turn_108 (s_Md_newStep hw) (fun _ _ hx => False.elim hx) (tk_i fun v10 h9 hw => ?_)
  refine tq_istore (ls' := [some (vR (some o)), some (vI x1), some (vI x2), none, some (vI v10)]) dMd_turn_111 (Nat.le_of_ble_eq_true rfl) rfl ?_
  refine tq_aload_n dMd_turn_113 rfl rfl ?_
  obtain ⟨f11, hw⟩ := hw
  refine te_getr dMd_turn_114 fMd_40 rfl rfl f11 ?_
  refine tq_iload dMd_turn_117 rfl ?_
  refine tq_aload_n dMd_turn_119 rfl rfl ?_
  refine te_getr dMd_turn_120 fMd_43 rfl rfl f11 ?_
  refine tq_iload_n dMd_turn_123 rfl rfl ?_
  obtain ⟨a12, e13, f14, hw⟩ := hw
  obtain ⟨f15, hw⟩ := hw
  refine te_iald dMd_turn_124 e13 (Or.inl f14) f15 ?_
  obtain ⟨a16, e17, f18, hw⟩ := hw
  obtain ⟨f19, hw⟩ := hw
  refine te_iast dMd_turn_125 e17 f18 f19 (fun h20 e21 => ?_)
  have hw := hw h20 e21
  refine tq_aload_n dMd_turn_126 rfl rfl ?_
  refine te_getr dMd_turn_127 fMd_43 rfl rfl (by rw [e21]; exact f11) ?_
  refine tq_iload dMd_turn_130 rfl ?_
  refine tq_aload_n dMd_turn_132 rfl rfl ?_
  refine te_getr dMd_turn_133 fMd_40 rfl rfl (by rw [e21]; exact f11) ?_
  refine tq_iload_n dMd_turn_136 rfl rfl ?_
  obtain ⟨a22, e23, f24, hw⟩ := hw
  obtain ⟨f25, hw⟩ := hw
  refine te_iald dMd_turn_137 e23 (Or.inl f24) f25 ?_
  obtain ⟨a26, e27, f28, hw⟩ := hw
  obtain ⟨f29, hw⟩ := hw
  refine te_iast dMd_turn_138 e27 f28 f29 (fun h30 e31 => ?_)
  have hw := hw h30 e31
  refine tq_aload_n dMd_turn_139 rfl rfl ?_
  refine te_getr dMd_turn_140 fMd_46 rfl rfl (by rw [e31]; exact (by rw [e21]; exact f11)) ?_
  refine tq_iload dMd_turn_143 rfl ?_
  refine tq_aload_n dMd_turn_145 rfl rfl ?_
  refine te_getr dMd_turn_146 fMd_55 rfl rfl (by rw [e31]; exact (by rw [e21]; exact f11)) ?_
  refine tq_iload_n dMd_turn_149 rfl rfl ?_
  obtain ⟨a32, e33, f34, hw⟩ := hw
  obtain ⟨f35, hw⟩ := hw
  refine te_iald dMd_turn_150 e33 (Or.inl f34) f35 ?_
  obtain ⟨a36, e37, f38, hw⟩ := hw
  obtain ⟨f39, hw⟩ := hw
  refine te_iast dMd_turn_151 e37 f38 f39 (fun h40 e41 => ?_)
  have hw := hw h40 e41
  refine tq_aload_n dMd_turn_152 rfl rfl ?_
  refine te_getr dMd_turn_153 fMd_49 rfl rfl (by rw [e41]; exact (by rw [e31]; exact (by rw [e21]; exact f11))) ?_
  refine tq_iload dMd_turn_156 rfl ?_
  refine tq_aload_n dMd_turn_158 rfl rfl ?_
  refine te_getr dMd_turn_159 fMd_58 rfl rfl (by rw [e41]; exact (by rw [e31]; exact (by rw [e21]; exact f11))) ?_
  refine tq_iload_n dMd_turn_162 rfl rfl ?_
  obtain ⟨a42, e43, f44, hw⟩ := hw
  obtain ⟨f45, hw⟩ := hw
  refine te_iald dMd_turn_163 e43 (Or.inl f44) f45 ?_
  obtain ⟨a46, e47, f48, hw⟩ := hw
  obtain ⟨f49, hw⟩ := hw
  refine te_iast dMd_turn_164 e47 f48 f49 (fun h50 e51 => ?_)
  have hw := hw h50 e51
  refine tq_aload_n dMd_turn_165 rfl rfl ?_
  refine te_getr dMd_turn_166 fMd_52 rfl rfl (by rw [e51]; exact (by rw [e41]; exact (by rw [e31]; exact (by rw [e21]; exact f11)))) ?_
  refine tq_iload dMd_turn_169 rfl ?_
  refine tq_aload_n dMd_turn_171 rfl rfl ?_
  refine te_getr dMd_turn_172 fMd_61 rfl rfl (by rw [e51]; exact (by rw [e41]; exact (by rw [e31]; exact (by rw [e21]; exact f11)))) ?_
  refine tq_iload_n dMd_turn_175 rfl rfl ?_
  obtain ⟨a52, e53, f54, hw⟩ := hw
  obtain ⟨f55, hw⟩ := hw
  refine te_iald dMd_turn_176 e53 (Or.inl f54) f55 ?_
  obtain ⟨a56, e57, f58, hw⟩ := hw
  obtain ⟨f59, hw⟩ := hw
  refine te_iast dMd_turn_177 e57 f58 f59 (fun h60 e61 => ?_)
  have hw := hw h60 e61
  refine tq_aload_n dMd_turn_178 rfl rfl ?_
  refine te_getr dMd_turn_179 fMd_55 rfl rfl (by rw [e61]; exact (by rw [e51]; exact (by rw [e41]; exact (by rw [e31]; exact (by rw [e21]; exact f11))))) ?_
  refine tq_iload dMd_turn_182 rfl ?_
  refine tq_aload_n dMd_turn_184 rfl rfl ?_
  refine te_getr dMd_turn_185 fMd_46 rfl rfl (by rw [e61]; exact (by rw [e51]; exact (by rw [e41]; exact (by rw [e31]; exact (by rw [e21]; exact f11))))) ?_
  refine tq_iload_n dMd_turn_188 rfl rfl ?_
  obtain ⟨a62, e63, f64, hw⟩ := hw
  obtain ⟨f65, hw⟩ := hw
  refine te_iald dMd_turn_189 e63 (Or.inl f64) f65 ?_
  obtain ⟨a66, e67, f68, hw⟩ := hw
  obtain ⟨f69, hw⟩ := hw
  refine te_iast dMd_turn_190 e67 f68 f69 (fun h70 e71 => ?_)
  have hw := hw h70 e71
  refine tq_aload_n dMd_turn_191 rfl rfl ?_
  refine te_getr dMd_turn_192 fMd_58 rfl rfl (by rw [e71]; exact (by rw [e61]; exact (by rw [e51]; exact (by rw [e41]; exact (by rw [e31]; exact (by rw [e21]; exact f11)))))) ?_
  refine tq_iload dMd_turn_195 rfl ?_
  refine tq_aload_n dMd_turn_197 rfl rfl ?_
  refine te_getr dMd_turn_198 fMd_49 rfl rfl (by rw [e71]; exact (by rw [e61]; exact (by rw [e51]; exact (by rw [e41]; exact (by rw [e31]; exact (by rw [e21]; exact f11)))))) ?_
  refine tq_iload_n dMd_turn_201 rfl rfl ?_
  obtain ⟨a72, e73, f74, hw⟩ := hw
  obtain ⟨f75, hw⟩ := hw
  refine te_iald dMd_turn_202 e73 (Or.inl f74) f75 ?_
  obtain ⟨a76, e77, f78, hw⟩ := hw
  obtain ⟨f79, hw⟩ := hw
  refine te_iast dMd_turn_203 e77 f78 f79 (fun h80 e81 => ?_)
  have hw := hw h80 e81
  refine tq_aload_n dMd_turn_204 rfl rfl ?_
  refine te_getr dMd_turn_205 fMd_61 rfl rfl (by rw [e81]; exact (by rw [e71]; exact (by rw [e61]; exact (by rw [e51]; exact (by rw [e41]; exact (by rw [e31]; exact (by rw [e21]; exact f11))))))) ?_
  refine tq_iload dMd_turn_208 rfl ?_
  refine tq_aload_n dMd_turn_210 rfl rfl ?_
  refine te_getr dMd_turn_211 fMd_52 rfl rfl (by rw [e81]; exact (by rw [e71]; exact (by rw [e61]; exact (by rw [e51]; exact (by rw [e41]; exact (by rw [e31]; exact (by rw [e21]; exact f11))))))) ?_
  refine tq_iload_n dMd_turn_214 rfl rfl ?_
  obtain ⟨a82, e83, f84, hw⟩ := hw
  obtain ⟨f85, hw⟩ := hw
  refine te_iald dMd_turn_215 e83 (Or.inl f84) f85 ?_
  obtain ⟨a86, e87, f88, hw⟩ := hw
  obtain ⟨f89, hw⟩ := hw
  refine te_iast dMd_turn_216 e87 f88 f89 (fun h90 e91 => ?_)
  have hw := hw h90 e91
  refine tq_inc (k := (-1 : Int32)) (ls' := [some (vR (some o)), some (vI x1), some (vI (x2 + (-1 : Int32))), none, some (vI v10)]) dMd_turn_217 rfl tni_m1 (Nat.le_of_ble_eq_true rfl) rfl ?_
  refine tq_goto (tgt := 63) dMd_turn_220 (by decide) ?_
  refine tpR.fo (ls' := [some (vR (some o)), some (vI x1), some (vI (x2 + (-1 : Int32))), none, none]) ?_ (And.intro rfl (And.intro rfl (And.intro rfl trivial)))
  exact k63 _ _ _ _ hw
theorem s_Md_turn_63 {h0 : tpH} {av : List tpV} {R : Int32 → tpH → Prop} : ∀ (n : Nat) (o : Nat) (x1 : Int32) (x2 : Int32) (h : tpH), w_Md_turn_63 R n o x1 x2 h → tpR Md_turn 2 h0 av (tpOi R (fun _ _ => False)) 63 [some (vR (some o)), some (vI x1), some (vI x2), none, none] [] h := by
  intro n
  induction n with
  | zero => intro o x1 x2 h hw; exact False.elim hw
  | succ n ih =>
    intro o x1 x2 h hw
    change b_Md_turn_63 R (w_Md_turn_63 R n) o x1 x2 h at hw
    unfold b_Md_turn_63 at hw
    refine tq_iload_n dMd_turn_63 rfl rfl ?_
    refine tq_bipush (v := (100 : Int32)) dMd_turn_64 tnb_100 ?_
    refine tq_iload_n dMd_turn_66 rfl rfl ?_
    refine tq_imul dMd_turn_67 ?_
    refine tq_icmplt (tgt := 223) dMd_turn_68 (by decide) (fun c1 => ?_) (fun c1 => ?_)
    · have hw := hw.1 c1
      refine tq_aload_n dMd_turn_223 rfl rfl ?_
      refine tq_dup dMd_turn_224 rfl ?_
      obtain ⟨f2, hw⟩ := hw
      refine te_geti dMd_turn_225 fMd_295 rfl rfl f2 ?_
      refine tq_iconst (v := (1 : Int32)) dMd_turn_228 tni_1 ?_
      refine tq_iadd dMd_turn_229 ?_
      refine te_puti dMd_turn_230 pMd_295 rfl rfl rfl f2 ⟨rfl, rfl⟩ (fun h3 e4 => ?_)
      have hw := hw h3 e4
      refine tq_aload_n dMd_turn_233 rfl rfl ?_
      refine te_geti dMd_turn_234 fMd_295 rfl rfl (by rw [e4]; exact f2) ?_
      refine tq_iconst (v := (1 : Int32)) dMd_turn_237 tni_1 ?_
      refine tq_isub dMd_turn_238 ?_
      exact tq_iret rfl rfl dMd_turn_239 hw
    · have hw := hw.2 c1
      refine tq_aload_n dMd_turn_71 rfl rfl ?_
      obtain ⟨f5, hw⟩ := hw
      refine te_getr dMd_turn_72 fMd_34 rfl rfl f5 ?_
      refine tq_iload_n dMd_turn_75 rfl rfl ?_
      obtain ⟨a6, e7, f8, hw⟩ := hw
      obtain ⟨f9, hw⟩ := hw
      refine te_iald dMd_turn_76 e7 (Or.inl f8) f9 ?_
      refine tq_istore_n (ls' := [some (vR (some o)), some (vI x1), some (vI x2), some (vI (hI h a6 x2.toNatClampNeg)), none]) dMd_turn_77 rfl (Nat.le_of_ble_eq_true rfl) rfl ?_
      refine tq_aload_n dMd_turn_78 rfl rfl ?_
      refine tq_aload_n dMd_turn_79 rfl rfl ?_
      refine te_geti dMd_turn_80 fMd_295 rfl rfl f5 ?_
      refine tq_iload_n dMd_turn_83 rfl rfl ?_
      refine tq_iconst (v := (1 : Int32)) dMd_turn_84 tni_1 ?_
      refine tq_icmpne (tgt := 92) dMd_turn_85 (by decide) (fun c10 => ?_) (fun c10 => ?_)
      · have hw := hw.1 c10
        refine tq_iload_n dMd_turn_92 rfl rfl ?_
        refine tq_iconst (v := (3 : Int32)) dMd_turn_93 tni_3 ?_
        refine tq_icmpne (tgt := 101) dMd_turn_94 (by decide) (fun c11 => ?_) (fun c11 => ?_)
        · have hw := hw.1 c11
          refine tq_iload_n dMd_turn_101 rfl rfl ?_
          refine tpR.fo (ls' := [some (vR (some o)), some (vI x1), some (vI x2), none, none]) ?_ (And.intro rfl (And.intro rfl (And.intro rfl trivial)))
          exact s_Md_turn_102 ih _ _ _ _ _ _ _ hw
        · have hw := hw.2 c11
          refine tq_iconst (v := (1 : Int32)) dMd_turn_97 tni_1 ?_
          refine tq_goto (tgt := 102) dMd_turn_98 (by decide) ?_
          refine tpR.fo (ls' := [some (vR (some o)), some (vI x1), some (vI x2), none, none]) ?_ (And.intro rfl (And.intro rfl (And.intro rfl trivial)))
          exact s_Md_turn_102 ih _ _ _ _ _ _ _ hw
      · have hw := hw.2 c10
        refine tq_iconst (v := (3 : Int32)) dMd_turn_88 tni_3 ?_
        refine tq_goto (tgt := 102) dMd_turn_89 (by decide) ?_
        refine tpR.fo (ls' := [some (vR (some o)), some (vI x1), some (vI x2), none, none]) ?_ (And.intro rfl (And.intro rfl (And.intro rfl trivial)))
        exact s_Md_turn_102 ih _ _ _ _ _ _ _ hw
theorem s_Md_turn_27 {h0 : tpH} {av : List tpV} {R : Int32 → tpH → Prop} : ∀ (o : Nat) (x1 : Int32) (t0 : Int32) (t1 : Option Nat) (h : tpH), w_Md_turn_27 R o x1 t0 t1 h → tpR Md_turn 2 h0 av (tpOi R (fun _ _ => False)) 27 [some (vR (some o)), some (vI x1), none, none, none] [vI t0, vR t1] h := by
  intro o x1 t0 t1 h hw
  unfold w_Md_turn_27 at hw
  obtain ⟨a1, e2, f3, hw⟩ := hw
  refine te_puti dMd_turn_27 pMd_151 rfl rfl e2 f3 ⟨rfl, rfl⟩ (fun h4 e5 => ?_)
  have hw := hw h4 e5
  refine tq_aload_n dMd_turn_30 rfl rfl ?_
  obtain ⟨f6, hw⟩ := hw
  refine te_geti dMd_turn_31 fMd_151 rfl rfl f6 ?_
  refine tq_ifle (tgt := 39) dMd_turn_34 (by decide) (fun c7 => ?_) (fun c7 => ?_)
  · have hw := hw.1 c7
    refine tq_aload_n dMd_turn_39 rfl rfl ?_
    refine te_getr dMd_turn_40 fMd_31 rfl rfl f6 ?_
    refine tq_aload_n dMd_turn_43 rfl rfl ?_
    refine te_geti dMd_turn_44 fMd_295 rfl rfl f6 ?_
    refine tq_iconst (v := (0 : Int32)) dMd_turn_47 tni_0 ?_
    obtain ⟨a8, e9, f10, hw⟩ := hw
    obtain ⟨f11, hw⟩ := hw
    refine te_iast dMd_turn_48 e9 f10 f11 (fun h12 e13 => ?_)
    have hw := hw h12 e13
    refine tq_bipush (v := (100 : Int32)) dMd_turn_49 tnb_100 ?_
    refine tq_iload_n dMd_turn_51 rfl rfl ?_
    refine tq_imul dMd_turn_52 ?_
    refine tq_aload_n dMd_turn_53 rfl rfl ?_
    refine te_getr dMd_turn_54 fMd_31 rfl rfl (by rw [e13]; exact f6) ?_
    refine tq_iload_n dMd_turn_57 rfl rfl ?_
    obtain ⟨a14, e15, f16, hw⟩ := hw
    obtain ⟨f17, hw⟩ := hw
    refine te_iald dMd_turn_58 e15 (Or.inl f16) f17 ?_
    refine tq_iadd dMd_turn_59 ?_
    refine tq_iconst (v := (1 : Int32)) dMd_turn_60 tni_1 ?_
    refine tq_isub dMd_turn_61 ?_
    refine tq_istore_n (ls' := [some (vR (some o)), some (vI x1), some (vI ((((100 : Int32) * x1) + (hI h12 a14 x1.toNatClampNeg)) - (1 : Int32))), none, none]) dMd_turn_62 rfl (Nat.le_of_ble_eq_true rfl) rfl ?_
    refine tpR.fo (ls' := [some (vR (some o)), some (vI x1), some (vI ((((100 : Int32) * x1) + (hI h12 a14 x1.toNatClampNeg)) - (1 : Int32))), none, none]) ?_ (And.intro rfl (And.intro rfl (And.intro rfl trivial)))
    obtain ⟨n, hw⟩ := hw
    exact s_Md_turn_63 n _ _ _ _ hw
  · have hw := hw.2 c7
    refine tq_iconst (v := (0 : Int32)) dMd_turn_37 tni_0 ?_
    exact tq_iret rfl rfl dMd_turn_38 hw
theorem s_Md_turn {o : Nat} {x1 : Int32} {h : tpH} {R : Int32 → tpH → Prop} (hw : w_Md_turn o x1 h R) : tpC Md_turn 2 [vR (some o), vI x1] h (tpOi R (fun _ _ => False)) := by
  refine tpC_of mv_Md_turn.2.2.2.1 rfl rfl (Nat.le_of_ble_eq_true rfl) ?_
  show tpR Md_turn 2 h _ _ 0 [some (vR (some o)), some (vI x1), none, none, none] [] h
  unfold w_Md_turn at hw
  refine tq_aload_n dMd_turn_0 rfl rfl ?_
  refine tq_aload_n dMd_turn_1 rfl rfl ?_
  refine tq_iload_n dMd_turn_2 rfl rfl ?_
  obtain ⟨f1, hw⟩ := hw
  refine te_callV mv_Md_isScript (ci := 13) (dc := 1) (as := [vI x1]) (rest := [vR (some o)]) kMd_325 rfl (Nat.le_of_ble_eq_true rfl) (Nat.le_of_ble_eq_true rfl) rfl rfl rfl f1 (Nat.le_of_ble_eq_true rfl) dMd_turn_3 (s_Md_isScript hw) (fun _ _ hx => False.elim hx) (tk_i fun v3 h2 hw => ?_)
  refine tq_ifne (tgt := 13) dMd_turn_6 (by decide) (fun c4 => ?_) (fun c4 => ?_)
  · have hw := hw.1 c4
    refine tq_aload_n dMd_turn_13 rfl rfl ?_
    obtain ⟨f5, hw⟩ := hw
    refine te_geti dMd_turn_14 fMd_295 rfl rfl f5 ?_
    refine tq_bipush (v := (40 : Int32)) dMd_turn_17 tnb_40 ?_
    refine tq_icmpne (tgt := 26) dMd_turn_19 (by decide) (fun c6 => ?_) (fun c6 => ?_)
    · have hw := hw.1 c6
      refine tq_iconst (v := (0 : Int32)) dMd_turn_26 tni_0 ?_
      refine tpR.fo (ls' := [some (vR (some o)), some (vI x1), none, none, none]) ?_ (And.intro rfl (And.intro rfl trivial))
      exact s_Md_turn_27 _ _ _ _ _ hw
    · have hw := hw.2 c6
      refine tq_iconst (v := (2 : Int32)) dMd_turn_22 tni_2 ?_
      refine tq_goto (tgt := 27) dMd_turn_23 (by decide) ?_
      refine tpR.fo (ls' := [some (vR (some o)), some (vI x1), none, none, none]) ?_ (And.intro rfl (And.intro rfl trivial))
      exact s_Md_turn_27 _ _ _ _ _ hw
  · have hw := hw.2 c4
    refine tq_iconst (v := (1 : Int32)) dMd_turn_9 tni_1 ?_
    refine tq_goto (tgt := 27) dMd_turn_10 (by decide) ?_
    refine tpR.fo (ls' := [some (vR (some o)), some (vI x1), none, none, none]) ?_ (And.intro rfl (And.intro rfl trivial))
    exact s_Md_turn_27 _ _ _ _ _ hw
/-! TModel.isChild -/
theorem dMd_isChild_0 : decode (mB Md_isChild) 0 = .ok (.iload_n 1, 1) := by decide +kernel
theorem dMd_isChild_1 : decode (mB Md_isChild) 1 = .ok (.iconst (-1), 1) := by decide +kernel
theorem dMd_isChild_2 : decode (mB Md_isChild) 2 = .ok (.if_icmp .eq 28, 3) := by decide +kernel
theorem dMd_isChild_5 : decode (mB Md_isChild) 5 = .ok (.aload_n 0, 1) := by decide +kernel
theorem dMd_isChild_6 : decode (mB Md_isChild) 6 = .ok (.bipush 41, 2) := by decide +kernel
theorem dMd_isChild_8 : decode (mB Md_isChild) 8 = .ok (.iload_n 1, 1) := by decide +kernel
theorem dMd_isChild_9 : decode (mB Md_isChild) 9 = .ok (.invokevirtual 212, 3) := by decide +kernel
theorem dMd_isChild_12 : decode (mB Md_isChild) 12 = .ok (.ifCond .eq 18, 3) := by decide +kernel
theorem dMd_isChild_15 : decode (mB Md_isChild) 15 = .ok (.aload_n 0, 1) := by decide +kernel
theorem dMd_isChild_16 : decode (mB Md_isChild) 16 = .ok (.bipush 41, 2) := by decide +kernel
theorem dMd_isChild_18 : decode (mB Md_isChild) 18 = .ok (.iload_n 1, 1) := by decide +kernel
theorem dMd_isChild_19 : decode (mB Md_isChild) 19 = .ok (.invokevirtual 179, 3) := by decide +kernel
theorem dMd_isChild_22 : decode (mB Md_isChild) 22 = .ok (.iload_n 2, 1) := by decide +kernel
theorem dMd_isChild_23 : decode (mB Md_isChild) 23 = .ok (.if_icmp .ne 7, 3) := by decide +kernel
theorem dMd_isChild_26 : decode (mB Md_isChild) 26 = .ok (.iconst 1, 1) := by decide +kernel
theorem dMd_isChild_27 : decode (mB Md_isChild) 27 = .ok (.goto 4, 3) := by decide +kernel
theorem dMd_isChild_30 : decode (mB Md_isChild) 30 = .ok (.iconst 0, 1) := by decide +kernel
theorem dMd_isChild_31 : decode (mB Md_isChild) 31 = .ok (.ireturn, 1) := by decide +kernel
def w_Md_isChild (o : Nat) (x1 : Int32) (x2 : Int32) (h : tpH) (R : Int32 → tpH → Prop) : Prop :=
  (x1 = (-1 : Int32) → (R (0 : Int32) h)) ∧ (¬ x1 = (-1 : Int32) → (hT h o = 14 ∧ (w_Md_has o (41 : Int32) x1 h (fun v4 h3 => (v4 = 0 → (R (0 : Int32) h3)) ∧ (¬ v4 = 0 → (hT h3 o = 14 ∧ (w_Md_parentIn o (41 : Int32) x1 h3 (fun v8 h7 => (¬ v8 = x2 → (R (0 : Int32) h7)) ∧ (v8 = x2 → (R (1 : Int32) h7))))))))))
theorem s_Md_isChild {o : Nat} {x1 : Int32} {x2 : Int32} {h : tpH} {R : Int32 → tpH → Prop} (hw : w_Md_isChild o x1 x2 h R) : tpC Md_isChild 3 [vR (some o), vI x1, vI x2] h (tpOi R (fun _ _ => False)) := by
  refine tpC_of mv_Md_isChild.2.2.2.1 rfl rfl (Nat.le_of_ble_eq_true rfl) ?_
  show tpR Md_isChild 3 h _ _ 0 [some (vR (some o)), some (vI x1), some (vI x2)] [] h
  unfold w_Md_isChild at hw
  refine tq_iload_n dMd_isChild_0 rfl rfl ?_
  refine tq_iconst (v := (-1 : Int32)) dMd_isChild_1 tni_m1 ?_
  refine tq_icmpeq (tgt := 30) dMd_isChild_2 (by decide) (fun c1 => ?_) (fun c1 => ?_)
  · have hw := hw.1 c1
    refine tq_iconst (v := (0 : Int32)) dMd_isChild_30 tni_0 ?_
    exact tq_iret rfl (by decide) dMd_isChild_31 hw
  · have hw := hw.2 c1
    refine tq_aload_n dMd_isChild_5 rfl rfl ?_
    refine tq_bipush (v := (41 : Int32)) dMd_isChild_6 tnb_41 ?_
    refine tq_iload_n dMd_isChild_8 rfl rfl ?_
    obtain ⟨f2, hw⟩ := hw
    refine te_callV mv_Md_has (ci := 13) (dc := 2) (as := [vI (41 : Int32), vI x1]) (rest := []) kMd_212 rfl (Nat.le_of_ble_eq_true rfl) (Nat.le_of_ble_eq_true rfl) rfl rfl rfl f2 (Nat.le_of_ble_eq_true rfl) dMd_isChild_9 (s_Md_has hw) (fun _ _ hx => False.elim hx) (tk_i fun v4 h3 hw => ?_)
    refine tq_ifeq (tgt := 30) dMd_isChild_12 (by decide) (fun c5 => ?_) (fun c5 => ?_)
    · have hw := hw.1 c5
      refine tq_iconst (v := (0 : Int32)) dMd_isChild_30 tni_0 ?_
      exact tq_iret rfl (by decide) dMd_isChild_31 hw
    · have hw := hw.2 c5
      refine tq_aload_n dMd_isChild_15 rfl rfl ?_
      refine tq_bipush (v := (41 : Int32)) dMd_isChild_16 tnb_41 ?_
      refine tq_iload_n dMd_isChild_18 rfl rfl ?_
      obtain ⟨f6, hw⟩ := hw
      refine te_callV mv_Md_parentIn (ci := 13) (dc := 0) (as := [vI (41 : Int32), vI x1]) (rest := []) kMd_179 rfl (Nat.le_of_ble_eq_true rfl) (Nat.le_of_ble_eq_true rfl) rfl rfl rfl f6 (Nat.le_of_ble_eq_true rfl) dMd_isChild_19 (s_Md_parentIn hw) (fun _ _ hx => False.elim hx) (tk_i fun v8 h7 hw => ?_)
      refine tq_iload_n dMd_isChild_22 rfl rfl ?_
      refine tq_icmpne (tgt := 30) dMd_isChild_23 (by decide) (fun c9 => ?_) (fun c9 => ?_)
      · have hw := hw.1 c9
        refine tq_iconst (v := (0 : Int32)) dMd_isChild_30 tni_0 ?_
        exact tq_iret rfl (by decide) dMd_isChild_31 hw
      · have hw := hw.2 c9
        refine tq_iconst (v := (1 : Int32)) dMd_isChild_26 tni_1 ?_
        refine tq_goto (tgt := 31) dMd_isChild_27 (by decide) ?_
        exact tq_iret rfl (by decide) dMd_isChild_31 hw
/-! TModel.lastChild -/
theorem dMd_lastChild_0 : decode (mB Md_lastChild) 0 = .ok (.iconst (-1), 1) := by decide +kernel
theorem dMd_lastChild_1 : decode (mB Md_lastChild) 1 = .ok (.istore_n 2, 1) := by decide +kernel
theorem dMd_lastChild_2 : decode (mB Md_lastChild) 2 = .ok (.aload_n 0, 1) := by decide +kernel
theorem dMd_lastChild_3 : decode (mB Md_lastChild) 3 = .ok (.bipush 41, 2) := by decide +kernel
theorem dMd_lastChild_5 : decode (mB Md_lastChild) 5 = .ok (.iload_n 1, 1) := by decide +kernel
theorem dMd_lastChild_6 : decode (mB Md_lastChild) 6 = .ok (.invokevirtual 173, 3) := by decide +kernel
theorem dMd_lastChild_9 : decode (mB Md_lastChild) 9 = .ok (.istore_n 3, 1) := by decide +kernel
theorem dMd_lastChild_10 : decode (mB Md_lastChild) 10 = .ok (.iload_n 3, 1) := by decide +kernel
theorem dMd_lastChild_11 : decode (mB Md_lastChild) 11 = .ok (.iconst (-1), 1) := by decide +kernel
theorem dMd_lastChild_12 : decode (mB Md_lastChild) 12 = .ok (.if_icmp .eq 16, 3) := by decide +kernel
theorem dMd_lastChild_15 : decode (mB Md_lastChild) 15 = .ok (.iload_n 3, 1) := by decide +kernel
theorem dMd_lastChild_16 : decode (mB Md_lastChild) 16 = .ok (.istore_n 2, 1) := by decide +kernel
theorem dMd_lastChild_17 : decode (mB Md_lastChild) 17 = .ok (.aload_n 0, 1) := by decide +kernel
theorem dMd_lastChild_18 : decode (mB Md_lastChild) 18 = .ok (.bipush 41, 2) := by decide +kernel
theorem dMd_lastChild_20 : decode (mB Md_lastChild) 20 = .ok (.iload_n 3, 1) := by decide +kernel
theorem dMd_lastChild_21 : decode (mB Md_lastChild) 21 = .ok (.invokevirtual 169, 3) := by decide +kernel
theorem dMd_lastChild_24 : decode (mB Md_lastChild) 24 = .ok (.istore_n 3, 1) := by decide +kernel
theorem dMd_lastChild_25 : decode (mB Md_lastChild) 25 = .ok (.goto (-15), 3) := by decide +kernel
theorem dMd_lastChild_28 : decode (mB Md_lastChild) 28 = .ok (.iload_n 2, 1) := by decide +kernel
theorem dMd_lastChild_29 : decode (mB Md_lastChild) 29 = .ok (.ireturn, 1) := by decide +kernel
def b_Md_lastChild_10 (R : Int32 → tpH → Prop) (Y : Nat → Int32 → Int32 → tpH → Prop) (o : Nat) (x2 : Int32) (x3 : Int32) (h : tpH) : Prop :=
  (x3 = (-1 : Int32) → (R x2 h)) ∧ (¬ x3 = (-1 : Int32) → (hT h o = 14 ∧ (w_Md_nextIn o (41 : Int32) x3 h (fun v4 h3 => Y o x3 v4 h3))))
def w_Md_lastChild_10 (R : Int32 → tpH → Prop) : Nat → Nat → Int32 → Int32 → tpH → Prop
  | 0 => fun _ _ _ _ => False
  | n + 1 => b_Md_lastChild_10 R (w_Md_lastChild_10 R n)
def w_Md_lastChild (o : Nat) (x1 : Int32) (h : tpH) (R : Int32 → tpH → Prop) : Prop :=
  hT h o = 14 ∧ (w_Md_firstIn o (41 : Int32) x1 h (fun v3 h2 => ∃ n, w_Md_lastChild_10 R n o (-1 : Int32) v3 h2))
theorem s_Md_lastChild_10 {h0 : tpH} {av : List tpV} {R : Int32 → tpH → Prop} : ∀ (n : Nat) (o : Nat) (x2 : Int32) (x3 : Int32) (h : tpH), w_Md_lastChild_10 R n o x2 x3 h → tpR Md_lastChild 1 h0 av (tpOi R (fun _ _ => False)) 10 [some (vR (some o)), none, some (vI x2), some (vI x3)] [] h := by
  intro n
  induction n with
  | zero => intro o x2 x3 h hw; exact False.elim hw
  | succ n ih =>
    intro o x2 x3 h hw
    change b_Md_lastChild_10 R (w_Md_lastChild_10 R n) o x2 x3 h at hw
    unfold b_Md_lastChild_10 at hw
    refine tq_iload_n dMd_lastChild_10 rfl rfl ?_
    refine tq_iconst (v := (-1 : Int32)) dMd_lastChild_11 tni_m1 ?_
    refine tq_icmpeq (tgt := 28) dMd_lastChild_12 (by decide) (fun c1 => ?_) (fun c1 => ?_)
    · have hw := hw.1 c1
      refine tq_iload_n dMd_lastChild_28 rfl rfl ?_
      exact tq_iret rfl rfl dMd_lastChild_29 hw
    · have hw := hw.2 c1
      refine tq_iload_n dMd_lastChild_15 rfl rfl ?_
      refine tq_istore_n (ls' := [some (vR (some o)), none, some (vI x3), some (vI x3)]) dMd_lastChild_16 rfl (Nat.le_of_ble_eq_true rfl) rfl ?_
      refine tq_aload_n dMd_lastChild_17 rfl rfl ?_
      refine tq_bipush (v := (41 : Int32)) dMd_lastChild_18 tnb_41 ?_
      refine tq_iload_n dMd_lastChild_20 rfl rfl ?_
      obtain ⟨f2, hw⟩ := hw
      refine te_callV mv_Md_nextIn (ci := 13) (dc := 0) (as := [vI (41 : Int32), vI x3]) (rest := []) kMd_169 rfl (Nat.le_of_ble_eq_true rfl) (Nat.le_of_ble_eq_true rfl) rfl rfl rfl f2 (Nat.le_of_ble_eq_true rfl) dMd_lastChild_21 (s_Md_nextIn hw) (fun _ _ hx => False.elim hx) (tk_i fun v4 h3 hw => ?_)
      refine tq_istore_n (ls' := [some (vR (some o)), none, some (vI x3), some (vI v4)]) dMd_lastChild_24 rfl (Nat.le_of_ble_eq_true rfl) rfl ?_
      refine tq_goto (tgt := 10) dMd_lastChild_25 (by decide) ?_
      refine tpR.fo (ls' := [some (vR (some o)), none, some (vI x3), some (vI v4)]) ?_ (And.intro rfl (And.intro rfl (And.intro rfl trivial)))
      exact ih _ _ _ _ hw
theorem s_Md_lastChild {o : Nat} {x1 : Int32} {h : tpH} {R : Int32 → tpH → Prop} (hw : w_Md_lastChild o x1 h R) : tpC Md_lastChild 1 [vR (some o), vI x1] h (tpOi R (fun _ _ => False)) := by
  refine tpC_of mv_Md_lastChild.2.2.2.1 rfl rfl (Nat.le_of_ble_eq_true rfl) ?_
  show tpR Md_lastChild 1 h _ _ 0 [some (vR (some o)), some (vI x1), none, none] [] h
  unfold w_Md_lastChild at hw
  refine tq_iconst (v := (-1 : Int32)) dMd_lastChild_0 tni_m1 ?_
  refine tq_istore_n (ls' := [some (vR (some o)), some (vI x1), some (vI (-1 : Int32)), none]) dMd_lastChild_1 rfl (Nat.le_of_ble_eq_true rfl) rfl ?_
  refine tq_aload_n dMd_lastChild_2 rfl rfl ?_
  refine tq_bipush (v := (41 : Int32)) dMd_lastChild_3 tnb_41 ?_
  refine tq_iload_n dMd_lastChild_5 rfl rfl ?_
  obtain ⟨f1, hw⟩ := hw
  refine te_callV mv_Md_firstIn (ci := 13) (dc := 0) (as := [vI (41 : Int32), vI x1]) (rest := []) kMd_173 rfl (Nat.le_of_ble_eq_true rfl) (Nat.le_of_ble_eq_true rfl) rfl rfl rfl f1 (Nat.le_of_ble_eq_true rfl) dMd_lastChild_6 (s_Md_firstIn hw) (fun _ _ hx => False.elim hx) (tk_i fun v3 h2 hw => ?_)
  refine tq_istore_n (ls' := [some (vR (some o)), some (vI x1), some (vI (-1 : Int32)), some (vI v3)]) dMd_lastChild_9 rfl (Nat.le_of_ble_eq_true rfl) rfl ?_
  refine tpR.fo (ls' := [some (vR (some o)), none, some (vI (-1 : Int32)), some (vI v3)]) ?_ (And.intro rfl (And.intro rfl (And.intro rfl trivial)))
  obtain ⟨n, hw⟩ := hw
  exact s_Md_lastChild_10 n _ _ _ _ hw
/-! TModel.settle -/
theorem dMd_settle_0 : decode (mB Md_settle) 0 = .ok (.aload_n 0, 1) := by decide +kernel
theorem dMd_settle_1 : decode (mB Md_settle) 1 = .ok (.getfield 46, 3) := by decide +kernel
theorem dMd_settle_4 : decode (mB Md_settle) 4 = .ok (.iload_n 1, 1) := by decide +kernel
theorem dMd_settle_5 : decode (mB Md_settle) 5 = .ok (.iaload, 1) := by decide +kernel
theorem dMd_settle_6 : decode (mB Md_settle) 6 = .ok (.istore_n 3, 1) := by decide +kernel
theorem dMd_settle_7 : decode (mB Md_settle) 7 = .ok (.aload_n 0, 1) := by decide +kernel
theorem dMd_settle_8 : decode (mB Md_settle) 8 = .ok (.getfield 49, 3) := by decide +kernel
theorem dMd_settle_11 : decode (mB Md_settle) 11 = .ok (.iload_n 1, 1) := by decide +kernel
theorem dMd_settle_12 : decode (mB Md_settle) 12 = .ok (.iaload, 1) := by decide +kernel
theorem dMd_settle_13 : decode (mB Md_settle) 13 = .ok (.istore 4, 2) := by decide +kernel
theorem dMd_settle_15 : decode (mB Md_settle) 15 = .ok (.aload_n 0, 1) := by decide +kernel
theorem dMd_settle_16 : decode (mB Md_settle) 16 = .ok (.getfield 52, 3) := by decide +kernel
theorem dMd_settle_19 : decode (mB Md_settle) 19 = .ok (.iload_n 1, 1) := by decide +kernel
theorem dMd_settle_20 : decode (mB Md_settle) 20 = .ok (.iaload, 1) := by decide +kernel
theorem dMd_settle_21 : decode (mB Md_settle) 21 = .ok (.istore 5, 2) := by decide +kernel
theorem dMd_settle_23 : decode (mB Md_settle) 23 = .ok (.aload_n 0, 1) := by decide +kernel
theorem dMd_settle_24 : decode (mB Md_settle) 24 = .ok (.iload 4, 2) := by decide +kernel
theorem dMd_settle_26 : decode (mB Md_settle) 26 = .ok (.iload_n 3, 1) := by decide +kernel
theorem dMd_settle_27 : decode (mB Md_settle) 27 = .ok (.invokevirtual 328, 3) := by decide +kernel
theorem dMd_settle_30 : decode (mB Md_settle) 30 = .ok (.ifCond .eq 8, 3) := by decide +kernel
theorem dMd_settle_33 : decode (mB Md_settle) 33 = .ok (.iload 4, 2) := by decide +kernel
theorem dMd_settle_35 : decode (mB Md_settle) 35 = .ok (.goto 31, 3) := by decide +kernel
theorem dMd_settle_38 : decode (mB Md_settle) 38 = .ok (.aload_n 0, 1) := by decide +kernel
theorem dMd_settle_39 : decode (mB Md_settle) 39 = .ok (.iload 5, 2) := by decide +kernel
theorem dMd_settle_41 : decode (mB Md_settle) 41 = .ok (.iload_n 3, 1) := by decide +kernel
theorem dMd_settle_42 : decode (mB Md_settle) 42 = .ok (.invokevirtual 328, 3) := by decide +kernel
theorem dMd_settle_45 : decode (mB Md_settle) 45 = .ok (.ifCond .eq 16, 3) := by decide +kernel
theorem dMd_settle_48 : decode (mB Md_settle) 48 = .ok (.aload_n 0, 1) := by decide +kernel
theorem dMd_settle_49 : decode (mB Md_settle) 49 = .ok (.bipush 41, 2) := by decide +kernel
theorem dMd_settle_51 : decode (mB Md_settle) 51 = .ok (.iload_n 3, 1) := by decide +kernel
theorem dMd_settle_52 : decode (mB Md_settle) 52 = .ok (.iload 5, 2) := by decide +kernel
theorem dMd_settle_54 : decode (mB Md_settle) 54 = .ok (.iconst 1, 1) := by decide +kernel
theorem dMd_settle_55 : decode (mB Md_settle) 55 = .ok (.invokevirtual 182, 3) := by decide +kernel
theorem dMd_settle_58 : decode (mB Md_settle) 58 = .ok (.goto 8, 3) := by decide +kernel
theorem dMd_settle_61 : decode (mB Md_settle) 61 = .ok (.aload_n 0, 1) := by decide +kernel
theorem dMd_settle_62 : decode (mB Md_settle) 62 = .ok (.iload_n 3, 1) := by decide +kernel
theorem dMd_settle_63 : decode (mB Md_settle) 63 = .ok (.invokevirtual 331, 3) := by decide +kernel
theorem dMd_settle_66 : decode (mB Md_settle) 66 = .ok (.istore 6, 2) := by decide +kernel
theorem dMd_settle_68 : decode (mB Md_settle) 68 = .ok (.aload_n 0, 1) := by decide +kernel
theorem dMd_settle_69 : decode (mB Md_settle) 69 = .ok (.bipush 41, 2) := by decide +kernel
theorem dMd_settle_71 : decode (mB Md_settle) 71 = .ok (.iload_n 2, 1) := by decide +kernel
theorem dMd_settle_72 : decode (mB Md_settle) 72 = .ok (.iload_n 3, 1) := by decide +kernel
theorem dMd_settle_73 : decode (mB Md_settle) 73 = .ok (.iload 6, 2) := by decide +kernel
theorem dMd_settle_75 : decode (mB Md_settle) 75 = .ok (.invokevirtual 222, 3) := by decide +kernel
theorem dMd_settle_78 : decode (mB Md_settle) 78 = .ok (.iload 4, 2) := by decide +kernel
theorem dMd_settle_80 : decode (mB Md_settle) 80 = .ok (.iconst (-1), 1) := by decide +kernel
theorem dMd_settle_81 : decode (mB Md_settle) 81 = .ok (.if_icmp .eq 21, 3) := by decide +kernel
theorem dMd_settle_84 : decode (mB Md_settle) 84 = .ok (.aload_n 0, 1) := by decide +kernel
theorem dMd_settle_85 : decode (mB Md_settle) 85 = .ok (.bipush 41, 2) := by decide +kernel
theorem dMd_settle_87 : decode (mB Md_settle) 87 = .ok (.iload_n 3, 1) := by decide +kernel
theorem dMd_settle_88 : decode (mB Md_settle) 88 = .ok (.iload_n 2, 1) := by decide +kernel
theorem dMd_settle_89 : decode (mB Md_settle) 89 = .ok (.iconst 1, 1) := by decide +kernel
theorem dMd_settle_90 : decode (mB Md_settle) 90 = .ok (.invokevirtual 182, 3) := by decide +kernel
theorem dMd_settle_93 : decode (mB Md_settle) 93 = .ok (.iload 4, 2) := by decide +kernel
theorem dMd_settle_95 : decode (mB Md_settle) 95 = .ok (.if_icmp .eq 7, 3) := by decide +kernel
theorem dMd_settle_98 : decode (mB Md_settle) 98 = .ok (.iconst 1, 1) := by decide +kernel
theorem dMd_settle_99 : decode (mB Md_settle) 99 = .ok (.goto 4, 3) := by decide +kernel
theorem dMd_settle_102 : decode (mB Md_settle) 102 = .ok (.iconst 0, 1) := by decide +kernel
theorem dMd_settle_103 : decode (mB Md_settle) 103 = .ok (.istore 7, 2) := by decide +kernel
theorem dMd_settle_105 : decode (mB Md_settle) 105 = .ok (.iload 7, 2) := by decide +kernel
theorem dMd_settle_107 : decode (mB Md_settle) 107 = .ok (.iload 5, 2) := by decide +kernel
theorem dMd_settle_109 : decode (mB Md_settle) 109 = .ok (.iconst (-1), 1) := by decide +kernel
theorem dMd_settle_110 : decode (mB Md_settle) 110 = .ok (.if_icmp .eq 19, 3) := by decide +kernel
theorem dMd_settle_113 : decode (mB Md_settle) 113 = .ok (.aload_n 0, 1) := by decide +kernel
theorem dMd_settle_114 : decode (mB Md_settle) 114 = .ok (.bipush 41, 2) := by decide +kernel
theorem dMd_settle_116 : decode (mB Md_settle) 116 = .ok (.iload_n 2, 1) := by decide +kernel
theorem dMd_settle_117 : decode (mB Md_settle) 117 = .ok (.invokevirtual 169, 3) := by decide +kernel
theorem dMd_settle_120 : decode (mB Md_settle) 120 = .ok (.iload 5, 2) := by decide +kernel
theorem dMd_settle_122 : decode (mB Md_settle) 122 = .ok (.if_icmp .eq 7, 3) := by decide +kernel
theorem dMd_settle_125 : decode (mB Md_settle) 125 = .ok (.iconst 1, 1) := by decide +kernel
theorem dMd_settle_126 : decode (mB Md_settle) 126 = .ok (.goto 4, 3) := by decide +kernel
theorem dMd_settle_129 : decode (mB Md_settle) 129 = .ok (.iconst 0, 1) := by decide +kernel
theorem dMd_settle_130 : decode (mB Md_settle) 130 = .ok (.iadd, 1) := by decide +kernel
theorem dMd_settle_131 : decode (mB Md_settle) 131 = .ok (.istore 7, 2) := by decide +kernel
theorem dMd_settle_133 : decode (mB Md_settle) 133 = .ok (.aload_n 0, 1) := by decide +kernel
theorem dMd_settle_134 : decode (mB Md_settle) 134 = .ok (.iload_n 3, 1) := by decide +kernel
theorem dMd_settle_135 : decode (mB Md_settle) 135 = .ok (.invokevirtual 176, 3) := by decide +kernel
theorem dMd_settle_138 : decode (mB Md_settle) 138 = .ok (.ifCond .eq 8, 3) := by decide +kernel
theorem dMd_settle_141 : decode (mB Md_settle) 141 = .ok (.iload 7, 2) := by decide +kernel
theorem dMd_settle_143 : decode (mB Md_settle) 143 = .ok (.goto 4, 3) := by decide +kernel
theorem dMd_settle_146 : decode (mB Md_settle) 146 = .ok (.iconst 0, 1) := by decide +kernel
theorem dMd_settle_147 : decode (mB Md_settle) 147 = .ok (.ireturn, 1) := by decide +kernel
def w_Md_settle_130 (R : Int32 → tpH → Prop) (o : Nat) (x3 : Int32) (t0 : Int32) (t1 : Int32) (h : tpH) : Prop :=
  hT h o = 14 ∧ (w_Md_isOrdered o x3 h (fun v3 h2 => (v3 = 0 → (R (0 : Int32) h2)) ∧ (¬ v3 = 0 → (R (t1 + t0) h2))))
def w_Md_settle_103 (R : Int32 → tpH → Prop) (o : Nat) (x2 : Int32) (x3 : Int32) (x5 : Int32) (t0 : Int32) (h : tpH) : Prop :=
  (x5 = (-1 : Int32) → (w_Md_settle_130 R o x3 (0 : Int32) t0 h)) ∧ (¬ x5 = (-1 : Int32) → (hT h o = 14 ∧ (w_Md_nextIn o (41 : Int32) x2 h (fun v4 h3 => (v4 = x5 → (w_Md_settle_130 R o x3 (0 : Int32) t0 h3)) ∧ (¬ v4 = x5 → (w_Md_settle_130 R o x3 (1 : Int32) t0 h3))))))
def w_Md_settle_66 (R : Int32 → tpH → Prop) (o : Nat) (x2 : Int32) (x3 : Int32) (x4 : Int32) (x5 : Int32) (t0 : Int32) (h : tpH) : Prop :=
  hT h o = 14 ∧ (w_Md_hang o (41 : Int32) x2 x3 t0 h (fun h2 => (x4 = (-1 : Int32) → (w_Md_settle_103 R o x2 x3 x5 (0 : Int32) h2)) ∧ (¬ x4 = (-1 : Int32) → (hT h2 o = 14 ∧ (w_Md_sibling o (41 : Int32) x3 x2 (1 : Int32) h2 (fun v6 h5 => (v6 = x4 → (w_Md_settle_103 R o x2 x3 x5 (0 : Int32) h5)) ∧ (¬ v6 = x4 → (w_Md_settle_103 R o x2 x3 x5 (1 : Int32) h5))))))))
def w_Md_settle (o : Nat) (x1 : Int32) (x2 : Int32) (h : tpH) (R : Int32 → tpH → Prop) : Prop :=
  hT h o = 14 ∧ (∃ a2, (hR h o 16) = some a2 ∧ hT h a2 = 15 ∧ (vp_in x1 (hL h a2) ∧ (∃ a6, (hR h o 17) = some a6 ∧ hT h a6 = 15 ∧ (vp_in x1 (hL h a6) ∧ (∃ a10, (hR h o 18) = some a10 ∧ hT h a10 = 15 ∧ (vp_in x1 (hL h a10) ∧ (w_Md_isChild o (hI h a6 x1.toNatClampNeg) (hI h a2 x1.toNatClampNeg) h (fun v15 h14 => (v15 = 0 → (hT h14 o = 14 ∧ (w_Md_isChild o (hI h a10 x1.toNatClampNeg) (hI h a2 x1.toNatClampNeg) h14 (fun v19 h18 => (v19 = 0 → (hT h18 o = 14 ∧ (w_Md_lastChild o (hI h a2 x1.toNatClampNeg) h18 (fun v23 h22 => w_Md_settle_66 R o x2 (hI h a2 x1.toNatClampNeg) (hI h a6 x1.toNatClampNeg) (hI h a10 x1.toNatClampNeg) v23 h22)))) ∧ (¬ v19 = 0 → (hT h18 o = 14 ∧ (w_Md_sibling o (41 : Int32) (hI h a2 x1.toNatClampNeg) (hI h a10 x1.toNatClampNeg) (1 : Int32) h18 (fun v26 h25 => w_Md_settle_66 R o x2 (hI h a2 x1.toNatClampNeg) (hI h a6 x1.toNatClampNeg) (hI h a10 x1.toNatClampNeg) v26 h25)))))))) ∧ (¬ v15 = 0 → (w_Md_settle_66 R o x2 (hI h a2 x1.toNatClampNeg) (hI h a6 x1.toNatClampNeg) (hI h a10 x1.toNatClampNeg) (hI h a6 x1.toNatClampNeg) h14))))))))))
theorem s_Md_settle_130 {h0 : tpH} {av : List tpV} {R : Int32 → tpH → Prop} : ∀ (o : Nat) (x3 : Int32) (t0 : Int32) (t1 : Int32) (h : tpH), w_Md_settle_130 R o x3 t0 t1 h → tpR Md_settle 4 h0 av (tpOi R (fun _ _ => False)) 130 [some (vR (some o)), none, none, some (vI x3), none, none, none, none] [vI t0, vI t1] h := by
  intro o x3 t0 t1 h hw
  unfold w_Md_settle_130 at hw
  refine tq_iadd dMd_settle_130 ?_
  refine tq_istore (ls' := [some (vR (some o)), none, none, some (vI x3), none, none, none, some (vI (t1 + t0))]) dMd_settle_131 (Nat.le_of_ble_eq_true rfl) rfl ?_
  refine tq_aload_n dMd_settle_133 rfl rfl ?_
  refine tq_iload_n dMd_settle_134 rfl rfl ?_
  obtain ⟨f1, hw⟩ := hw
  refine te_callV mv_Md_isOrdered (ci := 13) (dc := 0) (as := [vI x3]) (rest := []) kMd_176 rfl (Nat.le_of_ble_eq_true rfl) (Nat.le_of_ble_eq_true rfl) rfl rfl rfl f1 (Nat.le_of_ble_eq_true rfl) dMd_settle_135 (s_Md_isOrdered hw) (fun _ _ hx => False.elim hx) (tk_i fun v3 h2 hw => ?_)
  refine tq_ifeq (tgt := 146) dMd_settle_138 (by decide) (fun c4 => ?_) (fun c4 => ?_)
  · have hw := hw.1 c4
    refine tq_iconst (v := (0 : Int32)) dMd_settle_146 tni_0 ?_
    exact tq_iret rfl rfl dMd_settle_147 hw
  · have hw := hw.2 c4
    refine tq_iload dMd_settle_141 rfl ?_
    refine tq_goto (tgt := 147) dMd_settle_143 (by decide) ?_
    exact tq_iret rfl rfl dMd_settle_147 hw
theorem s_Md_settle_103 {h0 : tpH} {av : List tpV} {R : Int32 → tpH → Prop} : ∀ (o : Nat) (x2 : Int32) (x3 : Int32) (x5 : Int32) (t0 : Int32) (h : tpH), w_Md_settle_103 R o x2 x3 x5 t0 h → tpR Md_settle 4 h0 av (tpOi R (fun _ _ => False)) 103 [some (vR (some o)), none, some (vI x2), some (vI x3), none, some (vI x5), none, none] [vI t0] h := by
  intro o x2 x3 x5 t0 h hw
  unfold w_Md_settle_103 at hw
  refine tq_istore (ls' := [some (vR (some o)), none, some (vI x2), some (vI x3), none, some (vI x5), none, some (vI t0)]) dMd_settle_103 (Nat.le_of_ble_eq_true rfl) rfl ?_
  refine tq_iload dMd_settle_105 rfl ?_
  refine tq_iload dMd_settle_107 rfl ?_
  refine tq_iconst (v := (-1 : Int32)) dMd_settle_109 tni_m1 ?_
  refine tq_icmpeq (tgt := 129) dMd_settle_110 (by decide) (fun c1 => ?_) (fun c1 => ?_)
  · have hw := hw.1 c1
    refine tq_iconst (v := (0 : Int32)) dMd_settle_129 tni_0 ?_
    refine tpR.fo (ls' := [some (vR (some o)), none, none, some (vI x3), none, none, none, none]) ?_ (And.intro rfl (And.intro rfl trivial))
    exact s_Md_settle_130 _ _ _ _ _ hw
  · have hw := hw.2 c1
    refine tq_aload_n dMd_settle_113 rfl rfl ?_
    refine tq_bipush (v := (41 : Int32)) dMd_settle_114 tnb_41 ?_
    refine tq_iload_n dMd_settle_116 rfl rfl ?_
    obtain ⟨f2, hw⟩ := hw
    refine te_callV mv_Md_nextIn (ci := 13) (dc := 0) (as := [vI (41 : Int32), vI x2]) (rest := [vI t0]) kMd_169 rfl (Nat.le_of_ble_eq_true rfl) (Nat.le_of_ble_eq_true rfl) rfl rfl rfl f2 (Nat.le_of_ble_eq_true rfl) dMd_settle_117 (s_Md_nextIn hw) (fun _ _ hx => False.elim hx) (tk_i fun v4 h3 hw => ?_)
    refine tq_iload dMd_settle_120 rfl ?_
    refine tq_icmpeq (tgt := 129) dMd_settle_122 (by decide) (fun c5 => ?_) (fun c5 => ?_)
    · have hw := hw.1 c5
      refine tq_iconst (v := (0 : Int32)) dMd_settle_129 tni_0 ?_
      refine tpR.fo (ls' := [some (vR (some o)), none, none, some (vI x3), none, none, none, none]) ?_ (And.intro rfl (And.intro rfl trivial))
      exact s_Md_settle_130 _ _ _ _ _ hw
    · have hw := hw.2 c5
      refine tq_iconst (v := (1 : Int32)) dMd_settle_125 tni_1 ?_
      refine tq_goto (tgt := 130) dMd_settle_126 (by decide) ?_
      refine tpR.fo (ls' := [some (vR (some o)), none, none, some (vI x3), none, none, none, none]) ?_ (And.intro rfl (And.intro rfl trivial))
      exact s_Md_settle_130 _ _ _ _ _ hw
theorem s_Md_settle_66 {h0 : tpH} {av : List tpV} {R : Int32 → tpH → Prop} : ∀ (o : Nat) (x2 : Int32) (x3 : Int32) (x4 : Int32) (x5 : Int32) (t0 : Int32) (h : tpH), w_Md_settle_66 R o x2 x3 x4 x5 t0 h → tpR Md_settle 4 h0 av (tpOi R (fun _ _ => False)) 66 [some (vR (some o)), none, some (vI x2), some (vI x3), some (vI x4), some (vI x5), none, none] [vI t0] h := by
  intro o x2 x3 x4 x5 t0 h hw
  unfold w_Md_settle_66 at hw
  refine tq_istore (ls' := [some (vR (some o)), none, some (vI x2), some (vI x3), some (vI x4), some (vI x5), some (vI t0), none]) dMd_settle_66 (Nat.le_of_ble_eq_true rfl) rfl ?_
  refine tq_aload_n dMd_settle_68 rfl rfl ?_
  refine tq_bipush (v := (41 : Int32)) dMd_settle_69 tnb_41 ?_
  refine tq_iload_n dMd_settle_71 rfl rfl ?_
  refine tq_iload_n dMd_settle_72 rfl rfl ?_
  refine tq_iload dMd_settle_73 rfl ?_
  obtain ⟨f1, hw⟩ := hw
  refine te_callV mv_Md_hang (ci := 13) (dc := 1) (as := [vI (41 : Int32), vI x2, vI x3, vI t0]) (rest := []) kMd_222 rfl (Nat.le_of_ble_eq_true rfl) (Nat.le_of_ble_eq_true rfl) rfl rfl rfl f1 (Nat.le_of_ble_eq_true rfl) dMd_settle_75 (s_Md_hang hw) (fun _ _ hx => False.elim hx) (tk_v fun h2 hw => ?_)
  refine tq_iload dMd_settle_78 rfl ?_
  refine tq_iconst (v := (-1 : Int32)) dMd_settle_80 tni_m1 ?_
  refine tq_icmpeq (tgt := 102) dMd_settle_81 (by decide) (fun c3 => ?_) (fun c3 => ?_)
  · have hw := hw.1 c3
    refine tq_iconst (v := (0 : Int32)) dMd_settle_102 tni_0 ?_
    refine tpR.fo (ls' := [some (vR (some o)), none, some (vI x2), some (vI x3), none, some (vI x5), none, none]) ?_ (And.intro rfl (And.intro rfl (And.intro rfl (And.intro rfl trivial))))
    exact s_Md_settle_103 _ _ _ _ _ _ hw
  · have hw := hw.2 c3
    refine tq_aload_n dMd_settle_84 rfl rfl ?_
    refine tq_bipush (v := (41 : Int32)) dMd_settle_85 tnb_41 ?_
    refine tq_iload_n dMd_settle_87 rfl rfl ?_
    refine tq_iload_n dMd_settle_88 rfl rfl ?_
    refine tq_iconst (v := (1 : Int32)) dMd_settle_89 tni_1 ?_
    obtain ⟨f4, hw⟩ := hw
    refine te_callV mv_Md_sibling (ci := 13) (dc := 1) (as := [vI (41 : Int32), vI x3, vI x2, vI (1 : Int32)]) (rest := []) kMd_182 rfl (Nat.le_of_ble_eq_true rfl) (Nat.le_of_ble_eq_true rfl) rfl rfl rfl f4 (Nat.le_of_ble_eq_true rfl) dMd_settle_90 (s_Md_sibling hw) (fun _ _ hx => False.elim hx) (tk_i fun v6 h5 hw => ?_)
    refine tq_iload dMd_settle_93 rfl ?_
    refine tq_icmpeq (tgt := 102) dMd_settle_95 (by decide) (fun c7 => ?_) (fun c7 => ?_)
    · have hw := hw.1 c7
      refine tq_iconst (v := (0 : Int32)) dMd_settle_102 tni_0 ?_
      refine tpR.fo (ls' := [some (vR (some o)), none, some (vI x2), some (vI x3), none, some (vI x5), none, none]) ?_ (And.intro rfl (And.intro rfl (And.intro rfl (And.intro rfl trivial))))
      exact s_Md_settle_103 _ _ _ _ _ _ hw
    · have hw := hw.2 c7
      refine tq_iconst (v := (1 : Int32)) dMd_settle_98 tni_1 ?_
      refine tq_goto (tgt := 103) dMd_settle_99 (by decide) ?_
      refine tpR.fo (ls' := [some (vR (some o)), none, some (vI x2), some (vI x3), none, some (vI x5), none, none]) ?_ (And.intro rfl (And.intro rfl (And.intro rfl (And.intro rfl trivial))))
      exact s_Md_settle_103 _ _ _ _ _ _ hw
theorem s_Md_settle {o : Nat} {x1 : Int32} {x2 : Int32} {h : tpH} {R : Int32 → tpH → Prop} (hw : w_Md_settle o x1 x2 h R) : tpC Md_settle 4 [vR (some o), vI x1, vI x2] h (tpOi R (fun _ _ => False)) := by
  refine tpC_of mv_Md_settle.2.2.2.1 rfl rfl (Nat.le_of_ble_eq_true rfl) ?_
  show tpR Md_settle 4 h _ _ 0 [some (vR (some o)), some (vI x1), some (vI x2), none, none, none, none, none] [] h
  unfold w_Md_settle at hw
  refine tq_aload_n dMd_settle_0 rfl rfl ?_
  obtain ⟨f1, hw⟩ := hw
  refine te_getr dMd_settle_1 fMd_46 rfl rfl f1 ?_
  refine tq_iload_n dMd_settle_4 rfl rfl ?_
  obtain ⟨a2, e3, f4, hw⟩ := hw
  obtain ⟨f5, hw⟩ := hw
  refine te_iald dMd_settle_5 e3 (Or.inl f4) f5 ?_
  refine tq_istore_n (ls' := [some (vR (some o)), some (vI x1), some (vI x2), some (vI (hI h a2 x1.toNatClampNeg)), none, none, none, none]) dMd_settle_6 rfl (Nat.le_of_ble_eq_true rfl) rfl ?_
  refine tq_aload_n dMd_settle_7 rfl rfl ?_
  refine te_getr dMd_settle_8 fMd_49 rfl rfl f1 ?_
  refine tq_iload_n dMd_settle_11 rfl rfl ?_
  obtain ⟨a6, e7, f8, hw⟩ := hw
  obtain ⟨f9, hw⟩ := hw
  refine te_iald dMd_settle_12 e7 (Or.inl f8) f9 ?_
  refine tq_istore (ls' := [some (vR (some o)), some (vI x1), some (vI x2), some (vI (hI h a2 x1.toNatClampNeg)), some (vI (hI h a6 x1.toNatClampNeg)), none, none, none]) dMd_settle_13 (Nat.le_of_ble_eq_true rfl) rfl ?_
  refine tq_aload_n dMd_settle_15 rfl rfl ?_
  refine te_getr dMd_settle_16 fMd_52 rfl rfl f1 ?_
  refine tq_iload_n dMd_settle_19 rfl rfl ?_
  obtain ⟨a10, e11, f12, hw⟩ := hw
  obtain ⟨f13, hw⟩ := hw
  refine te_iald dMd_settle_20 e11 (Or.inl f12) f13 ?_
  refine tq_istore (ls' := [some (vR (some o)), some (vI x1), some (vI x2), some (vI (hI h a2 x1.toNatClampNeg)), some (vI (hI h a6 x1.toNatClampNeg)), some (vI (hI h a10 x1.toNatClampNeg)), none, none]) dMd_settle_21 (Nat.le_of_ble_eq_true rfl) rfl ?_
  refine tq_aload_n dMd_settle_23 rfl rfl ?_
  refine tq_iload dMd_settle_24 rfl ?_
  refine tq_iload_n dMd_settle_26 rfl rfl ?_
  refine te_callV mv_Md_isChild (ci := 13) (dc := 3) (as := [vI (hI h a6 x1.toNatClampNeg), vI (hI h a2 x1.toNatClampNeg)]) (rest := []) kMd_328 rfl (Nat.le_of_ble_eq_true rfl) (Nat.le_of_ble_eq_true rfl) rfl rfl rfl f1 (Nat.le_of_ble_eq_true rfl) dMd_settle_27 (s_Md_isChild hw) (fun _ _ hx => False.elim hx) (tk_i fun v15 h14 hw => ?_)
  refine tq_ifeq (tgt := 38) dMd_settle_30 (by decide) (fun c16 => ?_) (fun c16 => ?_)
  · have hw := hw.1 c16
    refine tq_aload_n dMd_settle_38 rfl rfl ?_
    refine tq_iload dMd_settle_39 rfl ?_
    refine tq_iload_n dMd_settle_41 rfl rfl ?_
    obtain ⟨f17, hw⟩ := hw
    refine te_callV mv_Md_isChild (ci := 13) (dc := 3) (as := [vI (hI h a10 x1.toNatClampNeg), vI (hI h a2 x1.toNatClampNeg)]) (rest := []) kMd_328 rfl (Nat.le_of_ble_eq_true rfl) (Nat.le_of_ble_eq_true rfl) rfl rfl rfl f17 (Nat.le_of_ble_eq_true rfl) dMd_settle_42 (s_Md_isChild hw) (fun _ _ hx => False.elim hx) (tk_i fun v19 h18 hw => ?_)
    refine tq_ifeq (tgt := 61) dMd_settle_45 (by decide) (fun c20 => ?_) (fun c20 => ?_)
    · have hw := hw.1 c20
      refine tq_aload_n dMd_settle_61 rfl rfl ?_
      refine tq_iload_n dMd_settle_62 rfl rfl ?_
      obtain ⟨f21, hw⟩ := hw
      refine te_callV mv_Md_lastChild (ci := 13) (dc := 1) (as := [vI (hI h a2 x1.toNatClampNeg)]) (rest := []) kMd_331 rfl (Nat.le_of_ble_eq_true rfl) (Nat.le_of_ble_eq_true rfl) rfl rfl rfl f21 (Nat.le_of_ble_eq_true rfl) dMd_settle_63 (s_Md_lastChild hw) (fun _ _ hx => False.elim hx) (tk_i fun v23 h22 hw => ?_)
      refine tpR.fo (ls' := [some (vR (some o)), none, some (vI x2), some (vI (hI h a2 x1.toNatClampNeg)), some (vI (hI h a6 x1.toNatClampNeg)), some (vI (hI h a10 x1.toNatClampNeg)), none, none]) ?_ (And.intro rfl (And.intro rfl (And.intro rfl (And.intro rfl (And.intro rfl trivial)))))
      exact s_Md_settle_66 _ _ _ _ _ _ _ hw
    · have hw := hw.2 c20
      refine tq_aload_n dMd_settle_48 rfl rfl ?_
      refine tq_bipush (v := (41 : Int32)) dMd_settle_49 tnb_41 ?_
      refine tq_iload_n dMd_settle_51 rfl rfl ?_
      refine tq_iload dMd_settle_52 rfl ?_
      refine tq_iconst (v := (1 : Int32)) dMd_settle_54 tni_1 ?_
      obtain ⟨f24, hw⟩ := hw
      refine te_callV mv_Md_sibling (ci := 13) (dc := 1) (as := [vI (41 : Int32), vI (hI h a2 x1.toNatClampNeg), vI (hI h a10 x1.toNatClampNeg), vI (1 : Int32)]) (rest := []) kMd_182 rfl (Nat.le_of_ble_eq_true rfl) (Nat.le_of_ble_eq_true rfl) rfl rfl rfl f24 (Nat.le_of_ble_eq_true rfl) dMd_settle_55 (s_Md_sibling hw) (fun _ _ hx => False.elim hx) (tk_i fun v26 h25 hw => ?_)
      refine tq_goto (tgt := 66) dMd_settle_58 (by decide) ?_
      refine tpR.fo (ls' := [some (vR (some o)), none, some (vI x2), some (vI (hI h a2 x1.toNatClampNeg)), some (vI (hI h a6 x1.toNatClampNeg)), some (vI (hI h a10 x1.toNatClampNeg)), none, none]) ?_ (And.intro rfl (And.intro rfl (And.intro rfl (And.intro rfl (And.intro rfl trivial)))))
      exact s_Md_settle_66 _ _ _ _ _ _ _ hw
  · have hw := hw.2 c16
    refine tq_iload dMd_settle_33 rfl ?_
    refine tq_goto (tgt := 66) dMd_settle_35 (by decide) ?_
    refine tpR.fo (ls' := [some (vR (some o)), none, some (vI x2), some (vI (hI h a2 x1.toNatClampNeg)), some (vI (hI h a6 x1.toNatClampNeg)), some (vI (hI h a10 x1.toNatClampNeg)), none, none]) ?_ (And.intro rfl (And.intro rfl (And.intro rfl (And.intro rfl (And.intro rfl trivial)))))
    exact s_Md_settle_66 _ _ _ _ _ _ _ hw
/-! TModel.does -/
theorem dMd_does_0 : decode (mB Md_does) 0 = .ok (.aload_n 0, 1) := by decide +kernel
theorem dMd_does_1 : decode (mB Md_does) 1 = .ok (.getfield 34, 3) := by decide +kernel
theorem dMd_does_4 : decode (mB Md_does) 4 = .ok (.iload_n 1, 1) := by decide +kernel
theorem dMd_does_5 : decode (mB Md_does) 5 = .ok (.iaload, 1) := by decide +kernel
theorem dMd_does_6 : decode (mB Md_does) 6 = .ok (.istore_n 2, 1) := by decide +kernel
theorem dMd_does_7 : decode (mB Md_does) 7 = .ok (.aload_n 0, 1) := by decide +kernel
theorem dMd_does_8 : decode (mB Md_does) 8 = .ok (.getfield 37, 3) := by decide +kernel
theorem dMd_does_11 : decode (mB Md_does) 11 = .ok (.iload_n 1, 1) := by decide +kernel
theorem dMd_does_12 : decode (mB Md_does) 12 = .ok (.iaload, 1) := by decide +kernel
theorem dMd_does_13 : decode (mB Md_does) 13 = .ok (.istore_n 3, 1) := by decide +kernel
theorem dMd_does_14 : decode (mB Md_does) 14 = .ok (.aload_n 0, 1) := by decide +kernel
theorem dMd_does_15 : decode (mB Md_does) 15 = .ok (.getfield 46, 3) := by decide +kernel
theorem dMd_does_18 : decode (mB Md_does) 18 = .ok (.iload_n 1, 1) := by decide +kernel
theorem dMd_does_19 : decode (mB Md_does) 19 = .ok (.iaload, 1) := by decide +kernel
theorem dMd_does_20 : decode (mB Md_does) 20 = .ok (.istore 4, 2) := by decide +kernel
theorem dMd_does_22 : decode (mB Md_does) 22 = .ok (.aload_n 0, 1) := by decide +kernel
theorem dMd_does_23 : decode (mB Md_does) 23 = .ok (.bipush 41, 2) := by decide +kernel
theorem dMd_does_25 : decode (mB Md_does) 25 = .ok (.iload_n 3, 1) := by decide +kernel
theorem dMd_does_26 : decode (mB Md_does) 26 = .ok (.invokevirtual 212, 3) := by decide +kernel
theorem dMd_does_29 : decode (mB Md_does) 29 = .ok (.istore 5, 2) := by decide +kernel
theorem dMd_does_31 : decode (mB Md_does) 31 = .ok (.iload_n 2, 1) := by decide +kernel
theorem dMd_does_32 : decode (mB Md_does) 32 = .ok (.iconst 1, 1) := by decide +kernel
theorem dMd_does_33 : decode (mB Md_does) 33 = .ok (.if_icmp .ne 56, 3) := by decide +kernel
theorem dMd_does_36 : decode (mB Md_does) 36 = .ok (.iload 5, 2) := by decide +kernel
theorem dMd_does_38 : decode (mB Md_does) 38 = .ok (.ifCond .ne 14, 3) := by decide +kernel
theorem dMd_does_41 : decode (mB Md_does) 41 = .ok (.aload_n 0, 1) := by decide +kernel
theorem dMd_does_42 : decode (mB Md_does) 42 = .ok (.bipush 41, 2) := by decide +kernel
theorem dMd_does_44 : decode (mB Md_does) 44 = .ok (.iload 4, 2) := by decide +kernel
theorem dMd_does_46 : decode (mB Md_does) 46 = .ok (.invokevirtual 212, 3) := by decide +kernel
theorem dMd_does_49 : decode (mB Md_does) 49 = .ok (.ifCond .ne 6, 3) := by decide +kernel
theorem dMd_does_52 : decode (mB Md_does) 52 = .ok (.bipush 10, 2) := by decide +kernel
theorem dMd_does_54 : decode (mB Md_does) 54 = .ok (.ireturn, 1) := by decide +kernel
theorem dMd_does_55 : decode (mB Md_does) 55 = .ok (.aload_n 0, 1) := by decide +kernel
theorem dMd_does_56 : decode (mB Md_does) 56 = .ok (.getfield 22, 3) := by decide +kernel
theorem dMd_does_59 : decode (mB Md_does) 59 = .ok (.sipush 12300, 3) := by decide +kernel
theorem dMd_does_62 : decode (mB Md_does) 62 = .ok (.iload_n 3, 1) := by decide +kernel
theorem dMd_does_63 : decode (mB Md_does) 63 = .ok (.iadd, 1) := by decide +kernel
theorem dMd_does_64 : decode (mB Md_does) 64 = .ok (.aload_n 0, 1) := by decide +kernel
theorem dMd_does_65 : decode (mB Md_does) 65 = .ok (.getfield 43, 3) := by decide +kernel
theorem dMd_does_68 : decode (mB Md_does) 68 = .ok (.iload_n 1, 1) := by decide +kernel
theorem dMd_does_69 : decode (mB Md_does) 69 = .ok (.iaload, 1) := by decide +kernel
theorem dMd_does_70 : decode (mB Md_does) 70 = .ok (.iastore, 1) := by decide +kernel
theorem dMd_does_71 : decode (mB Md_does) 71 = .ok (.aload_n 0, 1) := by decide +kernel
theorem dMd_does_72 : decode (mB Md_does) 72 = .ok (.getfield 25, 3) := by decide +kernel
theorem dMd_does_75 : decode (mB Md_does) 75 = .ok (.sipush 12300, 3) := by decide +kernel
theorem dMd_does_78 : decode (mB Md_does) 78 = .ok (.iload_n 3, 1) := by decide +kernel
theorem dMd_does_79 : decode (mB Md_does) 79 = .ok (.iadd, 1) := by decide +kernel
theorem dMd_does_80 : decode (mB Md_does) 80 = .ok (.iconst (-1), 1) := by decide +kernel
theorem dMd_does_81 : decode (mB Md_does) 81 = .ok (.iastore, 1) := by decide +kernel
theorem dMd_does_82 : decode (mB Md_does) 82 = .ok (.aload_n 0, 1) := by decide +kernel
theorem dMd_does_83 : decode (mB Md_does) 83 = .ok (.iload_n 1, 1) := by decide +kernel
theorem dMd_does_84 : decode (mB Md_does) 84 = .ok (.iload_n 3, 1) := by decide +kernel
theorem dMd_does_85 : decode (mB Md_does) 85 = .ok (.invokevirtual 334, 3) := by decide +kernel
theorem dMd_does_88 : decode (mB Md_does) 88 = .ok (.ireturn, 1) := by decide +kernel
theorem dMd_does_89 : decode (mB Md_does) 89 = .ok (.iload 5, 2) := by decide +kernel
theorem dMd_does_91 : decode (mB Md_does) 91 = .ok (.ifCond .ne 6, 3) := by decide +kernel
theorem dMd_does_94 : decode (mB Md_does) 94 = .ok (.bipush 10, 2) := by decide +kernel
theorem dMd_does_96 : decode (mB Md_does) 96 = .ok (.ireturn, 1) := by decide +kernel
theorem dMd_does_97 : decode (mB Md_does) 97 = .ok (.iload_n 2, 1) := by decide +kernel
theorem dMd_does_98 : decode (mB Md_does) 98 = .ok (.ifCond .ne 45, 3) := by decide +kernel
theorem dMd_does_101 : decode (mB Md_does) 101 = .ok (.aload_n 0, 1) := by decide +kernel
theorem dMd_does_102 : decode (mB Md_does) 102 = .ok (.bipush 41, 2) := by decide +kernel
theorem dMd_does_104 : decode (mB Md_does) 104 = .ok (.iload_n 3, 1) := by decide +kernel
theorem dMd_does_105 : decode (mB Md_does) 105 = .ok (.invokevirtual 226, 3) := by decide +kernel
theorem dMd_does_108 : decode (mB Md_does) 108 = .ok (.aload_n 0, 1) := by decide +kernel
theorem dMd_does_109 : decode (mB Md_does) 109 = .ok (.getfield 40, 3) := by decide +kernel
theorem dMd_does_112 : decode (mB Md_does) 112 = .ok (.iload_n 1, 1) := by decide +kernel
theorem dMd_does_113 : decode (mB Md_does) 113 = .ok (.iaload, 1) := by decide +kernel
theorem dMd_does_114 : decode (mB Md_does) 114 = .ok (.if_icmp .ne 7, 3) := by decide +kernel
theorem dMd_does_117 : decode (mB Md_does) 117 = .ok (.iconst 0, 1) := by decide +kernel
theorem dMd_does_118 : decode (mB Md_does) 118 = .ok (.goto 4, 3) := by decide +kernel
theorem dMd_does_121 : decode (mB Md_does) 121 = .ok (.iconst 1, 1) := by decide +kernel
theorem dMd_does_122 : decode (mB Md_does) 122 = .ok (.istore 6, 2) := by decide +kernel
theorem dMd_does_124 : decode (mB Md_does) 124 = .ok (.aload_n 0, 1) := by decide +kernel
theorem dMd_does_125 : decode (mB Md_does) 125 = .ok (.getfield 22, 3) := by decide +kernel
theorem dMd_does_128 : decode (mB Md_does) 128 = .ok (.sipush 12300, 3) := by decide +kernel
theorem dMd_does_131 : decode (mB Md_does) 131 = .ok (.iload_n 3, 1) := by decide +kernel
theorem dMd_does_132 : decode (mB Md_does) 132 = .ok (.iadd, 1) := by decide +kernel
theorem dMd_does_133 : decode (mB Md_does) 133 = .ok (.aload_n 0, 1) := by decide +kernel
theorem dMd_does_134 : decode (mB Md_does) 134 = .ok (.getfield 43, 3) := by decide +kernel
theorem dMd_does_137 : decode (mB Md_does) 137 = .ok (.iload_n 1, 1) := by decide +kernel
theorem dMd_does_138 : decode (mB Md_does) 138 = .ok (.iaload, 1) := by decide +kernel
theorem dMd_does_139 : decode (mB Md_does) 139 = .ok (.iastore, 1) := by decide +kernel
theorem dMd_does_140 : decode (mB Md_does) 140 = .ok (.iload 6, 2) := by decide +kernel
theorem dMd_does_142 : decode (mB Md_does) 142 = .ok (.ireturn, 1) := by decide +kernel
theorem dMd_does_143 : decode (mB Md_does) 143 = .ok (.iload_n 2, 1) := by decide +kernel
theorem dMd_does_144 : decode (mB Md_does) 144 = .ok (.iconst 3, 1) := by decide +kernel
theorem dMd_does_145 : decode (mB Md_does) 145 = .ok (.if_icmp .ne 68, 3) := by decide +kernel
theorem dMd_does_148 : decode (mB Md_does) 148 = .ok (.aload_n 0, 1) := by decide +kernel
theorem dMd_does_149 : decode (mB Md_does) 149 = .ok (.bipush 41, 2) := by decide +kernel
theorem dMd_does_151 : decode (mB Md_does) 151 = .ok (.iload_n 3, 1) := by decide +kernel
theorem dMd_does_152 : decode (mB Md_does) 152 = .ok (.invokevirtual 173, 3) := by decide +kernel
theorem dMd_does_155 : decode (mB Md_does) 155 = .ok (.iconst (-1), 1) := by decide +kernel
theorem dMd_does_156 : decode (mB Md_does) 156 = .ok (.if_icmp .ne 18, 3) := by decide +kernel
theorem dMd_does_159 : decode (mB Md_does) 159 = .ok (.iload_n 3, 1) := by decide +kernel
theorem dMd_does_160 : decode (mB Md_does) 160 = .ok (.aload_n 0, 1) := by decide +kernel
theorem dMd_does_161 : decode (mB Md_does) 161 = .ok (.getfield 16, 3) := by decide +kernel
theorem dMd_does_164 : decode (mB Md_does) 164 = .ok (.bipush 41, 2) := by decide +kernel
theorem dMd_does_166 : decode (mB Md_does) 166 = .ok (.iaload, 1) := by decide +kernel
theorem dMd_does_167 : decode (mB Md_does) 167 = .ok (.if_icmp .eq 7, 3) := by decide +kernel
theorem dMd_does_170 : decode (mB Md_does) 170 = .ok (.iconst 1, 1) := by decide +kernel
theorem dMd_does_171 : decode (mB Md_does) 171 = .ok (.goto 4, 3) := by decide +kernel
theorem dMd_does_174 : decode (mB Md_does) 174 = .ok (.iconst 0, 1) := by decide +kernel
theorem dMd_does_175 : decode (mB Md_does) 175 = .ok (.istore 6, 2) := by decide +kernel
theorem dMd_does_177 : decode (mB Md_does) 177 = .ok (.iload 6, 2) := by decide +kernel
theorem dMd_does_179 : decode (mB Md_does) 179 = .ok (.ifCond .eq 22, 3) := by decide +kernel
theorem dMd_does_182 : decode (mB Md_does) 182 = .ok (.aload_n 0, 1) := by decide +kernel
theorem dMd_does_183 : decode (mB Md_does) 183 = .ok (.bipush 41, 2) := by decide +kernel
theorem dMd_does_185 : decode (mB Md_does) 185 = .ok (.iload_n 3, 1) := by decide +kernel
theorem dMd_does_186 : decode (mB Md_does) 186 = .ok (.invokevirtual 232, 3) := by decide +kernel
theorem dMd_does_189 : decode (mB Md_does) 189 = .ok (.aload_n 0, 1) := by decide +kernel
theorem dMd_does_190 : decode (mB Md_does) 190 = .ok (.getfield 19, 3) := by decide +kernel
theorem dMd_does_193 : decode (mB Md_does) 193 = .ok (.sipush 12300, 3) := by decide +kernel
theorem dMd_does_196 : decode (mB Md_does) 196 = .ok (.iload_n 3, 1) := by decide +kernel
theorem dMd_does_197 : decode (mB Md_does) 197 = .ok (.iadd, 1) := by decide +kernel
theorem dMd_does_198 : decode (mB Md_does) 198 = .ok (.bipush (-2), 2) := by decide +kernel
theorem dMd_does_200 : decode (mB Md_does) 200 = .ok (.iastore, 1) := by decide +kernel
theorem dMd_does_201 : decode (mB Md_does) 201 = .ok (.iload 6, 2) := by decide +kernel
theorem dMd_does_203 : decode (mB Md_does) 203 = .ok (.ifCond .eq 7, 3) := by decide +kernel
theorem dMd_does_206 : decode (mB Md_does) 206 = .ok (.iconst 0, 1) := by decide +kernel
theorem dMd_does_207 : decode (mB Md_does) 207 = .ok (.goto 5, 3) := by decide +kernel
theorem dMd_does_210 : decode (mB Md_does) 210 = .ok (.bipush 10, 2) := by decide +kernel
theorem dMd_does_212 : decode (mB Md_does) 212 = .ok (.ireturn, 1) := by decide +kernel
theorem dMd_does_213 : decode (mB Md_does) 213 = .ok (.aload_n 0, 1) := by decide +kernel
theorem dMd_does_214 : decode (mB Md_does) 214 = .ok (.bipush 41, 2) := by decide +kernel
theorem dMd_does_216 : decode (mB Md_does) 216 = .ok (.iload 4, 2) := by decide +kernel
theorem dMd_does_218 : decode (mB Md_does) 218 = .ok (.invokevirtual 212, 3) := by decide +kernel
theorem dMd_does_221 : decode (mB Md_does) 221 = .ok (.ifCond .eq 15, 3) := by decide +kernel
theorem dMd_does_224 : decode (mB Md_does) 224 = .ok (.aload_n 0, 1) := by decide +kernel
theorem dMd_does_225 : decode (mB Md_does) 225 = .ok (.bipush 41, 2) := by decide +kernel
theorem dMd_does_227 : decode (mB Md_does) 227 = .ok (.iload 4, 2) := by decide +kernel
theorem dMd_does_229 : decode (mB Md_does) 229 = .ok (.iload_n 3, 1) := by decide +kernel
theorem dMd_does_230 : decode (mB Md_does) 230 = .ok (.invokevirtual 229, 3) := by decide +kernel
theorem dMd_does_233 : decode (mB Md_does) 233 = .ok (.ifCond .eq 6, 3) := by decide +kernel
theorem dMd_does_236 : decode (mB Md_does) 236 = .ok (.bipush 10, 2) := by decide +kernel
theorem dMd_does_238 : decode (mB Md_does) 238 = .ok (.ireturn, 1) := by decide +kernel
theorem dMd_does_239 : decode (mB Md_does) 239 = .ok (.aload_n 0, 1) := by decide +kernel
theorem dMd_does_240 : decode (mB Md_does) 240 = .ok (.bipush 41, 2) := by decide +kernel
theorem dMd_does_242 : decode (mB Md_does) 242 = .ok (.iload_n 3, 1) := by decide +kernel
theorem dMd_does_243 : decode (mB Md_does) 243 = .ok (.invokevirtual 232, 3) := by decide +kernel
theorem dMd_does_246 : decode (mB Md_does) 246 = .ok (.aload_n 0, 1) := by decide +kernel
theorem dMd_does_247 : decode (mB Md_does) 247 = .ok (.getfield 19, 3) := by decide +kernel
theorem dMd_does_250 : decode (mB Md_does) 250 = .ok (.sipush 12300, 3) := by decide +kernel
theorem dMd_does_253 : decode (mB Md_does) 253 = .ok (.iload_n 3, 1) := by decide +kernel
theorem dMd_does_254 : decode (mB Md_does) 254 = .ok (.iadd, 1) := by decide +kernel
theorem dMd_does_255 : decode (mB Md_does) 255 = .ok (.bipush (-2), 2) := by decide +kernel
theorem dMd_does_257 : decode (mB Md_does) 257 = .ok (.iastore, 1) := by decide +kernel
theorem dMd_does_258 : decode (mB Md_does) 258 = .ok (.aload_n 0, 1) := by decide +kernel
theorem dMd_does_259 : decode (mB Md_does) 259 = .ok (.iload_n 1, 1) := by decide +kernel
theorem dMd_does_260 : decode (mB Md_does) 260 = .ok (.iload_n 3, 1) := by decide +kernel
theorem dMd_does_261 : decode (mB Md_does) 261 = .ok (.invokevirtual 334, 3) := by decide +kernel
theorem dMd_does_264 : decode (mB Md_does) 264 = .ok (.ireturn, 1) := by decide +kernel
def w_Md_does_122 (R : Int32 → tpH → Prop) (o : Nat) (x1 : Int32) (x3 : Int32) (t0 : Int32) (h : tpH) : Prop :=
  hT h o = 14 ∧ (∃ a2, (hR h o 15) = some a2 ∧ hT h a2 = 15 ∧ (vp_in x1 (hL h a2) ∧ (∃ a6, (hR h o 7) = some a6 ∧ hT h a6 = 15 ∧ (vp_in ((12300 : Int32) + x3) (hL h a6) ∧ (∀ h10, h10 = sI h a6 ((12300 : Int32) + x3).toNatClampNeg (hI h a2 x1.toNatClampNeg) → (R t0 h10))))))
def w_Md_does_201 (R : Int32 → tpH → Prop) (x6 : Int32) (h : tpH) : Prop :=
  (x6 = 0 → (R (10 : Int32) h)) ∧ (¬ x6 = 0 → (R (0 : Int32) h))
def w_Md_does_175 (R : Int32 → tpH → Prop) (o : Nat) (x3 : Int32) (t0 : Int32) (h : tpH) : Prop :=
  (t0 = 0 → (w_Md_does_201 R t0 h)) ∧ (¬ t0 = 0 → (hT h o = 14 ∧ (w_Md_unhang o (41 : Int32) x3 h (fun h3 => hT h3 o = 14 ∧ (∃ a5, (hR h3 o 6) = some a5 ∧ hT h3 a5 = 15 ∧ (vp_in ((12300 : Int32) + x3) (hL h3 a5) ∧ (∀ h9, h9 = sI h3 a5 ((12300 : Int32) + x3).toNatClampNeg (-2 : Int32) → (w_Md_does_201 R t0 h9))))))))
def w_Md_does (o : Nat) (x1 : Int32) (h : tpH) (R : Int32 → tpH → Prop) : Prop :=
  hT h o = 14 ∧ (∃ a2, (hR h o 12) = some a2 ∧ hT h a2 = 15 ∧ (vp_in x1 (hL h a2) ∧ (∃ a6, (hR h o 13) = some a6 ∧ hT h a6 = 15 ∧ (vp_in x1 (hL h a6) ∧ (∃ a10, (hR h o 16) = some a10 ∧ hT h a10 = 15 ∧ (vp_in x1 (hL h a10) ∧ (w_Md_has o (41 : Int32) (hI h a6 x1.toNatClampNeg) h (fun v15 h14 => (¬ (hI h a2 x1.toNatClampNeg) = (1 : Int32) → ((¬ v15 = 0 → ((¬ (hI h a2 x1.toNatClampNeg) = 0 → ((¬ (hI h a2 x1.toNatClampNeg) = (3 : Int32) → (hT h14 o = 14 ∧ (w_Md_has o (41 : Int32) (hI h a10 x1.toNatClampNeg) h14 (fun v22 h21 => (v22 = 0 → (R (10 : Int32) h21)) ∧ (¬ v22 = 0 → (hT h21 o = 14 ∧ (w_Md_isWithin o (41 : Int32) (hI h a10 x1.toNatClampNeg) (hI h a6 x1.toNatClampNeg) h21 (fun v26 h25 => (v26 = 0 → (hT h25 o = 14 ∧ (w_Md_unhang o (41 : Int32) (hI h a6 x1.toNatClampNeg) h25 (fun h29 => hT h29 o = 14 ∧ (∃ a31, (hR h29 o 6) = some a31 ∧ hT h29 a31 = 15 ∧ (vp_in ((12300 : Int32) + (hI h a6 x1.toNatClampNeg)) (hL h29 a31) ∧ (∀ h35, h35 = sI h29 a31 ((12300 : Int32) + (hI h a6 x1.toNatClampNeg)).toNatClampNeg (-2 : Int32) → (w_Md_settle o x1 (hI h a6 x1.toNatClampNeg) h35 (fun v38 h37 => R v38 h37))))))))) ∧ (¬ v26 = 0 → (R (10 : Int32) h25)))))))))) ∧ ((hI h a2 x1.toNatClampNeg) = (3 : Int32) → (hT h14 o = 14 ∧ (w_Md_firstIn o (41 : Int32) (hI h a6 x1.toNatClampNeg) h14 (fun v41 h40 => (¬ v41 = (-1 : Int32) → (w_Md_does_175 R o (hI h a6 x1.toNatClampNeg) (0 : Int32) h40)) ∧ (v41 = (-1 : Int32) → (hT h40 o = 14 ∧ (∃ a44, (hR h40 o 5) = some a44 ∧ hT h40 a44 = 15 ∧ (vp_in (41 : Int32) (hL h40 a44) ∧ (((hI h a6 x1.toNatClampNeg) = (hI h40 a44 (41 : Int32).toNatClampNeg) → (w_Md_does_175 R o (hI h a6 x1.toNatClampNeg) (0 : Int32) h40)) ∧ (¬ (hI h a6 x1.toNatClampNeg) = (hI h40 a44 (41 : Int32).toNatClampNeg) → (w_Md_does_175 R o (hI h a6 x1.toNatClampNeg) (1 : Int32) h40))))))))))))) ∧ ((hI h a2 x1.toNatClampNeg) = 0 → (hT h14 o = 14 ∧ (w_Md_valueIn o (41 : Int32) (hI h a6 x1.toNatClampNeg) h14 (fun v51 h50 => hT h50 o = 14 ∧ (∃ a53, (hR h50 o 14) = some a53 ∧ hT h50 a53 = 15 ∧ (vp_in x1 (hL h50 a53) ∧ ((¬ v51 = (hI h50 a53 x1.toNatClampNeg) → (w_Md_does_122 R o x1 (hI h a6 x1.toNatClampNeg) (1 : Int32) h50)) ∧ (v51 = (hI h50 a53 x1.toNatClampNeg) → (w_Md_does_122 R o x1 (hI h a6 x1.toNatClampNeg) (0 : Int32) h50))))))))))) ∧ (v15 = 0 → (R (10 : Int32) h14)))) ∧ ((hI h a2 x1.toNatClampNeg) = (1 : Int32) → ((¬ v15 = 0 → (R (10 : Int32) h14)) ∧ (v15 = 0 → (hT h14 o = 14 ∧ (w_Md_has o (41 : Int32) (hI h a10 x1.toNatClampNeg) h14 (fun v61 h60 => (¬ v61 = 0 → (hT h60 o = 14 ∧ (∃ a64, (hR h60 o 15) = some a64 ∧ hT h60 a64 = 15 ∧ (vp_in x1 (hL h60 a64) ∧ (∃ a68, (hR h60 o 7) = some a68 ∧ hT h60 a68 = 15 ∧ (vp_in ((12300 : Int32) + (hI h a6 x1.toNatClampNeg)) (hL h60 a68) ∧ (∀ h72, h72 = sI h60 a68 ((12300 : Int32) + (hI h a6 x1.toNatClampNeg)).toNatClampNeg (hI h60 a64 x1.toNatClampNeg) → (∃ a74, (hR h72 o 8) = some a74 ∧ hT h72 a74 = 15 ∧ (vp_in ((12300 : Int32) + (hI h a6 x1.toNatClampNeg)) (hL h72 a74) ∧ (∀ h78, h78 = sI h72 a74 ((12300 : Int32) + (hI h a6 x1.toNatClampNeg)).toNatClampNeg (-1 : Int32) → (w_Md_settle o x1 (hI h a6 x1.toNatClampNeg) h78 (fun v81 h80 => R v81 h80)))))))))))) ∧ (v61 = 0 → (R (10 : Int32) h60))))))))))))))))
theorem s_Md_does_122 {h0 : tpH} {av : List tpV} {R : Int32 → tpH → Prop} : ∀ (o : Nat) (x1 : Int32) (x3 : Int32) (t0 : Int32) (h : tpH), w_Md_does_122 R o x1 x3 t0 h → tpR Md_does 5 h0 av (tpOi R (fun _ _ => False)) 122 [some (vR (some o)), some (vI x1), none, some (vI x3), none, none, none] [vI t0] h := by
  intro o x1 x3 t0 h hw
  unfold w_Md_does_122 at hw
  refine tq_istore (ls' := [some (vR (some o)), some (vI x1), none, some (vI x3), none, none, some (vI t0)]) dMd_does_122 (Nat.le_of_ble_eq_true rfl) rfl ?_
  refine tq_aload_n dMd_does_124 rfl rfl ?_
  obtain ⟨f1, hw⟩ := hw
  refine te_getr dMd_does_125 fMd_22 rfl rfl f1 ?_
  refine tq_sipush (v := (12300 : Int32)) dMd_does_128 tns_12300 ?_
  refine tq_iload_n dMd_does_131 rfl rfl ?_
  refine tq_iadd dMd_does_132 ?_
  refine tq_aload_n dMd_does_133 rfl rfl ?_
  refine te_getr dMd_does_134 fMd_43 rfl rfl f1 ?_
  refine tq_iload_n dMd_does_137 rfl rfl ?_
  obtain ⟨a2, e3, f4, hw⟩ := hw
  obtain ⟨f5, hw⟩ := hw
  refine te_iald dMd_does_138 e3 (Or.inl f4) f5 ?_
  obtain ⟨a6, e7, f8, hw⟩ := hw
  obtain ⟨f9, hw⟩ := hw
  refine te_iast dMd_does_139 e7 f8 f9 (fun h10 e11 => ?_)
  have hw := hw h10 e11
  refine tq_iload dMd_does_140 rfl ?_
  exact tq_iret rfl rfl dMd_does_142 hw
theorem s_Md_does_201 {h0 : tpH} {av : List tpV} {R : Int32 → tpH → Prop} : ∀ (x6 : Int32) (h : tpH), w_Md_does_201 R x6 h → tpR Md_does 5 h0 av (tpOi R (fun _ _ => False)) 201 [none, none, none, none, none, none, some (vI x6)] [] h := by
  intro x6 h hw
  unfold w_Md_does_201 at hw
  refine tq_iload dMd_does_201 rfl ?_
  refine tq_ifeq (tgt := 210) dMd_does_203 (by decide) (fun c1 => ?_) (fun c1 => ?_)
  · have hw := hw.1 c1
    refine tq_bipush (v := (10 : Int32)) dMd_does_210 tnb_10 ?_
    exact tq_iret rfl rfl dMd_does_212 hw
  · have hw := hw.2 c1
    refine tq_iconst (v := (0 : Int32)) dMd_does_206 tni_0 ?_
    refine tq_goto (tgt := 212) dMd_does_207 (by decide) ?_
    exact tq_iret rfl rfl dMd_does_212 hw
theorem s_Md_does_175 {h0 : tpH} {av : List tpV} {R : Int32 → tpH → Prop} : ∀ (o : Nat) (x3 : Int32) (t0 : Int32) (h : tpH), w_Md_does_175 R o x3 t0 h → tpR Md_does 5 h0 av (tpOi R (fun _ _ => False)) 175 [some (vR (some o)), none, none, some (vI x3), none, none, none] [vI t0] h := by
  intro o x3 t0 h hw
  unfold w_Md_does_175 at hw
  refine tq_istore (ls' := [some (vR (some o)), none, none, some (vI x3), none, none, some (vI t0)]) dMd_does_175 (Nat.le_of_ble_eq_true rfl) rfl ?_
  refine tq_iload dMd_does_177 rfl ?_
  refine tq_ifeq (tgt := 201) dMd_does_179 (by decide) (fun c1 => ?_) (fun c1 => ?_)
  · have hw := hw.1 c1
    refine tpR.fo (ls' := [none, none, none, none, none, none, some (vI t0)]) ?_ (And.intro rfl trivial)
    exact s_Md_does_201 _ _ hw
  · have hw := hw.2 c1
    refine tq_aload_n dMd_does_182 rfl rfl ?_
    refine tq_bipush (v := (41 : Int32)) dMd_does_183 tnb_41 ?_
    refine tq_iload_n dMd_does_185 rfl rfl ?_
    obtain ⟨f2, hw⟩ := hw
    refine te_callV mv_Md_unhang (ci := 13) (dc := 2) (as := [vI (41 : Int32), vI x3]) (rest := []) kMd_232 rfl (Nat.le_of_ble_eq_true rfl) (Nat.le_of_ble_eq_true rfl) rfl rfl rfl f2 (Nat.le_of_ble_eq_true rfl) dMd_does_186 (s_Md_unhang hw) (fun _ _ hx => False.elim hx) (tk_v fun h3 hw => ?_)
    refine tq_aload_n dMd_does_189 rfl rfl ?_
    obtain ⟨f4, hw⟩ := hw
    refine te_getr dMd_does_190 fMd_19 rfl rfl f4 ?_
    refine tq_sipush (v := (12300 : Int32)) dMd_does_193 tns_12300 ?_
    refine tq_iload_n dMd_does_196 rfl rfl ?_
    refine tq_iadd dMd_does_197 ?_
    refine tq_bipush (v := (-2 : Int32)) dMd_does_198 tnb_m2 ?_
    obtain ⟨a5, e6, f7, hw⟩ := hw
    obtain ⟨f8, hw⟩ := hw
    refine te_iast dMd_does_200 e6 f7 f8 (fun h9 e10 => ?_)
    have hw := hw h9 e10
    refine tpR.fo (ls' := [none, none, none, none, none, none, some (vI t0)]) ?_ (And.intro rfl trivial)
    exact s_Md_does_201 _ _ hw
theorem s_Md_does {o : Nat} {x1 : Int32} {h : tpH} {R : Int32 → tpH → Prop} (hw : w_Md_does o x1 h R) : tpC Md_does 5 [vR (some o), vI x1] h (tpOi R (fun _ _ => False)) := by
  refine tpC_of mv_Md_does.2.2.2.1 rfl rfl (Nat.le_of_ble_eq_true rfl) ?_
  show tpR Md_does 5 h _ _ 0 [some (vR (some o)), some (vI x1), none, none, none, none, none] [] h
  unfold w_Md_does at hw
  refine tq_aload_n dMd_does_0 rfl rfl ?_
  obtain ⟨f1, hw⟩ := hw
  refine te_getr dMd_does_1 fMd_34 rfl rfl f1 ?_
  refine tq_iload_n dMd_does_4 rfl rfl ?_
  obtain ⟨a2, e3, f4, hw⟩ := hw
  obtain ⟨f5, hw⟩ := hw
  refine te_iald dMd_does_5 e3 (Or.inl f4) f5 ?_
  refine tq_istore_n (ls' := [some (vR (some o)), some (vI x1), some (vI (hI h a2 x1.toNatClampNeg)), none, none, none, none]) dMd_does_6 rfl (Nat.le_of_ble_eq_true rfl) rfl ?_
  refine tq_aload_n dMd_does_7 rfl rfl ?_
  refine te_getr dMd_does_8 fMd_37 rfl rfl f1 ?_
  refine tq_iload_n dMd_does_11 rfl rfl ?_
  obtain ⟨a6, e7, f8, hw⟩ := hw
  obtain ⟨f9, hw⟩ := hw
  refine te_iald dMd_does_12 e7 (Or.inl f8) f9 ?_
  refine tq_istore_n (ls' := [some (vR (some o)), some (vI x1), some (vI (hI h a2 x1.toNatClampNeg)), some (vI (hI h a6 x1.toNatClampNeg)), none, none, none]) dMd_does_13 rfl (Nat.le_of_ble_eq_true rfl) rfl ?_
  refine tq_aload_n dMd_does_14 rfl rfl ?_
  refine te_getr dMd_does_15 fMd_46 rfl rfl f1 ?_
  refine tq_iload_n dMd_does_18 rfl rfl ?_
  obtain ⟨a10, e11, f12, hw⟩ := hw
  obtain ⟨f13, hw⟩ := hw
  refine te_iald dMd_does_19 e11 (Or.inl f12) f13 ?_
  refine tq_istore (ls' := [some (vR (some o)), some (vI x1), some (vI (hI h a2 x1.toNatClampNeg)), some (vI (hI h a6 x1.toNatClampNeg)), some (vI (hI h a10 x1.toNatClampNeg)), none, none]) dMd_does_20 (Nat.le_of_ble_eq_true rfl) rfl ?_
  refine tq_aload_n dMd_does_22 rfl rfl ?_
  refine tq_bipush (v := (41 : Int32)) dMd_does_23 tnb_41 ?_
  refine tq_iload_n dMd_does_25 rfl rfl ?_
  refine te_callV mv_Md_has (ci := 13) (dc := 2) (as := [vI (41 : Int32), vI (hI h a6 x1.toNatClampNeg)]) (rest := []) kMd_212 rfl (Nat.le_of_ble_eq_true rfl) (Nat.le_of_ble_eq_true rfl) rfl rfl rfl f1 (Nat.le_of_ble_eq_true rfl) dMd_does_26 (s_Md_has hw) (fun _ _ hx => False.elim hx) (tk_i fun v15 h14 hw => ?_)
  refine tq_istore (ls' := [some (vR (some o)), some (vI x1), some (vI (hI h a2 x1.toNatClampNeg)), some (vI (hI h a6 x1.toNatClampNeg)), some (vI (hI h a10 x1.toNatClampNeg)), some (vI v15), none]) dMd_does_29 (Nat.le_of_ble_eq_true rfl) rfl ?_
  refine tq_iload_n dMd_does_31 rfl rfl ?_
  refine tq_iconst (v := (1 : Int32)) dMd_does_32 tni_1 ?_
  refine tq_icmpne (tgt := 89) dMd_does_33 (by decide) (fun c16 => ?_) (fun c16 => ?_)
  · have hw := hw.1 c16
    refine tq_iload dMd_does_89 rfl ?_
    refine tq_ifne (tgt := 97) dMd_does_91 (by decide) (fun c17 => ?_) (fun c17 => ?_)
    · have hw := hw.1 c17
      refine tq_iload_n dMd_does_97 rfl rfl ?_
      refine tq_ifne (tgt := 143) dMd_does_98 (by decide) (fun c18 => ?_) (fun c18 => ?_)
      · have hw := hw.1 c18
        refine tq_iload_n dMd_does_143 rfl rfl ?_
        refine tq_iconst (v := (3 : Int32)) dMd_does_144 tni_3 ?_
        refine tq_icmpne (tgt := 213) dMd_does_145 (by decide) (fun c19 => ?_) (fun c19 => ?_)
        · have hw := hw.1 c19
          refine tq_aload_n dMd_does_213 rfl rfl ?_
          refine tq_bipush (v := (41 : Int32)) dMd_does_214 tnb_41 ?_
          refine tq_iload dMd_does_216 rfl ?_
          obtain ⟨f20, hw⟩ := hw
          refine te_callV mv_Md_has (ci := 13) (dc := 2) (as := [vI (41 : Int32), vI (hI h a10 x1.toNatClampNeg)]) (rest := []) kMd_212 rfl (Nat.le_of_ble_eq_true rfl) (Nat.le_of_ble_eq_true rfl) rfl rfl rfl f20 (Nat.le_of_ble_eq_true rfl) dMd_does_218 (s_Md_has hw) (fun _ _ hx => False.elim hx) (tk_i fun v22 h21 hw => ?_)
          refine tq_ifeq (tgt := 236) dMd_does_221 (by decide) (fun c23 => ?_) (fun c23 => ?_)
          · have hw := hw.1 c23
            refine tq_bipush (v := (10 : Int32)) dMd_does_236 tnb_10 ?_
            exact tq_iret rfl rfl dMd_does_238 hw
          · have hw := hw.2 c23
            refine tq_aload_n dMd_does_224 rfl rfl ?_
            refine tq_bipush (v := (41 : Int32)) dMd_does_225 tnb_41 ?_
            refine tq_iload dMd_does_227 rfl ?_
            refine tq_iload_n dMd_does_229 rfl rfl ?_
            obtain ⟨f24, hw⟩ := hw
            refine te_callV mv_Md_isWithin (ci := 13) (dc := 1) (as := [vI (41 : Int32), vI (hI h a10 x1.toNatClampNeg), vI (hI h a6 x1.toNatClampNeg)]) (rest := []) kMd_229 rfl (Nat.le_of_ble_eq_true rfl) (Nat.le_of_ble_eq_true rfl) rfl rfl rfl f24 (Nat.le_of_ble_eq_true rfl) dMd_does_230 (s_Md_isWithin hw) (fun _ _ hx => False.elim hx) (tk_i fun v26 h25 hw => ?_)
            refine tq_ifeq (tgt := 239) dMd_does_233 (by decide) (fun c27 => ?_) (fun c27 => ?_)
            · have hw := hw.1 c27
              refine tq_aload_n dMd_does_239 rfl rfl ?_
              refine tq_bipush (v := (41 : Int32)) dMd_does_240 tnb_41 ?_
              refine tq_iload_n dMd_does_242 rfl rfl ?_
              obtain ⟨f28, hw⟩ := hw
              refine te_callV mv_Md_unhang (ci := 13) (dc := 2) (as := [vI (41 : Int32), vI (hI h a6 x1.toNatClampNeg)]) (rest := []) kMd_232 rfl (Nat.le_of_ble_eq_true rfl) (Nat.le_of_ble_eq_true rfl) rfl rfl rfl f28 (Nat.le_of_ble_eq_true rfl) dMd_does_243 (s_Md_unhang hw) (fun _ _ hx => False.elim hx) (tk_v fun h29 hw => ?_)
              refine tq_aload_n dMd_does_246 rfl rfl ?_
              obtain ⟨f30, hw⟩ := hw
              refine te_getr dMd_does_247 fMd_19 rfl rfl f30 ?_
              refine tq_sipush (v := (12300 : Int32)) dMd_does_250 tns_12300 ?_
              refine tq_iload_n dMd_does_253 rfl rfl ?_
              refine tq_iadd dMd_does_254 ?_
              refine tq_bipush (v := (-2 : Int32)) dMd_does_255 tnb_m2 ?_
              obtain ⟨a31, e32, f33, hw⟩ := hw
              obtain ⟨f34, hw⟩ := hw
              refine te_iast dMd_does_257 e32 f33 f34 (fun h35 e36 => ?_)
              have hw := hw h35 e36
              refine tq_aload_n dMd_does_258 rfl rfl ?_
              refine tq_iload_n dMd_does_259 rfl rfl ?_
              refine tq_iload_n dMd_does_260 rfl rfl ?_
              refine te_callV mv_Md_settle (ci := 13) (dc := 4) (as := [vI x1, vI (hI h a6 x1.toNatClampNeg)]) (rest := []) kMd_334 rfl (Nat.le_of_ble_eq_true rfl) (Nat.le_of_ble_eq_true rfl) rfl rfl rfl (by rw [e36]; exact f30) (Nat.le_of_ble_eq_true rfl) dMd_does_261 (s_Md_settle hw) (fun _ _ hx => False.elim hx) (tk_i fun v38 h37 hw => ?_)
              exact tq_iret rfl rfl dMd_does_264 hw
            · have hw := hw.2 c27
              refine tq_bipush (v := (10 : Int32)) dMd_does_236 tnb_10 ?_
              exact tq_iret rfl rfl dMd_does_238 hw
        · have hw := hw.2 c19
          refine tq_aload_n dMd_does_148 rfl rfl ?_
          refine tq_bipush (v := (41 : Int32)) dMd_does_149 tnb_41 ?_
          refine tq_iload_n dMd_does_151 rfl rfl ?_
          obtain ⟨f39, hw⟩ := hw
          refine te_callV mv_Md_firstIn (ci := 13) (dc := 0) (as := [vI (41 : Int32), vI (hI h a6 x1.toNatClampNeg)]) (rest := []) kMd_173 rfl (Nat.le_of_ble_eq_true rfl) (Nat.le_of_ble_eq_true rfl) rfl rfl rfl f39 (Nat.le_of_ble_eq_true rfl) dMd_does_152 (s_Md_firstIn hw) (fun _ _ hx => False.elim hx) (tk_i fun v41 h40 hw => ?_)
          refine tq_iconst (v := (-1 : Int32)) dMd_does_155 tni_m1 ?_
          refine tq_icmpne (tgt := 174) dMd_does_156 (by decide) (fun c42 => ?_) (fun c42 => ?_)
          · have hw := hw.1 c42
            refine tq_iconst (v := (0 : Int32)) dMd_does_174 tni_0 ?_
            refine tpR.fo (ls' := [some (vR (some o)), none, none, some (vI (hI h a6 x1.toNatClampNeg)), none, none, none]) ?_ (And.intro rfl (And.intro rfl trivial))
            exact s_Md_does_175 _ _ _ _ hw
          · have hw := hw.2 c42
            refine tq_iload_n dMd_does_159 rfl rfl ?_
            refine tq_aload_n dMd_does_160 rfl rfl ?_
            obtain ⟨f43, hw⟩ := hw
            refine te_getr dMd_does_161 fMd_16 rfl rfl f43 ?_
            refine tq_bipush (v := (41 : Int32)) dMd_does_164 tnb_41 ?_
            obtain ⟨a44, e45, f46, hw⟩ := hw
            obtain ⟨f47, hw⟩ := hw
            refine te_iald dMd_does_166 e45 (Or.inl f46) f47 ?_
            refine tq_icmpeq (tgt := 174) dMd_does_167 (by decide) (fun c48 => ?_) (fun c48 => ?_)
            · have hw := hw.1 c48
              refine tq_iconst (v := (0 : Int32)) dMd_does_174 tni_0 ?_
              refine tpR.fo (ls' := [some (vR (some o)), none, none, some (vI (hI h a6 x1.toNatClampNeg)), none, none, none]) ?_ (And.intro rfl (And.intro rfl trivial))
              exact s_Md_does_175 _ _ _ _ hw
            · have hw := hw.2 c48
              refine tq_iconst (v := (1 : Int32)) dMd_does_170 tni_1 ?_
              refine tq_goto (tgt := 175) dMd_does_171 (by decide) ?_
              refine tpR.fo (ls' := [some (vR (some o)), none, none, some (vI (hI h a6 x1.toNatClampNeg)), none, none, none]) ?_ (And.intro rfl (And.intro rfl trivial))
              exact s_Md_does_175 _ _ _ _ hw
      · have hw := hw.2 c18
        refine tq_aload_n dMd_does_101 rfl rfl ?_
        refine tq_bipush (v := (41 : Int32)) dMd_does_102 tnb_41 ?_
        refine tq_iload_n dMd_does_104 rfl rfl ?_
        obtain ⟨f49, hw⟩ := hw
        refine te_callV mv_Md_valueIn (ci := 13) (dc := 0) (as := [vI (41 : Int32), vI (hI h a6 x1.toNatClampNeg)]) (rest := []) kMd_226 rfl (Nat.le_of_ble_eq_true rfl) (Nat.le_of_ble_eq_true rfl) rfl rfl rfl f49 (Nat.le_of_ble_eq_true rfl) dMd_does_105 (s_Md_valueIn hw) (fun _ _ hx => False.elim hx) (tk_i fun v51 h50 hw => ?_)
        refine tq_aload_n dMd_does_108 rfl rfl ?_
        obtain ⟨f52, hw⟩ := hw
        refine te_getr dMd_does_109 fMd_40 rfl rfl f52 ?_
        refine tq_iload_n dMd_does_112 rfl rfl ?_
        obtain ⟨a53, e54, f55, hw⟩ := hw
        obtain ⟨f56, hw⟩ := hw
        refine te_iald dMd_does_113 e54 (Or.inl f55) f56 ?_
        refine tq_icmpne (tgt := 121) dMd_does_114 (by decide) (fun c57 => ?_) (fun c57 => ?_)
        · have hw := hw.1 c57
          refine tq_iconst (v := (1 : Int32)) dMd_does_121 tni_1 ?_
          refine tpR.fo (ls' := [some (vR (some o)), some (vI x1), none, some (vI (hI h a6 x1.toNatClampNeg)), none, none, none]) ?_ (And.intro rfl (And.intro rfl (And.intro rfl trivial)))
          exact s_Md_does_122 _ _ _ _ _ hw
        · have hw := hw.2 c57
          refine tq_iconst (v := (0 : Int32)) dMd_does_117 tni_0 ?_
          refine tq_goto (tgt := 122) dMd_does_118 (by decide) ?_
          refine tpR.fo (ls' := [some (vR (some o)), some (vI x1), none, some (vI (hI h a6 x1.toNatClampNeg)), none, none, none]) ?_ (And.intro rfl (And.intro rfl (And.intro rfl trivial)))
          exact s_Md_does_122 _ _ _ _ _ hw
    · have hw := hw.2 c17
      refine tq_bipush (v := (10 : Int32)) dMd_does_94 tnb_10 ?_
      exact tq_iret rfl rfl dMd_does_96 hw
  · have hw := hw.2 c16
    refine tq_iload dMd_does_36 rfl ?_
    refine tq_ifne (tgt := 52) dMd_does_38 (by decide) (fun c58 => ?_) (fun c58 => ?_)
    · have hw := hw.1 c58
      refine tq_bipush (v := (10 : Int32)) dMd_does_52 tnb_10 ?_
      exact tq_iret rfl rfl dMd_does_54 hw
    · have hw := hw.2 c58
      refine tq_aload_n dMd_does_41 rfl rfl ?_
      refine tq_bipush (v := (41 : Int32)) dMd_does_42 tnb_41 ?_
      refine tq_iload dMd_does_44 rfl ?_
      obtain ⟨f59, hw⟩ := hw
      refine te_callV mv_Md_has (ci := 13) (dc := 2) (as := [vI (41 : Int32), vI (hI h a10 x1.toNatClampNeg)]) (rest := []) kMd_212 rfl (Nat.le_of_ble_eq_true rfl) (Nat.le_of_ble_eq_true rfl) rfl rfl rfl f59 (Nat.le_of_ble_eq_true rfl) dMd_does_46 (s_Md_has hw) (fun _ _ hx => False.elim hx) (tk_i fun v61 h60 hw => ?_)
      refine tq_ifne (tgt := 55) dMd_does_49 (by decide) (fun c62 => ?_) (fun c62 => ?_)
      · have hw := hw.1 c62
        refine tq_aload_n dMd_does_55 rfl rfl ?_
        obtain ⟨f63, hw⟩ := hw
        refine te_getr dMd_does_56 fMd_22 rfl rfl f63 ?_
        refine tq_sipush (v := (12300 : Int32)) dMd_does_59 tns_12300 ?_
        refine tq_iload_n dMd_does_62 rfl rfl ?_
        refine tq_iadd dMd_does_63 ?_
        refine tq_aload_n dMd_does_64 rfl rfl ?_
        refine te_getr dMd_does_65 fMd_43 rfl rfl f63 ?_
        refine tq_iload_n dMd_does_68 rfl rfl ?_
        obtain ⟨a64, e65, f66, hw⟩ := hw
        obtain ⟨f67, hw⟩ := hw
        refine te_iald dMd_does_69 e65 (Or.inl f66) f67 ?_
        obtain ⟨a68, e69, f70, hw⟩ := hw
        obtain ⟨f71, hw⟩ := hw
        refine te_iast dMd_does_70 e69 f70 f71 (fun h72 e73 => ?_)
        have hw := hw h72 e73
        refine tq_aload_n dMd_does_71 rfl rfl ?_
        refine te_getr dMd_does_72 fMd_25 rfl rfl (by rw [e73]; exact f63) ?_
        refine tq_sipush (v := (12300 : Int32)) dMd_does_75 tns_12300 ?_
        refine tq_iload_n dMd_does_78 rfl rfl ?_
        refine tq_iadd dMd_does_79 ?_
        refine tq_iconst (v := (-1 : Int32)) dMd_does_80 tni_m1 ?_
        obtain ⟨a74, e75, f76, hw⟩ := hw
        obtain ⟨f77, hw⟩ := hw
        refine te_iast dMd_does_81 e75 f76 f77 (fun h78 e79 => ?_)
        have hw := hw h78 e79
        refine tq_aload_n dMd_does_82 rfl rfl ?_
        refine tq_iload_n dMd_does_83 rfl rfl ?_
        refine tq_iload_n dMd_does_84 rfl rfl ?_
        refine te_callV mv_Md_settle (ci := 13) (dc := 4) (as := [vI x1, vI (hI h a6 x1.toNatClampNeg)]) (rest := []) kMd_334 rfl (Nat.le_of_ble_eq_true rfl) (Nat.le_of_ble_eq_true rfl) rfl rfl rfl (by rw [e79]; exact (by rw [e73]; exact f63)) (Nat.le_of_ble_eq_true rfl) dMd_does_85 (s_Md_settle hw) (fun _ _ hx => False.elim hx) (tk_i fun v81 h80 hw => ?_)
        exact tq_iret rfl rfl dMd_does_88 hw
      · have hw := hw.2 c62
        refine tq_bipush (v := (10 : Int32)) dMd_does_52 tnb_10 ?_
        exact tq_iret rfl rfl dMd_does_54 hw
/-! TModel.apply -/
theorem dMd_apply_0 : decode (mB Md_apply) 0 = .ok (.aload_n 0, 1) := by decide +kernel
theorem dMd_apply_1 : decode (mB Md_apply) 1 = .ok (.aload_n 0, 1) := by decide +kernel
theorem dMd_apply_2 : decode (mB Md_apply) 2 = .ok (.iload_n 1, 1) := by decide +kernel
theorem dMd_apply_3 : decode (mB Md_apply) 3 = .ok (.invokevirtual 325, 3) := by decide +kernel
theorem dMd_apply_6 : decode (mB Md_apply) 6 = .ok (.ifCond .eq 11, 3) := by decide +kernel
theorem dMd_apply_9 : decode (mB Md_apply) 9 = .ok (.aload_n 0, 1) := by decide +kernel
theorem dMd_apply_10 : decode (mB Md_apply) 10 = .ok (.iload_n 2, 1) := by decide +kernel
theorem dMd_apply_11 : decode (mB Md_apply) 11 = .ok (.invokevirtual 201, 3) := by decide +kernel
theorem dMd_apply_14 : decode (mB Md_apply) 14 = .ok (.ifCond .ne 7, 3) := by decide +kernel
theorem dMd_apply_17 : decode (mB Md_apply) 17 = .ok (.iconst 1, 1) := by decide +kernel
theorem dMd_apply_18 : decode (mB Md_apply) 18 = .ok (.goto 17, 3) := by decide +kernel
theorem dMd_apply_21 : decode (mB Md_apply) 21 = .ok (.aload_n 0, 1) := by decide +kernel
theorem dMd_apply_22 : decode (mB Md_apply) 22 = .ok (.getfield 155, 3) := by decide +kernel
theorem dMd_apply_25 : decode (mB Md_apply) 25 = .ok (.bipush 40, 2) := by decide +kernel
theorem dMd_apply_27 : decode (mB Md_apply) 27 = .ok (.if_icmp .ne 7, 3) := by decide +kernel
theorem dMd_apply_30 : decode (mB Md_apply) 30 = .ok (.iconst 2, 1) := by decide +kernel
theorem dMd_apply_31 : decode (mB Md_apply) 31 = .ok (.goto 4, 3) := by decide +kernel
theorem dMd_apply_34 : decode (mB Md_apply) 34 = .ok (.iconst 0, 1) := by decide +kernel
theorem dMd_apply_35 : decode (mB Md_apply) 35 = .ok (.putfield 151, 3) := by decide +kernel
theorem dMd_apply_38 : decode (mB Md_apply) 38 = .ok (.aload_n 0, 1) := by decide +kernel
theorem dMd_apply_39 : decode (mB Md_apply) 39 = .ok (.getfield 151, 3) := by decide +kernel
theorem dMd_apply_42 : decode (mB Md_apply) 42 = .ok (.ifCond .le 5, 3) := by decide +kernel
theorem dMd_apply_45 : decode (mB Md_apply) 45 = .ok (.iconst 0, 1) := by decide +kernel
theorem dMd_apply_46 : decode (mB Md_apply) 46 = .ok (.ireturn, 1) := by decide +kernel
theorem dMd_apply_47 : decode (mB Md_apply) 47 = .ok (.aload_n 0, 1) := by decide +kernel
theorem dMd_apply_48 : decode (mB Md_apply) 48 = .ok (.iload_n 2, 1) := by decide +kernel
theorem dMd_apply_49 : decode (mB Md_apply) 49 = .ok (.bipush 41, 2) := by decide +kernel
theorem dMd_apply_51 : decode (mB Md_apply) 51 = .ok (.invokevirtual 204, 3) := by decide +kernel
theorem dMd_apply_54 : decode (mB Md_apply) 54 = .ok (.aload_n 0, 1) := by decide +kernel
theorem dMd_apply_55 : decode (mB Md_apply) 55 = .ok (.iconst 0, 1) := by decide +kernel
theorem dMd_apply_56 : decode (mB Md_apply) 56 = .ok (.putfield 337, 3) := by decide +kernel
theorem dMd_apply_59 : decode (mB Md_apply) 59 = .ok (.iconst 0, 1) := by decide +kernel
theorem dMd_apply_60 : decode (mB Md_apply) 60 = .ok (.istore_n 3, 1) := by decide +kernel
theorem dMd_apply_61 : decode (mB Md_apply) 61 = .ok (.iload_n 3, 1) := by decide +kernel
theorem dMd_apply_62 : decode (mB Md_apply) 62 = .ok (.aload_n 0, 1) := by decide +kernel
theorem dMd_apply_63 : decode (mB Md_apply) 63 = .ok (.getfield 31, 3) := by decide +kernel
theorem dMd_apply_66 : decode (mB Md_apply) 66 = .ok (.iload_n 1, 1) := by decide +kernel
theorem dMd_apply_67 : decode (mB Md_apply) 67 = .ok (.iaload, 1) := by decide +kernel
theorem dMd_apply_68 : decode (mB Md_apply) 68 = .ok (.if_icmp .ge 28, 3) := by decide +kernel
theorem dMd_apply_71 : decode (mB Md_apply) 71 = .ok (.aload_n 0, 1) := by decide +kernel
theorem dMd_apply_72 : decode (mB Md_apply) 72 = .ok (.dup, 1) := by decide +kernel
theorem dMd_apply_73 : decode (mB Md_apply) 73 = .ok (.getfield 337, 3) := by decide +kernel
theorem dMd_apply_76 : decode (mB Md_apply) 76 = .ok (.aload_n 0, 1) := by decide +kernel
theorem dMd_apply_77 : decode (mB Md_apply) 77 = .ok (.bipush 100, 2) := by decide +kernel
theorem dMd_apply_79 : decode (mB Md_apply) 79 = .ok (.iload_n 1, 1) := by decide +kernel
theorem dMd_apply_80 : decode (mB Md_apply) 80 = .ok (.imul, 1) := by decide +kernel
theorem dMd_apply_81 : decode (mB Md_apply) 81 = .ok (.iload_n 3, 1) := by decide +kernel
theorem dMd_apply_82 : decode (mB Md_apply) 82 = .ok (.iadd, 1) := by decide +kernel
theorem dMd_apply_83 : decode (mB Md_apply) 83 = .ok (.invokevirtual 340, 3) := by decide +kernel
theorem dMd_apply_86 : decode (mB Md_apply) 86 = .ok (.iadd, 1) := by decide +kernel
theorem dMd_apply_87 : decode (mB Md_apply) 87 = .ok (.putfield 337, 3) := by decide +kernel
theorem dMd_apply_90 : decode (mB Md_apply) 90 = .ok (.iinc 3 1, 3) := by decide +kernel
theorem dMd_apply_93 : decode (mB Md_apply) 93 = .ok (.goto (-32), 3) := by decide +kernel
theorem dMd_apply_96 : decode (mB Md_apply) 96 = .ok (.aload_n 0, 1) := by decide +kernel
theorem dMd_apply_97 : decode (mB Md_apply) 97 = .ok (.bipush 41, 2) := by decide +kernel
theorem dMd_apply_99 : decode (mB Md_apply) 99 = .ok (.invokevirtual 235, 3) := by decide +kernel
theorem dMd_apply_102 : decode (mB Md_apply) 102 = .ok (.ireturn, 1) := by decide +kernel
def b_Md_apply_61 (R : Int32 → tpH → Prop) (Y : Nat → Int32 → Int32 → tpH → Prop) (o : Nat) (x1 : Int32) (x3 : Int32) (h : tpH) : Prop :=
  hT h o = 14 ∧ (∃ a2, (hR h o 11) = some a2 ∧ hT h a2 = 15 ∧ (vp_in x1 (hL h a2) ∧ (((hI h a2 x1.toNatClampNeg) ≤ x3 → (w_Md_sealed o (41 : Int32) h (fun v8 h7 => R v8 h7))) ∧ (¬ (hI h a2 x1.toNatClampNeg) ≤ x3 → (w_Md_does o (((100 : Int32) * x1) + x3) h (fun v10 h9 => hT h9 o = 14 ∧ (∀ h12, h12 = sI h9 o 22 ((hI h o 22) + v10) → (Y o x1 (x3 + (1 : Int32)) h12))))))))
def w_Md_apply_61 (R : Int32 → tpH → Prop) : Nat → Nat → Int32 → Int32 → tpH → Prop
  | 0 => fun _ _ _ _ => False
  | n + 1 => b_Md_apply_61 R (w_Md_apply_61 R n)
def w_Md_apply_35 (R : Int32 → tpH → Prop) (o : Nat) (x1 : Int32) (x2 : Int32) (t0 : Int32) (t1 : Option Nat) (h : tpH) : Prop :=
  ∃ a1, t1 = some a1 ∧ hT h a1 = 14 ∧ (∀ h4, h4 = sI h a1 31 t0 → (hT h4 o = 14 ∧ (((hI h4 o 31) ≤ 0 → (w_Md_copyTree o x2 (41 : Int32) h4 (fun h8 => hT h8 o = 14 ∧ (∀ h10, h10 = sI h8 o 22 (0 : Int32) → (∃ n, w_Md_apply_61 R n o x1 (0 : Int32) h10))))) ∧ (¬ (hI h4 o 31) ≤ 0 → (R (0 : Int32) h4)))))
def w_Md_apply (o : Nat) (x1 : Int32) (x2 : Int32) (h : tpH) (R : Int32 → tpH → Prop) : Prop :=
  hT h o = 14 ∧ (w_Md_isScript o x1 h (fun v3 h2 => (v3 = 0 → (w_Md_apply_35 R o x1 x2 (1 : Int32) (some o) h2)) ∧ (¬ v3 = 0 → (hT h2 o = 14 ∧ (w_Md_isTree o x2 h2 (fun v7 h6 => (¬ v7 = 0 → (hT h6 o = 14 ∧ ((¬ (hI h6 o 3) = (40 : Int32) → (w_Md_apply_35 R o x1 x2 (0 : Int32) (some o) h6)) ∧ ((hI h6 o 3) = (40 : Int32) → (w_Md_apply_35 R o x1 x2 (2 : Int32) (some o) h6))))) ∧ (v7 = 0 → (w_Md_apply_35 R o x1 x2 (1 : Int32) (some o) h6))))))))
theorem s_Md_apply_61 {h0 : tpH} {av : List tpV} {R : Int32 → tpH → Prop} : ∀ (n : Nat) (o : Nat) (x1 : Int32) (x3 : Int32) (h : tpH), w_Md_apply_61 R n o x1 x3 h → tpR Md_apply 6 h0 av (tpOi R (fun _ _ => False)) 61 [some (vR (some o)), some (vI x1), none, some (vI x3)] [] h := by
  intro n
  induction n with
  | zero => intro o x1 x3 h hw; exact False.elim hw
  | succ n ih =>
    intro o x1 x3 h hw
    change b_Md_apply_61 R (w_Md_apply_61 R n) o x1 x3 h at hw
    unfold b_Md_apply_61 at hw
    refine tq_iload_n dMd_apply_61 rfl rfl ?_
    refine tq_aload_n dMd_apply_62 rfl rfl ?_
    obtain ⟨f1, hw⟩ := hw
    refine te_getr dMd_apply_63 fMd_31 rfl rfl f1 ?_
    refine tq_iload_n dMd_apply_66 rfl rfl ?_
    obtain ⟨a2, e3, f4, hw⟩ := hw
    obtain ⟨f5, hw⟩ := hw
    refine te_iald dMd_apply_67 e3 (Or.inl f4) f5 ?_
    refine tq_icmpge (tgt := 96) dMd_apply_68 (by decide) (fun c6 => ?_) (fun c6 => ?_)
    · have hw := hw.1 c6
      refine tq_aload_n dMd_apply_96 rfl rfl ?_
      refine tq_bipush (v := (41 : Int32)) dMd_apply_97 tnb_41 ?_
      refine te_callV mv_Md_sealed (ci := 13) (dc := 1) (as := [vI (41 : Int32)]) (rest := []) kMd_235 rfl (Nat.le_of_ble_eq_true rfl) (Nat.le_of_ble_eq_true rfl) rfl rfl rfl f1 (Nat.le_of_ble_eq_true rfl) dMd_apply_99 (s_Md_sealed hw) (fun _ _ hx => False.elim hx) (tk_i fun v8 h7 hw => ?_)
      exact tq_iret rfl rfl dMd_apply_102 hw
    · have hw := hw.2 c6
      refine tq_aload_n dMd_apply_71 rfl rfl ?_
      refine tq_dup dMd_apply_72 rfl ?_
      refine te_geti dMd_apply_73 fMd_337 rfl rfl f1 ?_
      refine tq_aload_n dMd_apply_76 rfl rfl ?_
      refine tq_bipush (v := (100 : Int32)) dMd_apply_77 tnb_100 ?_
      refine tq_iload_n dMd_apply_79 rfl rfl ?_
      refine tq_imul dMd_apply_80 ?_
      refine tq_iload_n dMd_apply_81 rfl rfl ?_
      refine tq_iadd dMd_apply_82 ?_
      refine te_callV mv_Md_does (ci := 13) (dc := 5) (as := [vI (((100 : Int32) * x1) + x3)]) (rest := [vI (hI h o 22), vR (some o)]) kMd_340 rfl (Nat.le_of_ble_eq_true rfl) (Nat.le_of_ble_eq_true rfl) rfl rfl rfl f1 (Nat.le_of_ble_eq_true rfl) dMd_apply_83 (s_Md_does hw) (fun _ _ hx => False.elim hx) (tk_i fun v10 h9 hw => ?_)
      refine tq_iadd dMd_apply_86 ?_
      obtain ⟨f11, hw⟩ := hw
      refine te_puti dMd_apply_87 pMd_337 rfl rfl rfl f11 ⟨rfl, rfl⟩ (fun h12 e13 => ?_)
      have hw := hw h12 e13
      refine tq_inc (k := (1 : Int32)) (ls' := [some (vR (some o)), some (vI x1), none, some (vI (x3 + (1 : Int32)))]) dMd_apply_90 rfl tni_1 (Nat.le_of_ble_eq_true rfl) rfl ?_
      refine tq_goto (tgt := 61) dMd_apply_93 (by decide) ?_
      refine tpR.fo (ls' := [some (vR (some o)), some (vI x1), none, some (vI (x3 + (1 : Int32)))]) ?_ (And.intro rfl (And.intro rfl (And.intro rfl trivial)))
      exact ih _ _ _ _ hw
theorem s_Md_apply_35 {h0 : tpH} {av : List tpV} {R : Int32 → tpH → Prop} : ∀ (o : Nat) (x1 : Int32) (x2 : Int32) (t0 : Int32) (t1 : Option Nat) (h : tpH), w_Md_apply_35 R o x1 x2 t0 t1 h → tpR Md_apply 6 h0 av (tpOi R (fun _ _ => False)) 35 [some (vR (some o)), some (vI x1), some (vI x2), none] [vI t0, vR t1] h := by
  intro o x1 x2 t0 t1 h hw
  unfold w_Md_apply_35 at hw
  obtain ⟨a1, e2, f3, hw⟩ := hw
  refine te_puti dMd_apply_35 pMd_151 rfl rfl e2 f3 ⟨rfl, rfl⟩ (fun h4 e5 => ?_)
  have hw := hw h4 e5
  refine tq_aload_n dMd_apply_38 rfl rfl ?_
  obtain ⟨f6, hw⟩ := hw
  refine te_geti dMd_apply_39 fMd_151 rfl rfl f6 ?_
  refine tq_ifle (tgt := 47) dMd_apply_42 (by decide) (fun c7 => ?_) (fun c7 => ?_)
  · have hw := hw.1 c7
    refine tq_aload_n dMd_apply_47 rfl rfl ?_
    refine tq_iload_n dMd_apply_48 rfl rfl ?_
    refine tq_bipush (v := (41 : Int32)) dMd_apply_49 tnb_41 ?_
    refine te_callV mv_Md_copyTree (ci := 13) (dc := 0) (as := [vI x2, vI (41 : Int32)]) (rest := []) kMd_204 rfl (Nat.le_of_ble_eq_true rfl) (Nat.le_of_ble_eq_true rfl) rfl rfl rfl f6 (Nat.le_of_ble_eq_true rfl) dMd_apply_51 (s_Md_copyTree hw) (fun _ _ hx => False.elim hx) (tk_v fun h8 hw => ?_)
    refine tq_aload_n dMd_apply_54 rfl rfl ?_
    refine tq_iconst (v := (0 : Int32)) dMd_apply_55 tni_0 ?_
    obtain ⟨f9, hw⟩ := hw
    refine te_puti dMd_apply_56 pMd_337 rfl rfl rfl f9 ⟨rfl, rfl⟩ (fun h10 e11 => ?_)
    have hw := hw h10 e11
    refine tq_iconst (v := (0 : Int32)) dMd_apply_59 tni_0 ?_
    refine tq_istore_n (ls' := [some (vR (some o)), some (vI x1), some (vI x2), some (vI (0 : Int32))]) dMd_apply_60 rfl (Nat.le_of_ble_eq_true rfl) rfl ?_
    refine tpR.fo (ls' := [some (vR (some o)), some (vI x1), none, some (vI (0 : Int32))]) ?_ (And.intro rfl (And.intro rfl (And.intro rfl trivial)))
    obtain ⟨n, hw⟩ := hw
    exact s_Md_apply_61 n _ _ _ _ hw
  · have hw := hw.2 c7
    refine tq_iconst (v := (0 : Int32)) dMd_apply_45 tni_0 ?_
    exact tq_iret rfl rfl dMd_apply_46 hw
theorem s_Md_apply {o : Nat} {x1 : Int32} {x2 : Int32} {h : tpH} {R : Int32 → tpH → Prop} (hw : w_Md_apply o x1 x2 h R) : tpC Md_apply 6 [vR (some o), vI x1, vI x2] h (tpOi R (fun _ _ => False)) := by
  refine tpC_of mv_Md_apply.2.2.2.1 rfl rfl (Nat.le_of_ble_eq_true rfl) ?_
  show tpR Md_apply 6 h _ _ 0 [some (vR (some o)), some (vI x1), some (vI x2), none] [] h
  unfold w_Md_apply at hw
  refine tq_aload_n dMd_apply_0 rfl rfl ?_
  refine tq_aload_n dMd_apply_1 rfl rfl ?_
  refine tq_iload_n dMd_apply_2 rfl rfl ?_
  obtain ⟨f1, hw⟩ := hw
  refine te_callV mv_Md_isScript (ci := 13) (dc := 1) (as := [vI x1]) (rest := [vR (some o)]) kMd_325 rfl (Nat.le_of_ble_eq_true rfl) (Nat.le_of_ble_eq_true rfl) rfl rfl rfl f1 (Nat.le_of_ble_eq_true rfl) dMd_apply_3 (s_Md_isScript hw) (fun _ _ hx => False.elim hx) (tk_i fun v3 h2 hw => ?_)
  refine tq_ifeq (tgt := 17) dMd_apply_6 (by decide) (fun c4 => ?_) (fun c4 => ?_)
  · have hw := hw.1 c4
    refine tq_iconst (v := (1 : Int32)) dMd_apply_17 tni_1 ?_
    refine tq_goto (tgt := 35) dMd_apply_18 (by decide) ?_
    refine tpR.fo (ls' := [some (vR (some o)), some (vI x1), some (vI x2), none]) ?_ (And.intro rfl (And.intro rfl (And.intro rfl trivial)))
    exact s_Md_apply_35 _ _ _ _ _ _ hw
  · have hw := hw.2 c4
    refine tq_aload_n dMd_apply_9 rfl rfl ?_
    refine tq_iload_n dMd_apply_10 rfl rfl ?_
    obtain ⟨f5, hw⟩ := hw
    refine te_callV mv_Md_isTree (ci := 13) (dc := 1) (as := [vI x2]) (rest := [vR (some o)]) kMd_201 rfl (Nat.le_of_ble_eq_true rfl) (Nat.le_of_ble_eq_true rfl) rfl rfl rfl f5 (Nat.le_of_ble_eq_true rfl) dMd_apply_11 (s_Md_isTree hw) (fun _ _ hx => False.elim hx) (tk_i fun v7 h6 hw => ?_)
    refine tq_ifne (tgt := 21) dMd_apply_14 (by decide) (fun c8 => ?_) (fun c8 => ?_)
    · have hw := hw.1 c8
      refine tq_aload_n dMd_apply_21 rfl rfl ?_
      obtain ⟨f9, hw⟩ := hw
      refine te_geti dMd_apply_22 fMd_155 rfl rfl f9 ?_
      refine tq_bipush (v := (40 : Int32)) dMd_apply_25 tnb_40 ?_
      refine tq_icmpne (tgt := 34) dMd_apply_27 (by decide) (fun c10 => ?_) (fun c10 => ?_)
      · have hw := hw.1 c10
        refine tq_iconst (v := (0 : Int32)) dMd_apply_34 tni_0 ?_
        refine tpR.fo (ls' := [some (vR (some o)), some (vI x1), some (vI x2), none]) ?_ (And.intro rfl (And.intro rfl (And.intro rfl trivial)))
        exact s_Md_apply_35 _ _ _ _ _ _ hw
      · have hw := hw.2 c10
        refine tq_iconst (v := (2 : Int32)) dMd_apply_30 tni_2 ?_
        refine tq_goto (tgt := 35) dMd_apply_31 (by decide) ?_
        refine tpR.fo (ls' := [some (vR (some o)), some (vI x1), some (vI x2), none]) ?_ (And.intro rfl (And.intro rfl (And.intro rfl trivial)))
        exact s_Md_apply_35 _ _ _ _ _ _ hw
    · have hw := hw.2 c8
      refine tq_iconst (v := (1 : Int32)) dMd_apply_17 tni_1 ?_
      refine tq_goto (tgt := 35) dMd_apply_18 (by decide) ?_
      refine tpR.fo (ls' := [some (vR (some o)), some (vI x1), some (vI x2), none]) ?_ (And.intro rfl (And.intro rfl (And.intro rfl trivial)))
      exact s_Md_apply_35 _ _ _ _ _ _ hw
/-! TModel.fuzz -/
theorem dMd_fuzz_0 : decode (mB Md_fuzz) 0 = .ok (.aload_n 0, 1) := by decide +kernel
theorem dMd_fuzz_1 : decode (mB Md_fuzz) 1 = .ok (.iconst 0, 1) := by decide +kernel
theorem dMd_fuzz_2 : decode (mB Md_fuzz) 2 = .ok (.putfield 151, 3) := by decide +kernel
theorem dMd_fuzz_5 : decode (mB Md_fuzz) 5 = .ok (.aload_n 0, 1) := by decide +kernel
theorem dMd_fuzz_6 : decode (mB Md_fuzz) 6 = .ok (.getfield 337, 3) := by decide +kernel
theorem dMd_fuzz_9 : decode (mB Md_fuzz) 9 = .ok (.ireturn, 1) := by decide +kernel
def w_Md_fuzz (o : Nat) (h : tpH) (R : Int32 → tpH → Prop) : Prop :=
  hT h o = 14 ∧ (∀ h2, h2 = sI h o 31 (0 : Int32) → (R (hI h2 o 22) h2))
theorem s_Md_fuzz {o : Nat} {h : tpH} {R : Int32 → tpH → Prop} (hw : w_Md_fuzz o h R) : tpC Md_fuzz 0 [vR (some o)] h (tpOi R (fun _ _ => False)) := by
  refine tpC_of mv_Md_fuzz.2.2.2.1 rfl rfl (Nat.le_of_ble_eq_true rfl) ?_
  show tpR Md_fuzz 0 h _ _ 0 [some (vR (some o))] [] h
  unfold w_Md_fuzz at hw
  refine tq_aload_n dMd_fuzz_0 rfl rfl ?_
  refine tq_iconst (v := (0 : Int32)) dMd_fuzz_1 tni_0 ?_
  obtain ⟨f1, hw⟩ := hw
  refine te_puti dMd_fuzz_2 pMd_151 rfl rfl rfl f1 ⟨rfl, rfl⟩ (fun h2 e3 => ?_)
  have hw := hw h2 e3
  refine tq_aload_n dMd_fuzz_5 rfl rfl ?_
  refine te_geti dMd_fuzz_6 fMd_337 rfl rfl (by rw [e3]; exact f1) ?_
  exact tq_iret rfl rfl dMd_fuzz_9 hw
/-! TModel.setPolicy -/
theorem dMd_setPolicy_0 : decode (mB Md_setPolicy) 0 = .ok (.aload_n 0, 1) := by decide +kernel
theorem dMd_setPolicy_1 : decode (mB Md_setPolicy) 1 = .ok (.iload_n 1, 1) := by decide +kernel
theorem dMd_setPolicy_2 : decode (mB Md_setPolicy) 2 = .ok (.iconst 0, 1) := by decide +kernel
theorem dMd_setPolicy_3 : decode (mB Md_setPolicy) 3 = .ok (.iconst 2, 1) := by decide +kernel
theorem dMd_setPolicy_4 : decode (mB Md_setPolicy) 4 = .ok (.invokestatic 158, 3) := by decide +kernel
theorem dMd_setPolicy_7 : decode (mB Md_setPolicy) 7 = .ok (.ifCond .ne 8, 3) := by decide +kernel
theorem dMd_setPolicy_10 : decode (mB Md_setPolicy) 10 = .ok (.iload_n 1, 1) := by decide +kernel
theorem dMd_setPolicy_11 : decode (mB Md_setPolicy) 11 = .ok (.iconst 5, 1) := by decide +kernel
theorem dMd_setPolicy_12 : decode (mB Md_setPolicy) 12 = .ok (.if_icmp .ne 12, 3) := by decide +kernel
theorem dMd_setPolicy_15 : decode (mB Md_setPolicy) 15 = .ok (.iload_n 2, 1) := by decide +kernel
theorem dMd_setPolicy_16 : decode (mB Md_setPolicy) 16 = .ok (.iconst 0, 1) := by decide +kernel
theorem dMd_setPolicy_17 : decode (mB Md_setPolicy) 17 = .ok (.iconst 2, 1) := by decide +kernel
theorem dMd_setPolicy_18 : decode (mB Md_setPolicy) 18 = .ok (.invokestatic 158, 3) := by decide +kernel
theorem dMd_setPolicy_21 : decode (mB Md_setPolicy) 21 = .ok (.ifCond .ne 7, 3) := by decide +kernel
theorem dMd_setPolicy_24 : decode (mB Md_setPolicy) 24 = .ok (.iconst 1, 1) := by decide +kernel
theorem dMd_setPolicy_25 : decode (mB Md_setPolicy) 25 = .ok (.goto 4, 3) := by decide +kernel
theorem dMd_setPolicy_28 : decode (mB Md_setPolicy) 28 = .ok (.iconst 0, 1) := by decide +kernel
theorem dMd_setPolicy_29 : decode (mB Md_setPolicy) 29 = .ok (.putfield 151, 3) := by decide +kernel
theorem dMd_setPolicy_32 : decode (mB Md_setPolicy) 32 = .ok (.aload_n 0, 1) := by decide +kernel
theorem dMd_setPolicy_33 : decode (mB Md_setPolicy) 33 = .ok (.getfield 151, 3) := by decide +kernel
theorem dMd_setPolicy_36 : decode (mB Md_setPolicy) 36 = .ok (.ifCond .le 5, 3) := by decide +kernel
theorem dMd_setPolicy_39 : decode (mB Md_setPolicy) 39 = .ok (.iconst 0, 1) := by decide +kernel
theorem dMd_setPolicy_40 : decode (mB Md_setPolicy) 40 = .ok (.ireturn, 1) := by decide +kernel
theorem dMd_setPolicy_41 : decode (mB Md_setPolicy) 41 = .ok (.aload_n 0, 1) := by decide +kernel
theorem dMd_setPolicy_42 : decode (mB Md_setPolicy) 42 = .ok (.getfield 64, 3) := by decide +kernel
theorem dMd_setPolicy_45 : decode (mB Md_setPolicy) 45 = .ok (.iload_n 1, 1) := by decide +kernel
theorem dMd_setPolicy_46 : decode (mB Md_setPolicy) 46 = .ok (.iaload, 1) := by decide +kernel
theorem dMd_setPolicy_47 : decode (mB Md_setPolicy) 47 = .ok (.istore_n 3, 1) := by decide +kernel
theorem dMd_setPolicy_48 : decode (mB Md_setPolicy) 48 = .ok (.aload_n 0, 1) := by decide +kernel
theorem dMd_setPolicy_49 : decode (mB Md_setPolicy) 49 = .ok (.getfield 64, 3) := by decide +kernel
theorem dMd_setPolicy_52 : decode (mB Md_setPolicy) 52 = .ok (.iload_n 1, 1) := by decide +kernel
theorem dMd_setPolicy_53 : decode (mB Md_setPolicy) 53 = .ok (.iload_n 2, 1) := by decide +kernel
theorem dMd_setPolicy_54 : decode (mB Md_setPolicy) 54 = .ok (.iastore, 1) := by decide +kernel
theorem dMd_setPolicy_55 : decode (mB Md_setPolicy) 55 = .ok (.iload_n 3, 1) := by decide +kernel
theorem dMd_setPolicy_56 : decode (mB Md_setPolicy) 56 = .ok (.ireturn, 1) := by decide +kernel
def w_Md_setPolicy_15 (R : Int32 → tpH → Prop) (K29 : Nat → Int32 → Int32 → Int32 → (Option Nat) → tpH → Prop) (o : Nat) (x1 : Int32) (x2 : Int32) (t0 : Option Nat) (h : tpH) : Prop :=
  w_Md_in x2 (0 : Int32) (2 : Int32) h (fun v2 h1 => (¬ v2 = 0 → (K29 o x1 x2 (0 : Int32) t0 h1)) ∧ (v2 = 0 → (K29 o x1 x2 (1 : Int32) t0 h1)))
def w_Md_setPolicy_29 (R : Int32 → tpH → Prop) (o : Nat) (x1 : Int32) (x2 : Int32) (t0 : Int32) (t1 : Option Nat) (h : tpH) : Prop :=
  ∃ a1, t1 = some a1 ∧ hT h a1 = 14 ∧ (∀ h4, h4 = sI h a1 31 t0 → (hT h4 o = 14 ∧ (((hI h4 o 31) ≤ 0 → (∃ a8, (hR h4 o 23) = some a8 ∧ hT h4 a8 = 15 ∧ (vp_in x1 (hL h4 a8) ∧ (vp_in x1 (hL h4 a8) ∧ (∀ h13, h13 = sI h4 a8 x1.toNatClampNeg x2 → (R (hI h4 a8 x1.toNatClampNeg) h13)))))) ∧ (¬ (hI h4 o 31) ≤ 0 → (R (0 : Int32) h4)))))
def w_Md_setPolicy (o : Nat) (x1 : Int32) (x2 : Int32) (h : tpH) (R : Int32 → tpH → Prop) : Prop :=
  w_Md_in x1 (0 : Int32) (2 : Int32) h (fun v2 h1 => (¬ v2 = 0 → (w_Md_setPolicy_15 R (w_Md_setPolicy_29 R) o x1 x2 (some o) h1)) ∧ (v2 = 0 → ((¬ x1 = (5 : Int32) → (w_Md_setPolicy_29 R o x1 x2 (1 : Int32) (some o) h1)) ∧ (x1 = (5 : Int32) → (w_Md_setPolicy_15 R (w_Md_setPolicy_29 R) o x1 x2 (some o) h1)))))
theorem s_Md_setPolicy_15 {h0 : tpH} {av : List tpV} {R : Int32 → tpH → Prop} {K29 : Nat → Int32 → Int32 → Int32 → (Option Nat) → tpH → Prop} (k29 : ∀ (o : Nat) (x1 : Int32) (x2 : Int32) (t0 : Int32) (t1 : Option Nat) (h : tpH), K29 o x1 x2 t0 t1 h → tpR Md_setPolicy 1 h0 av (tpOi R (fun _ _ => False)) 29 [some (vR (some o)), some (vI x1), some (vI x2), none] [vI t0, vR t1] h) : ∀ (o : Nat) (x1 : Int32) (x2 : Int32) (t0 : Option Nat) (h : tpH), w_Md_setPolicy_15 R K29 o x1 x2 t0 h → tpR Md_setPolicy 1 h0 av (tpOi R (fun _ _ => False)) 15 [some (vR (some o)), some (vI x1), some (vI x2), none] [vR t0] h := by
  intro o x1 x2 t0 h hw
  unfold w_Md_setPolicy_15 at hw
  refine tq_iload_n dMd_setPolicy_15 rfl rfl ?_
  refine tq_iconst (v := (0 : Int32)) dMd_setPolicy_16 tni_0 ?_
  refine tq_iconst (v := (2 : Int32)) dMd_setPolicy_17 tni_2 ?_
  refine tq_callS ms_Md_in (dc := 0) (as := [vI x2, vI (0 : Int32), vI (2 : Int32)]) (rest := [vR t0]) kMd_158 (Nat.le_of_ble_eq_true rfl) (Nat.le_of_ble_eq_true rfl) rfl rfl (Nat.le_of_ble_eq_true rfl) dMd_setPolicy_18 (s_Md_in hw) (fun _ _ hx => False.elim hx) (tk_i fun v2 h1 hw => ?_)
  refine tq_ifne (tgt := 28) dMd_setPolicy_21 (by decide) (fun c3 => ?_) (fun c3 => ?_)
  · have hw := hw.1 c3
    refine tq_iconst (v := (0 : Int32)) dMd_setPolicy_28 tni_0 ?_
    refine tpR.fo (ls' := [some (vR (some o)), some (vI x1), some (vI x2), none]) ?_ (And.intro rfl (And.intro rfl (And.intro rfl trivial)))
    exact k29 _ _ _ _ _ _ hw
  · have hw := hw.2 c3
    refine tq_iconst (v := (1 : Int32)) dMd_setPolicy_24 tni_1 ?_
    refine tq_goto (tgt := 29) dMd_setPolicy_25 (by decide) ?_
    refine tpR.fo (ls' := [some (vR (some o)), some (vI x1), some (vI x2), none]) ?_ (And.intro rfl (And.intro rfl (And.intro rfl trivial)))
    exact k29 _ _ _ _ _ _ hw
theorem s_Md_setPolicy_29 {h0 : tpH} {av : List tpV} {R : Int32 → tpH → Prop} : ∀ (o : Nat) (x1 : Int32) (x2 : Int32) (t0 : Int32) (t1 : Option Nat) (h : tpH), w_Md_setPolicy_29 R o x1 x2 t0 t1 h → tpR Md_setPolicy 1 h0 av (tpOi R (fun _ _ => False)) 29 [some (vR (some o)), some (vI x1), some (vI x2), none] [vI t0, vR t1] h := by
  intro o x1 x2 t0 t1 h hw
  unfold w_Md_setPolicy_29 at hw
  obtain ⟨a1, e2, f3, hw⟩ := hw
  refine te_puti dMd_setPolicy_29 pMd_151 rfl rfl e2 f3 ⟨rfl, rfl⟩ (fun h4 e5 => ?_)
  have hw := hw h4 e5
  refine tq_aload_n dMd_setPolicy_32 rfl rfl ?_
  obtain ⟨f6, hw⟩ := hw
  refine te_geti dMd_setPolicy_33 fMd_151 rfl rfl f6 ?_
  refine tq_ifle (tgt := 41) dMd_setPolicy_36 (by decide) (fun c7 => ?_) (fun c7 => ?_)
  · have hw := hw.1 c7
    refine tq_aload_n dMd_setPolicy_41 rfl rfl ?_
    refine te_getr dMd_setPolicy_42 fMd_64 rfl rfl f6 ?_
    refine tq_iload_n dMd_setPolicy_45 rfl rfl ?_
    obtain ⟨a8, e9, f10, hw⟩ := hw
    obtain ⟨f11, hw⟩ := hw
    refine te_iald dMd_setPolicy_46 e9 (Or.inl f10) f11 ?_
    refine tq_istore_n (ls' := [some (vR (some o)), some (vI x1), some (vI x2), some (vI (hI h4 a8 x1.toNatClampNeg))]) dMd_setPolicy_47 rfl (Nat.le_of_ble_eq_true rfl) rfl ?_
    refine tq_aload_n dMd_setPolicy_48 rfl rfl ?_
    refine te_getr dMd_setPolicy_49 fMd_64 rfl rfl f6 ?_
    refine tq_iload_n dMd_setPolicy_52 rfl rfl ?_
    refine tq_iload_n dMd_setPolicy_53 rfl rfl ?_
    obtain ⟨f12, hw⟩ := hw
    refine te_iast dMd_setPolicy_54 e9 f10 f12 (fun h13 e14 => ?_)
    have hw := hw h13 e14
    refine tq_iload_n dMd_setPolicy_55 rfl rfl ?_
    exact tq_iret rfl rfl dMd_setPolicy_56 hw
  · have hw := hw.2 c7
    refine tq_iconst (v := (0 : Int32)) dMd_setPolicy_39 tni_0 ?_
    exact tq_iret rfl rfl dMd_setPolicy_40 hw
theorem s_Md_setPolicy {o : Nat} {x1 : Int32} {x2 : Int32} {h : tpH} {R : Int32 → tpH → Prop} (hw : w_Md_setPolicy o x1 x2 h R) : tpC Md_setPolicy 1 [vR (some o), vI x1, vI x2] h (tpOi R (fun _ _ => False)) := by
  refine tpC_of mv_Md_setPolicy.2.2.2.1 rfl rfl (Nat.le_of_ble_eq_true rfl) ?_
  show tpR Md_setPolicy 1 h _ _ 0 [some (vR (some o)), some (vI x1), some (vI x2), none] [] h
  unfold w_Md_setPolicy at hw
  refine tq_aload_n dMd_setPolicy_0 rfl rfl ?_
  refine tq_iload_n dMd_setPolicy_1 rfl rfl ?_
  refine tq_iconst (v := (0 : Int32)) dMd_setPolicy_2 tni_0 ?_
  refine tq_iconst (v := (2 : Int32)) dMd_setPolicy_3 tni_2 ?_
  refine tq_callS ms_Md_in (dc := 0) (as := [vI x1, vI (0 : Int32), vI (2 : Int32)]) (rest := [vR (some o)]) kMd_158 (Nat.le_of_ble_eq_true rfl) (Nat.le_of_ble_eq_true rfl) rfl rfl (Nat.le_of_ble_eq_true rfl) dMd_setPolicy_4 (s_Md_in hw) (fun _ _ hx => False.elim hx) (tk_i fun v2 h1 hw => ?_)
  refine tq_ifne (tgt := 15) dMd_setPolicy_7 (by decide) (fun c3 => ?_) (fun c3 => ?_)
  · have hw := hw.1 c3
    refine tpR.fo (ls' := [some (vR (some o)), some (vI x1), some (vI x2), none]) ?_ (And.intro rfl (And.intro rfl (And.intro rfl trivial)))
    exact s_Md_setPolicy_15 (s_Md_setPolicy_29) _ _ _ _ _ hw
  · have hw := hw.2 c3
    refine tq_iload_n dMd_setPolicy_10 rfl rfl ?_
    refine tq_iconst (v := (5 : Int32)) dMd_setPolicy_11 tni_5 ?_
    refine tq_icmpne (tgt := 24) dMd_setPolicy_12 (by decide) (fun c4 => ?_) (fun c4 => ?_)
    · have hw := hw.1 c4
      refine tq_iconst (v := (1 : Int32)) dMd_setPolicy_24 tni_1 ?_
      refine tq_goto (tgt := 29) dMd_setPolicy_25 (by decide) ?_
      refine tpR.fo (ls' := [some (vR (some o)), some (vI x1), some (vI x2), none]) ?_ (And.intro rfl (And.intro rfl (And.intro rfl trivial)))
      exact s_Md_setPolicy_29 _ _ _ _ _ _ hw
    · have hw := hw.2 c4
      refine tpR.fo (ls' := [some (vR (some o)), some (vI x1), some (vI x2), none]) ?_ (And.intro rfl (And.intro rfl (And.intro rfl trivial)))
      exact s_Md_setPolicy_15 (s_Md_setPolicy_29) _ _ _ _ _ hw
/-! TModel.list -/
theorem dMd_list_0 : decode (mB Md_list) 0 = .ok (.aload_n 0, 1) := by decide +kernel
theorem dMd_list_1 : decode (mB Md_list) 1 = .ok (.getfield 68, 3) := by decide +kernel
theorem dMd_list_4 : decode (mB Md_list) 4 = .ok (.aload_n 0, 1) := by decide +kernel
theorem dMd_list_5 : decode (mB Md_list) 5 = .ok (.getfield 343, 3) := by decide +kernel
theorem dMd_list_8 : decode (mB Md_list) 8 = .ok (.sipush 300, 3) := by decide +kernel
theorem dMd_list_11 : decode (mB Md_list) 11 = .ok (.iload_n 1, 1) := by decide +kernel
theorem dMd_list_12 : decode (mB Md_list) 12 = .ok (.imul, 1) := by decide +kernel
theorem dMd_list_13 : decode (mB Md_list) 13 = .ok (.iload_n 2, 1) := by decide +kernel
theorem dMd_list_14 : decode (mB Md_list) 14 = .ok (.iadd, 1) := by decide +kernel
theorem dMd_list_15 : decode (mB Md_list) 15 = .ok (.iastore, 1) := by decide +kernel
theorem dMd_list_16 : decode (mB Md_list) 16 = .ok (.aload_n 0, 1) := by decide +kernel
theorem dMd_list_17 : decode (mB Md_list) 17 = .ok (.dup, 1) := by decide +kernel
theorem dMd_list_18 : decode (mB Md_list) 18 = .ok (.getfield 343, 3) := by decide +kernel
theorem dMd_list_21 : decode (mB Md_list) 21 = .ok (.iconst 1, 1) := by decide +kernel
theorem dMd_list_22 : decode (mB Md_list) 22 = .ok (.iadd, 1) := by decide +kernel
theorem dMd_list_23 : decode (mB Md_list) 23 = .ok (.putfield 343, 3) := by decide +kernel
theorem dMd_list_26 : decode (mB Md_list) 26 = .ok (.return_, 1) := by decide +kernel
def w_Md_list (o : Nat) (x1 : Int32) (x2 : Int32) (h : tpH) (R : tpH → Prop) : Prop :=
  hT h o = 14 ∧ (∃ a2, (hR h o 25) = some a2 ∧ hT h a2 = 15 ∧ (vp_in (hI h o 24) (hL h a2) ∧ (∀ h6, h6 = sI h a2 (hI h o 24).toNatClampNeg (((300 : Int32) * x1) + x2) → (∀ h8, h8 = sI h6 o 24 ((hI h6 o 24) + (1 : Int32)) → (R h8)))))
theorem s_Md_list {o : Nat} {x1 : Int32} {x2 : Int32} {h : tpH} {R : tpH → Prop} (hw : w_Md_list o x1 x2 h R) : tpC Md_list 0 [vR (some o), vI x1, vI x2] h (tpOv R (fun _ _ => False)) := by
  refine tpC_of mv_Md_list.2.2.2.1 rfl rfl (Nat.le_of_ble_eq_true rfl) ?_
  show tpR Md_list 0 h _ _ 0 [some (vR (some o)), some (vI x1), some (vI x2)] [] h
  unfold w_Md_list at hw
  refine tq_aload_n dMd_list_0 rfl rfl ?_
  obtain ⟨f1, hw⟩ := hw
  refine te_getr dMd_list_1 fMd_68 rfl rfl f1 ?_
  refine tq_aload_n dMd_list_4 rfl rfl ?_
  refine te_geti dMd_list_5 fMd_343 rfl rfl f1 ?_
  refine tq_sipush (v := (300 : Int32)) dMd_list_8 tns_300 ?_
  refine tq_iload_n dMd_list_11 rfl rfl ?_
  refine tq_imul dMd_list_12 ?_
  refine tq_iload_n dMd_list_13 rfl rfl ?_
  refine tq_iadd dMd_list_14 ?_
  obtain ⟨a2, e3, f4, hw⟩ := hw
  obtain ⟨f5, hw⟩ := hw
  refine te_iast dMd_list_15 e3 f4 f5 (fun h6 e7 => ?_)
  have hw := hw h6 e7
  refine tq_aload_n dMd_list_16 rfl rfl ?_
  refine tq_dup dMd_list_17 rfl ?_
  refine te_geti dMd_list_18 fMd_343 rfl rfl (by rw [e7]; exact f1) ?_
  refine tq_iconst (v := (1 : Int32)) dMd_list_21 tni_1 ?_
  refine tq_iadd dMd_list_22 ?_
  refine te_puti dMd_list_23 pMd_343 rfl rfl rfl (by rw [e7]; exact f1) ⟨rfl, rfl⟩ (fun h8 e9 => ?_)
  have hw := hw h8 e9
  exact tq_vret rfl dMd_list_26 hw
/-! TModel.isTouched -/
theorem dMd_isTouched_0 : decode (mB Md_isTouched) 0 = .ok (.aload_n 0, 1) := by decide +kernel
theorem dMd_isTouched_1 : decode (mB Md_isTouched) 1 = .ok (.iload_n 2, 1) := by decide +kernel
theorem dMd_isTouched_2 : decode (mB Md_isTouched) 2 = .ok (.iload_n 3, 1) := by decide +kernel
theorem dMd_isTouched_3 : decode (mB Md_isTouched) 3 = .ok (.invokevirtual 226, 3) := by decide +kernel
theorem dMd_isTouched_6 : decode (mB Md_isTouched) 6 = .ok (.aload_n 0, 1) := by decide +kernel
theorem dMd_isTouched_7 : decode (mB Md_isTouched) 7 = .ok (.iload_n 1, 1) := by decide +kernel
theorem dMd_isTouched_8 : decode (mB Md_isTouched) 8 = .ok (.iload_n 3, 1) := by decide +kernel
theorem dMd_isTouched_9 : decode (mB Md_isTouched) 9 = .ok (.invokevirtual 226, 3) := by decide +kernel
theorem dMd_isTouched_12 : decode (mB Md_isTouched) 12 = .ok (.if_icmp .ne 18, 3) := by decide +kernel
theorem dMd_isTouched_15 : decode (mB Md_isTouched) 15 = .ok (.aload_n 0, 1) := by decide +kernel
theorem dMd_isTouched_16 : decode (mB Md_isTouched) 16 = .ok (.iload_n 2, 1) := by decide +kernel
theorem dMd_isTouched_17 : decode (mB Md_isTouched) 17 = .ok (.iload_n 3, 1) := by decide +kernel
theorem dMd_isTouched_18 : decode (mB Md_isTouched) 18 = .ok (.invokevirtual 179, 3) := by decide +kernel
theorem dMd_isTouched_21 : decode (mB Md_isTouched) 21 = .ok (.aload_n 0, 1) := by decide +kernel
theorem dMd_isTouched_22 : decode (mB Md_isTouched) 22 = .ok (.iload_n 1, 1) := by decide +kernel
theorem dMd_isTouched_23 : decode (mB Md_isTouched) 23 = .ok (.iload_n 3, 1) := by decide +kernel
theorem dMd_isTouched_24 : decode (mB Md_isTouched) 24 = .ok (.invokevirtual 179, 3) := by decide +kernel
theorem dMd_isTouched_27 : decode (mB Md_isTouched) 27 = .ok (.if_icmp .eq 7, 3) := by decide +kernel
theorem dMd_isTouched_30 : decode (mB Md_isTouched) 30 = .ok (.iconst 1, 1) := by decide +kernel
theorem dMd_isTouched_31 : decode (mB Md_isTouched) 31 = .ok (.goto 4, 3) := by decide +kernel
theorem dMd_isTouched_34 : decode (mB Md_isTouched) 34 = .ok (.iconst 0, 1) := by decide +kernel
theorem dMd_isTouched_35 : decode (mB Md_isTouched) 35 = .ok (.istore 4, 2) := by decide +kernel
theorem dMd_isTouched_37 : decode (mB Md_isTouched) 37 = .ok (.aload_n 0, 1) := by decide +kernel
theorem dMd_isTouched_38 : decode (mB Md_isTouched) 38 = .ok (.iload_n 2, 1) := by decide +kernel
theorem dMd_isTouched_39 : decode (mB Md_isTouched) 39 = .ok (.iload_n 3, 1) := by decide +kernel
theorem dMd_isTouched_40 : decode (mB Md_isTouched) 40 = .ok (.invokevirtual 173, 3) := by decide +kernel
theorem dMd_isTouched_43 : decode (mB Md_isTouched) 43 = .ok (.istore 5, 2) := by decide +kernel
theorem dMd_isTouched_45 : decode (mB Md_isTouched) 45 = .ok (.iload 5, 2) := by decide +kernel
theorem dMd_isTouched_47 : decode (mB Md_isTouched) 47 = .ok (.iconst (-1), 1) := by decide +kernel
theorem dMd_isTouched_48 : decode (mB Md_isTouched) 48 = .ok (.if_icmp .eq 48, 3) := by decide +kernel
theorem dMd_isTouched_51 : decode (mB Md_isTouched) 51 = .ok (.iload 4, 2) := by decide +kernel
theorem dMd_isTouched_53 : decode (mB Md_isTouched) 53 = .ok (.ifCond .ne 43, 3) := by decide +kernel
theorem dMd_isTouched_56 : decode (mB Md_isTouched) 56 = .ok (.aload_n 0, 1) := by decide +kernel
theorem dMd_isTouched_57 : decode (mB Md_isTouched) 57 = .ok (.iload_n 1, 1) := by decide +kernel
theorem dMd_isTouched_58 : decode (mB Md_isTouched) 58 = .ok (.iload 5, 2) := by decide +kernel
theorem dMd_isTouched_60 : decode (mB Md_isTouched) 60 = .ok (.invokevirtual 212, 3) := by decide +kernel
theorem dMd_isTouched_63 : decode (mB Md_isTouched) 63 = .ok (.ifCond .eq 14, 3) := by decide +kernel
theorem dMd_isTouched_66 : decode (mB Md_isTouched) 66 = .ok (.aload_n 0, 1) := by decide +kernel
theorem dMd_isTouched_67 : decode (mB Md_isTouched) 67 = .ok (.iload_n 1, 1) := by decide +kernel
theorem dMd_isTouched_68 : decode (mB Md_isTouched) 68 = .ok (.iload 5, 2) := by decide +kernel
theorem dMd_isTouched_70 : decode (mB Md_isTouched) 70 = .ok (.invokevirtual 179, 3) := by decide +kernel
theorem dMd_isTouched_73 : decode (mB Md_isTouched) 73 = .ok (.iload_n 3, 1) := by decide +kernel
theorem dMd_isTouched_74 : decode (mB Md_isTouched) 74 = .ok (.if_icmp .eq 7, 3) := by decide +kernel
theorem dMd_isTouched_77 : decode (mB Md_isTouched) 77 = .ok (.iconst 1, 1) := by decide +kernel
theorem dMd_isTouched_78 : decode (mB Md_isTouched) 78 = .ok (.goto 4, 3) := by decide +kernel
theorem dMd_isTouched_81 : decode (mB Md_isTouched) 81 = .ok (.iconst 0, 1) := by decide +kernel
theorem dMd_isTouched_82 : decode (mB Md_isTouched) 82 = .ok (.istore 4, 2) := by decide +kernel
theorem dMd_isTouched_84 : decode (mB Md_isTouched) 84 = .ok (.aload_n 0, 1) := by decide +kernel
theorem dMd_isTouched_85 : decode (mB Md_isTouched) 85 = .ok (.iload_n 2, 1) := by decide +kernel
theorem dMd_isTouched_86 : decode (mB Md_isTouched) 86 = .ok (.iload 5, 2) := by decide +kernel
theorem dMd_isTouched_88 : decode (mB Md_isTouched) 88 = .ok (.invokevirtual 169, 3) := by decide +kernel
theorem dMd_isTouched_91 : decode (mB Md_isTouched) 91 = .ok (.istore 5, 2) := by decide +kernel
theorem dMd_isTouched_93 : decode (mB Md_isTouched) 93 = .ok (.goto (-48), 3) := by decide +kernel
theorem dMd_isTouched_96 : decode (mB Md_isTouched) 96 = .ok (.iload 4, 2) := by decide +kernel
theorem dMd_isTouched_98 : decode (mB Md_isTouched) 98 = .ok (.ireturn, 1) := by decide +kernel
def w_Md_isTouched_82 (R : Int32 → tpH → Prop) (K45 : Nat → Int32 → Int32 → Int32 → Int32 → Int32 → tpH → Prop) (o : Nat) (x1 : Int32) (x2 : Int32) (x3 : Int32) (x5 : Int32) (t0 : Int32) (h : tpH) : Prop :=
  hT h o = 14 ∧ (w_Md_nextIn o x2 x5 h (fun v3 h2 => K45 o x1 x2 x3 t0 v3 h2))
def b_Md_isTouched_45 (R : Int32 → tpH → Prop) (Y : Nat → Int32 → Int32 → Int32 → Int32 → Int32 → tpH → Prop) (o : Nat) (x1 : Int32) (x2 : Int32) (x3 : Int32) (x4 : Int32) (x5 : Int32) (h : tpH) : Prop :=
  (x5 = (-1 : Int32) → (tpB x4 ∧ (R x4 h))) ∧ (¬ x5 = (-1 : Int32) → ((¬ x4 = 0 → (tpB x4 ∧ (R x4 h))) ∧ (x4 = 0 → (hT h o = 14 ∧ (w_Md_has o x1 x5 h (fun v7 h6 => (v7 = 0 → (w_Md_isTouched_82 R Y o x1 x2 x3 x5 (1 : Int32) h6)) ∧ (¬ v7 = 0 → (hT h6 o = 14 ∧ (w_Md_parentIn o x1 x5 h6 (fun v11 h10 => (v11 = x3 → (w_Md_isTouched_82 R Y o x1 x2 x3 x5 (0 : Int32) h10)) ∧ (¬ v11 = x3 → (w_Md_isTouched_82 R Y o x1 x2 x3 x5 (1 : Int32) h10))))))))))))
def w_Md_isTouched_45 (R : Int32 → tpH → Prop) : Nat → Nat → Int32 → Int32 → Int32 → Int32 → Int32 → tpH → Prop
  | 0 => fun _ _ _ _ _ _ _ => False
  | n + 1 => b_Md_isTouched_45 R (w_Md_isTouched_45 R n)
def w_Md_isTouched_35 (R : Int32 → tpH → Prop) (o : Nat) (x1 : Int32) (x2 : Int32) (x3 : Int32) (t0 : Int32) (h : tpH) : Prop :=
  hT h o = 14 ∧ (w_Md_firstIn o x2 x3 h (fun v3 h2 => ∃ n, w_Md_isTouched_45 R n o x1 x2 x3 t0 v3 h2))
def w_Md_isTouched (o : Nat) (x1 : Int32) (x2 : Int32) (x3 : Int32) (h : tpH) (R : Int32 → tpH → Prop) : Prop :=
  hT h o = 14 ∧ (w_Md_valueIn o x2 x3 h (fun v3 h2 => hT h2 o = 14 ∧ (w_Md_valueIn o x1 x3 h2 (fun v6 h5 => (¬ v3 = v6 → (w_Md_isTouched_35 R o x1 x2 x3 (1 : Int32) h5)) ∧ (v3 = v6 → (hT h5 o = 14 ∧ (w_Md_parentIn o x2 x3 h5 (fun v10 h9 => hT h9 o = 14 ∧ (w_Md_parentIn o x1 x3 h9 (fun v13 h12 => (v10 = v13 → (w_Md_isTouched_35 R o x1 x2 x3 (0 : Int32) h12)) ∧ (¬ v10 = v13 → (w_Md_isTouched_35 R o x1 x2 x3 (1 : Int32) h12))))))))))))
theorem s_Md_isTouched_82 {h0 : tpH} {av : List tpV} {R : Int32 → tpH → Prop} {K45 : Nat → Int32 → Int32 → Int32 → Int32 → Int32 → tpH → Prop} (k45 : ∀ (o : Nat) (x1 : Int32) (x2 : Int32) (x3 : Int32) (x4 : Int32) (x5 : Int32) (h : tpH), K45 o x1 x2 x3 x4 x5 h → tpR Md_isTouched 3 h0 av (tpOi R (fun _ _ => False)) 45 [some (vR (some o)), some (vI x1), some (vI x2), some (vI x3), some (vI x4), some (vI x5)] [] h) : ∀ (o : Nat) (x1 : Int32) (x2 : Int32) (x3 : Int32) (x5 : Int32) (t0 : Int32) (h : tpH), w_Md_isTouched_82 R K45 o x1 x2 x3 x5 t0 h → tpR Md_isTouched 3 h0 av (tpOi R (fun _ _ => False)) 82 [some (vR (some o)), some (vI x1), some (vI x2), some (vI x3), none, some (vI x5)] [vI t0] h := by
  intro o x1 x2 x3 x5 t0 h hw
  unfold w_Md_isTouched_82 at hw
  refine tq_istore (ls' := [some (vR (some o)), some (vI x1), some (vI x2), some (vI x3), some (vI t0), some (vI x5)]) dMd_isTouched_82 (Nat.le_of_ble_eq_true rfl) rfl ?_
  refine tq_aload_n dMd_isTouched_84 rfl rfl ?_
  refine tq_iload_n dMd_isTouched_85 rfl rfl ?_
  refine tq_iload dMd_isTouched_86 rfl ?_
  obtain ⟨f1, hw⟩ := hw
  refine te_callV mv_Md_nextIn (ci := 13) (dc := 0) (as := [vI x2, vI x5]) (rest := []) kMd_169 rfl (Nat.le_of_ble_eq_true rfl) (Nat.le_of_ble_eq_true rfl) rfl rfl rfl f1 (Nat.le_of_ble_eq_true rfl) dMd_isTouched_88 (s_Md_nextIn hw) (fun _ _ hx => False.elim hx) (tk_i fun v3 h2 hw => ?_)
  refine tq_istore (ls' := [some (vR (some o)), some (vI x1), some (vI x2), some (vI x3), some (vI t0), some (vI v3)]) dMd_isTouched_91 (Nat.le_of_ble_eq_true rfl) rfl ?_
  refine tq_goto (tgt := 45) dMd_isTouched_93 (by decide) ?_
  refine tpR.fo (ls' := [some (vR (some o)), some (vI x1), some (vI x2), some (vI x3), some (vI t0), some (vI v3)]) ?_ (And.intro rfl (And.intro rfl (And.intro rfl (And.intro rfl (And.intro rfl (And.intro rfl trivial))))))
  exact k45 _ _ _ _ _ _ _ hw
theorem s_Md_isTouched_45 {h0 : tpH} {av : List tpV} {R : Int32 → tpH → Prop} : ∀ (n : Nat) (o : Nat) (x1 : Int32) (x2 : Int32) (x3 : Int32) (x4 : Int32) (x5 : Int32) (h : tpH), w_Md_isTouched_45 R n o x1 x2 x3 x4 x5 h → tpR Md_isTouched 3 h0 av (tpOi R (fun _ _ => False)) 45 [some (vR (some o)), some (vI x1), some (vI x2), some (vI x3), some (vI x4), some (vI x5)] [] h := by
  intro n
  induction n with
  | zero => intro o x1 x2 x3 x4 x5 h hw; exact False.elim hw
  | succ n ih =>
    intro o x1 x2 x3 x4 x5 h hw
    change b_Md_isTouched_45 R (w_Md_isTouched_45 R n) o x1 x2 x3 x4 x5 h at hw
    unfold b_Md_isTouched_45 at hw
    refine tq_iload dMd_isTouched_45 rfl ?_
    refine tq_iconst (v := (-1 : Int32)) dMd_isTouched_47 tni_m1 ?_
    refine tq_icmpeq (tgt := 96) dMd_isTouched_48 (by decide) (fun c1 => ?_) (fun c1 => ?_)
    · have hw := hw.1 c1
      refine tq_iload dMd_isTouched_96 rfl ?_
      obtain ⟨f2, hw⟩ := hw
      exact tq_iret rfl (tpB_n f2) dMd_isTouched_98 hw
    · have hw := hw.2 c1
      refine tq_iload dMd_isTouched_51 rfl ?_
      refine tq_ifne (tgt := 96) dMd_isTouched_53 (by decide) (fun c3 => ?_) (fun c3 => ?_)
      · have hw := hw.1 c3
        refine tq_iload dMd_isTouched_96 rfl ?_
        obtain ⟨f4, hw⟩ := hw
        exact tq_iret rfl (tpB_n f4) dMd_isTouched_98 hw
      · have hw := hw.2 c3
        refine tq_aload_n dMd_isTouched_56 rfl rfl ?_
        refine tq_iload_n dMd_isTouched_57 rfl rfl ?_
        refine tq_iload dMd_isTouched_58 rfl ?_
        obtain ⟨f5, hw⟩ := hw
        refine te_callV mv_Md_has (ci := 13) (dc := 2) (as := [vI x1, vI x5]) (rest := []) kMd_212 rfl (Nat.le_of_ble_eq_true rfl) (Nat.le_of_ble_eq_true rfl) rfl rfl rfl f5 (Nat.le_of_ble_eq_true rfl) dMd_isTouched_60 (s_Md_has hw) (fun _ _ hx => False.elim hx) (tk_i fun v7 h6 hw => ?_)
        refine tq_ifeq (tgt := 77) dMd_isTouched_63 (by decide) (fun c8 => ?_) (fun c8 => ?_)
        · have hw := hw.1 c8
          refine tq_iconst (v := (1 : Int32)) dMd_isTouched_77 tni_1 ?_
          refine tq_goto (tgt := 82) dMd_isTouched_78 (by decide) ?_
          refine tpR.fo (ls' := [some (vR (some o)), some (vI x1), some (vI x2), some (vI x3), none, some (vI x5)]) ?_ (And.intro rfl (And.intro rfl (And.intro rfl (And.intro rfl (And.intro rfl trivial)))))
          exact s_Md_isTouched_82 ih _ _ _ _ _ _ _ hw
        · have hw := hw.2 c8
          refine tq_aload_n dMd_isTouched_66 rfl rfl ?_
          refine tq_iload_n dMd_isTouched_67 rfl rfl ?_
          refine tq_iload dMd_isTouched_68 rfl ?_
          obtain ⟨f9, hw⟩ := hw
          refine te_callV mv_Md_parentIn (ci := 13) (dc := 0) (as := [vI x1, vI x5]) (rest := []) kMd_179 rfl (Nat.le_of_ble_eq_true rfl) (Nat.le_of_ble_eq_true rfl) rfl rfl rfl f9 (Nat.le_of_ble_eq_true rfl) dMd_isTouched_70 (s_Md_parentIn hw) (fun _ _ hx => False.elim hx) (tk_i fun v11 h10 hw => ?_)
          refine tq_iload_n dMd_isTouched_73 rfl rfl ?_
          refine tq_icmpeq (tgt := 81) dMd_isTouched_74 (by decide) (fun c12 => ?_) (fun c12 => ?_)
          · have hw := hw.1 c12
            refine tq_iconst (v := (0 : Int32)) dMd_isTouched_81 tni_0 ?_
            refine tpR.fo (ls' := [some (vR (some o)), some (vI x1), some (vI x2), some (vI x3), none, some (vI x5)]) ?_ (And.intro rfl (And.intro rfl (And.intro rfl (And.intro rfl (And.intro rfl trivial)))))
            exact s_Md_isTouched_82 ih _ _ _ _ _ _ _ hw
          · have hw := hw.2 c12
            refine tq_iconst (v := (1 : Int32)) dMd_isTouched_77 tni_1 ?_
            refine tq_goto (tgt := 82) dMd_isTouched_78 (by decide) ?_
            refine tpR.fo (ls' := [some (vR (some o)), some (vI x1), some (vI x2), some (vI x3), none, some (vI x5)]) ?_ (And.intro rfl (And.intro rfl (And.intro rfl (And.intro rfl (And.intro rfl trivial)))))
            exact s_Md_isTouched_82 ih _ _ _ _ _ _ _ hw
theorem s_Md_isTouched_35 {h0 : tpH} {av : List tpV} {R : Int32 → tpH → Prop} : ∀ (o : Nat) (x1 : Int32) (x2 : Int32) (x3 : Int32) (t0 : Int32) (h : tpH), w_Md_isTouched_35 R o x1 x2 x3 t0 h → tpR Md_isTouched 3 h0 av (tpOi R (fun _ _ => False)) 35 [some (vR (some o)), some (vI x1), some (vI x2), some (vI x3), none, none] [vI t0] h := by
  intro o x1 x2 x3 t0 h hw
  unfold w_Md_isTouched_35 at hw
  refine tq_istore (ls' := [some (vR (some o)), some (vI x1), some (vI x2), some (vI x3), some (vI t0), none]) dMd_isTouched_35 (Nat.le_of_ble_eq_true rfl) rfl ?_
  refine tq_aload_n dMd_isTouched_37 rfl rfl ?_
  refine tq_iload_n dMd_isTouched_38 rfl rfl ?_
  refine tq_iload_n dMd_isTouched_39 rfl rfl ?_
  obtain ⟨f1, hw⟩ := hw
  refine te_callV mv_Md_firstIn (ci := 13) (dc := 0) (as := [vI x2, vI x3]) (rest := []) kMd_173 rfl (Nat.le_of_ble_eq_true rfl) (Nat.le_of_ble_eq_true rfl) rfl rfl rfl f1 (Nat.le_of_ble_eq_true rfl) dMd_isTouched_40 (s_Md_firstIn hw) (fun _ _ hx => False.elim hx) (tk_i fun v3 h2 hw => ?_)
  refine tq_istore (ls' := [some (vR (some o)), some (vI x1), some (vI x2), some (vI x3), some (vI t0), some (vI v3)]) dMd_isTouched_43 (Nat.le_of_ble_eq_true rfl) rfl ?_
  refine tpR.fo (ls' := [some (vR (some o)), some (vI x1), some (vI x2), some (vI x3), some (vI t0), some (vI v3)]) ?_ (And.intro rfl (And.intro rfl (And.intro rfl (And.intro rfl (And.intro rfl (And.intro rfl trivial))))))
  obtain ⟨n, hw⟩ := hw
  exact s_Md_isTouched_45 n _ _ _ _ _ _ _ hw
theorem s_Md_isTouched {o : Nat} {x1 : Int32} {x2 : Int32} {x3 : Int32} {h : tpH} {R : Int32 → tpH → Prop} (hw : w_Md_isTouched o x1 x2 x3 h R) : tpC Md_isTouched 3 [vR (some o), vI x1, vI x2, vI x3] h (tpOi R (fun _ _ => False)) := by
  refine tpC_of mv_Md_isTouched.2.2.2.1 rfl rfl (Nat.le_of_ble_eq_true rfl) ?_
  show tpR Md_isTouched 3 h _ _ 0 [some (vR (some o)), some (vI x1), some (vI x2), some (vI x3), none, none] [] h
  unfold w_Md_isTouched at hw
  refine tq_aload_n dMd_isTouched_0 rfl rfl ?_
  refine tq_iload_n dMd_isTouched_1 rfl rfl ?_
  refine tq_iload_n dMd_isTouched_2 rfl rfl ?_
  obtain ⟨f1, hw⟩ := hw
  refine te_callV mv_Md_valueIn (ci := 13) (dc := 0) (as := [vI x2, vI x3]) (rest := []) kMd_226 rfl (Nat.le_of_ble_eq_true rfl) (Nat.le_of_ble_eq_true rfl) rfl rfl rfl f1 (Nat.le_of_ble_eq_true rfl) dMd_isTouched_3 (s_Md_valueIn hw) (fun _ _ hx => False.elim hx) (tk_i fun v3 h2 hw => ?_)
  refine tq_aload_n dMd_isTouched_6 rfl rfl ?_
  refine tq_iload_n dMd_isTouched_7 rfl rfl ?_
  refine tq_iload_n dMd_isTouched_8 rfl rfl ?_
  obtain ⟨f4, hw⟩ := hw
  refine te_callV mv_Md_valueIn (ci := 13) (dc := 0) (as := [vI x1, vI x3]) (rest := [vI v3]) kMd_226 rfl (Nat.le_of_ble_eq_true rfl) (Nat.le_of_ble_eq_true rfl) rfl rfl rfl f4 (Nat.le_of_ble_eq_true rfl) dMd_isTouched_9 (s_Md_valueIn hw) (fun _ _ hx => False.elim hx) (tk_i fun v6 h5 hw => ?_)
  refine tq_icmpne (tgt := 30) dMd_isTouched_12 (by decide) (fun c7 => ?_) (fun c7 => ?_)
  · have hw := hw.1 c7
    refine tq_iconst (v := (1 : Int32)) dMd_isTouched_30 tni_1 ?_
    refine tq_goto (tgt := 35) dMd_isTouched_31 (by decide) ?_
    refine tpR.fo (ls' := [some (vR (some o)), some (vI x1), some (vI x2), some (vI x3), none, none]) ?_ (And.intro rfl (And.intro rfl (And.intro rfl (And.intro rfl trivial))))
    exact s_Md_isTouched_35 _ _ _ _ _ _ hw
  · have hw := hw.2 c7
    refine tq_aload_n dMd_isTouched_15 rfl rfl ?_
    refine tq_iload_n dMd_isTouched_16 rfl rfl ?_
    refine tq_iload_n dMd_isTouched_17 rfl rfl ?_
    obtain ⟨f8, hw⟩ := hw
    refine te_callV mv_Md_parentIn (ci := 13) (dc := 0) (as := [vI x2, vI x3]) (rest := []) kMd_179 rfl (Nat.le_of_ble_eq_true rfl) (Nat.le_of_ble_eq_true rfl) rfl rfl rfl f8 (Nat.le_of_ble_eq_true rfl) dMd_isTouched_18 (s_Md_parentIn hw) (fun _ _ hx => False.elim hx) (tk_i fun v10 h9 hw => ?_)
    refine tq_aload_n dMd_isTouched_21 rfl rfl ?_
    refine tq_iload_n dMd_isTouched_22 rfl rfl ?_
    refine tq_iload_n dMd_isTouched_23 rfl rfl ?_
    obtain ⟨f11, hw⟩ := hw
    refine te_callV mv_Md_parentIn (ci := 13) (dc := 0) (as := [vI x1, vI x3]) (rest := [vI v10]) kMd_179 rfl (Nat.le_of_ble_eq_true rfl) (Nat.le_of_ble_eq_true rfl) rfl rfl rfl f11 (Nat.le_of_ble_eq_true rfl) dMd_isTouched_24 (s_Md_parentIn hw) (fun _ _ hx => False.elim hx) (tk_i fun v13 h12 hw => ?_)
    refine tq_icmpeq (tgt := 34) dMd_isTouched_27 (by decide) (fun c14 => ?_) (fun c14 => ?_)
    · have hw := hw.1 c14
      refine tq_iconst (v := (0 : Int32)) dMd_isTouched_34 tni_0 ?_
      refine tpR.fo (ls' := [some (vR (some o)), some (vI x1), some (vI x2), some (vI x3), none, none]) ?_ (And.intro rfl (And.intro rfl (And.intro rfl (And.intro rfl trivial))))
      exact s_Md_isTouched_35 _ _ _ _ _ _ hw
    · have hw := hw.2 c14
      refine tq_iconst (v := (1 : Int32)) dMd_isTouched_30 tni_1 ?_
      refine tq_goto (tgt := 35) dMd_isTouched_31 (by decide) ?_
      refine tpR.fo (ls' := [some (vR (some o)), some (vI x1), some (vI x2), some (vI x3), none, none]) ?_ (And.intro rfl (And.intro rfl (And.intro rfl (And.intro rfl trivial))))
      exact s_Md_isTouched_35 _ _ _ _ _ _ hw
/-! TModel.comesIn -/
theorem dMd_comesIn_0 : decode (mB Md_comesIn) 0 = .ok (.aload_n 0, 1) := by decide +kernel
theorem dMd_comesIn_1 : decode (mB Md_comesIn) 1 = .ok (.iload_n 2, 1) := by decide +kernel
theorem dMd_comesIn_2 : decode (mB Md_comesIn) 2 = .ok (.iload 4, 2) := by decide +kernel
theorem dMd_comesIn_4 : decode (mB Md_comesIn) 4 = .ok (.invokevirtual 212, 3) := by decide +kernel
theorem dMd_comesIn_7 : decode (mB Md_comesIn) 7 = .ok (.istore 5, 2) := by decide +kernel
theorem dMd_comesIn_9 : decode (mB Md_comesIn) 9 = .ok (.aload_n 0, 1) := by decide +kernel
theorem dMd_comesIn_10 : decode (mB Md_comesIn) 10 = .ok (.iload_n 3, 1) := by decide +kernel
theorem dMd_comesIn_11 : decode (mB Md_comesIn) 11 = .ok (.iload 4, 2) := by decide +kernel
theorem dMd_comesIn_13 : decode (mB Md_comesIn) 13 = .ok (.invokevirtual 212, 3) := by decide +kernel
theorem dMd_comesIn_16 : decode (mB Md_comesIn) 16 = .ok (.istore 6, 2) := by decide +kernel
theorem dMd_comesIn_18 : decode (mB Md_comesIn) 18 = .ok (.aload_n 0, 1) := by decide +kernel
theorem dMd_comesIn_19 : decode (mB Md_comesIn) 19 = .ok (.iload_n 1, 1) := by decide +kernel
theorem dMd_comesIn_20 : decode (mB Md_comesIn) 20 = .ok (.iload 4, 2) := by decide +kernel
theorem dMd_comesIn_22 : decode (mB Md_comesIn) 22 = .ok (.invokevirtual 212, 3) := by decide +kernel
theorem dMd_comesIn_25 : decode (mB Md_comesIn) 25 = .ok (.ifCond .eq 10, 3) := by decide +kernel
theorem dMd_comesIn_28 : decode (mB Md_comesIn) 28 = .ok (.iload 5, 2) := by decide +kernel
theorem dMd_comesIn_30 : decode (mB Md_comesIn) 30 = .ok (.iload 6, 2) := by decide +kernel
theorem dMd_comesIn_32 : decode (mB Md_comesIn) 32 = .ok (.if_icmp .ne 19, 3) := by decide +kernel
theorem dMd_comesIn_35 : decode (mB Md_comesIn) 35 = .ok (.iload 5, 2) := by decide +kernel
theorem dMd_comesIn_37 : decode (mB Md_comesIn) 37 = .ok (.ifCond .ne 8, 3) := by decide +kernel
theorem dMd_comesIn_40 : decode (mB Md_comesIn) 40 = .ok (.iload 6, 2) := by decide +kernel
theorem dMd_comesIn_42 : decode (mB Md_comesIn) 42 = .ok (.ifCond .eq 7, 3) := by decide +kernel
theorem dMd_comesIn_45 : decode (mB Md_comesIn) 45 = .ok (.iconst 1, 1) := by decide +kernel
theorem dMd_comesIn_46 : decode (mB Md_comesIn) 46 = .ok (.goto 4, 3) := by decide +kernel
theorem dMd_comesIn_49 : decode (mB Md_comesIn) 49 = .ok (.iconst 0, 1) := by decide +kernel
theorem dMd_comesIn_50 : decode (mB Md_comesIn) 50 = .ok (.ireturn, 1) := by decide +kernel
theorem dMd_comesIn_51 : decode (mB Md_comesIn) 51 = .ok (.aload_n 0, 1) := by decide +kernel
theorem dMd_comesIn_52 : decode (mB Md_comesIn) 52 = .ok (.iload_n 1, 1) := by decide +kernel
theorem dMd_comesIn_53 : decode (mB Md_comesIn) 53 = .ok (.iload 5, 2) := by decide +kernel
theorem dMd_comesIn_55 : decode (mB Md_comesIn) 55 = .ok (.ifCond .eq 7, 3) := by decide +kernel
theorem dMd_comesIn_58 : decode (mB Md_comesIn) 58 = .ok (.iload_n 2, 1) := by decide +kernel
theorem dMd_comesIn_59 : decode (mB Md_comesIn) 59 = .ok (.goto 4, 3) := by decide +kernel
theorem dMd_comesIn_62 : decode (mB Md_comesIn) 62 = .ok (.iload_n 3, 1) := by decide +kernel
theorem dMd_comesIn_63 : decode (mB Md_comesIn) 63 = .ok (.iload 4, 2) := by decide +kernel
theorem dMd_comesIn_65 : decode (mB Md_comesIn) 65 = .ok (.invokevirtual 346, 3) := by decide +kernel
theorem dMd_comesIn_68 : decode (mB Md_comesIn) 68 = .ok (.ifCond .ne 5, 3) := by decide +kernel
theorem dMd_comesIn_71 : decode (mB Md_comesIn) 71 = .ok (.iconst 0, 1) := by decide +kernel
theorem dMd_comesIn_72 : decode (mB Md_comesIn) 72 = .ok (.ireturn, 1) := by decide +kernel
theorem dMd_comesIn_73 : decode (mB Md_comesIn) 73 = .ok (.aload_n 0, 1) := by decide +kernel
theorem dMd_comesIn_74 : decode (mB Md_comesIn) 74 = .ok (.iconst 0, 1) := by decide +kernel
theorem dMd_comesIn_75 : decode (mB Md_comesIn) 75 = .ok (.iload 4, 2) := by decide +kernel
theorem dMd_comesIn_77 : decode (mB Md_comesIn) 77 = .ok (.invokevirtual 349, 3) := by decide +kernel
theorem dMd_comesIn_80 : decode (mB Md_comesIn) 80 = .ok (.aload_n 0, 1) := by decide +kernel
theorem dMd_comesIn_81 : decode (mB Md_comesIn) 81 = .ok (.getfield 64, 3) := by decide +kernel
theorem dMd_comesIn_84 : decode (mB Md_comesIn) 84 = .ok (.iconst 0, 1) := by decide +kernel
theorem dMd_comesIn_85 : decode (mB Md_comesIn) 85 = .ok (.iaload, 1) := by decide +kernel
theorem dMd_comesIn_86 : decode (mB Md_comesIn) 86 = .ok (.ifCond .eq 26, 3) := by decide +kernel
theorem dMd_comesIn_89 : decode (mB Md_comesIn) 89 = .ok (.aload_n 0, 1) := by decide +kernel
theorem dMd_comesIn_90 : decode (mB Md_comesIn) 90 = .ok (.getfield 64, 3) := by decide +kernel
theorem dMd_comesIn_93 : decode (mB Md_comesIn) 93 = .ok (.iconst 0, 1) := by decide +kernel
theorem dMd_comesIn_94 : decode (mB Md_comesIn) 94 = .ok (.iaload, 1) := by decide +kernel
theorem dMd_comesIn_95 : decode (mB Md_comesIn) 95 = .ok (.iconst 1, 1) := by decide +kernel
theorem dMd_comesIn_96 : decode (mB Md_comesIn) 96 = .ok (.if_icmp .ne 11, 3) := by decide +kernel
theorem dMd_comesIn_99 : decode (mB Md_comesIn) 99 = .ok (.iload 5, 2) := by decide +kernel
theorem dMd_comesIn_101 : decode (mB Md_comesIn) 101 = .ok (.ifCond .eq 15, 3) := by decide +kernel
theorem dMd_comesIn_104 : decode (mB Md_comesIn) 104 = .ok (.goto 8, 3) := by decide +kernel
theorem dMd_comesIn_107 : decode (mB Md_comesIn) 107 = .ok (.iload 6, 2) := by decide +kernel
theorem dMd_comesIn_109 : decode (mB Md_comesIn) 109 = .ok (.ifCond .eq 7, 3) := by decide +kernel
theorem dMd_comesIn_112 : decode (mB Md_comesIn) 112 = .ok (.iconst 1, 1) := by decide +kernel
theorem dMd_comesIn_113 : decode (mB Md_comesIn) 113 = .ok (.goto 4, 3) := by decide +kernel
theorem dMd_comesIn_116 : decode (mB Md_comesIn) 116 = .ok (.iconst 0, 1) := by decide +kernel
theorem dMd_comesIn_117 : decode (mB Md_comesIn) 117 = .ok (.ireturn, 1) := by decide +kernel
def w_Md_comesIn_35 (R : Int32 → tpH → Prop) (x5 : Int32) (x6 : Int32) (h : tpH) : Prop :=
  (¬ x5 = 0 → (R (1 : Int32) h)) ∧ (x5 = 0 → ((x6 = 0 → (R (0 : Int32) h)) ∧ (¬ x6 = 0 → (R (1 : Int32) h))))
def w_Md_comesIn_63 (R : Int32 → tpH → Prop) (o : Nat) (x4 : Int32) (x5 : Int32) (x6 : Int32) (t0 : Int32) (t1 : Int32) (t2 : Option Nat) (h : tpH) : Prop :=
  ∃ a1, t2 = some a1 ∧ hT h a1 = 14 ∧ (w_Md_isTouched a1 t1 t0 x4 h (fun v5 h4 => (¬ v5 = 0 → (hT h4 o = 14 ∧ (w_Md_list o (0 : Int32) x4 h4 (fun h8 => hT h8 o = 14 ∧ (∃ a10, (hR h8 o 23) = some a10 ∧ hT h8 a10 = 15 ∧ (vp_in (0 : Int32) (hL h8 a10) ∧ (((hI h8 a10 (0 : Int32).toNatClampNeg) = 0 → (R (1 : Int32) h8)) ∧ (¬ (hI h8 a10 (0 : Int32).toNatClampNeg) = 0 → (vp_in (0 : Int32) (hL h8 a10) ∧ ((¬ (hI h8 a10 (0 : Int32).toNatClampNeg) = (1 : Int32) → ((x6 = 0 → (R (0 : Int32) h8)) ∧ (¬ x6 = 0 → (R (1 : Int32) h8)))) ∧ ((hI h8 a10 (0 : Int32).toNatClampNeg) = (1 : Int32) → ((x5 = 0 → (R (0 : Int32) h8)) ∧ (¬ x5 = 0 → (R (1 : Int32) h8)))))))))))))) ∧ (v5 = 0 → (R (0 : Int32) h4))))
def w_Md_comesIn (o : Nat) (x1 : Int32) (x2 : Int32) (x3 : Int32) (x4 : Int32) (h : tpH) (R : Int32 → tpH → Prop) : Prop :=
  hT h o = 14 ∧ (w_Md_has o x2 x4 h (fun v3 h2 => hT h2 o = 14 ∧ (w_Md_has o x3 x4 h2 (fun v6 h5 => hT h5 o = 14 ∧ (w_Md_has o x1 x4 h5 (fun v9 h8 => (v9 = 0 → (w_Md_comesIn_35 R v3 v6 h8)) ∧ (¬ v9 = 0 → ((¬ v3 = v6 → ((v3 = 0 → (w_Md_comesIn_63 R o x4 v3 v6 x3 x1 (some o) h8)) ∧ (¬ v3 = 0 → (w_Md_comesIn_63 R o x4 v3 v6 x2 x1 (some o) h8)))) ∧ (v3 = v6 → (w_Md_comesIn_35 R v3 v6 h8))))))))))
theorem s_Md_comesIn_35 {h0 : tpH} {av : List tpV} {R : Int32 → tpH → Prop} : ∀ (x5 : Int32) (x6 : Int32) (h : tpH), w_Md_comesIn_35 R x5 x6 h → tpR Md_comesIn 4 h0 av (tpOi R (fun _ _ => False)) 35 [none, none, none, none, none, some (vI x5), some (vI x6)] [] h := by
  intro x5 x6 h hw
  unfold w_Md_comesIn_35 at hw
  refine tq_iload dMd_comesIn_35 rfl ?_
  refine tq_ifne (tgt := 45) dMd_comesIn_37 (by decide) (fun c1 => ?_) (fun c1 => ?_)
  · have hw := hw.1 c1
    refine tq_iconst (v := (1 : Int32)) dMd_comesIn_45 tni_1 ?_
    refine tq_goto (tgt := 50) dMd_comesIn_46 (by decide) ?_
    exact tq_iret rfl (by decide) dMd_comesIn_50 hw
  · have hw := hw.2 c1
    refine tq_iload dMd_comesIn_40 rfl ?_
    refine tq_ifeq (tgt := 49) dMd_comesIn_42 (by decide) (fun c2 => ?_) (fun c2 => ?_)
    · have hw := hw.1 c2
      refine tq_iconst (v := (0 : Int32)) dMd_comesIn_49 tni_0 ?_
      exact tq_iret rfl (by decide) dMd_comesIn_50 hw
    · have hw := hw.2 c2
      refine tq_iconst (v := (1 : Int32)) dMd_comesIn_45 tni_1 ?_
      refine tq_goto (tgt := 50) dMd_comesIn_46 (by decide) ?_
      exact tq_iret rfl (by decide) dMd_comesIn_50 hw
theorem s_Md_comesIn_63 {h0 : tpH} {av : List tpV} {R : Int32 → tpH → Prop} : ∀ (o : Nat) (x4 : Int32) (x5 : Int32) (x6 : Int32) (t0 : Int32) (t1 : Int32) (t2 : Option Nat) (h : tpH), w_Md_comesIn_63 R o x4 x5 x6 t0 t1 t2 h → tpR Md_comesIn 4 h0 av (tpOi R (fun _ _ => False)) 63 [some (vR (some o)), none, none, none, some (vI x4), some (vI x5), some (vI x6)] [vI t0, vI t1, vR t2] h := by
  intro o x4 x5 x6 t0 t1 t2 h hw
  unfold w_Md_comesIn_63 at hw
  refine tq_iload dMd_comesIn_63 rfl ?_
  obtain ⟨a1, e2, f3, hw⟩ := hw
  refine te_callV mv_Md_isTouched (ci := 13) (dc := 3) (as := [vI t1, vI t0, vI x4]) (rest := []) kMd_346 rfl (Nat.le_of_ble_eq_true rfl) (Nat.le_of_ble_eq_true rfl) rfl rfl e2 f3 (Nat.le_of_ble_eq_true rfl) dMd_comesIn_65 (s_Md_isTouched hw) (fun _ _ hx => False.elim hx) (tk_i fun v5 h4 hw => ?_)
  refine tq_ifne (tgt := 73) dMd_comesIn_68 (by decide) (fun c6 => ?_) (fun c6 => ?_)
  · have hw := hw.1 c6
    refine tq_aload_n dMd_comesIn_73 rfl rfl ?_
    refine tq_iconst (v := (0 : Int32)) dMd_comesIn_74 tni_0 ?_
    refine tq_iload dMd_comesIn_75 rfl ?_
    obtain ⟨f7, hw⟩ := hw
    refine te_callV mv_Md_list (ci := 13) (dc := 0) (as := [vI (0 : Int32), vI x4]) (rest := []) kMd_349 rfl (Nat.le_of_ble_eq_true rfl) (Nat.le_of_ble_eq_true rfl) rfl rfl rfl f7 (Nat.le_of_ble_eq_true rfl) dMd_comesIn_77 (s_Md_list hw) (fun _ _ hx => False.elim hx) (tk_v fun h8 hw => ?_)
    refine tq_aload_n dMd_comesIn_80 rfl rfl ?_
    obtain ⟨f9, hw⟩ := hw
    refine te_getr dMd_comesIn_81 fMd_64 rfl rfl f9 ?_
    refine tq_iconst (v := (0 : Int32)) dMd_comesIn_84 tni_0 ?_
    obtain ⟨a10, e11, f12, hw⟩ := hw
    obtain ⟨f13, hw⟩ := hw
    refine te_iald dMd_comesIn_85 e11 (Or.inl f12) f13 ?_
    refine tq_ifeq (tgt := 112) dMd_comesIn_86 (by decide) (fun c14 => ?_) (fun c14 => ?_)
    · have hw := hw.1 c14
      refine tq_iconst (v := (1 : Int32)) dMd_comesIn_112 tni_1 ?_
      refine tq_goto (tgt := 117) dMd_comesIn_113 (by decide) ?_
      exact tq_iret rfl (by decide) dMd_comesIn_117 hw
    · have hw := hw.2 c14
      refine tq_aload_n dMd_comesIn_89 rfl rfl ?_
      refine te_getr dMd_comesIn_90 fMd_64 rfl rfl f9 ?_
      refine tq_iconst (v := (0 : Int32)) dMd_comesIn_93 tni_0 ?_
      obtain ⟨f15, hw⟩ := hw
      refine te_iald dMd_comesIn_94 e11 (Or.inl f12) f15 ?_
      refine tq_iconst (v := (1 : Int32)) dMd_comesIn_95 tni_1 ?_
      refine tq_icmpne (tgt := 107) dMd_comesIn_96 (by decide) (fun c16 => ?_) (fun c16 => ?_)
      · have hw := hw.1 c16
        refine tq_iload dMd_comesIn_107 rfl ?_
        refine tq_ifeq (tgt := 116) dMd_comesIn_109 (by decide) (fun c17 => ?_) (fun c17 => ?_)
        · have hw := hw.1 c17
          refine tq_iconst (v := (0 : Int32)) dMd_comesIn_116 tni_0 ?_
          exact tq_iret rfl (by decide) dMd_comesIn_117 hw
        · have hw := hw.2 c17
          refine tq_iconst (v := (1 : Int32)) dMd_comesIn_112 tni_1 ?_
          refine tq_goto (tgt := 117) dMd_comesIn_113 (by decide) ?_
          exact tq_iret rfl (by decide) dMd_comesIn_117 hw
      · have hw := hw.2 c16
        refine tq_iload dMd_comesIn_99 rfl ?_
        refine tq_ifeq (tgt := 116) dMd_comesIn_101 (by decide) (fun c18 => ?_) (fun c18 => ?_)
        · have hw := hw.1 c18
          refine tq_iconst (v := (0 : Int32)) dMd_comesIn_116 tni_0 ?_
          exact tq_iret rfl (by decide) dMd_comesIn_117 hw
        · have hw := hw.2 c18
          refine tq_goto (tgt := 112) dMd_comesIn_104 (by decide) ?_
          refine tq_iconst (v := (1 : Int32)) dMd_comesIn_112 tni_1 ?_
          refine tq_goto (tgt := 117) dMd_comesIn_113 (by decide) ?_
          exact tq_iret rfl (by decide) dMd_comesIn_117 hw
  · have hw := hw.2 c6
    refine tq_iconst (v := (0 : Int32)) dMd_comesIn_71 tni_0 ?_
    exact tq_iret rfl (by decide) dMd_comesIn_72 hw
theorem s_Md_comesIn {o : Nat} {x1 : Int32} {x2 : Int32} {x3 : Int32} {x4 : Int32} {h : tpH} {R : Int32 → tpH → Prop} (hw : w_Md_comesIn o x1 x2 x3 x4 h R) : tpC Md_comesIn 4 [vR (some o), vI x1, vI x2, vI x3, vI x4] h (tpOi R (fun _ _ => False)) := by
  refine tpC_of mv_Md_comesIn.2.2.2.1 rfl rfl (Nat.le_of_ble_eq_true rfl) ?_
  show tpR Md_comesIn 4 h _ _ 0 [some (vR (some o)), some (vI x1), some (vI x2), some (vI x3), some (vI x4), none, none] [] h
  unfold w_Md_comesIn at hw
  refine tq_aload_n dMd_comesIn_0 rfl rfl ?_
  refine tq_iload_n dMd_comesIn_1 rfl rfl ?_
  refine tq_iload dMd_comesIn_2 rfl ?_
  obtain ⟨f1, hw⟩ := hw
  refine te_callV mv_Md_has (ci := 13) (dc := 2) (as := [vI x2, vI x4]) (rest := []) kMd_212 rfl (Nat.le_of_ble_eq_true rfl) (Nat.le_of_ble_eq_true rfl) rfl rfl rfl f1 (Nat.le_of_ble_eq_true rfl) dMd_comesIn_4 (s_Md_has hw) (fun _ _ hx => False.elim hx) (tk_i fun v3 h2 hw => ?_)
  refine tq_istore (ls' := [some (vR (some o)), some (vI x1), some (vI x2), some (vI x3), some (vI x4), some (vI v3), none]) dMd_comesIn_7 (Nat.le_of_ble_eq_true rfl) rfl ?_
  refine tq_aload_n dMd_comesIn_9 rfl rfl ?_
  refine tq_iload_n dMd_comesIn_10 rfl rfl ?_
  refine tq_iload dMd_comesIn_11 rfl ?_
  obtain ⟨f4, hw⟩ := hw
  refine te_callV mv_Md_has (ci := 13) (dc := 2) (as := [vI x3, vI x4]) (rest := []) kMd_212 rfl (Nat.le_of_ble_eq_true rfl) (Nat.le_of_ble_eq_true rfl) rfl rfl rfl f4 (Nat.le_of_ble_eq_true rfl) dMd_comesIn_13 (s_Md_has hw) (fun _ _ hx => False.elim hx) (tk_i fun v6 h5 hw => ?_)
  refine tq_istore (ls' := [some (vR (some o)), some (vI x1), some (vI x2), some (vI x3), some (vI x4), some (vI v3), some (vI v6)]) dMd_comesIn_16 (Nat.le_of_ble_eq_true rfl) rfl ?_
  refine tq_aload_n dMd_comesIn_18 rfl rfl ?_
  refine tq_iload_n dMd_comesIn_19 rfl rfl ?_
  refine tq_iload dMd_comesIn_20 rfl ?_
  obtain ⟨f7, hw⟩ := hw
  refine te_callV mv_Md_has (ci := 13) (dc := 2) (as := [vI x1, vI x4]) (rest := []) kMd_212 rfl (Nat.le_of_ble_eq_true rfl) (Nat.le_of_ble_eq_true rfl) rfl rfl rfl f7 (Nat.le_of_ble_eq_true rfl) dMd_comesIn_22 (s_Md_has hw) (fun _ _ hx => False.elim hx) (tk_i fun v9 h8 hw => ?_)
  refine tq_ifeq (tgt := 35) dMd_comesIn_25 (by decide) (fun c10 => ?_) (fun c10 => ?_)
  · have hw := hw.1 c10
    refine tpR.fo (ls' := [none, none, none, none, none, some (vI v3), some (vI v6)]) ?_ (And.intro rfl (And.intro rfl trivial))
    exact s_Md_comesIn_35 _ _ _ hw
  · have hw := hw.2 c10
    refine tq_iload dMd_comesIn_28 rfl ?_
    refine tq_iload dMd_comesIn_30 rfl ?_
    refine tq_icmpne (tgt := 51) dMd_comesIn_32 (by decide) (fun c11 => ?_) (fun c11 => ?_)
    · have hw := hw.1 c11
      refine tq_aload_n dMd_comesIn_51 rfl rfl ?_
      refine tq_iload_n dMd_comesIn_52 rfl rfl ?_
      refine tq_iload dMd_comesIn_53 rfl ?_
      refine tq_ifeq (tgt := 62) dMd_comesIn_55 (by decide) (fun c12 => ?_) (fun c12 => ?_)
      · have hw := hw.1 c12
        refine tq_iload_n dMd_comesIn_62 rfl rfl ?_
        refine tpR.fo (ls' := [some (vR (some o)), none, none, none, some (vI x4), some (vI v3), some (vI v6)]) ?_ (And.intro rfl (And.intro rfl (And.intro rfl (And.intro rfl trivial))))
        exact s_Md_comesIn_63 _ _ _ _ _ _ _ _ hw
      · have hw := hw.2 c12
        refine tq_iload_n dMd_comesIn_58 rfl rfl ?_
        refine tq_goto (tgt := 63) dMd_comesIn_59 (by decide) ?_
        refine tpR.fo (ls' := [some (vR (some o)), none, none, none, some (vI x4), some (vI v3), some (vI v6)]) ?_ (And.intro rfl (And.intro rfl (And.intro rfl (And.intro rfl trivial))))
        exact s_Md_comesIn_63 _ _ _ _ _ _ _ _ hw
    · have hw := hw.2 c11
      refine tpR.fo (ls' := [none, none, none, none, none, some (vI v3), some (vI v6)]) ?_ (And.intro rfl (And.intro rfl trivial))
      exact s_Md_comesIn_35 _ _ _ hw
/-! TModel.decided -/
theorem dMd_decided_0 : decode (mB Md_decided) 0 = .ok (.iload 5, 2) := by decide +kernel
theorem dMd_decided_2 : decode (mB Md_decided) 2 = .ok (.iload 6, 2) := by decide +kernel
theorem dMd_decided_4 : decode (mB Md_decided) 4 = .ok (.if_icmp .eq 14, 3) := by decide +kernel
theorem dMd_decided_7 : decode (mB Md_decided) 7 = .ok (.iload_n 3, 1) := by decide +kernel
theorem dMd_decided_8 : decode (mB Md_decided) 8 = .ok (.ifCond .eq 13, 3) := by decide +kernel
theorem dMd_decided_11 : decode (mB Md_decided) 11 = .ok (.iload 6, 2) := by decide +kernel
theorem dMd_decided_13 : decode (mB Md_decided) 13 = .ok (.iload 4, 2) := by decide +kernel
theorem dMd_decided_15 : decode (mB Md_decided) 15 = .ok (.if_icmp .ne 6, 3) := by decide +kernel
theorem dMd_decided_18 : decode (mB Md_decided) 18 = .ok (.iload 5, 2) := by decide +kernel
theorem dMd_decided_20 : decode (mB Md_decided) 20 = .ok (.ireturn, 1) := by decide +kernel
theorem dMd_decided_21 : decode (mB Md_decided) 21 = .ok (.iload_n 3, 1) := by decide +kernel
theorem dMd_decided_22 : decode (mB Md_decided) 22 = .ok (.ifCond .eq 13, 3) := by decide +kernel
theorem dMd_decided_25 : decode (mB Md_decided) 25 = .ok (.iload 5, 2) := by decide +kernel
theorem dMd_decided_27 : decode (mB Md_decided) 27 = .ok (.iload 4, 2) := by decide +kernel
theorem dMd_decided_29 : decode (mB Md_decided) 29 = .ok (.if_icmp .ne 6, 3) := by decide +kernel
theorem dMd_decided_32 : decode (mB Md_decided) 32 = .ok (.iload 6, 2) := by decide +kernel
theorem dMd_decided_34 : decode (mB Md_decided) 34 = .ok (.ireturn, 1) := by decide +kernel
theorem dMd_decided_35 : decode (mB Md_decided) 35 = .ok (.aload_n 0, 1) := by decide +kernel
theorem dMd_decided_36 : decode (mB Md_decided) 36 = .ok (.iload_n 1, 1) := by decide +kernel
theorem dMd_decided_37 : decode (mB Md_decided) 37 = .ok (.iload_n 2, 1) := by decide +kernel
theorem dMd_decided_38 : decode (mB Md_decided) 38 = .ok (.invokevirtual 349, 3) := by decide +kernel
theorem dMd_decided_41 : decode (mB Md_decided) 41 = .ok (.aload_n 0, 1) := by decide +kernel
theorem dMd_decided_42 : decode (mB Md_decided) 42 = .ok (.getfield 64, 3) := by decide +kernel
theorem dMd_decided_45 : decode (mB Md_decided) 45 = .ok (.iload_n 1, 1) := by decide +kernel
theorem dMd_decided_46 : decode (mB Md_decided) 46 = .ok (.iaload, 1) := by decide +kernel
theorem dMd_decided_47 : decode (mB Md_decided) 47 = .ok (.istore 7, 2) := by decide +kernel
theorem dMd_decided_49 : decode (mB Md_decided) 49 = .ok (.iload 7, 2) := by decide +kernel
theorem dMd_decided_51 : decode (mB Md_decided) 51 = .ok (.iconst 2, 1) := by decide +kernel
theorem dMd_decided_52 : decode (mB Md_decided) 52 = .ok (.if_icmp .ne 8, 3) := by decide +kernel
theorem dMd_decided_55 : decode (mB Md_decided) 55 = .ok (.iload 6, 2) := by decide +kernel
theorem dMd_decided_57 : decode (mB Md_decided) 57 = .ok (.goto 20, 3) := by decide +kernel
theorem dMd_decided_60 : decode (mB Md_decided) 60 = .ok (.iload 7, 2) := by decide +kernel
theorem dMd_decided_62 : decode (mB Md_decided) 62 = .ok (.iconst 1, 1) := by decide +kernel
theorem dMd_decided_63 : decode (mB Md_decided) 63 = .ok (.if_icmp .eq 7, 3) := by decide +kernel
theorem dMd_decided_66 : decode (mB Md_decided) 66 = .ok (.iload_n 3, 1) := by decide +kernel
theorem dMd_decided_67 : decode (mB Md_decided) 67 = .ok (.ifCond .ne 8, 3) := by decide +kernel
theorem dMd_decided_70 : decode (mB Md_decided) 70 = .ok (.iload 5, 2) := by decide +kernel
theorem dMd_decided_72 : decode (mB Md_decided) 72 = .ok (.goto 5, 3) := by decide +kernel
theorem dMd_decided_75 : decode (mB Md_decided) 75 = .ok (.iload 4, 2) := by decide +kernel
theorem dMd_decided_77 : decode (mB Md_decided) 77 = .ok (.ireturn, 1) := by decide +kernel
def w_Md_decided_35 (R : Int32 → tpH → Prop) (o : Nat) (x1 : Int32) (x2 : Int32) (x3 : Int32) (x4 : Int32) (x5 : Int32) (x6 : Int32) (h : tpH) : Prop :=
  hT h o = 14 ∧ (w_Md_list o x1 x2 h (fun h2 => hT h2 o = 14 ∧ (∃ a4, (hR h2 o 23) = some a4 ∧ hT h2 a4 = 15 ∧ (vp_in x1 (hL h2 a4) ∧ ((¬ (hI h2 a4 x1.toNatClampNeg) = (2 : Int32) → (((hI h2 a4 x1.toNatClampNeg) = (1 : Int32) → (R x5 h2)) ∧ (¬ (hI h2 a4 x1.toNatClampNeg) = (1 : Int32) → ((¬ x3 = 0 → (R x4 h2)) ∧ (x3 = 0 → (R x5 h2)))))) ∧ ((hI h2 a4 x1.toNatClampNeg) = (2 : Int32) → (R x6 h2)))))))
def w_Md_decided_21 (R : Int32 → tpH → Prop) (o : Nat) (x1 : Int32) (x2 : Int32) (x3 : Int32) (x4 : Int32) (x5 : Int32) (x6 : Int32) (h : tpH) : Prop :=
  (x3 = 0 → (w_Md_decided_35 R o x1 x2 x3 x4 x5 x6 h)) ∧ (¬ x3 = 0 → ((¬ x5 = x4 → (w_Md_decided_35 R o x1 x2 x3 x4 x5 x6 h)) ∧ (x5 = x4 → (R x6 h))))
def w_Md_decided (o : Nat) (x1 : Int32) (x2 : Int32) (x3 : Int32) (x4 : Int32) (x5 : Int32) (x6 : Int32) (h : tpH) (R : Int32 → tpH → Prop) : Prop :=
  (x5 = x6 → (R x5 h)) ∧ (¬ x5 = x6 → ((x3 = 0 → (w_Md_decided_21 R o x1 x2 x3 x4 x5 x6 h)) ∧ (¬ x3 = 0 → ((¬ x6 = x4 → (w_Md_decided_21 R o x1 x2 x3 x4 x5 x6 h)) ∧ (x6 = x4 → (R x5 h))))))
theorem s_Md_decided_35 {h0 : tpH} {av : List tpV} {R : Int32 → tpH → Prop} : ∀ (o : Nat) (x1 : Int32) (x2 : Int32) (x3 : Int32) (x4 : Int32) (x5 : Int32) (x6 : Int32) (h : tpH), w_Md_decided_35 R o x1 x2 x3 x4 x5 x6 h → tpR Md_decided 1 h0 av (tpOi R (fun _ _ => False)) 35 [some (vR (some o)), some (vI x1), some (vI x2), some (vI x3), some (vI x4), some (vI x5), some (vI x6), none] [] h := by
  intro o x1 x2 x3 x4 x5 x6 h hw
  unfold w_Md_decided_35 at hw
  refine tq_aload_n dMd_decided_35 rfl rfl ?_
  refine tq_iload_n dMd_decided_36 rfl rfl ?_
  refine tq_iload_n dMd_decided_37 rfl rfl ?_
  obtain ⟨f1, hw⟩ := hw
  refine te_callV mv_Md_list (ci := 13) (dc := 0) (as := [vI x1, vI x2]) (rest := []) kMd_349 rfl (Nat.le_of_ble_eq_true rfl) (Nat.le_of_ble_eq_true rfl) rfl rfl rfl f1 (Nat.le_of_ble_eq_true rfl) dMd_decided_38 (s_Md_list hw) (fun _ _ hx => False.elim hx) (tk_v fun h2 hw => ?_)
  refine tq_aload_n dMd_decided_41 rfl rfl ?_
  obtain ⟨f3, hw⟩ := hw
  refine te_getr dMd_decided_42 fMd_64 rfl rfl f3 ?_
  refine tq_iload_n dMd_decided_45 rfl rfl ?_
  obtain ⟨a4, e5, f6, hw⟩ := hw
  obtain ⟨f7, hw⟩ := hw
  refine te_iald dMd_decided_46 e5 (Or.inl f6) f7 ?_
  refine tq_istore (ls' := [some (vR (some o)), some (vI x1), some (vI x2), some (vI x3), some (vI x4), some (vI x5), some (vI x6), some (vI (hI h2 a4 x1.toNatClampNeg))]) dMd_decided_47 (Nat.le_of_ble_eq_true rfl) rfl ?_
  refine tq_iload dMd_decided_49 rfl ?_
  refine tq_iconst (v := (2 : Int32)) dMd_decided_51 tni_2 ?_
  refine tq_icmpne (tgt := 60) dMd_decided_52 (by decide) (fun c8 => ?_) (fun c8 => ?_)
  · have hw := hw.1 c8
    refine tq_iload dMd_decided_60 rfl ?_
    refine tq_iconst (v := (1 : Int32)) dMd_decided_62 tni_1 ?_
    refine tq_icmpeq (tgt := 70) dMd_decided_63 (by decide) (fun c9 => ?_) (fun c9 => ?_)
    · have hw := hw.1 c9
      refine tq_iload dMd_decided_70 rfl ?_
      refine tq_goto (tgt := 77) dMd_decided_72 (by decide) ?_
      exact tq_iret rfl rfl dMd_decided_77 hw
    · have hw := hw.2 c9
      refine tq_iload_n dMd_decided_66 rfl rfl ?_
      refine tq_ifne (tgt := 75) dMd_decided_67 (by decide) (fun c10 => ?_) (fun c10 => ?_)
      · have hw := hw.1 c10
        refine tq_iload dMd_decided_75 rfl ?_
        exact tq_iret rfl rfl dMd_decided_77 hw
      · have hw := hw.2 c10
        refine tq_iload dMd_decided_70 rfl ?_
        refine tq_goto (tgt := 77) dMd_decided_72 (by decide) ?_
        exact tq_iret rfl rfl dMd_decided_77 hw
  · have hw := hw.2 c8
    refine tq_iload dMd_decided_55 rfl ?_
    refine tq_goto (tgt := 77) dMd_decided_57 (by decide) ?_
    exact tq_iret rfl rfl dMd_decided_77 hw
theorem s_Md_decided_21 {h0 : tpH} {av : List tpV} {R : Int32 → tpH → Prop} : ∀ (o : Nat) (x1 : Int32) (x2 : Int32) (x3 : Int32) (x4 : Int32) (x5 : Int32) (x6 : Int32) (h : tpH), w_Md_decided_21 R o x1 x2 x3 x4 x5 x6 h → tpR Md_decided 1 h0 av (tpOi R (fun _ _ => False)) 21 [some (vR (some o)), some (vI x1), some (vI x2), some (vI x3), some (vI x4), some (vI x5), some (vI x6), none] [] h := by
  intro o x1 x2 x3 x4 x5 x6 h hw
  unfold w_Md_decided_21 at hw
  refine tq_iload_n dMd_decided_21 rfl rfl ?_
  refine tq_ifeq (tgt := 35) dMd_decided_22 (by decide) (fun c1 => ?_) (fun c1 => ?_)
  · have hw := hw.1 c1
    refine tpR.fo (ls' := [some (vR (some o)), some (vI x1), some (vI x2), some (vI x3), some (vI x4), some (vI x5), some (vI x6), none]) ?_ (And.intro rfl (And.intro rfl (And.intro rfl (And.intro rfl (And.intro rfl (And.intro rfl (And.intro rfl trivial)))))))
    exact s_Md_decided_35 _ _ _ _ _ _ _ _ hw
  · have hw := hw.2 c1
    refine tq_iload dMd_decided_25 rfl ?_
    refine tq_iload dMd_decided_27 rfl ?_
    refine tq_icmpne (tgt := 35) dMd_decided_29 (by decide) (fun c2 => ?_) (fun c2 => ?_)
    · have hw := hw.1 c2
      refine tpR.fo (ls' := [some (vR (some o)), some (vI x1), some (vI x2), some (vI x3), some (vI x4), some (vI x5), some (vI x6), none]) ?_ (And.intro rfl (And.intro rfl (And.intro rfl (And.intro rfl (And.intro rfl (And.intro rfl (And.intro rfl trivial)))))))
      exact s_Md_decided_35 _ _ _ _ _ _ _ _ hw
    · have hw := hw.2 c2
      refine tq_iload dMd_decided_32 rfl ?_
      exact tq_iret rfl rfl dMd_decided_34 hw
theorem s_Md_decided {o : Nat} {x1 : Int32} {x2 : Int32} {x3 : Int32} {x4 : Int32} {x5 : Int32} {x6 : Int32} {h : tpH} {R : Int32 → tpH → Prop} (hw : w_Md_decided o x1 x2 x3 x4 x5 x6 h R) : tpC Md_decided 1 [vR (some o), vI x1, vI x2, vI x3, vI x4, vI x5, vI x6] h (tpOi R (fun _ _ => False)) := by
  refine tpC_of mv_Md_decided.2.2.2.1 rfl rfl (Nat.le_of_ble_eq_true rfl) ?_
  show tpR Md_decided 1 h _ _ 0 [some (vR (some o)), some (vI x1), some (vI x2), some (vI x3), some (vI x4), some (vI x5), some (vI x6), none] [] h
  unfold w_Md_decided at hw
  refine tq_iload dMd_decided_0 rfl ?_
  refine tq_iload dMd_decided_2 rfl ?_
  refine tq_icmpeq (tgt := 18) dMd_decided_4 (by decide) (fun c1 => ?_) (fun c1 => ?_)
  · have hw := hw.1 c1
    refine tq_iload dMd_decided_18 rfl ?_
    exact tq_iret rfl rfl dMd_decided_20 hw
  · have hw := hw.2 c1
    refine tq_iload_n dMd_decided_7 rfl rfl ?_
    refine tq_ifeq (tgt := 21) dMd_decided_8 (by decide) (fun c2 => ?_) (fun c2 => ?_)
    · have hw := hw.1 c2
      refine tpR.fo (ls' := [some (vR (some o)), some (vI x1), some (vI x2), some (vI x3), some (vI x4), some (vI x5), some (vI x6), none]) ?_ (And.intro rfl (And.intro rfl (And.intro rfl (And.intro rfl (And.intro rfl (And.intro rfl (And.intro rfl trivial)))))))
      exact s_Md_decided_21 _ _ _ _ _ _ _ _ hw
    · have hw := hw.2 c2
      refine tq_iload dMd_decided_11 rfl ?_
      refine tq_iload dMd_decided_13 rfl ?_
      refine tq_icmpne (tgt := 21) dMd_decided_15 (by decide) (fun c3 => ?_) (fun c3 => ?_)
      · have hw := hw.1 c3
        refine tpR.fo (ls' := [some (vR (some o)), some (vI x1), some (vI x2), some (vI x3), some (vI x4), some (vI x5), some (vI x6), none]) ?_ (And.intro rfl (And.intro rfl (And.intro rfl (And.intro rfl (And.intro rfl (And.intro rfl (And.intro rfl trivial)))))))
        exact s_Md_decided_21 _ _ _ _ _ _ _ _ hw
      · have hw := hw.2 c3
        refine tq_iload dMd_decided_18 rfl ?_
        exact tq_iret rfl rfl dMd_decided_20 hw
/-! TModel.mergeMark -/
theorem dMd_mergeMark_0 : decode (mB Md_mergeMark) 0 = .ok (.aload_n 0, 1) := by decide +kernel
theorem dMd_mergeMark_1 : decode (mB Md_mergeMark) 1 = .ok (.getfield 124, 3) := by decide +kernel
theorem dMd_mergeMark_4 : decode (mB Md_mergeMark) 4 = .ok (.iload 4, 2) := by decide +kernel
theorem dMd_mergeMark_6 : decode (mB Md_mergeMark) 6 = .ok (.aload_n 0, 1) := by decide +kernel
theorem dMd_mergeMark_7 : decode (mB Md_mergeMark) 7 = .ok (.iload_n 1, 1) := by decide +kernel
theorem dMd_mergeMark_8 : decode (mB Md_mergeMark) 8 = .ok (.iload_n 2, 1) := by decide +kernel
theorem dMd_mergeMark_9 : decode (mB Md_mergeMark) 9 = .ok (.iload_n 3, 1) := by decide +kernel
theorem dMd_mergeMark_10 : decode (mB Md_mergeMark) 10 = .ok (.iload 4, 2) := by decide +kernel
theorem dMd_mergeMark_12 : decode (mB Md_mergeMark) 12 = .ok (.invokevirtual 352, 3) := by decide +kernel
theorem dMd_mergeMark_15 : decode (mB Md_mergeMark) 15 = .ok (.bastore, 1) := by decide +kernel
theorem dMd_mergeMark_16 : decode (mB Md_mergeMark) 16 = .ok (.aload_n 0, 1) := by decide +kernel
theorem dMd_mergeMark_17 : decode (mB Md_mergeMark) 17 = .ok (.getfield 124, 3) := by decide +kernel
theorem dMd_mergeMark_20 : decode (mB Md_mergeMark) 20 = .ok (.iload 4, 2) := by decide +kernel
theorem dMd_mergeMark_22 : decode (mB Md_mergeMark) 22 = .ok (.baload, 1) := by decide +kernel
theorem dMd_mergeMark_23 : decode (mB Md_mergeMark) 23 = .ok (.ifCond .ne 4, 3) := by decide +kernel
theorem dMd_mergeMark_26 : decode (mB Md_mergeMark) 26 = .ok (.return_, 1) := by decide +kernel
theorem dMd_mergeMark_27 : decode (mB Md_mergeMark) 27 = .ok (.aload_n 0, 1) := by decide +kernel
theorem dMd_mergeMark_28 : decode (mB Md_mergeMark) 28 = .ok (.iload_n 1, 1) := by decide +kernel
theorem dMd_mergeMark_29 : decode (mB Md_mergeMark) 29 = .ok (.iload 4, 2) := by decide +kernel
theorem dMd_mergeMark_31 : decode (mB Md_mergeMark) 31 = .ok (.invokevirtual 212, 3) := by decide +kernel
theorem dMd_mergeMark_34 : decode (mB Md_mergeMark) 34 = .ok (.istore 5, 2) := by decide +kernel
theorem dMd_mergeMark_36 : decode (mB Md_mergeMark) 36 = .ok (.aload_n 0, 1) := by decide +kernel
theorem dMd_mergeMark_37 : decode (mB Md_mergeMark) 37 = .ok (.iload_n 2, 1) := by decide +kernel
theorem dMd_mergeMark_38 : decode (mB Md_mergeMark) 38 = .ok (.iload 4, 2) := by decide +kernel
theorem dMd_mergeMark_40 : decode (mB Md_mergeMark) 40 = .ok (.invokevirtual 212, 3) := by decide +kernel
theorem dMd_mergeMark_43 : decode (mB Md_mergeMark) 43 = .ok (.ifCond .eq 90, 3) := by decide +kernel
theorem dMd_mergeMark_46 : decode (mB Md_mergeMark) 46 = .ok (.aload_n 0, 1) := by decide +kernel
theorem dMd_mergeMark_47 : decode (mB Md_mergeMark) 47 = .ok (.iload_n 3, 1) := by decide +kernel
theorem dMd_mergeMark_48 : decode (mB Md_mergeMark) 48 = .ok (.iload 4, 2) := by decide +kernel
theorem dMd_mergeMark_50 : decode (mB Md_mergeMark) 50 = .ok (.invokevirtual 212, 3) := by decide +kernel
theorem dMd_mergeMark_53 : decode (mB Md_mergeMark) 53 = .ok (.ifCond .eq 80, 3) := by decide +kernel
theorem dMd_mergeMark_56 : decode (mB Md_mergeMark) 56 = .ok (.aload_n 0, 1) := by decide +kernel
theorem dMd_mergeMark_57 : decode (mB Md_mergeMark) 57 = .ok (.getfield 127, 3) := by decide +kernel
theorem dMd_mergeMark_60 : decode (mB Md_mergeMark) 60 = .ok (.iload 4, 2) := by decide +kernel
theorem dMd_mergeMark_62 : decode (mB Md_mergeMark) 62 = .ok (.aload_n 0, 1) := by decide +kernel
theorem dMd_mergeMark_63 : decode (mB Md_mergeMark) 63 = .ok (.iconst 1, 1) := by decide +kernel
theorem dMd_mergeMark_64 : decode (mB Md_mergeMark) 64 = .ok (.iload 4, 2) := by decide +kernel
theorem dMd_mergeMark_66 : decode (mB Md_mergeMark) 66 = .ok (.iload 5, 2) := by decide +kernel
theorem dMd_mergeMark_68 : decode (mB Md_mergeMark) 68 = .ok (.aload_n 0, 1) := by decide +kernel
theorem dMd_mergeMark_69 : decode (mB Md_mergeMark) 69 = .ok (.iload_n 1, 1) := by decide +kernel
theorem dMd_mergeMark_70 : decode (mB Md_mergeMark) 70 = .ok (.iload 4, 2) := by decide +kernel
theorem dMd_mergeMark_72 : decode (mB Md_mergeMark) 72 = .ok (.invokevirtual 226, 3) := by decide +kernel
theorem dMd_mergeMark_75 : decode (mB Md_mergeMark) 75 = .ok (.aload_n 0, 1) := by decide +kernel
theorem dMd_mergeMark_76 : decode (mB Md_mergeMark) 76 = .ok (.iload_n 2, 1) := by decide +kernel
theorem dMd_mergeMark_77 : decode (mB Md_mergeMark) 77 = .ok (.iload 4, 2) := by decide +kernel
theorem dMd_mergeMark_79 : decode (mB Md_mergeMark) 79 = .ok (.invokevirtual 226, 3) := by decide +kernel
theorem dMd_mergeMark_82 : decode (mB Md_mergeMark) 82 = .ok (.aload_n 0, 1) := by decide +kernel
theorem dMd_mergeMark_83 : decode (mB Md_mergeMark) 83 = .ok (.iload_n 3, 1) := by decide +kernel
theorem dMd_mergeMark_84 : decode (mB Md_mergeMark) 84 = .ok (.iload 4, 2) := by decide +kernel
theorem dMd_mergeMark_86 : decode (mB Md_mergeMark) 86 = .ok (.invokevirtual 226, 3) := by decide +kernel
theorem dMd_mergeMark_89 : decode (mB Md_mergeMark) 89 = .ok (.invokevirtual 355, 3) := by decide +kernel
theorem dMd_mergeMark_92 : decode (mB Md_mergeMark) 92 = .ok (.iastore, 1) := by decide +kernel
theorem dMd_mergeMark_93 : decode (mB Md_mergeMark) 93 = .ok (.aload_n 0, 1) := by decide +kernel
theorem dMd_mergeMark_94 : decode (mB Md_mergeMark) 94 = .ok (.getfield 130, 3) := by decide +kernel
theorem dMd_mergeMark_97 : decode (mB Md_mergeMark) 97 = .ok (.iload 4, 2) := by decide +kernel
theorem dMd_mergeMark_99 : decode (mB Md_mergeMark) 99 = .ok (.aload_n 0, 1) := by decide +kernel
theorem dMd_mergeMark_100 : decode (mB Md_mergeMark) 100 = .ok (.iconst 2, 1) := by decide +kernel
theorem dMd_mergeMark_101 : decode (mB Md_mergeMark) 101 = .ok (.iload 4, 2) := by decide +kernel
theorem dMd_mergeMark_103 : decode (mB Md_mergeMark) 103 = .ok (.iload 5, 2) := by decide +kernel
theorem dMd_mergeMark_105 : decode (mB Md_mergeMark) 105 = .ok (.aload_n 0, 1) := by decide +kernel
theorem dMd_mergeMark_106 : decode (mB Md_mergeMark) 106 = .ok (.iload_n 1, 1) := by decide +kernel
theorem dMd_mergeMark_107 : decode (mB Md_mergeMark) 107 = .ok (.iload 4, 2) := by decide +kernel
theorem dMd_mergeMark_109 : decode (mB Md_mergeMark) 109 = .ok (.invokevirtual 179, 3) := by decide +kernel
theorem dMd_mergeMark_112 : decode (mB Md_mergeMark) 112 = .ok (.aload_n 0, 1) := by decide +kernel
theorem dMd_mergeMark_113 : decode (mB Md_mergeMark) 113 = .ok (.iload_n 2, 1) := by decide +kernel
theorem dMd_mergeMark_114 : decode (mB Md_mergeMark) 114 = .ok (.iload 4, 2) := by decide +kernel
theorem dMd_mergeMark_116 : decode (mB Md_mergeMark) 116 = .ok (.invokevirtual 179, 3) := by decide +kernel
theorem dMd_mergeMark_119 : decode (mB Md_mergeMark) 119 = .ok (.aload_n 0, 1) := by decide +kernel
theorem dMd_mergeMark_120 : decode (mB Md_mergeMark) 120 = .ok (.iload_n 3, 1) := by decide +kernel
theorem dMd_mergeMark_121 : decode (mB Md_mergeMark) 121 = .ok (.iload 4, 2) := by decide +kernel
theorem dMd_mergeMark_123 : decode (mB Md_mergeMark) 123 = .ok (.invokevirtual 179, 3) := by decide +kernel
theorem dMd_mergeMark_126 : decode (mB Md_mergeMark) 126 = .ok (.invokevirtual 355, 3) := by decide +kernel
theorem dMd_mergeMark_129 : decode (mB Md_mergeMark) 129 = .ok (.iastore, 1) := by decide +kernel
theorem dMd_mergeMark_130 : decode (mB Md_mergeMark) 130 = .ok (.goto 50, 3) := by decide +kernel
theorem dMd_mergeMark_133 : decode (mB Md_mergeMark) 133 = .ok (.aload_n 0, 1) := by decide +kernel
theorem dMd_mergeMark_134 : decode (mB Md_mergeMark) 134 = .ok (.iload_n 2, 1) := by decide +kernel
theorem dMd_mergeMark_135 : decode (mB Md_mergeMark) 135 = .ok (.iload 4, 2) := by decide +kernel
theorem dMd_mergeMark_137 : decode (mB Md_mergeMark) 137 = .ok (.invokevirtual 212, 3) := by decide +kernel
theorem dMd_mergeMark_140 : decode (mB Md_mergeMark) 140 = .ok (.ifCond .eq 7, 3) := by decide +kernel
theorem dMd_mergeMark_143 : decode (mB Md_mergeMark) 143 = .ok (.iload_n 2, 1) := by decide +kernel
theorem dMd_mergeMark_144 : decode (mB Md_mergeMark) 144 = .ok (.goto 4, 3) := by decide +kernel
theorem dMd_mergeMark_147 : decode (mB Md_mergeMark) 147 = .ok (.iload_n 3, 1) := by decide +kernel
theorem dMd_mergeMark_148 : decode (mB Md_mergeMark) 148 = .ok (.istore 6, 2) := by decide +kernel
theorem dMd_mergeMark_150 : decode (mB Md_mergeMark) 150 = .ok (.aload_n 0, 1) := by decide +kernel
theorem dMd_mergeMark_151 : decode (mB Md_mergeMark) 151 = .ok (.getfield 127, 3) := by decide +kernel
theorem dMd_mergeMark_154 : decode (mB Md_mergeMark) 154 = .ok (.iload 4, 2) := by decide +kernel
theorem dMd_mergeMark_156 : decode (mB Md_mergeMark) 156 = .ok (.aload_n 0, 1) := by decide +kernel
theorem dMd_mergeMark_157 : decode (mB Md_mergeMark) 157 = .ok (.iload 6, 2) := by decide +kernel
theorem dMd_mergeMark_159 : decode (mB Md_mergeMark) 159 = .ok (.iload 4, 2) := by decide +kernel
theorem dMd_mergeMark_161 : decode (mB Md_mergeMark) 161 = .ok (.invokevirtual 226, 3) := by decide +kernel
theorem dMd_mergeMark_164 : decode (mB Md_mergeMark) 164 = .ok (.iastore, 1) := by decide +kernel
theorem dMd_mergeMark_165 : decode (mB Md_mergeMark) 165 = .ok (.aload_n 0, 1) := by decide +kernel
theorem dMd_mergeMark_166 : decode (mB Md_mergeMark) 166 = .ok (.getfield 130, 3) := by decide +kernel
theorem dMd_mergeMark_169 : decode (mB Md_mergeMark) 169 = .ok (.iload 4, 2) := by decide +kernel
theorem dMd_mergeMark_171 : decode (mB Md_mergeMark) 171 = .ok (.aload_n 0, 1) := by decide +kernel
theorem dMd_mergeMark_172 : decode (mB Md_mergeMark) 172 = .ok (.iload 6, 2) := by decide +kernel
theorem dMd_mergeMark_174 : decode (mB Md_mergeMark) 174 = .ok (.iload 4, 2) := by decide +kernel
theorem dMd_mergeMark_176 : decode (mB Md_mergeMark) 176 = .ok (.invokevirtual 179, 3) := by decide +kernel
theorem dMd_mergeMark_179 : decode (mB Md_mergeMark) 179 = .ok (.iastore, 1) := by decide +kernel
theorem dMd_mergeMark_180 : decode (mB Md_mergeMark) 180 = .ok (.return_, 1) := by decide +kernel
def w_Md_mergeMark_148 (R : tpH → Prop) (o : Nat) (x4 : Int32) (t0 : Int32) (h : tpH) : Prop :=
  hT h o = 14 ∧ (w_Md_valueIn o t0 x4 h (fun v3 h2 => ∃ a4, (hR h o 48) = some a4 ∧ hT h2 a4 = 15 ∧ (vp_in x4 (hL h2 a4) ∧ (∀ h8, h8 = sI h2 a4 x4.toNatClampNeg v3 → (hT h8 o = 14 ∧ (w_Md_parentIn o t0 x4 h8 (fun v12 h11 => ∃ a13, (hR h8 o 49) = some a13 ∧ hT h11 a13 = 15 ∧ (vp_in x4 (hL h11 a13) ∧ (∀ h17, h17 = sI h11 a13 x4.toNatClampNeg v12 → (R h17))))))))))
def w_Md_mergeMark_133 (R : tpH → Prop) (o : Nat) (x2 : Int32) (x3 : Int32) (x4 : Int32) (h : tpH) : Prop :=
  hT h o = 14 ∧ (w_Md_has o x2 x4 h (fun v3 h2 => (v3 = 0 → (w_Md_mergeMark_148 R o x4 x3 h2)) ∧ (¬ v3 = 0 → (w_Md_mergeMark_148 R o x4 x2 h2))))
def w_Md_mergeMark (o : Nat) (x1 : Int32) (x2 : Int32) (x3 : Int32) (x4 : Int32) (h : tpH) (R : tpH → Prop) : Prop :=
  hT h o = 14 ∧ (w_Md_comesIn o x1 x2 x3 x4 h (fun v3 h2 => ∃ a4, (hR h o 47) = some a4 ∧ hT h2 a4 = 16 ∧ (vp_in x4 (hL h2 a4) ∧ (tpB v3 ∧ (∀ h9, h9 = sI h2 a4 x4.toNatClampNeg v3 → (hT h9 o = 14 ∧ (∃ a12, (hR h9 o 47) = some a12 ∧ hT h9 a12 = 16 ∧ (vp_in x4 (hL h9 a12) ∧ ((¬ (hI h9 a12 x4.toNatClampNeg) = 0 → (w_Md_has o x1 x4 h9 (fun v18 h17 => hT h17 o = 14 ∧ (w_Md_has o x2 x4 h17 (fun v21 h20 => (v21 = 0 → (w_Md_mergeMark_133 R o x2 x3 x4 h20)) ∧ (¬ v21 = 0 → (hT h20 o = 14 ∧ (w_Md_has o x3 x4 h20 (fun v25 h24 => (v25 = 0 → (w_Md_mergeMark_133 R o x2 x3 x4 h24)) ∧ (¬ v25 = 0 → (hT h24 o = 14 ∧ (w_Md_valueIn o x1 x4 h24 (fun v29 h28 => hT h28 o = 14 ∧ (w_Md_valueIn o x2 x4 h28 (fun v32 h31 => hT h31 o = 14 ∧ (w_Md_valueIn o x3 x4 h31 (fun v35 h34 => hT h34 o = 14 ∧ (w_Md_decided o (1 : Int32) x4 v18 v29 v32 v35 h34 (fun v38 h37 => ∃ a39, (hR h24 o 48) = some a39 ∧ hT h37 a39 = 15 ∧ (vp_in x4 (hL h37 a39) ∧ (∀ h43, h43 = sI h37 a39 x4.toNatClampNeg v38 → (hT h43 o = 14 ∧ (w_Md_parentIn o x1 x4 h43 (fun v47 h46 => hT h46 o = 14 ∧ (w_Md_parentIn o x2 x4 h46 (fun v50 h49 => hT h49 o = 14 ∧ (w_Md_parentIn o x3 x4 h49 (fun v53 h52 => hT h52 o = 14 ∧ (w_Md_decided o (2 : Int32) x4 v18 v47 v50 v53 h52 (fun v56 h55 => ∃ a57, (hR h43 o 49) = some a57 ∧ hT h55 a57 = 15 ∧ (vp_in x4 (hL h55 a57) ∧ (∀ h61, h61 = sI h55 a57 x4.toNatClampNeg v56 → (R h61))))))))))))))))))))))))))))))))) ∧ ((hI h9 a12 x4.toNatClampNeg) = 0 → (R h9)))))))))))
theorem s_Md_mergeMark_148 {h0 : tpH} {av : List tpV} {R : tpH → Prop} : ∀ (o : Nat) (x4 : Int32) (t0 : Int32) (h : tpH), w_Md_mergeMark_148 R o x4 t0 h → tpR Md_mergeMark 5 h0 av (tpOv R (fun _ _ => False)) 148 [some (vR (some o)), none, none, none, some (vI x4), none, none] [vI t0] h := by
  intro o x4 t0 h hw
  unfold w_Md_mergeMark_148 at hw
  refine tq_istore (ls' := [some (vR (some o)), none, none, none, some (vI x4), none, some (vI t0)]) dMd_mergeMark_148 (Nat.le_of_ble_eq_true rfl) rfl ?_
  refine tq_aload_n dMd_mergeMark_150 rfl rfl ?_
  obtain ⟨f1, hw⟩ := hw
  refine te_getr dMd_mergeMark_151 fMd_127 rfl rfl f1 ?_
  refine tq_iload dMd_mergeMark_154 rfl ?_
  refine tq_aload_n dMd_mergeMark_156 rfl rfl ?_
  refine tq_iload dMd_mergeMark_157 rfl ?_
  refine tq_iload dMd_mergeMark_159 rfl ?_
  refine te_callV mv_Md_valueIn (ci := 13) (dc := 0) (as := [vI t0, vI x4]) (rest := [vI x4, vR (hR h o 48)]) kMd_226 rfl (Nat.le_of_ble_eq_true rfl) (Nat.le_of_ble_eq_true rfl) rfl rfl rfl f1 (Nat.le_of_ble_eq_true rfl) dMd_mergeMark_161 (s_Md_valueIn hw) (fun _ _ hx => False.elim hx) (tk_i fun v3 h2 hw => ?_)
  obtain ⟨a4, e5, f6, hw⟩ := hw
  obtain ⟨f7, hw⟩ := hw
  refine te_iast dMd_mergeMark_164 e5 f6 f7 (fun h8 e9 => ?_)
  have hw := hw h8 e9
  refine tq_aload_n dMd_mergeMark_165 rfl rfl ?_
  obtain ⟨f10, hw⟩ := hw
  refine te_getr dMd_mergeMark_166 fMd_130 rfl rfl f10 ?_
  refine tq_iload dMd_mergeMark_169 rfl ?_
  refine tq_aload_n dMd_mergeMark_171 rfl rfl ?_
  refine tq_iload dMd_mergeMark_172 rfl ?_
  refine tq_iload dMd_mergeMark_174 rfl ?_
  refine te_callV mv_Md_parentIn (ci := 13) (dc := 0) (as := [vI t0, vI x4]) (rest := [vI x4, vR (hR h8 o 49)]) kMd_179 rfl (Nat.le_of_ble_eq_true rfl) (Nat.le_of_ble_eq_true rfl) rfl rfl rfl f10 (Nat.le_of_ble_eq_true rfl) dMd_mergeMark_176 (s_Md_parentIn hw) (fun _ _ hx => False.elim hx) (tk_i fun v12 h11 hw => ?_)
  obtain ⟨a13, e14, f15, hw⟩ := hw
  obtain ⟨f16, hw⟩ := hw
  refine te_iast dMd_mergeMark_179 e14 f15 f16 (fun h17 e18 => ?_)
  have hw := hw h17 e18
  exact tq_vret rfl dMd_mergeMark_180 hw
theorem s_Md_mergeMark_133 {h0 : tpH} {av : List tpV} {R : tpH → Prop} : ∀ (o : Nat) (x2 : Int32) (x3 : Int32) (x4 : Int32) (h : tpH), w_Md_mergeMark_133 R o x2 x3 x4 h → tpR Md_mergeMark 5 h0 av (tpOv R (fun _ _ => False)) 133 [some (vR (some o)), none, some (vI x2), some (vI x3), some (vI x4), none, none] [] h := by
  intro o x2 x3 x4 h hw
  unfold w_Md_mergeMark_133 at hw
  refine tq_aload_n dMd_mergeMark_133 rfl rfl ?_
  refine tq_iload_n dMd_mergeMark_134 rfl rfl ?_
  refine tq_iload dMd_mergeMark_135 rfl ?_
  obtain ⟨f1, hw⟩ := hw
  refine te_callV mv_Md_has (ci := 13) (dc := 2) (as := [vI x2, vI x4]) (rest := []) kMd_212 rfl (Nat.le_of_ble_eq_true rfl) (Nat.le_of_ble_eq_true rfl) rfl rfl rfl f1 (Nat.le_of_ble_eq_true rfl) dMd_mergeMark_137 (s_Md_has hw) (fun _ _ hx => False.elim hx) (tk_i fun v3 h2 hw => ?_)
  refine tq_ifeq (tgt := 147) dMd_mergeMark_140 (by decide) (fun c4 => ?_) (fun c4 => ?_)
  · have hw := hw.1 c4
    refine tq_iload_n dMd_mergeMark_147 rfl rfl ?_
    refine tpR.fo (ls' := [some (vR (some o)), none, none, none, some (vI x4), none, none]) ?_ (And.intro rfl (And.intro rfl trivial))
    exact s_Md_mergeMark_148 _ _ _ _ hw
  · have hw := hw.2 c4
    refine tq_iload_n dMd_mergeMark_143 rfl rfl ?_
    refine tq_goto (tgt := 148) dMd_mergeMark_144 (by decide) ?_
    refine tpR.fo (ls' := [some (vR (some o)), none, none, none, some (vI x4), none, none]) ?_ (And.intro rfl (And.intro rfl trivial))
    exact s_Md_mergeMark_148 _ _ _ _ hw
theorem s_Md_mergeMark {o : Nat} {x1 : Int32} {x2 : Int32} {x3 : Int32} {x4 : Int32} {h : tpH} {R : tpH → Prop} (hw : w_Md_mergeMark o x1 x2 x3 x4 h R) : tpC Md_mergeMark 5 [vR (some o), vI x1, vI x2, vI x3, vI x4] h (tpOv R (fun _ _ => False)) := by
  refine tpC_of mv_Md_mergeMark.2.2.2.1 rfl rfl (Nat.le_of_ble_eq_true rfl) ?_
  show tpR Md_mergeMark 5 h _ _ 0 [some (vR (some o)), some (vI x1), some (vI x2), some (vI x3), some (vI x4), none, none] [] h
  unfold w_Md_mergeMark at hw
  refine tq_aload_n dMd_mergeMark_0 rfl rfl ?_
  obtain ⟨f1, hw⟩ := hw
  refine te_getr dMd_mergeMark_1 fMd_124 rfl rfl f1 ?_
  refine tq_iload dMd_mergeMark_4 rfl ?_
  refine tq_aload_n dMd_mergeMark_6 rfl rfl ?_
  refine tq_iload_n dMd_mergeMark_7 rfl rfl ?_
  refine tq_iload_n dMd_mergeMark_8 rfl rfl ?_
  refine tq_iload_n dMd_mergeMark_9 rfl rfl ?_
  refine tq_iload dMd_mergeMark_10 rfl ?_
  refine te_callV mv_Md_comesIn (ci := 13) (dc := 4) (as := [vI x1, vI x2, vI x3, vI x4]) (rest := [vI x4, vR (hR h o 47)]) kMd_352 rfl (Nat.le_of_ble_eq_true rfl) (Nat.le_of_ble_eq_true rfl) rfl rfl rfl f1 (Nat.le_of_ble_eq_true rfl) dMd_mergeMark_12 (s_Md_comesIn hw) (fun _ _ hx => False.elim hx) (tk_i fun v3 h2 hw => ?_)
  obtain ⟨a4, e5, f6, hw⟩ := hw
  obtain ⟨f7, hw⟩ := hw
  obtain ⟨f8, hw⟩ := hw
  refine te_zast dMd_mergeMark_15 e5 f6 f7 (tpB_n f8) (fun h9 e10 => ?_)
  have hw := hw h9 e10
  refine tq_aload_n dMd_mergeMark_16 rfl rfl ?_
  obtain ⟨f11, hw⟩ := hw
  refine te_getr dMd_mergeMark_17 fMd_124 rfl rfl f11 ?_
  refine tq_iload dMd_mergeMark_20 rfl ?_
  obtain ⟨a12, e13, f14, hw⟩ := hw
  obtain ⟨f15, hw⟩ := hw
  refine te_zald dMd_mergeMark_22 e13 f14 f15 ?_
  refine tq_ifne (tgt := 27) dMd_mergeMark_23 (by decide) (fun c16 => ?_) (fun c16 => ?_)
  · have hw := hw.1 c16
    refine tq_aload_n dMd_mergeMark_27 rfl rfl ?_
    refine tq_iload_n dMd_mergeMark_28 rfl rfl ?_
    refine tq_iload dMd_mergeMark_29 rfl ?_
    refine te_callV mv_Md_has (ci := 13) (dc := 2) (as := [vI x1, vI x4]) (rest := []) kMd_212 rfl (Nat.le_of_ble_eq_true rfl) (Nat.le_of_ble_eq_true rfl) rfl rfl rfl f11 (Nat.le_of_ble_eq_true rfl) dMd_mergeMark_31 (s_Md_has hw) (fun _ _ hx => False.elim hx) (tk_i fun v18 h17 hw => ?_)
    refine tq_istore (ls' := [some (vR (some o)), some (vI x1), some (vI x2), some (vI x3), some (vI x4), some (vI v18), none]) dMd_mergeMark_34 (Nat.le_of_ble_eq_true rfl) rfl ?_
    refine tq_aload_n dMd_mergeMark_36 rfl rfl ?_
    refine tq_iload_n dMd_mergeMark_37 rfl rfl ?_
    refine tq_iload dMd_mergeMark_38 rfl ?_
    obtain ⟨f19, hw⟩ := hw
    refine te_callV mv_Md_has (ci := 13) (dc := 2) (as := [vI x2, vI x4]) (rest := []) kMd_212 rfl (Nat.le_of_ble_eq_true rfl) (Nat.le_of_ble_eq_true rfl) rfl rfl rfl f19 (Nat.le_of_ble_eq_true rfl) dMd_mergeMark_40 (s_Md_has hw) (fun _ _ hx => False.elim hx) (tk_i fun v21 h20 hw => ?_)
    refine tq_ifeq (tgt := 133) dMd_mergeMark_43 (by decide) (fun c22 => ?_) (fun c22 => ?_)
    · have hw := hw.1 c22
      refine tpR.fo (ls' := [some (vR (some o)), none, some (vI x2), some (vI x3), some (vI x4), none, none]) ?_ (And.intro rfl (And.intro rfl (And.intro rfl (And.intro rfl trivial))))
      exact s_Md_mergeMark_133 _ _ _ _ _ hw
    · have hw := hw.2 c22
      refine tq_aload_n dMd_mergeMark_46 rfl rfl ?_
      refine tq_iload_n dMd_mergeMark_47 rfl rfl ?_
      refine tq_iload dMd_mergeMark_48 rfl ?_
      obtain ⟨f23, hw⟩ := hw
      refine te_callV mv_Md_has (ci := 13) (dc := 2) (as := [vI x3, vI x4]) (rest := []) kMd_212 rfl (Nat.le_of_ble_eq_true rfl) (Nat.le_of_ble_eq_true rfl) rfl rfl rfl f23 (Nat.le_of_ble_eq_true rfl) dMd_mergeMark_50 (s_Md_has hw) (fun _ _ hx => False.elim hx) (tk_i fun v25 h24 hw => ?_)
      refine tq_ifeq (tgt := 133) dMd_mergeMark_53 (by decide) (fun c26 => ?_) (fun c26 => ?_)
      · have hw := hw.1 c26
        refine tpR.fo (ls' := [some (vR (some o)), none, some (vI x2), some (vI x3), some (vI x4), none, none]) ?_ (And.intro rfl (And.intro rfl (And.intro rfl (And.intro rfl trivial))))
        exact s_Md_mergeMark_133 _ _ _ _ _ hw
      · have hw := hw.2 c26
        refine tq_aload_n dMd_mergeMark_56 rfl rfl ?_
        obtain ⟨f27, hw⟩ := hw
        refine te_getr dMd_mergeMark_57 fMd_127 rfl rfl f27 ?_
        refine tq_iload dMd_mergeMark_60 rfl ?_
        refine tq_aload_n dMd_mergeMark_62 rfl rfl ?_
        refine tq_iconst (v := (1 : Int32)) dMd_mergeMark_63 tni_1 ?_
        refine tq_iload dMd_mergeMark_64 rfl ?_
        refine tq_iload dMd_mergeMark_66 rfl ?_
        refine tq_aload_n dMd_mergeMark_68 rfl rfl ?_
        refine tq_iload_n dMd_mergeMark_69 rfl rfl ?_
        refine tq_iload dMd_mergeMark_70 rfl ?_
        refine te_callV mv_Md_valueIn (ci := 13) (dc := 0) (as := [vI x1, vI x4]) (rest := [vI v18, vI x4, vI (1 : Int32), vR (some o), vI x4, vR (hR h24 o 48)]) kMd_226 rfl (Nat.le_of_ble_eq_true rfl) (Nat.le_of_ble_eq_true rfl) rfl rfl rfl f27 (Nat.le_of_ble_eq_true rfl) dMd_mergeMark_72 (s_Md_valueIn hw) (fun _ _ hx => False.elim hx) (tk_i fun v29 h28 hw => ?_)
        refine tq_aload_n dMd_mergeMark_75 rfl rfl ?_
        refine tq_iload_n dMd_mergeMark_76 rfl rfl ?_
        refine tq_iload dMd_mergeMark_77 rfl ?_
        obtain ⟨f30, hw⟩ := hw
        refine te_callV mv_Md_valueIn (ci := 13) (dc := 0) (as := [vI x2, vI x4]) (rest := [vI v29, vI v18, vI x4, vI (1 : Int32), vR (some o), vI x4, vR (hR h24 o 48)]) kMd_226 rfl (Nat.le_of_ble_eq_true rfl) (Nat.le_of_ble_eq_true rfl) rfl rfl rfl f30 (Nat.le_of_ble_eq_true rfl) dMd_mergeMark_79 (s_Md_valueIn hw) (fun _ _ hx => False.elim hx) (tk_i fun v32 h31 hw => ?_)
        refine tq_aload_n dMd_mergeMark_82 rfl rfl ?_
        refine tq_iload_n dMd_mergeMark_83 rfl rfl ?_
        refine tq_iload dMd_mergeMark_84 rfl ?_
        obtain ⟨f33, hw⟩ := hw
        refine te_callV mv_Md_valueIn (ci := 13) (dc := 0) (as := [vI x3, vI x4]) (rest := [vI v32, vI v29, vI v18, vI x4, vI (1 : Int32), vR (some o), vI x4, vR (hR h24 o 48)]) kMd_226 rfl (Nat.le_of_ble_eq_true rfl) (Nat.le_of_ble_eq_true rfl) rfl rfl rfl f33 (Nat.le_of_ble_eq_true rfl) dMd_mergeMark_86 (s_Md_valueIn hw) (fun _ _ hx => False.elim hx) (tk_i fun v35 h34 hw => ?_)
        obtain ⟨f36, hw⟩ := hw
        refine te_callV mv_Md_decided (ci := 13) (dc := 1) (as := [vI (1 : Int32), vI x4, vI v18, vI v29, vI v32, vI v35]) (rest := [vI x4, vR (hR h24 o 48)]) kMd_355 rfl (Nat.le_of_ble_eq_true rfl) (Nat.le_of_ble_eq_true rfl) rfl rfl rfl f36 (Nat.le_of_ble_eq_true rfl) dMd_mergeMark_89 (s_Md_decided hw) (fun _ _ hx => False.elim hx) (tk_i fun v38 h37 hw => ?_)
        obtain ⟨a39, e40, f41, hw⟩ := hw
        obtain ⟨f42, hw⟩ := hw
        refine te_iast dMd_mergeMark_92 e40 f41 f42 (fun h43 e44 => ?_)
        have hw := hw h43 e44
        refine tq_aload_n dMd_mergeMark_93 rfl rfl ?_
        obtain ⟨f45, hw⟩ := hw
        refine te_getr dMd_mergeMark_94 fMd_130 rfl rfl f45 ?_
        refine tq_iload dMd_mergeMark_97 rfl ?_
        refine tq_aload_n dMd_mergeMark_99 rfl rfl ?_
        refine tq_iconst (v := (2 : Int32)) dMd_mergeMark_100 tni_2 ?_
        refine tq_iload dMd_mergeMark_101 rfl ?_
        refine tq_iload dMd_mergeMark_103 rfl ?_
        refine tq_aload_n dMd_mergeMark_105 rfl rfl ?_
        refine tq_iload_n dMd_mergeMark_106 rfl rfl ?_
        refine tq_iload dMd_mergeMark_107 rfl ?_
        refine te_callV mv_Md_parentIn (ci := 13) (dc := 0) (as := [vI x1, vI x4]) (rest := [vI v18, vI x4, vI (2 : Int32), vR (some o), vI x4, vR (hR h43 o 49)]) kMd_179 rfl (Nat.le_of_ble_eq_true rfl) (Nat.le_of_ble_eq_true rfl) rfl rfl rfl f45 (Nat.le_of_ble_eq_true rfl) dMd_mergeMark_109 (s_Md_parentIn hw) (fun _ _ hx => False.elim hx) (tk_i fun v47 h46 hw => ?_)
        refine tq_aload_n dMd_mergeMark_112 rfl rfl ?_
        refine tq_iload_n dMd_mergeMark_113 rfl rfl ?_
        refine tq_iload dMd_mergeMark_114 rfl ?_
        obtain ⟨f48, hw⟩ := hw
        refine te_callV mv_Md_parentIn (ci := 13) (dc := 0) (as := [vI x2, vI x4]) (rest := [vI v47, vI v18, vI x4, vI (2 : Int32), vR (some o), vI x4, vR (hR h43 o 49)]) kMd_179 rfl (Nat.le_of_ble_eq_true rfl) (Nat.le_of_ble_eq_true rfl) rfl rfl rfl f48 (Nat.le_of_ble_eq_true rfl) dMd_mergeMark_116 (s_Md_parentIn hw) (fun _ _ hx => False.elim hx) (tk_i fun v50 h49 hw => ?_)
        refine tq_aload_n dMd_mergeMark_119 rfl rfl ?_
        refine tq_iload_n dMd_mergeMark_120 rfl rfl ?_
        refine tq_iload dMd_mergeMark_121 rfl ?_
        obtain ⟨f51, hw⟩ := hw
        refine te_callV mv_Md_parentIn (ci := 13) (dc := 0) (as := [vI x3, vI x4]) (rest := [vI v50, vI v47, vI v18, vI x4, vI (2 : Int32), vR (some o), vI x4, vR (hR h43 o 49)]) kMd_179 rfl (Nat.le_of_ble_eq_true rfl) (Nat.le_of_ble_eq_true rfl) rfl rfl rfl f51 (Nat.le_of_ble_eq_true rfl) dMd_mergeMark_123 (s_Md_parentIn hw) (fun _ _ hx => False.elim hx) (tk_i fun v53 h52 hw => ?_)
        obtain ⟨f54, hw⟩ := hw
        refine te_callV mv_Md_decided (ci := 13) (dc := 1) (as := [vI (2 : Int32), vI x4, vI v18, vI v47, vI v50, vI v53]) (rest := [vI x4, vR (hR h43 o 49)]) kMd_355 rfl (Nat.le_of_ble_eq_true rfl) (Nat.le_of_ble_eq_true rfl) rfl rfl rfl f54 (Nat.le_of_ble_eq_true rfl) dMd_mergeMark_126 (s_Md_decided hw) (fun _ _ hx => False.elim hx) (tk_i fun v56 h55 hw => ?_)
        obtain ⟨a57, e58, f59, hw⟩ := hw
        obtain ⟨f60, hw⟩ := hw
        refine te_iast dMd_mergeMark_129 e58 f59 f60 (fun h61 e62 => ?_)
        have hw := hw h61 e62
        refine tq_goto (tgt := 180) dMd_mergeMark_130 (by decide) ?_
        exact tq_vret rfl dMd_mergeMark_180 hw
  · have hw := hw.2 c16
    exact tq_vret rfl dMd_mergeMark_26 hw
/-! TModel.orphan -/
theorem dMd_orphan_0 : decode (mB Md_orphan) 0 = .ok (.iconst 0, 1) := by decide +kernel
theorem dMd_orphan_1 : decode (mB Md_orphan) 1 = .ok (.istore_n 1, 1) := by decide +kernel
theorem dMd_orphan_2 : decode (mB Md_orphan) 2 = .ok (.iload_n 1, 1) := by decide +kernel
theorem dMd_orphan_3 : decode (mB Md_orphan) 3 = .ok (.aload_n 0, 1) := by decide +kernel
theorem dMd_orphan_4 : decode (mB Md_orphan) 4 = .ok (.getfield 162, 3) := by decide +kernel
theorem dMd_orphan_7 : decode (mB Md_orphan) 7 = .ok (.if_icmp .ge 44, 3) := by decide +kernel
theorem dMd_orphan_10 : decode (mB Md_orphan) 10 = .ok (.aload_n 0, 1) := by decide +kernel
theorem dMd_orphan_11 : decode (mB Md_orphan) 11 = .ok (.getfield 124, 3) := by decide +kernel
theorem dMd_orphan_14 : decode (mB Md_orphan) 14 = .ok (.iload_n 1, 1) := by decide +kernel
theorem dMd_orphan_15 : decode (mB Md_orphan) 15 = .ok (.baload, 1) := by decide +kernel
theorem dMd_orphan_16 : decode (mB Md_orphan) 16 = .ok (.ifCond .eq 29, 3) := by decide +kernel
theorem dMd_orphan_19 : decode (mB Md_orphan) 19 = .ok (.aload_n 0, 1) := by decide +kernel
theorem dMd_orphan_20 : decode (mB Md_orphan) 20 = .ok (.getfield 130, 3) := by decide +kernel
theorem dMd_orphan_23 : decode (mB Md_orphan) 23 = .ok (.iload_n 1, 1) := by decide +kernel
theorem dMd_orphan_24 : decode (mB Md_orphan) 24 = .ok (.iaload, 1) := by decide +kernel
theorem dMd_orphan_25 : decode (mB Md_orphan) 25 = .ok (.iconst (-1), 1) := by decide +kernel
theorem dMd_orphan_26 : decode (mB Md_orphan) 26 = .ok (.if_icmp .eq 19, 3) := by decide +kernel
theorem dMd_orphan_29 : decode (mB Md_orphan) 29 = .ok (.aload_n 0, 1) := by decide +kernel
theorem dMd_orphan_30 : decode (mB Md_orphan) 30 = .ok (.getfield 124, 3) := by decide +kernel
theorem dMd_orphan_33 : decode (mB Md_orphan) 33 = .ok (.aload_n 0, 1) := by decide +kernel
theorem dMd_orphan_34 : decode (mB Md_orphan) 34 = .ok (.getfield 130, 3) := by decide +kernel
theorem dMd_orphan_37 : decode (mB Md_orphan) 37 = .ok (.iload_n 1, 1) := by decide +kernel
theorem dMd_orphan_38 : decode (mB Md_orphan) 38 = .ok (.iaload, 1) := by decide +kernel
theorem dMd_orphan_39 : decode (mB Md_orphan) 39 = .ok (.baload, 1) := by decide +kernel
theorem dMd_orphan_40 : decode (mB Md_orphan) 40 = .ok (.ifCond .ne 5, 3) := by decide +kernel
theorem dMd_orphan_43 : decode (mB Md_orphan) 43 = .ok (.iload_n 1, 1) := by decide +kernel
theorem dMd_orphan_44 : decode (mB Md_orphan) 44 = .ok (.ireturn, 1) := by decide +kernel
theorem dMd_orphan_45 : decode (mB Md_orphan) 45 = .ok (.iinc 1 1, 3) := by decide +kernel
theorem dMd_orphan_48 : decode (mB Md_orphan) 48 = .ok (.goto (-46), 3) := by decide +kernel
theorem dMd_orphan_51 : decode (mB Md_orphan) 51 = .ok (.iconst (-1), 1) := by decide +kernel
theorem dMd_orphan_52 : decode (mB Md_orphan) 52 = .ok (.ireturn, 1) := by decide +kernel
def b_Md_orphan_2 (R : Int32 → tpH → Prop) (Y : Nat → Int32 → tpH → Prop) (o : Nat) (x1 : Int32) (h : tpH) : Prop :=
  hT h o = 14 ∧ (((hI h o 0) ≤ x1 → (R (-1 : Int32) h)) ∧ (¬ (hI h o 0) ≤ x1 → (∃ a3, (hR h o 47) = some a3 ∧ hT h a3 = 16 ∧ (vp_in x1 (hL h a3) ∧ (((hI h a3 x1.toNatClampNeg) = 0 → (Y o (x1 + (1 : Int32)) h)) ∧ (¬ (hI h a3 x1.toNatClampNeg) = 0 → (∃ a8, (hR h o 49) = some a8 ∧ hT h a8 = 15 ∧ (vp_in x1 (hL h a8) ∧ (((hI h a8 x1.toNatClampNeg) = (-1 : Int32) → (Y o (x1 + (1 : Int32)) h)) ∧ (¬ (hI h a8 x1.toNatClampNeg) = (-1 : Int32) → (vp_in x1 (hL h a8) ∧ (vp_in (hI h a8 x1.toNatClampNeg) (hL h a3) ∧ ((¬ (hI h a3 (hI h a8 x1.toNatClampNeg).toNatClampNeg) = 0 → (Y o (x1 + (1 : Int32)) h)) ∧ ((hI h a3 (hI h a8 x1.toNatClampNeg).toNatClampNeg) = 0 → (R x1 h)))))))))))))))
def w_Md_orphan_2 (R : Int32 → tpH → Prop) : Nat → Nat → Int32 → tpH → Prop
  | 0 => fun _ _ _ => False
  | n + 1 => b_Md_orphan_2 R (w_Md_orphan_2 R n)
def w_Md_orphan (o : Nat) (h : tpH) (R : Int32 → tpH → Prop) : Prop :=
  ∃ n, w_Md_orphan_2 R n o (0 : Int32) h
theorem s_Md_orphan_2 {h0 : tpH} {av : List tpV} {R : Int32 → tpH → Prop} : ∀ (n : Nat) (o : Nat) (x1 : Int32) (h : tpH), w_Md_orphan_2 R n o x1 h → tpR Md_orphan 0 h0 av (tpOi R (fun _ _ => False)) 2 [some (vR (some o)), some (vI x1)] [] h := by
  intro n
  induction n with
  | zero => intro o x1 h hw; exact False.elim hw
  | succ n ih =>
    intro o x1 h hw
    change b_Md_orphan_2 R (w_Md_orphan_2 R n) o x1 h at hw
    unfold b_Md_orphan_2 at hw
    refine tq_iload_n dMd_orphan_2 rfl rfl ?_
    refine tq_aload_n dMd_orphan_3 rfl rfl ?_
    obtain ⟨f1, hw⟩ := hw
    refine te_geti dMd_orphan_4 fMd_162 rfl rfl f1 ?_
    refine tq_icmpge (tgt := 51) dMd_orphan_7 (by decide) (fun c2 => ?_) (fun c2 => ?_)
    · have hw := hw.1 c2
      refine tq_iconst (v := (-1 : Int32)) dMd_orphan_51 tni_m1 ?_
      exact tq_iret rfl rfl dMd_orphan_52 hw
    · have hw := hw.2 c2
      refine tq_aload_n dMd_orphan_10 rfl rfl ?_
      refine te_getr dMd_orphan_11 fMd_124 rfl rfl f1 ?_
      refine tq_iload_n dMd_orphan_14 rfl rfl ?_
      obtain ⟨a3, e4, f5, hw⟩ := hw
      obtain ⟨f6, hw⟩ := hw
      refine te_zald dMd_orphan_15 e4 f5 f6 ?_
      refine tq_ifeq (tgt := 45) dMd_orphan_16 (by decide) (fun c7 => ?_) (fun c7 => ?_)
      · have hw := hw.1 c7
        refine tq_inc (k := (1 : Int32)) (ls' := [some (vR (some o)), some (vI (x1 + (1 : Int32)))]) dMd_orphan_45 rfl tni_1 (Nat.le_of_ble_eq_true rfl) rfl ?_
        refine tq_goto (tgt := 2) dMd_orphan_48 (by decide) ?_
        refine tpR.fo (ls' := [some (vR (some o)), some (vI (x1 + (1 : Int32)))]) ?_ (And.intro rfl (And.intro rfl trivial))
        exact ih _ _ _ hw
      · have hw := hw.2 c7
        refine tq_aload_n dMd_orphan_19 rfl rfl ?_
        refine te_getr dMd_orphan_20 fMd_130 rfl rfl f1 ?_
        refine tq_iload_n dMd_orphan_23 rfl rfl ?_
        obtain ⟨a8, e9, f10, hw⟩ := hw
        obtain ⟨f11, hw⟩ := hw
        refine te_iald dMd_orphan_24 e9 (Or.inl f10) f11 ?_
        refine tq_iconst (v := (-1 : Int32)) dMd_orphan_25 tni_m1 ?_
        refine tq_icmpeq (tgt := 45) dMd_orphan_26 (by decide) (fun c12 => ?_) (fun c12 => ?_)
        · have hw := hw.1 c12
          refine tq_inc (k := (1 : Int32)) (ls' := [some (vR (some o)), some (vI (x1 + (1 : Int32)))]) dMd_orphan_45 rfl tni_1 (Nat.le_of_ble_eq_true rfl) rfl ?_
          refine tq_goto (tgt := 2) dMd_orphan_48 (by decide) ?_
          refine tpR.fo (ls' := [some (vR (some o)), some (vI (x1 + (1 : Int32)))]) ?_ (And.intro rfl (And.intro rfl trivial))
          exact ih _ _ _ hw
        · have hw := hw.2 c12
          refine tq_aload_n dMd_orphan_29 rfl rfl ?_
          refine te_getr dMd_orphan_30 fMd_124 rfl rfl f1 ?_
          refine tq_aload_n dMd_orphan_33 rfl rfl ?_
          refine te_getr dMd_orphan_34 fMd_130 rfl rfl f1 ?_
          refine tq_iload_n dMd_orphan_37 rfl rfl ?_
          obtain ⟨f13, hw⟩ := hw
          refine te_iald dMd_orphan_38 e9 (Or.inl f10) f13 ?_
          obtain ⟨f14, hw⟩ := hw
          refine te_zald dMd_orphan_39 e4 f5 f14 ?_
          refine tq_ifne (tgt := 45) dMd_orphan_40 (by decide) (fun c15 => ?_) (fun c15 => ?_)
          · have hw := hw.1 c15
            refine tq_inc (k := (1 : Int32)) (ls' := [some (vR (some o)), some (vI (x1 + (1 : Int32)))]) dMd_orphan_45 rfl tni_1 (Nat.le_of_ble_eq_true rfl) rfl ?_
            refine tq_goto (tgt := 2) dMd_orphan_48 (by decide) ?_
            refine tpR.fo (ls' := [some (vR (some o)), some (vI (x1 + (1 : Int32)))]) ?_ (And.intro rfl (And.intro rfl trivial))
            exact ih _ _ _ hw
          · have hw := hw.2 c15
            refine tq_iload_n dMd_orphan_43 rfl rfl ?_
            exact tq_iret rfl rfl dMd_orphan_44 hw
theorem s_Md_orphan {o : Nat} {h : tpH} {R : Int32 → tpH → Prop} (hw : w_Md_orphan o h R) : tpC Md_orphan 0 [vR (some o)] h (tpOi R (fun _ _ => False)) := by
  refine tpC_of mv_Md_orphan.2.2.2.1 rfl rfl (Nat.le_of_ble_eq_true rfl) ?_
  show tpR Md_orphan 0 h _ _ 0 [some (vR (some o)), none] [] h
  unfold w_Md_orphan at hw
  refine tq_iconst (v := (0 : Int32)) dMd_orphan_0 tni_0 ?_
  refine tq_istore_n (ls' := [some (vR (some o)), some (vI (0 : Int32))]) dMd_orphan_1 rfl (Nat.le_of_ble_eq_true rfl) rfl ?_
  refine tpR.fo (ls' := [some (vR (some o)), some (vI (0 : Int32))]) ?_ (And.intro rfl (And.intro rfl trivial))
  obtain ⟨n, hw⟩ := hw
  exact s_Md_orphan_2 n _ _ _ hw
