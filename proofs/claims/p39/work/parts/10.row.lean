/-! T$Row.<init> -/
theorem dRo_init_0 : decode (mB Ro_init) 0 = .ok (.aload_n 0, 1) := by decide +kernel
theorem dRo_init_1 : decode (mB Ro_init) 1 = .ok (.invokespecial 3, 3) := by decide +kernel
theorem dRo_init_4 : decode (mB Ro_init) 4 = .ok (.aload_n 0, 1) := by decide +kernel
theorem dRo_init_5 : decode (mB Ro_init) 5 = .ok (.iload_n 1, 1) := by decide +kernel
theorem dRo_init_6 : decode (mB Ro_init) 6 = .ok (.ifCond .le 7, 3) := by decide +kernel
theorem dRo_init_9 : decode (mB Ro_init) 9 = .ok (.iload_n 1, 1) := by decide +kernel
theorem dRo_init_10 : decode (mB Ro_init) 10 = .ok (.goto 4, 3) := by decide +kernel
theorem dRo_init_13 : decode (mB Ro_init) 13 = .ok (.iconst 0, 1) := by decide +kernel
theorem dRo_init_14 : decode (mB Ro_init) 14 = .ok (.newarray .int, 2) := by decide +kernel
theorem dRo_init_16 : decode (mB Ro_init) 16 = .ok (.putfield 9, 3) := by decide +kernel
theorem dRo_init_19 : decode (mB Ro_init) 19 = .ok (.return_, 1) := by decide +kernel
def w_Ro_init_14 (R : tpH → Prop) (t0 : Int32) (t1 : Option Nat) (h : tpH) : Prop :=
  ¬ t0 < 0 ∧ t0.toNatClampNeg ≤ 1000000 ∧ (∀ a3 h4, a3 = hZ h → h4 = nC h 15 (t0.toNatClampNeg) (t0.toNatClampNeg) → (∃ a7, t1 = some a7 ∧ hT h4 a7 = 8 ∧ (∀ h10, h10 = sR h4 a7 0 (some a3) → (R h10))))
def w_Ro_init (o : Nat) (x1 : Int32) (h : tpH) (R : tpH → Prop) : Prop :=
  (x1 ≤ 0 → (w_Ro_init_14 R (0 : Int32) (some o) h)) ∧ (¬ x1 ≤ 0 → (w_Ro_init_14 R x1 (some o) h))
theorem s_Ro_init_14 {h0 : tpH} {av : List tpV} {R : tpH → Prop} : ∀ (t0 : Int32) (t1 : Option Nat) (h : tpH), w_Ro_init_14 R t0 t1 h → tpR Ro_init 1 h0 av (tpOv R (fun _ _ => False)) 14 [none, none] [vI t0, vR t1] h := by
  intro t0 t1 h hw
  unfold w_Ro_init_14 at hw
  obtain ⟨f1, f2, hw⟩ := hw
  refine tq_newa tpN_int (N := t0.toNatClampNeg) dRo_init_14 f1 rfl f2 (fun a3 h4 e5 e6 => ?_)
  have hw := hw a3 h4 e5 e6
  obtain ⟨a7, e8, f9, hw⟩ := hw
  refine te_putr dRo_init_16 pRo_9 rfl rfl e8 f9 (fun h10 e11 => ?_)
  have hw := hw h10 e11
  exact tq_vret rfl dRo_init_19 hw
theorem s_Ro_init {o : Nat} {x1 : Int32} {h : tpH} {R : tpH → Prop} (hw : w_Ro_init o x1 h R) : tpC Ro_init 1 [vR (some o), vI x1] h (tpOv R (fun _ _ => False)) := by
  refine tpC_of mi_Ro_init.2.2.2.1 rfl rfl (Nat.le_of_ble_eq_true rfl) ?_
  show tpR Ro_init 1 h _ _ 0 [some (vR (some o)), some (vI x1)] [] h
  unfold w_Ro_init at hw
  refine tq_aload_n dRo_init_0 rfl rfl ?_
  refine tq_obj oRo_3 (Nat.le_of_ble_eq_true rfl) (Nat.le_of_ble_eq_true rfl) dRo_init_1 ?_
  refine tq_aload_n dRo_init_4 rfl rfl ?_
  refine tq_iload_n dRo_init_5 rfl rfl ?_
  refine tq_ifle (tgt := 13) dRo_init_6 (by decide) (fun c1 => ?_) (fun c1 => ?_)
  · have hw := hw.1 c1
    refine tq_iconst (v := (0 : Int32)) dRo_init_13 tni_0 ?_
    refine tpR.fo (ls' := [none, none]) ?_ (trivial)
    exact s_Ro_init_14 _ _ _ hw
  · have hw := hw.2 c1
    refine tq_iload_n dRo_init_9 rfl rfl ?_
    refine tq_goto (tgt := 14) dRo_init_10 (by decide) ?_
    refine tpR.fo (ls' := [none, none]) ?_ (trivial)
    exact s_Ro_init_14 _ _ _ hw
/-! T$Row.at -/
theorem dRo_at_0 : decode (mB Ro_at) 0 = .ok (.iload_n 1, 1) := by decide +kernel
theorem dRo_at_1 : decode (mB Ro_at) 1 = .ok (.ifCond .lt 21, 3) := by decide +kernel
theorem dRo_at_4 : decode (mB Ro_at) 4 = .ok (.iload_n 1, 1) := by decide +kernel
theorem dRo_at_5 : decode (mB Ro_at) 5 = .ok (.aload_n 0, 1) := by decide +kernel
theorem dRo_at_6 : decode (mB Ro_at) 6 = .ok (.getfield 9, 3) := by decide +kernel
theorem dRo_at_9 : decode (mB Ro_at) 9 = .ok (.arraylength, 1) := by decide +kernel
theorem dRo_at_10 : decode (mB Ro_at) 10 = .ok (.if_icmp .ge 12, 3) := by decide +kernel
theorem dRo_at_13 : decode (mB Ro_at) 13 = .ok (.aload_n 0, 1) := by decide +kernel
theorem dRo_at_14 : decode (mB Ro_at) 14 = .ok (.getfield 9, 3) := by decide +kernel
theorem dRo_at_17 : decode (mB Ro_at) 17 = .ok (.iload_n 1, 1) := by decide +kernel
theorem dRo_at_18 : decode (mB Ro_at) 18 = .ok (.iaload, 1) := by decide +kernel
theorem dRo_at_19 : decode (mB Ro_at) 19 = .ok (.goto 4, 3) := by decide +kernel
theorem dRo_at_22 : decode (mB Ro_at) 22 = .ok (.iconst (-1), 1) := by decide +kernel
theorem dRo_at_23 : decode (mB Ro_at) 23 = .ok (.ireturn, 1) := by decide +kernel
def w_Ro_at (o : Nat) (x1 : Int32) (h : tpH) (R : Int32 → tpH → Prop) : Prop :=
  (x1 < 0 → (R (-1 : Int32) h)) ∧ (¬ x1 < 0 → (hT h o = 8 ∧ (∃ a3, (hR h o 0) = some a3 ∧ hT h a3 = 15 ∧ (((Int32.ofNat (hL h a3)) ≤ x1 → (R (-1 : Int32) h)) ∧ (¬ (Int32.ofNat (hL h a3)) ≤ x1 → (vp_in x1 (hL h a3) ∧ (R (hI h a3 x1.toNatClampNeg) h)))))))
theorem s_Ro_at {o : Nat} {x1 : Int32} {h : tpH} {R : Int32 → tpH → Prop} (hw : w_Ro_at o x1 h R) : tpC Ro_at 0 [vR (some o), vI x1] h (tpOi R (fun _ _ => False)) := by
  refine tpC_of mv_Ro_at.2.2.2.1 rfl rfl (Nat.le_of_ble_eq_true rfl) ?_
  show tpR Ro_at 0 h _ _ 0 [some (vR (some o)), some (vI x1)] [] h
  unfold w_Ro_at at hw
  refine tq_iload_n dRo_at_0 rfl rfl ?_
  refine tq_iflt (tgt := 22) dRo_at_1 (by decide) (fun c1 => ?_) (fun c1 => ?_)
  · have hw := hw.1 c1
    refine tq_iconst (v := (-1 : Int32)) dRo_at_22 tni_m1 ?_
    exact tq_iret rfl rfl dRo_at_23 hw
  · have hw := hw.2 c1
    refine tq_iload_n dRo_at_4 rfl rfl ?_
    refine tq_aload_n dRo_at_5 rfl rfl ?_
    obtain ⟨f2, hw⟩ := hw
    refine te_getr dRo_at_6 fRo_9 rfl rfl f2 ?_
    obtain ⟨a3, e4, f5, hw⟩ := hw
    refine te_alen dRo_at_9 e4 (by rw [f5]; decide) ?_
    refine tq_icmpge (tgt := 22) dRo_at_10 (by decide) (fun c6 => ?_) (fun c6 => ?_)
    · have hw := hw.1 c6
      refine tq_iconst (v := (-1 : Int32)) dRo_at_22 tni_m1 ?_
      exact tq_iret rfl rfl dRo_at_23 hw
    · have hw := hw.2 c6
      refine tq_aload_n dRo_at_13 rfl rfl ?_
      refine te_getr dRo_at_14 fRo_9 rfl rfl f2 ?_
      refine tq_iload_n dRo_at_17 rfl rfl ?_
      obtain ⟨f7, hw⟩ := hw
      refine te_iald dRo_at_18 e4 (Or.inl f5) f7 ?_
      refine tq_goto (tgt := 23) dRo_at_19 (by decide) ?_
      exact tq_iret rfl rfl dRo_at_23 hw
/-! T$Row.put -/
theorem dRo_put_0 : decode (mB Ro_put) 0 = .ok (.iload_n 1, 1) := by decide +kernel
theorem dRo_put_1 : decode (mB Ro_put) 1 = .ok (.ifCond .lt 19, 3) := by decide +kernel
theorem dRo_put_4 : decode (mB Ro_put) 4 = .ok (.iload_n 1, 1) := by decide +kernel
theorem dRo_put_5 : decode (mB Ro_put) 5 = .ok (.aload_n 0, 1) := by decide +kernel
theorem dRo_put_6 : decode (mB Ro_put) 6 = .ok (.getfield 9, 3) := by decide +kernel
theorem dRo_put_9 : decode (mB Ro_put) 9 = .ok (.arraylength, 1) := by decide +kernel
theorem dRo_put_10 : decode (mB Ro_put) 10 = .ok (.if_icmp .ge 10, 3) := by decide +kernel
theorem dRo_put_13 : decode (mB Ro_put) 13 = .ok (.aload_n 0, 1) := by decide +kernel
theorem dRo_put_14 : decode (mB Ro_put) 14 = .ok (.getfield 9, 3) := by decide +kernel
theorem dRo_put_17 : decode (mB Ro_put) 17 = .ok (.iload_n 1, 1) := by decide +kernel
theorem dRo_put_18 : decode (mB Ro_put) 18 = .ok (.iload_n 2, 1) := by decide +kernel
theorem dRo_put_19 : decode (mB Ro_put) 19 = .ok (.iastore, 1) := by decide +kernel
theorem dRo_put_20 : decode (mB Ro_put) 20 = .ok (.return_, 1) := by decide +kernel
def w_Ro_put (o : Nat) (x1 : Int32) (x2 : Int32) (h : tpH) (R : tpH → Prop) : Prop :=
  (x1 < 0 → (R h)) ∧ (¬ x1 < 0 → (hT h o = 8 ∧ (∃ a3, (hR h o 0) = some a3 ∧ hT h a3 = 15 ∧ (((Int32.ofNat (hL h a3)) ≤ x1 → (R h)) ∧ (¬ (Int32.ofNat (hL h a3)) ≤ x1 → (vp_in x1 (hL h a3) ∧ (∀ h8, h8 = sI h a3 x1.toNatClampNeg x2 → (R h8))))))))
theorem s_Ro_put {o : Nat} {x1 : Int32} {x2 : Int32} {h : tpH} {R : tpH → Prop} (hw : w_Ro_put o x1 x2 h R) : tpC Ro_put 0 [vR (some o), vI x1, vI x2] h (tpOv R (fun _ _ => False)) := by
  refine tpC_of mv_Ro_put.2.2.2.1 rfl rfl (Nat.le_of_ble_eq_true rfl) ?_
  show tpR Ro_put 0 h _ _ 0 [some (vR (some o)), some (vI x1), some (vI x2)] [] h
  unfold w_Ro_put at hw
  refine tq_iload_n dRo_put_0 rfl rfl ?_
  refine tq_iflt (tgt := 20) dRo_put_1 (by decide) (fun c1 => ?_) (fun c1 => ?_)
  · have hw := hw.1 c1
    exact tq_vret rfl dRo_put_20 hw
  · have hw := hw.2 c1
    refine tq_iload_n dRo_put_4 rfl rfl ?_
    refine tq_aload_n dRo_put_5 rfl rfl ?_
    obtain ⟨f2, hw⟩ := hw
    refine te_getr dRo_put_6 fRo_9 rfl rfl f2 ?_
    obtain ⟨a3, e4, f5, hw⟩ := hw
    refine te_alen dRo_put_9 e4 (by rw [f5]; decide) ?_
    refine tq_icmpge (tgt := 20) dRo_put_10 (by decide) (fun c6 => ?_) (fun c6 => ?_)
    · have hw := hw.1 c6
      exact tq_vret rfl dRo_put_20 hw
    · have hw := hw.2 c6
      refine tq_aload_n dRo_put_13 rfl rfl ?_
      refine te_getr dRo_put_14 fRo_9 rfl rfl f2 ?_
      refine tq_iload_n dRo_put_17 rfl rfl ?_
      refine tq_iload_n dRo_put_18 rfl rfl ?_
      obtain ⟨f7, hw⟩ := hw
      refine te_iast dRo_put_19 e4 f5 f7 (fun h8 e9 => ?_)
      have hw := hw h8 e9
      exact tq_vret rfl dRo_put_20 hw
/-! T$Row.fill -/
theorem dRo_fill_0 : decode (mB Ro_fill) 0 = .ok (.iconst 0, 1) := by decide +kernel
theorem dRo_fill_1 : decode (mB Ro_fill) 1 = .ok (.istore_n 3, 1) := by decide +kernel
theorem dRo_fill_2 : decode (mB Ro_fill) 2 = .ok (.iload_n 3, 1) := by decide +kernel
theorem dRo_fill_3 : decode (mB Ro_fill) 3 = .ok (.iload_n 1, 1) := by decide +kernel
theorem dRo_fill_4 : decode (mB Ro_fill) 4 = .ok (.if_icmp .ge 25, 3) := by decide +kernel
theorem dRo_fill_7 : decode (mB Ro_fill) 7 = .ok (.iload_n 3, 1) := by decide +kernel
theorem dRo_fill_8 : decode (mB Ro_fill) 8 = .ok (.aload_n 0, 1) := by decide +kernel
theorem dRo_fill_9 : decode (mB Ro_fill) 9 = .ok (.getfield 9, 3) := by decide +kernel
theorem dRo_fill_12 : decode (mB Ro_fill) 12 = .ok (.arraylength, 1) := by decide +kernel
theorem dRo_fill_13 : decode (mB Ro_fill) 13 = .ok (.if_icmp .ge 16, 3) := by decide +kernel
theorem dRo_fill_16 : decode (mB Ro_fill) 16 = .ok (.aload_n 0, 1) := by decide +kernel
theorem dRo_fill_17 : decode (mB Ro_fill) 17 = .ok (.getfield 9, 3) := by decide +kernel
theorem dRo_fill_20 : decode (mB Ro_fill) 20 = .ok (.iload_n 3, 1) := by decide +kernel
theorem dRo_fill_21 : decode (mB Ro_fill) 21 = .ok (.iload_n 2, 1) := by decide +kernel
theorem dRo_fill_22 : decode (mB Ro_fill) 22 = .ok (.iastore, 1) := by decide +kernel
theorem dRo_fill_23 : decode (mB Ro_fill) 23 = .ok (.iinc 3 1, 3) := by decide +kernel
theorem dRo_fill_26 : decode (mB Ro_fill) 26 = .ok (.goto (-24), 3) := by decide +kernel
theorem dRo_fill_29 : decode (mB Ro_fill) 29 = .ok (.return_, 1) := by decide +kernel
def b_Ro_fill_2 (R : tpH → Prop) (Y : Nat → Int32 → Int32 → Int32 → tpH → Prop) (o : Nat) (x1 : Int32) (x2 : Int32) (x3 : Int32) (h : tpH) : Prop :=
  (x1 ≤ x3 → (R h)) ∧ (¬ x1 ≤ x3 → (hT h o = 8 ∧ (∃ a3, (hR h o 0) = some a3 ∧ hT h a3 = 15 ∧ (((Int32.ofNat (hL h a3)) ≤ x3 → (R h)) ∧ (¬ (Int32.ofNat (hL h a3)) ≤ x3 → (vp_in x3 (hL h a3) ∧ (∀ h8, h8 = sI h a3 x3.toNatClampNeg x2 → (Y o x1 x2 (x3 + (1 : Int32)) h8))))))))
def w_Ro_fill_2 (R : tpH → Prop) : Nat → Nat → Int32 → Int32 → Int32 → tpH → Prop
  | 0 => fun _ _ _ _ _ => False
  | n + 1 => b_Ro_fill_2 R (w_Ro_fill_2 R n)
def w_Ro_fill (o : Nat) (x1 : Int32) (x2 : Int32) (h : tpH) (R : tpH → Prop) : Prop :=
  ∃ n, w_Ro_fill_2 R n o x1 x2 (0 : Int32) h
theorem s_Ro_fill_2 {h0 : tpH} {av : List tpV} {R : tpH → Prop} : ∀ (n : Nat) (o : Nat) (x1 : Int32) (x2 : Int32) (x3 : Int32) (h : tpH), w_Ro_fill_2 R n o x1 x2 x3 h → tpR Ro_fill 0 h0 av (tpOv R (fun _ _ => False)) 2 [some (vR (some o)), some (vI x1), some (vI x2), some (vI x3)] [] h := by
  intro n
  induction n with
  | zero => intro o x1 x2 x3 h hw; exact False.elim hw
  | succ n ih =>
    intro o x1 x2 x3 h hw
    change b_Ro_fill_2 R (w_Ro_fill_2 R n) o x1 x2 x3 h at hw
    unfold b_Ro_fill_2 at hw
    refine tq_iload_n dRo_fill_2 rfl rfl ?_
    refine tq_iload_n dRo_fill_3 rfl rfl ?_
    refine tq_icmpge (tgt := 29) dRo_fill_4 (by decide) (fun c1 => ?_) (fun c1 => ?_)
    · have hw := hw.1 c1
      exact tq_vret rfl dRo_fill_29 hw
    · have hw := hw.2 c1
      refine tq_iload_n dRo_fill_7 rfl rfl ?_
      refine tq_aload_n dRo_fill_8 rfl rfl ?_
      obtain ⟨f2, hw⟩ := hw
      refine te_getr dRo_fill_9 fRo_9 rfl rfl f2 ?_
      obtain ⟨a3, e4, f5, hw⟩ := hw
      refine te_alen dRo_fill_12 e4 (by rw [f5]; decide) ?_
      refine tq_icmpge (tgt := 29) dRo_fill_13 (by decide) (fun c6 => ?_) (fun c6 => ?_)
      · have hw := hw.1 c6
        exact tq_vret rfl dRo_fill_29 hw
      · have hw := hw.2 c6
        refine tq_aload_n dRo_fill_16 rfl rfl ?_
        refine te_getr dRo_fill_17 fRo_9 rfl rfl f2 ?_
        refine tq_iload_n dRo_fill_20 rfl rfl ?_
        refine tq_iload_n dRo_fill_21 rfl rfl ?_
        obtain ⟨f7, hw⟩ := hw
        refine te_iast dRo_fill_22 e4 f5 f7 (fun h8 e9 => ?_)
        have hw := hw h8 e9
        refine tq_inc (k := (1 : Int32)) (ls' := [some (vR (some o)), some (vI x1), some (vI x2), some (vI (x3 + (1 : Int32)))]) dRo_fill_23 rfl tni_1 (Nat.le_of_ble_eq_true rfl) rfl ?_
        refine tq_goto (tgt := 2) dRo_fill_26 (by decide) ?_
        refine tpR.fo (ls' := [some (vR (some o)), some (vI x1), some (vI x2), some (vI (x3 + (1 : Int32)))]) ?_ (And.intro rfl (And.intro rfl (And.intro rfl (And.intro rfl trivial))))
        exact ih _ _ _ _ _ hw
theorem s_Ro_fill {o : Nat} {x1 : Int32} {x2 : Int32} {h : tpH} {R : tpH → Prop} (hw : w_Ro_fill o x1 x2 h R) : tpC Ro_fill 0 [vR (some o), vI x1, vI x2] h (tpOv R (fun _ _ => False)) := by
  refine tpC_of mv_Ro_fill.2.2.2.1 rfl rfl (Nat.le_of_ble_eq_true rfl) ?_
  show tpR Ro_fill 0 h _ _ 0 [some (vR (some o)), some (vI x1), some (vI x2), none] [] h
  unfold w_Ro_fill at hw
  refine tq_iconst (v := (0 : Int32)) dRo_fill_0 tni_0 ?_
  refine tq_istore_n (ls' := [some (vR (some o)), some (vI x1), some (vI x2), some (vI (0 : Int32))]) dRo_fill_1 rfl (Nat.le_of_ble_eq_true rfl) rfl ?_
  refine tpR.fo (ls' := [some (vR (some o)), some (vI x1), some (vI x2), some (vI (0 : Int32))]) ?_ (And.intro rfl (And.intro rfl (And.intro rfl (And.intro rfl trivial))))
  obtain ⟨n, hw⟩ := hw
  exact s_Ro_fill_2 n _ _ _ _ _ hw
/-! T$Marks.isLoose -/
theorem dMa_isLoose_0 : decode (mB Ma_isLoose) 0 = .ok (.aload_n 0, 1) := by decide +kernel
theorem dMa_isLoose_1 : decode (mB Ma_isLoose) 1 = .ok (.getfield 14, 3) := by decide +kernel
theorem dMa_isLoose_4 : decode (mB Ma_isLoose) 4 = .ok (.iload_n 1, 1) := by decide +kernel
theorem dMa_isLoose_5 : decode (mB Ma_isLoose) 5 = .ok (.invokevirtual 31, 3) := by decide +kernel
theorem dMa_isLoose_8 : decode (mB Ma_isLoose) 8 = .ok (.iconst 4, 1) := by decide +kernel
theorem dMa_isLoose_9 : decode (mB Ma_isLoose) 9 = .ok (.if_icmp .lt 7, 3) := by decide +kernel
theorem dMa_isLoose_12 : decode (mB Ma_isLoose) 12 = .ok (.iconst 1, 1) := by decide +kernel
theorem dMa_isLoose_13 : decode (mB Ma_isLoose) 13 = .ok (.goto 4, 3) := by decide +kernel
theorem dMa_isLoose_16 : decode (mB Ma_isLoose) 16 = .ok (.iconst 0, 1) := by decide +kernel
theorem dMa_isLoose_17 : decode (mB Ma_isLoose) 17 = .ok (.ireturn, 1) := by decide +kernel
def w_Ma_isLoose (o : Nat) (x1 : Int32) (h : tpH) (R : Int32 → tpH → Prop) : Prop :=
  hT h o = 5 ∧ (∃ a2, (hR h o 0) = some a2 ∧ hT h a2 = 8 ∧ (w_Ro_at a2 x1 h (fun v6 h5 => (v6 < (4 : Int32) → (R (0 : Int32) h5)) ∧ (¬ v6 < (4 : Int32) → (R (1 : Int32) h5)))))
theorem s_Ma_isLoose {o : Nat} {x1 : Int32} {h : tpH} {R : Int32 → tpH → Prop} (hw : w_Ma_isLoose o x1 h R) : tpC Ma_isLoose 1 [vR (some o), vI x1] h (tpOi R (fun _ _ => False)) := by
  refine tpC_of mv_Ma_isLoose.2.2.2.1 rfl rfl (Nat.le_of_ble_eq_true rfl) ?_
  show tpR Ma_isLoose 1 h _ _ 0 [some (vR (some o)), some (vI x1)] [] h
  unfold w_Ma_isLoose at hw
  refine tq_aload_n dMa_isLoose_0 rfl rfl ?_
  obtain ⟨f1, hw⟩ := hw
  refine te_getr dMa_isLoose_1 fMa_14 rfl rfl f1 ?_
  refine tq_iload_n dMa_isLoose_4 rfl rfl ?_
  obtain ⟨a2, e3, f4, hw⟩ := hw
  refine te_callV mv_Ro_at (ci := 7) (dc := 0) (as := [vI x1]) (rest := []) kMa_31 rfl (Nat.le_of_ble_eq_true rfl) (Nat.le_of_ble_eq_true rfl) rfl rfl e3 f4 (Nat.le_of_ble_eq_true rfl) dMa_isLoose_5 (s_Ro_at hw) (fun _ _ hx => False.elim hx) (tk_i fun v6 h5 hw => ?_)
  refine tq_iconst (v := (4 : Int32)) dMa_isLoose_8 tni_4 ?_
  refine tq_icmplt (tgt := 16) dMa_isLoose_9 (by decide) (fun c7 => ?_) (fun c7 => ?_)
  · have hw := hw.1 c7
    refine tq_iconst (v := (0 : Int32)) dMa_isLoose_16 tni_0 ?_
    exact tq_iret rfl (by decide) dMa_isLoose_17 hw
  · have hw := hw.2 c7
    refine tq_iconst (v := (1 : Int32)) dMa_isLoose_12 tni_1 ?_
    refine tq_goto (tgt := 17) dMa_isLoose_13 (by decide) ?_
    exact tq_iret rfl (by decide) dMa_isLoose_17 hw
/-! T$Spot.<init> -/
theorem dSp_init_0 : decode (mB Sp_init) 0 = .ok (.aload_n 0, 1) := by decide +kernel
theorem dSp_init_1 : decode (mB Sp_init) 1 = .ok (.invokespecial 1, 3) := by decide +kernel
theorem dSp_init_4 : decode (mB Sp_init) 4 = .ok (.aload_n 0, 1) := by decide +kernel
theorem dSp_init_5 : decode (mB Sp_init) 5 = .ok (.iload_n 1, 1) := by decide +kernel
theorem dSp_init_6 : decode (mB Sp_init) 6 = .ok (.putfield 7, 3) := by decide +kernel
theorem dSp_init_9 : decode (mB Sp_init) 9 = .ok (.aload_n 0, 1) := by decide +kernel
theorem dSp_init_10 : decode (mB Sp_init) 10 = .ok (.iload_n 2, 1) := by decide +kernel
theorem dSp_init_11 : decode (mB Sp_init) 11 = .ok (.putfield 13, 3) := by decide +kernel
theorem dSp_init_14 : decode (mB Sp_init) 14 = .ok (.aload_n 0, 1) := by decide +kernel
theorem dSp_init_15 : decode (mB Sp_init) 15 = .ok (.iload_n 3, 1) := by decide +kernel
theorem dSp_init_16 : decode (mB Sp_init) 16 = .ok (.putfield 16, 3) := by decide +kernel
theorem dSp_init_19 : decode (mB Sp_init) 19 = .ok (.return_, 1) := by decide +kernel
def w_Sp_init (o : Nat) (x1 : Int32) (x2 : Int32) (x3 : Int32) (h : tpH) (R : tpH → Prop) : Prop :=
  hT h o = 10 ∧ (∀ h2, h2 = sI h o 0 x1 → (∀ h4, h4 = sI h2 o 1 x2 → (∀ h6, h6 = sI h4 o 2 x3 → (R h6))))
theorem s_Sp_init {o : Nat} {x1 : Int32} {x2 : Int32} {x3 : Int32} {h : tpH} {R : tpH → Prop} (hw : w_Sp_init o x1 x2 x3 h R) : tpC Sp_init 1 [vR (some o), vI x1, vI x2, vI x3] h (tpOv R (fun _ _ => False)) := by
  refine tpC_of mi_Sp_init.2.2.2.1 rfl rfl (Nat.le_of_ble_eq_true rfl) ?_
  show tpR Sp_init 1 h _ _ 0 [some (vR (some o)), some (vI x1), some (vI x2), some (vI x3)] [] h
  unfold w_Sp_init at hw
  refine tq_aload_n dSp_init_0 rfl rfl ?_
  refine tq_obj oSp_1 (Nat.le_of_ble_eq_true rfl) (Nat.le_of_ble_eq_true rfl) dSp_init_1 ?_
  refine tq_aload_n dSp_init_4 rfl rfl ?_
  refine tq_iload_n dSp_init_5 rfl rfl ?_
  obtain ⟨f1, hw⟩ := hw
  refine te_puti dSp_init_6 pSp_7 rfl rfl rfl f1 ⟨rfl, rfl⟩ (fun h2 e3 => ?_)
  have hw := hw h2 e3
  refine tq_aload_n dSp_init_9 rfl rfl ?_
  refine tq_iload_n dSp_init_10 rfl rfl ?_
  refine te_puti dSp_init_11 pSp_13 rfl rfl rfl (by rw [e3]; exact f1) ⟨rfl, rfl⟩ (fun h4 e5 => ?_)
  have hw := hw h4 e5
  refine tq_aload_n dSp_init_14 rfl rfl ?_
  refine tq_iload_n dSp_init_15 rfl rfl ?_
  refine te_puti dSp_init_16 pSp_16 rfl rfl rfl (by rw [e5]; exact (by rw [e3]; exact f1)) ⟨rfl, rfl⟩ (fun h6 e7 => ?_)
  have hw := hw h6 e7
  exact tq_vret rfl dSp_init_19 hw
/-! T$History.<init> -/
theorem dHi_init_0 : decode (mB Hi_init) 0 = .ok (.aload_n 0, 1) := by decide +kernel
theorem dHi_init_1 : decode (mB Hi_init) 1 = .ok (.invokespecial 3, 3) := by decide +kernel
theorem dHi_init_4 : decode (mB Hi_init) 4 = .ok (.aload_n 0, 1) := by decide +kernel
theorem dHi_init_5 : decode (mB Hi_init) 5 = .ok (.new 9, 3) := by decide +kernel
theorem dHi_init_8 : decode (mB Hi_init) 8 = .ok (.dup, 1) := by decide +kernel
theorem dHi_init_9 : decode (mB Hi_init) 9 = .ok (.bipush 30, 2) := by decide +kernel
theorem dHi_init_11 : decode (mB Hi_init) 11 = .ok (.invokespecial 11, 3) := by decide +kernel
theorem dHi_init_14 : decode (mB Hi_init) 14 = .ok (.putfield 14, 3) := by decide +kernel
theorem dHi_init_17 : decode (mB Hi_init) 17 = .ok (.aload_n 0, 1) := by decide +kernel
theorem dHi_init_18 : decode (mB Hi_init) 18 = .ok (.new 9, 3) := by decide +kernel
theorem dHi_init_21 : decode (mB Hi_init) 21 = .ok (.dup, 1) := by decide +kernel
theorem dHi_init_22 : decode (mB Hi_init) 22 = .ok (.bipush 30, 2) := by decide +kernel
theorem dHi_init_24 : decode (mB Hi_init) 24 = .ok (.invokespecial 11, 3) := by decide +kernel
theorem dHi_init_27 : decode (mB Hi_init) 27 = .ok (.putfield 20, 3) := by decide +kernel
theorem dHi_init_30 : decode (mB Hi_init) 30 = .ok (.aload_n 0, 1) := by decide +kernel
theorem dHi_init_31 : decode (mB Hi_init) 31 = .ok (.new 9, 3) := by decide +kernel
theorem dHi_init_34 : decode (mB Hi_init) 34 = .ok (.dup, 1) := by decide +kernel
theorem dHi_init_35 : decode (mB Hi_init) 35 = .ok (.bipush 30, 2) := by decide +kernel
theorem dHi_init_37 : decode (mB Hi_init) 37 = .ok (.invokespecial 11, 3) := by decide +kernel
theorem dHi_init_40 : decode (mB Hi_init) 40 = .ok (.putfield 23, 3) := by decide +kernel
theorem dHi_init_43 : decode (mB Hi_init) 43 = .ok (.aload_n 0, 1) := by decide +kernel
theorem dHi_init_44 : decode (mB Hi_init) 44 = .ok (.new 9, 3) := by decide +kernel
theorem dHi_init_47 : decode (mB Hi_init) 47 = .ok (.dup, 1) := by decide +kernel
theorem dHi_init_48 : decode (mB Hi_init) 48 = .ok (.bipush 30, 2) := by decide +kernel
theorem dHi_init_50 : decode (mB Hi_init) 50 = .ok (.invokespecial 11, 3) := by decide +kernel
theorem dHi_init_53 : decode (mB Hi_init) 53 = .ok (.putfield 26, 3) := by decide +kernel
theorem dHi_init_56 : decode (mB Hi_init) 56 = .ok (.aload_n 0, 1) := by decide +kernel
theorem dHi_init_57 : decode (mB Hi_init) 57 = .ok (.new 9, 3) := by decide +kernel
theorem dHi_init_60 : decode (mB Hi_init) 60 = .ok (.dup, 1) := by decide +kernel
theorem dHi_init_61 : decode (mB Hi_init) 61 = .ok (.bipush 30, 2) := by decide +kernel
theorem dHi_init_63 : decode (mB Hi_init) 63 = .ok (.invokespecial 11, 3) := by decide +kernel
theorem dHi_init_66 : decode (mB Hi_init) 66 = .ok (.putfield 29, 3) := by decide +kernel
theorem dHi_init_69 : decode (mB Hi_init) 69 = .ok (.return_, 1) := by decide +kernel
def w_Hi_init (o : Nat) (h : tpH) (R : tpH → Prop) : Prop :=
  ∀ a1 h2, a1 = hZ h → h2 = nC h 8 0 2 → (w_Ro_init a1 (30 : Int32) h2 (fun h5 => hT h5 o = 3 ∧ (∀ h7, h7 = sR h5 o 0 (some a1) → (∀ a9 h10, a9 = hZ h7 → h10 = nC h7 8 0 2 → (w_Ro_init a9 (30 : Int32) h10 (fun h13 => hT h13 o = 3 ∧ (∀ h15, h15 = sR h13 o 1 (some a9) → (∀ a17 h18, a17 = hZ h15 → h18 = nC h15 8 0 2 → (w_Ro_init a17 (30 : Int32) h18 (fun h21 => hT h21 o = 3 ∧ (∀ h23, h23 = sR h21 o 2 (some a17) → (∀ a25 h26, a25 = hZ h23 → h26 = nC h23 8 0 2 → (w_Ro_init a25 (30 : Int32) h26 (fun h29 => hT h29 o = 3 ∧ (∀ h31, h31 = sR h29 o 3 (some a25) → (∀ a33 h34, a33 = hZ h31 → h34 = nC h31 8 0 2 → (w_Ro_init a33 (30 : Int32) h34 (fun h37 => hT h37 o = 3 ∧ (∀ h39, h39 = sR h37 o 4 (some a33) → (R h39))))))))))))))))))))
theorem s_Hi_init {o : Nat} {h : tpH} {R : tpH → Prop} (hw : w_Hi_init o h R) : tpC Hi_init 2 [vR (some o)] h (tpOv R (fun _ _ => False)) := by
  refine tpC_of mi_Hi_init.2.2.2.1 rfl rfl (Nat.le_of_ble_eq_true rfl) ?_
  show tpR Hi_init 2 h _ _ 0 [some (vR (some o))] [] h
  unfold w_Hi_init at hw
  refine tq_aload_n dHi_init_0 rfl rfl ?_
  refine tq_obj oHi_3 (Nat.le_of_ble_eq_true rfl) (Nat.le_of_ble_eq_true rfl) dHi_init_1 ?_
  refine tq_aload_n dHi_init_4 rfl rfl ?_
  refine tq_new (ci := 7) cHi_9 ti_7 rfl dHi_init_5 (fun a1 h2 e3 e4 => ?_)
  have hw := hw a1 h2 e3 e4
  refine tq_dup dHi_init_8 rfl ?_
  refine tq_bipush (v := (30 : Int32)) dHi_init_9 tnb_30 ?_
  refine te_init mi_Ro_init (dc := 1) (as := [vI (30 : Int32)]) (rest := [vR (some a1), vR (some o)]) (Or.inl kHi_11) (Nat.le_of_ble_eq_true rfl) (Nat.le_of_ble_eq_true rfl) rfl rfl rfl (Nat.le_of_ble_eq_true rfl) dHi_init_11 (s_Ro_init hw) (fun _ _ hx => hx) (tk_v fun h5 hw => ?_)
  obtain ⟨f6, hw⟩ := hw
  refine te_putr dHi_init_14 pHi_14 rfl rfl rfl f6 (fun h7 e8 => ?_)
  have hw := hw h7 e8
  refine tq_aload_n dHi_init_17 rfl rfl ?_
  refine tq_new (ci := 7) cHi_9 ti_7 rfl dHi_init_18 (fun a9 h10 e11 e12 => ?_)
  have hw := hw a9 h10 e11 e12
  refine tq_dup dHi_init_21 rfl ?_
  refine tq_bipush (v := (30 : Int32)) dHi_init_22 tnb_30 ?_
  refine te_init mi_Ro_init (dc := 1) (as := [vI (30 : Int32)]) (rest := [vR (some a9), vR (some o)]) (Or.inl kHi_11) (Nat.le_of_ble_eq_true rfl) (Nat.le_of_ble_eq_true rfl) rfl rfl rfl (Nat.le_of_ble_eq_true rfl) dHi_init_24 (s_Ro_init hw) (fun _ _ hx => hx) (tk_v fun h13 hw => ?_)
  obtain ⟨f14, hw⟩ := hw
  refine te_putr dHi_init_27 pHi_20 rfl rfl rfl f14 (fun h15 e16 => ?_)
  have hw := hw h15 e16
  refine tq_aload_n dHi_init_30 rfl rfl ?_
  refine tq_new (ci := 7) cHi_9 ti_7 rfl dHi_init_31 (fun a17 h18 e19 e20 => ?_)
  have hw := hw a17 h18 e19 e20
  refine tq_dup dHi_init_34 rfl ?_
  refine tq_bipush (v := (30 : Int32)) dHi_init_35 tnb_30 ?_
  refine te_init mi_Ro_init (dc := 1) (as := [vI (30 : Int32)]) (rest := [vR (some a17), vR (some o)]) (Or.inl kHi_11) (Nat.le_of_ble_eq_true rfl) (Nat.le_of_ble_eq_true rfl) rfl rfl rfl (Nat.le_of_ble_eq_true rfl) dHi_init_37 (s_Ro_init hw) (fun _ _ hx => hx) (tk_v fun h21 hw => ?_)
  obtain ⟨f22, hw⟩ := hw
  refine te_putr dHi_init_40 pHi_23 rfl rfl rfl f22 (fun h23 e24 => ?_)
  have hw := hw h23 e24
  refine tq_aload_n dHi_init_43 rfl rfl ?_
  refine tq_new (ci := 7) cHi_9 ti_7 rfl dHi_init_44 (fun a25 h26 e27 e28 => ?_)
  have hw := hw a25 h26 e27 e28
  refine tq_dup dHi_init_47 rfl ?_
  refine tq_bipush (v := (30 : Int32)) dHi_init_48 tnb_30 ?_
  refine te_init mi_Ro_init (dc := 1) (as := [vI (30 : Int32)]) (rest := [vR (some a25), vR (some o)]) (Or.inl kHi_11) (Nat.le_of_ble_eq_true rfl) (Nat.le_of_ble_eq_true rfl) rfl rfl rfl (Nat.le_of_ble_eq_true rfl) dHi_init_50 (s_Ro_init hw) (fun _ _ hx => hx) (tk_v fun h29 hw => ?_)
  obtain ⟨f30, hw⟩ := hw
  refine te_putr dHi_init_53 pHi_26 rfl rfl rfl f30 (fun h31 e32 => ?_)
  have hw := hw h31 e32
  refine tq_aload_n dHi_init_56 rfl rfl ?_
  refine tq_new (ci := 7) cHi_9 ti_7 rfl dHi_init_57 (fun a33 h34 e35 e36 => ?_)
  have hw := hw a33 h34 e35 e36
  refine tq_dup dHi_init_60 rfl ?_
  refine tq_bipush (v := (30 : Int32)) dHi_init_61 tnb_30 ?_
  refine te_init mi_Ro_init (dc := 1) (as := [vI (30 : Int32)]) (rest := [vR (some a33), vR (some o)]) (Or.inl kHi_11) (Nat.le_of_ble_eq_true rfl) (Nat.le_of_ble_eq_true rfl) rfl rfl rfl (Nat.le_of_ble_eq_true rfl) dHi_init_63 (s_Ro_init hw) (fun _ _ hx => hx) (tk_v fun h37 hw => ?_)
  obtain ⟨f38, hw⟩ := hw
  refine te_putr dHi_init_66 pHi_29 rfl rfl rfl f38 (fun h39 e40 => ?_)
  have hw := hw h39 e40
  exact tq_vret rfl dHi_init_69 hw
/-! T$Marks.<init> -/
theorem dMa_init_0 : decode (mB Ma_init) 0 = .ok (.aload_n 0, 1) := by decide +kernel
theorem dMa_init_1 : decode (mB Ma_init) 1 = .ok (.invokespecial 3, 3) := by decide +kernel
theorem dMa_init_4 : decode (mB Ma_init) 4 = .ok (.aload_n 0, 1) := by decide +kernel
theorem dMa_init_5 : decode (mB Ma_init) 5 = .ok (.new 9, 3) := by decide +kernel
theorem dMa_init_8 : decode (mB Ma_init) 8 = .ok (.dup, 1) := by decide +kernel
theorem dMa_init_9 : decode (mB Ma_init) 9 = .ok (.sipush 300, 3) := by decide +kernel
theorem dMa_init_12 : decode (mB Ma_init) 12 = .ok (.invokespecial 11, 3) := by decide +kernel
theorem dMa_init_15 : decode (mB Ma_init) 15 = .ok (.putfield 14, 3) := by decide +kernel
theorem dMa_init_18 : decode (mB Ma_init) 18 = .ok (.aload_n 0, 1) := by decide +kernel
theorem dMa_init_19 : decode (mB Ma_init) 19 = .ok (.new 9, 3) := by decide +kernel
theorem dMa_init_22 : decode (mB Ma_init) 22 = .ok (.dup, 1) := by decide +kernel
theorem dMa_init_23 : decode (mB Ma_init) 23 = .ok (.sipush 300, 3) := by decide +kernel
theorem dMa_init_26 : decode (mB Ma_init) 26 = .ok (.invokespecial 11, 3) := by decide +kernel
theorem dMa_init_29 : decode (mB Ma_init) 29 = .ok (.putfield 20, 3) := by decide +kernel
theorem dMa_init_32 : decode (mB Ma_init) 32 = .ok (.return_, 1) := by decide +kernel
def w_Ma_init (o : Nat) (h : tpH) (R : tpH → Prop) : Prop :=
  ∀ a1 h2, a1 = hZ h → h2 = nC h 8 0 2 → (w_Ro_init a1 (300 : Int32) h2 (fun h5 => hT h5 o = 5 ∧ (∀ h7, h7 = sR h5 o 0 (some a1) → (∀ a9 h10, a9 = hZ h7 → h10 = nC h7 8 0 2 → (w_Ro_init a9 (300 : Int32) h10 (fun h13 => hT h13 o = 5 ∧ (∀ h15, h15 = sR h13 o 1 (some a9) → (R h15))))))))
theorem s_Ma_init {o : Nat} {h : tpH} {R : tpH → Prop} (hw : w_Ma_init o h R) : tpC Ma_init 2 [vR (some o)] h (tpOv R (fun _ _ => False)) := by
  refine tpC_of mi_Ma_init.2.2.2.1 rfl rfl (Nat.le_of_ble_eq_true rfl) ?_
  show tpR Ma_init 2 h _ _ 0 [some (vR (some o))] [] h
  unfold w_Ma_init at hw
  refine tq_aload_n dMa_init_0 rfl rfl ?_
  refine tq_obj oMa_3 (Nat.le_of_ble_eq_true rfl) (Nat.le_of_ble_eq_true rfl) dMa_init_1 ?_
  refine tq_aload_n dMa_init_4 rfl rfl ?_
  refine tq_new (ci := 7) cMa_9 ti_7 rfl dMa_init_5 (fun a1 h2 e3 e4 => ?_)
  have hw := hw a1 h2 e3 e4
  refine tq_dup dMa_init_8 rfl ?_
  refine tq_sipush (v := (300 : Int32)) dMa_init_9 tns_300 ?_
  refine te_init mi_Ro_init (dc := 1) (as := [vI (300 : Int32)]) (rest := [vR (some a1), vR (some o)]) (Or.inl kMa_11) (Nat.le_of_ble_eq_true rfl) (Nat.le_of_ble_eq_true rfl) rfl rfl rfl (Nat.le_of_ble_eq_true rfl) dMa_init_12 (s_Ro_init hw) (fun _ _ hx => hx) (tk_v fun h5 hw => ?_)
  obtain ⟨f6, hw⟩ := hw
  refine te_putr dMa_init_15 pMa_14 rfl rfl rfl f6 (fun h7 e8 => ?_)
  have hw := hw h7 e8
  refine tq_aload_n dMa_init_18 rfl rfl ?_
  refine tq_new (ci := 7) cMa_9 ti_7 rfl dMa_init_19 (fun a9 h10 e11 e12 => ?_)
  have hw := hw a9 h10 e11 e12
  refine tq_dup dMa_init_22 rfl ?_
  refine tq_sipush (v := (300 : Int32)) dMa_init_23 tns_300 ?_
  refine te_init mi_Ro_init (dc := 1) (as := [vI (300 : Int32)]) (rest := [vR (some a9), vR (some o)]) (Or.inl kMa_11) (Nat.le_of_ble_eq_true rfl) (Nat.le_of_ble_eq_true rfl) rfl rfl rfl (Nat.le_of_ble_eq_true rfl) dMa_init_26 (s_Ro_init hw) (fun _ _ hx => hx) (tk_v fun h13 hw => ?_)
  obtain ⟨f14, hw⟩ := hw
  refine te_putr dMa_init_29 pMa_20 rfl rfl rfl f14 (fun h15 e16 => ?_)
  have hw := hw h15 e16
  exact tq_vret rfl dMa_init_32 hw
/-! T$Marks.make -/
theorem dMa_make_0 : decode (mB Ma_make) 0 = .ok (.aload_n 0, 1) := by decide +kernel
theorem dMa_make_1 : decode (mB Ma_make) 1 = .ok (.getfield 23, 3) := by decide +kernel
theorem dMa_make_4 : decode (mB Ma_make) 4 = .ok (.istore_n 3, 1) := by decide +kernel
theorem dMa_make_5 : decode (mB Ma_make) 5 = .ok (.aload_n 0, 1) := by decide +kernel
theorem dMa_make_6 : decode (mB Ma_make) 6 = .ok (.dup, 1) := by decide +kernel
theorem dMa_make_7 : decode (mB Ma_make) 7 = .ok (.getfield 23, 3) := by decide +kernel
theorem dMa_make_10 : decode (mB Ma_make) 10 = .ok (.iconst 1, 1) := by decide +kernel
theorem dMa_make_11 : decode (mB Ma_make) 11 = .ok (.iadd, 1) := by decide +kernel
theorem dMa_make_12 : decode (mB Ma_make) 12 = .ok (.putfield 23, 3) := by decide +kernel
theorem dMa_make_15 : decode (mB Ma_make) 15 = .ok (.aload_n 0, 1) := by decide +kernel
theorem dMa_make_16 : decode (mB Ma_make) 16 = .ok (.getfield 14, 3) := by decide +kernel
theorem dMa_make_19 : decode (mB Ma_make) 19 = .ok (.iload_n 3, 1) := by decide +kernel
theorem dMa_make_20 : decode (mB Ma_make) 20 = .ok (.iload_n 1, 1) := by decide +kernel
theorem dMa_make_21 : decode (mB Ma_make) 21 = .ok (.invokevirtual 27, 3) := by decide +kernel
theorem dMa_make_24 : decode (mB Ma_make) 24 = .ok (.aload_n 0, 1) := by decide +kernel
theorem dMa_make_25 : decode (mB Ma_make) 25 = .ok (.getfield 20, 3) := by decide +kernel
theorem dMa_make_28 : decode (mB Ma_make) 28 = .ok (.iload_n 3, 1) := by decide +kernel
theorem dMa_make_29 : decode (mB Ma_make) 29 = .ok (.iload_n 2, 1) := by decide +kernel
theorem dMa_make_30 : decode (mB Ma_make) 30 = .ok (.invokevirtual 27, 3) := by decide +kernel
theorem dMa_make_33 : decode (mB Ma_make) 33 = .ok (.iload_n 3, 1) := by decide +kernel
theorem dMa_make_34 : decode (mB Ma_make) 34 = .ok (.ireturn, 1) := by decide +kernel
def w_Ma_make (o : Nat) (x1 : Int32) (x2 : Int32) (h : tpH) (R : Int32 → tpH → Prop) : Prop :=
  hT h o = 5 ∧ (∀ h2, h2 = sI h o 2 ((hI h o 2) + (1 : Int32)) → (∃ a4, (hR h2 o 0) = some a4 ∧ hT h2 a4 = 8 ∧ (w_Ro_put a4 (hI h o 2) x1 h2 (fun h7 => hT h7 o = 5 ∧ (∃ a9, (hR h7 o 1) = some a9 ∧ hT h7 a9 = 8 ∧ (w_Ro_put a9 (hI h o 2) x2 h7 (fun h12 => R (hI h o 2) h12)))))))
theorem s_Ma_make {o : Nat} {x1 : Int32} {x2 : Int32} {h : tpH} {R : Int32 → tpH → Prop} (hw : w_Ma_make o x1 x2 h R) : tpC Ma_make 1 [vR (some o), vI x1, vI x2] h (tpOi R (fun _ _ => False)) := by
  refine tpC_of mv_Ma_make.2.2.2.1 rfl rfl (Nat.le_of_ble_eq_true rfl) ?_
  show tpR Ma_make 1 h _ _ 0 [some (vR (some o)), some (vI x1), some (vI x2), none] [] h
  unfold w_Ma_make at hw
  refine tq_aload_n dMa_make_0 rfl rfl ?_
  obtain ⟨f1, hw⟩ := hw
  refine te_geti dMa_make_1 fMa_23 rfl rfl f1 ?_
  refine tq_istore_n (ls' := [some (vR (some o)), some (vI x1), some (vI x2), some (vI (hI h o 2))]) dMa_make_4 rfl (Nat.le_of_ble_eq_true rfl) rfl ?_
  refine tq_aload_n dMa_make_5 rfl rfl ?_
  refine tq_dup dMa_make_6 rfl ?_
  refine te_geti dMa_make_7 fMa_23 rfl rfl f1 ?_
  refine tq_iconst (v := (1 : Int32)) dMa_make_10 tni_1 ?_
  refine tq_iadd dMa_make_11 ?_
  refine te_puti dMa_make_12 pMa_23 rfl rfl rfl f1 ⟨rfl, rfl⟩ (fun h2 e3 => ?_)
  have hw := hw h2 e3
  refine tq_aload_n dMa_make_15 rfl rfl ?_
  refine te_getr dMa_make_16 fMa_14 rfl rfl (by rw [e3]; exact f1) ?_
  refine tq_iload_n dMa_make_19 rfl rfl ?_
  refine tq_iload_n dMa_make_20 rfl rfl ?_
  obtain ⟨a4, e5, f6, hw⟩ := hw
  refine te_callV mv_Ro_put (ci := 7) (dc := 0) (as := [vI (hI h o 2), vI x1]) (rest := []) kMa_27 rfl (Nat.le_of_ble_eq_true rfl) (Nat.le_of_ble_eq_true rfl) rfl rfl e5 f6 (Nat.le_of_ble_eq_true rfl) dMa_make_21 (s_Ro_put hw) (fun _ _ hx => False.elim hx) (tk_v fun h7 hw => ?_)
  refine tq_aload_n dMa_make_24 rfl rfl ?_
  obtain ⟨f8, hw⟩ := hw
  refine te_getr dMa_make_25 fMa_20 rfl rfl f8 ?_
  refine tq_iload_n dMa_make_28 rfl rfl ?_
  refine tq_iload_n dMa_make_29 rfl rfl ?_
  obtain ⟨a9, e10, f11, hw⟩ := hw
  refine te_callV mv_Ro_put (ci := 7) (dc := 0) (as := [vI (hI h o 2), vI x2]) (rest := []) kMa_27 rfl (Nat.le_of_ble_eq_true rfl) (Nat.le_of_ble_eq_true rfl) rfl rfl e10 f11 (Nat.le_of_ble_eq_true rfl) dMa_make_30 (s_Ro_put hw) (fun _ _ hx => False.elim hx) (tk_v fun h12 hw => ?_)
  refine tq_iload_n dMa_make_33 rfl rfl ?_
  exact tq_iret rfl rfl dMa_make_34 hw
/-! T$Row.clear -/
theorem dRo_clear_0 : decode (mB Ro_clear) 0 = .ok (.aload_n 0, 1) := by decide +kernel
theorem dRo_clear_1 : decode (mB Ro_clear) 1 = .ok (.iconst 0, 1) := by decide +kernel
theorem dRo_clear_2 : decode (mB Ro_clear) 2 = .ok (.putfield 15, 3) := by decide +kernel
theorem dRo_clear_5 : decode (mB Ro_clear) 5 = .ok (.return_, 1) := by decide +kernel
def w_Ro_clear (o : Nat) (h : tpH) (R : tpH → Prop) : Prop :=
  hT h o = 8 ∧ (∀ h2, h2 = sI h o 1 (0 : Int32) → (R h2))
theorem s_Ro_clear {o : Nat} {h : tpH} {R : tpH → Prop} (hw : w_Ro_clear o h R) : tpC Ro_clear 0 [vR (some o)] h (tpOv R (fun _ _ => False)) := by
  refine tpC_of mv_Ro_clear.2.2.2.1 rfl rfl (Nat.le_of_ble_eq_true rfl) ?_
  show tpR Ro_clear 0 h _ _ 0 [some (vR (some o))] [] h
  unfold w_Ro_clear at hw
  refine tq_aload_n dRo_clear_0 rfl rfl ?_
  refine tq_iconst (v := (0 : Int32)) dRo_clear_1 tni_0 ?_
  obtain ⟨f1, hw⟩ := hw
  refine te_puti dRo_clear_2 pRo_15 rfl rfl rfl f1 ⟨rfl, rfl⟩ (fun h2 e3 => ?_)
  have hw := hw h2 e3
  exact tq_vret rfl dRo_clear_5 hw
/-! T$Row.lengthen -/
theorem dRo_lengthen_0 : decode (mB Ro_lengthen) 0 = .ok (.iconst 2, 1) := by decide +kernel
theorem dRo_lengthen_1 : decode (mB Ro_lengthen) 1 = .ok (.aload_n 0, 1) := by decide +kernel
theorem dRo_lengthen_2 : decode (mB Ro_lengthen) 2 = .ok (.getfield 9, 3) := by decide +kernel
theorem dRo_lengthen_5 : decode (mB Ro_lengthen) 5 = .ok (.arraylength, 1) := by decide +kernel
theorem dRo_lengthen_6 : decode (mB Ro_lengthen) 6 = .ok (.imul, 1) := by decide +kernel
theorem dRo_lengthen_7 : decode (mB Ro_lengthen) 7 = .ok (.iconst 1, 1) := by decide +kernel
theorem dRo_lengthen_8 : decode (mB Ro_lengthen) 8 = .ok (.iadd, 1) := by decide +kernel
theorem dRo_lengthen_9 : decode (mB Ro_lengthen) 9 = .ok (.istore_n 1, 1) := by decide +kernel
theorem dRo_lengthen_10 : decode (mB Ro_lengthen) 10 = .ok (.iload_n 1, 1) := by decide +kernel
theorem dRo_lengthen_11 : decode (mB Ro_lengthen) 11 = .ok (.aload_n 0, 1) := by decide +kernel
theorem dRo_lengthen_12 : decode (mB Ro_lengthen) 12 = .ok (.getfield 9, 3) := by decide +kernel
theorem dRo_lengthen_15 : decode (mB Ro_lengthen) 15 = .ok (.arraylength, 1) := by decide +kernel
theorem dRo_lengthen_16 : decode (mB Ro_lengthen) 16 = .ok (.if_icmp .le 15, 3) := by decide +kernel
theorem dRo_lengthen_19 : decode (mB Ro_lengthen) 19 = .ok (.aload_n 0, 1) := by decide +kernel
theorem dRo_lengthen_20 : decode (mB Ro_lengthen) 20 = .ok (.aload_n 0, 1) := by decide +kernel
theorem dRo_lengthen_21 : decode (mB Ro_lengthen) 21 = .ok (.getfield 9, 3) := by decide +kernel
theorem dRo_lengthen_24 : decode (mB Ro_lengthen) 24 = .ok (.iload_n 1, 1) := by decide +kernel
theorem dRo_lengthen_25 : decode (mB Ro_lengthen) 25 = .ok (.invokestatic 22, 3) := by decide +kernel
theorem dRo_lengthen_28 : decode (mB Ro_lengthen) 28 = .ok (.putfield 9, 3) := by decide +kernel
theorem dRo_lengthen_31 : decode (mB Ro_lengthen) 31 = .ok (.return_, 1) := by decide +kernel
def w_Ro_lengthen (o : Nat) (h : tpH) (R : tpH → Prop) : Prop :=
  hT h o = 8 ∧ (∃ a2, (hR h o 0) = some a2 ∧ hT h a2 = 15 ∧ (((((2 : Int32) * (Int32.ofNat (hL h a2))) + (1 : Int32)) ≤ (Int32.ofNat (hL h a2)) → (R h)) ∧ (¬ (((2 : Int32) * (Int32.ofNat (hL h a2))) + (1 : Int32)) ≤ (Int32.ofNat (hL h a2)) → (w_JA_copyOf_59c91 (hR h o 0) (((2 : Int32) * (Int32.ofNat (hL h a2))) + (1 : Int32)) h (fun v7 h6 => hT h6 o = 8 ∧ (∀ h9, h9 = sR h6 o 0 v7 → (R h9)))))))
theorem s_Ro_lengthen {o : Nat} {h : tpH} {R : tpH → Prop} (hw : w_Ro_lengthen o h R) : tpC Ro_lengthen 3 [vR (some o)] h (tpOv R (fun _ _ => False)) := by
  refine tpC_of mv_Ro_lengthen.2.2.2.1 rfl rfl (Nat.le_of_ble_eq_true rfl) ?_
  show tpR Ro_lengthen 3 h _ _ 0 [some (vR (some o)), none] [] h
  unfold w_Ro_lengthen at hw
  refine tq_iconst (v := (2 : Int32)) dRo_lengthen_0 tni_2 ?_
  refine tq_aload_n dRo_lengthen_1 rfl rfl ?_
  obtain ⟨f1, hw⟩ := hw
  refine te_getr dRo_lengthen_2 fRo_9 rfl rfl f1 ?_
  obtain ⟨a2, e3, f4, hw⟩ := hw
  refine te_alen dRo_lengthen_5 e3 (by rw [f4]; decide) ?_
  refine tq_imul dRo_lengthen_6 ?_
  refine tq_iconst (v := (1 : Int32)) dRo_lengthen_7 tni_1 ?_
  refine tq_iadd dRo_lengthen_8 ?_
  refine tq_istore_n (ls' := [some (vR (some o)), some (vI (((2 : Int32) * (Int32.ofNat (hL h a2))) + (1 : Int32)))]) dRo_lengthen_9 rfl (Nat.le_of_ble_eq_true rfl) rfl ?_
  refine tq_iload_n dRo_lengthen_10 rfl rfl ?_
  refine tq_aload_n dRo_lengthen_11 rfl rfl ?_
  refine te_getr dRo_lengthen_12 fRo_9 rfl rfl f1 ?_
  refine te_alen dRo_lengthen_15 e3 (by rw [f4]; decide) ?_
  refine tq_icmple (tgt := 31) dRo_lengthen_16 (by decide) (fun c5 => ?_) (fun c5 => ?_)
  · have hw := hw.1 c5
    exact tq_vret rfl dRo_lengthen_31 hw
  · have hw := hw.2 c5
    refine tq_aload_n dRo_lengthen_19 rfl rfl ?_
    refine tq_aload_n dRo_lengthen_20 rfl rfl ?_
    refine te_getr dRo_lengthen_21 fRo_9 rfl rfl f1 ?_
    refine tq_iload_n dRo_lengthen_24 rfl rfl ?_
    refine tq_callS ms_JA_copyOf_59c91 (dc := 2) (as := [vR (hR h o 0), vI (((2 : Int32) * (Int32.ofNat (hL h a2))) + (1 : Int32))]) (rest := [vR (some o)]) kRo_22 (Nat.le_of_ble_eq_true rfl) (Nat.le_of_ble_eq_true rfl) rfl rfl (Nat.le_of_ble_eq_true rfl) dRo_lengthen_25 (s_JA_copyOf_59c91 hw) (fun _ _ hx => False.elim hx) (tk_r fun v7 h6 hw => ?_)
    obtain ⟨f8, hw⟩ := hw
    refine te_putr dRo_lengthen_28 pRo_9 rfl rfl rfl f8 (fun h9 e10 => ?_)
    have hw := hw h9 e10
    exact tq_vret rfl dRo_lengthen_31 hw
/-! T$Row.push -/
theorem dRo_push_0 : decode (mB Ro_push) 0 = .ok (.aload_n 0, 1) := by decide +kernel
theorem dRo_push_1 : decode (mB Ro_push) 1 = .ok (.getfield 15, 3) := by decide +kernel
theorem dRo_push_4 : decode (mB Ro_push) 4 = .ok (.aload_n 0, 1) := by decide +kernel
theorem dRo_push_5 : decode (mB Ro_push) 5 = .ok (.getfield 9, 3) := by decide +kernel
theorem dRo_push_8 : decode (mB Ro_push) 8 = .ok (.arraylength, 1) := by decide +kernel
theorem dRo_push_9 : decode (mB Ro_push) 9 = .ok (.if_icmp .lt 7, 3) := by decide +kernel
theorem dRo_push_12 : decode (mB Ro_push) 12 = .ok (.aload_n 0, 1) := by decide +kernel
theorem dRo_push_13 : decode (mB Ro_push) 13 = .ok (.invokevirtual 19, 3) := by decide +kernel
theorem dRo_push_16 : decode (mB Ro_push) 16 = .ok (.aload_n 0, 1) := by decide +kernel
theorem dRo_push_17 : decode (mB Ro_push) 17 = .ok (.getfield 15, 3) := by decide +kernel
theorem dRo_push_20 : decode (mB Ro_push) 20 = .ok (.aload_n 0, 1) := by decide +kernel
theorem dRo_push_21 : decode (mB Ro_push) 21 = .ok (.getfield 9, 3) := by decide +kernel
theorem dRo_push_24 : decode (mB Ro_push) 24 = .ok (.arraylength, 1) := by decide +kernel
theorem dRo_push_25 : decode (mB Ro_push) 25 = .ok (.if_icmp .ge 23, 3) := by decide +kernel
theorem dRo_push_28 : decode (mB Ro_push) 28 = .ok (.aload_n 0, 1) := by decide +kernel
theorem dRo_push_29 : decode (mB Ro_push) 29 = .ok (.getfield 9, 3) := by decide +kernel
theorem dRo_push_32 : decode (mB Ro_push) 32 = .ok (.aload_n 0, 1) := by decide +kernel
theorem dRo_push_33 : decode (mB Ro_push) 33 = .ok (.getfield 15, 3) := by decide +kernel
theorem dRo_push_36 : decode (mB Ro_push) 36 = .ok (.iload_n 1, 1) := by decide +kernel
theorem dRo_push_37 : decode (mB Ro_push) 37 = .ok (.iastore, 1) := by decide +kernel
theorem dRo_push_38 : decode (mB Ro_push) 38 = .ok (.aload_n 0, 1) := by decide +kernel
theorem dRo_push_39 : decode (mB Ro_push) 39 = .ok (.dup, 1) := by decide +kernel
theorem dRo_push_40 : decode (mB Ro_push) 40 = .ok (.getfield 15, 3) := by decide +kernel
theorem dRo_push_43 : decode (mB Ro_push) 43 = .ok (.iconst 1, 1) := by decide +kernel
theorem dRo_push_44 : decode (mB Ro_push) 44 = .ok (.iadd, 1) := by decide +kernel
theorem dRo_push_45 : decode (mB Ro_push) 45 = .ok (.putfield 15, 3) := by decide +kernel
theorem dRo_push_48 : decode (mB Ro_push) 48 = .ok (.return_, 1) := by decide +kernel
def w_Ro_push_16 (R : tpH → Prop) (o : Nat) (x1 : Int32) (h : tpH) : Prop :=
  hT h o = 8 ∧ (∃ a2, (hR h o 0) = some a2 ∧ hT h a2 = 15 ∧ (((Int32.ofNat (hL h a2)) ≤ (hI h o 1) → (R h)) ∧ (¬ (Int32.ofNat (hL h a2)) ≤ (hI h o 1) → (vp_in (hI h o 1) (hL h a2) ∧ (∀ h7, h7 = sI h a2 (hI h o 1).toNatClampNeg x1 → (∀ h9, h9 = sI h7 o 1 ((hI h7 o 1) + (1 : Int32)) → (R h9)))))))
def w_Ro_push (o : Nat) (x1 : Int32) (h : tpH) (R : tpH → Prop) : Prop :=
  hT h o = 8 ∧ (∃ a2, (hR h o 0) = some a2 ∧ hT h a2 = 15 ∧ (((hI h o 1) < (Int32.ofNat (hL h a2)) → (w_Ro_push_16 R o x1 h)) ∧ (¬ (hI h o 1) < (Int32.ofNat (hL h a2)) → (w_Ro_lengthen o h (fun h6 => w_Ro_push_16 R o x1 h6)))))
theorem s_Ro_push_16 {h0 : tpH} {av : List tpV} {R : tpH → Prop} : ∀ (o : Nat) (x1 : Int32) (h : tpH), w_Ro_push_16 R o x1 h → tpR Ro_push 4 h0 av (tpOv R (fun _ _ => False)) 16 [some (vR (some o)), some (vI x1)] [] h := by
  intro o x1 h hw
  unfold w_Ro_push_16 at hw
  refine tq_aload_n dRo_push_16 rfl rfl ?_
  obtain ⟨f1, hw⟩ := hw
  refine te_geti dRo_push_17 fRo_15 rfl rfl f1 ?_
  refine tq_aload_n dRo_push_20 rfl rfl ?_
  refine te_getr dRo_push_21 fRo_9 rfl rfl f1 ?_
  obtain ⟨a2, e3, f4, hw⟩ := hw
  refine te_alen dRo_push_24 e3 (by rw [f4]; decide) ?_
  refine tq_icmpge (tgt := 48) dRo_push_25 (by decide) (fun c5 => ?_) (fun c5 => ?_)
  · have hw := hw.1 c5
    exact tq_vret rfl dRo_push_48 hw
  · have hw := hw.2 c5
    refine tq_aload_n dRo_push_28 rfl rfl ?_
    refine te_getr dRo_push_29 fRo_9 rfl rfl f1 ?_
    refine tq_aload_n dRo_push_32 rfl rfl ?_
    refine te_geti dRo_push_33 fRo_15 rfl rfl f1 ?_
    refine tq_iload_n dRo_push_36 rfl rfl ?_
    obtain ⟨f6, hw⟩ := hw
    refine te_iast dRo_push_37 e3 f4 f6 (fun h7 e8 => ?_)
    have hw := hw h7 e8
    refine tq_aload_n dRo_push_38 rfl rfl ?_
    refine tq_dup dRo_push_39 rfl ?_
    refine te_geti dRo_push_40 fRo_15 rfl rfl (by rw [e8]; exact f1) ?_
    refine tq_iconst (v := (1 : Int32)) dRo_push_43 tni_1 ?_
    refine tq_iadd dRo_push_44 ?_
    refine te_puti dRo_push_45 pRo_15 rfl rfl rfl (by rw [e8]; exact f1) ⟨rfl, rfl⟩ (fun h9 e10 => ?_)
    have hw := hw h9 e10
    exact tq_vret rfl dRo_push_48 hw
theorem s_Ro_push {o : Nat} {x1 : Int32} {h : tpH} {R : tpH → Prop} (hw : w_Ro_push o x1 h R) : tpC Ro_push 4 [vR (some o), vI x1] h (tpOv R (fun _ _ => False)) := by
  refine tpC_of mv_Ro_push.2.2.2.1 rfl rfl (Nat.le_of_ble_eq_true rfl) ?_
  show tpR Ro_push 4 h _ _ 0 [some (vR (some o)), some (vI x1)] [] h
  unfold w_Ro_push at hw
  refine tq_aload_n dRo_push_0 rfl rfl ?_
  obtain ⟨f1, hw⟩ := hw
  refine te_geti dRo_push_1 fRo_15 rfl rfl f1 ?_
  refine tq_aload_n dRo_push_4 rfl rfl ?_
  refine te_getr dRo_push_5 fRo_9 rfl rfl f1 ?_
  obtain ⟨a2, e3, f4, hw⟩ := hw
  refine te_alen dRo_push_8 e3 (by rw [f4]; decide) ?_
  refine tq_icmplt (tgt := 16) dRo_push_9 (by decide) (fun c5 => ?_) (fun c5 => ?_)
  · have hw := hw.1 c5
    refine tpR.fo (ls' := [some (vR (some o)), some (vI x1)]) ?_ (And.intro rfl (And.intro rfl trivial))
    exact s_Ro_push_16 _ _ _ hw
  · have hw := hw.2 c5
    refine tq_aload_n dRo_push_12 rfl rfl ?_
    refine te_callV mv_Ro_lengthen (ci := 7) (dc := 3) (as := []) (rest := []) kRo_19 rfl (Nat.le_of_ble_eq_true rfl) (Nat.le_of_ble_eq_true rfl) rfl rfl rfl f1 (Nat.le_of_ble_eq_true rfl) dRo_push_13 (s_Ro_lengthen hw) (fun _ _ hx => False.elim hx) (tk_v fun h6 hw => ?_)
    refine tpR.fo (ls' := [some (vR (some o)), some (vI x1)]) ?_ (And.intro rfl (And.intro rfl trivial))
    exact s_Ro_push_16 _ _ _ hw
/-! T$Row.hasSamePushed -/
theorem dRo_hasSamePushed_0 : decode (mB Ro_hasSamePushed) 0 = .ok (.aload_n 0, 1) := by decide +kernel
theorem dRo_hasSamePushed_1 : decode (mB Ro_hasSamePushed) 1 = .ok (.getfield 15, 3) := by decide +kernel
theorem dRo_hasSamePushed_4 : decode (mB Ro_hasSamePushed) 4 = .ok (.aload_n 1, 1) := by decide +kernel
theorem dRo_hasSamePushed_5 : decode (mB Ro_hasSamePushed) 5 = .ok (.getfield 15, 3) := by decide +kernel
theorem dRo_hasSamePushed_8 : decode (mB Ro_hasSamePushed) 8 = .ok (.if_icmp .eq 5, 3) := by decide +kernel
theorem dRo_hasSamePushed_11 : decode (mB Ro_hasSamePushed) 11 = .ok (.iconst 0, 1) := by decide +kernel
theorem dRo_hasSamePushed_12 : decode (mB Ro_hasSamePushed) 12 = .ok (.ireturn, 1) := by decide +kernel
theorem dRo_hasSamePushed_13 : decode (mB Ro_hasSamePushed) 13 = .ok (.iconst 0, 1) := by decide +kernel
theorem dRo_hasSamePushed_14 : decode (mB Ro_hasSamePushed) 14 = .ok (.istore_n 2, 1) := by decide +kernel
theorem dRo_hasSamePushed_15 : decode (mB Ro_hasSamePushed) 15 = .ok (.iload_n 2, 1) := by decide +kernel
theorem dRo_hasSamePushed_16 : decode (mB Ro_hasSamePushed) 16 = .ok (.aload_n 0, 1) := by decide +kernel
theorem dRo_hasSamePushed_17 : decode (mB Ro_hasSamePushed) 17 = .ok (.getfield 15, 3) := by decide +kernel
theorem dRo_hasSamePushed_20 : decode (mB Ro_hasSamePushed) 20 = .ok (.if_icmp .ge 24, 3) := by decide +kernel
theorem dRo_hasSamePushed_23 : decode (mB Ro_hasSamePushed) 23 = .ok (.aload_n 0, 1) := by decide +kernel
theorem dRo_hasSamePushed_24 : decode (mB Ro_hasSamePushed) 24 = .ok (.iload_n 2, 1) := by decide +kernel
theorem dRo_hasSamePushed_25 : decode (mB Ro_hasSamePushed) 25 = .ok (.invokevirtual 28, 3) := by decide +kernel
theorem dRo_hasSamePushed_28 : decode (mB Ro_hasSamePushed) 28 = .ok (.aload_n 1, 1) := by decide +kernel
theorem dRo_hasSamePushed_29 : decode (mB Ro_hasSamePushed) 29 = .ok (.iload_n 2, 1) := by decide +kernel
theorem dRo_hasSamePushed_30 : decode (mB Ro_hasSamePushed) 30 = .ok (.invokevirtual 28, 3) := by decide +kernel
theorem dRo_hasSamePushed_33 : decode (mB Ro_hasSamePushed) 33 = .ok (.if_icmp .eq 5, 3) := by decide +kernel
theorem dRo_hasSamePushed_36 : decode (mB Ro_hasSamePushed) 36 = .ok (.iconst 0, 1) := by decide +kernel
theorem dRo_hasSamePushed_37 : decode (mB Ro_hasSamePushed) 37 = .ok (.ireturn, 1) := by decide +kernel
theorem dRo_hasSamePushed_38 : decode (mB Ro_hasSamePushed) 38 = .ok (.iinc 2 1, 3) := by decide +kernel
theorem dRo_hasSamePushed_41 : decode (mB Ro_hasSamePushed) 41 = .ok (.goto (-26), 3) := by decide +kernel
theorem dRo_hasSamePushed_44 : decode (mB Ro_hasSamePushed) 44 = .ok (.iconst 1, 1) := by decide +kernel
theorem dRo_hasSamePushed_45 : decode (mB Ro_hasSamePushed) 45 = .ok (.ireturn, 1) := by decide +kernel
def b_Ro_hasSamePushed_15 (R : Int32 → tpH → Prop) (Y : Nat → (Option Nat) → Int32 → tpH → Prop) (o : Nat) (x1 : Option Nat) (x2 : Int32) (h : tpH) : Prop :=
  hT h o = 8 ∧ (((hI h o 1) ≤ x2 → (R (1 : Int32) h)) ∧ (¬ (hI h o 1) ≤ x2 → (w_Ro_at o x2 h (fun v4 h3 => ∃ a5, x1 = some a5 ∧ hT h3 a5 = 8 ∧ (w_Ro_at a5 x2 h3 (fun v9 h8 => (v4 = v9 → (Y o x1 (x2 + (1 : Int32)) h8)) ∧ (¬ v4 = v9 → (R (0 : Int32) h8))))))))
def w_Ro_hasSamePushed_15 (R : Int32 → tpH → Prop) : Nat → Nat → (Option Nat) → Int32 → tpH → Prop
  | 0 => fun _ _ _ _ => False
  | n + 1 => b_Ro_hasSamePushed_15 R (w_Ro_hasSamePushed_15 R n)
def w_Ro_hasSamePushed (o : Nat) (x1 : Option Nat) (h : tpH) (R : Int32 → tpH → Prop) : Prop :=
  hT h o = 8 ∧ (∃ a2, x1 = some a2 ∧ hT h a2 = 8 ∧ (((hI h o 1) = (hI h a2 1) → (∃ n, w_Ro_hasSamePushed_15 R n o x1 (0 : Int32) h)) ∧ (¬ (hI h o 1) = (hI h a2 1) → (R (0 : Int32) h))))
theorem s_Ro_hasSamePushed_15 {h0 : tpH} {av : List tpV} {R : Int32 → tpH → Prop} : ∀ (n : Nat) (o : Nat) (x1 : Option Nat) (x2 : Int32) (h : tpH), w_Ro_hasSamePushed_15 R n o x1 x2 h → tpR Ro_hasSamePushed 1 h0 av (tpOi R (fun _ _ => False)) 15 [some (vR (some o)), some (vR x1), some (vI x2)] [] h := by
  intro n
  induction n with
  | zero => intro o x1 x2 h hw; exact False.elim hw
  | succ n ih =>
    intro o x1 x2 h hw
    change b_Ro_hasSamePushed_15 R (w_Ro_hasSamePushed_15 R n) o x1 x2 h at hw
    unfold b_Ro_hasSamePushed_15 at hw
    refine tq_iload_n dRo_hasSamePushed_15 rfl rfl ?_
    refine tq_aload_n dRo_hasSamePushed_16 rfl rfl ?_
    obtain ⟨f1, hw⟩ := hw
    refine te_geti dRo_hasSamePushed_17 fRo_15 rfl rfl f1 ?_
    refine tq_icmpge (tgt := 44) dRo_hasSamePushed_20 (by decide) (fun c2 => ?_) (fun c2 => ?_)
    · have hw := hw.1 c2
      refine tq_iconst (v := (1 : Int32)) dRo_hasSamePushed_44 tni_1 ?_
      exact tq_iret rfl (by decide) dRo_hasSamePushed_45 hw
    · have hw := hw.2 c2
      refine tq_aload_n dRo_hasSamePushed_23 rfl rfl ?_
      refine tq_iload_n dRo_hasSamePushed_24 rfl rfl ?_
      refine te_callV mv_Ro_at (ci := 7) (dc := 0) (as := [vI x2]) (rest := []) kRo_28 rfl (Nat.le_of_ble_eq_true rfl) (Nat.le_of_ble_eq_true rfl) rfl rfl rfl f1 (Nat.le_of_ble_eq_true rfl) dRo_hasSamePushed_25 (s_Ro_at hw) (fun _ _ hx => False.elim hx) (tk_i fun v4 h3 hw => ?_)
      refine tq_aload_n dRo_hasSamePushed_28 rfl rfl ?_
      refine tq_iload_n dRo_hasSamePushed_29 rfl rfl ?_
      obtain ⟨a5, e6, f7, hw⟩ := hw
      refine te_callV mv_Ro_at (ci := 7) (dc := 0) (as := [vI x2]) (rest := [vI v4]) kRo_28 rfl (Nat.le_of_ble_eq_true rfl) (Nat.le_of_ble_eq_true rfl) rfl rfl e6 f7 (Nat.le_of_ble_eq_true rfl) dRo_hasSamePushed_30 (s_Ro_at hw) (fun _ _ hx => False.elim hx) (tk_i fun v9 h8 hw => ?_)
      refine tq_icmpeq (tgt := 38) dRo_hasSamePushed_33 (by decide) (fun c10 => ?_) (fun c10 => ?_)
      · have hw := hw.1 c10
        refine tq_inc (k := (1 : Int32)) (ls' := [some (vR (some o)), some (vR x1), some (vI (x2 + (1 : Int32)))]) dRo_hasSamePushed_38 rfl tni_1 (Nat.le_of_ble_eq_true rfl) rfl ?_
        refine tq_goto (tgt := 15) dRo_hasSamePushed_41 (by decide) ?_
        refine tpR.fo (ls' := [some (vR (some o)), some (vR x1), some (vI (x2 + (1 : Int32)))]) ?_ (And.intro rfl (And.intro rfl (And.intro rfl trivial)))
        exact ih _ _ _ _ hw
      · have hw := hw.2 c10
        refine tq_iconst (v := (0 : Int32)) dRo_hasSamePushed_36 tni_0 ?_
        exact tq_iret rfl (by decide) dRo_hasSamePushed_37 hw
theorem s_Ro_hasSamePushed {o : Nat} {x1 : Option Nat} {h : tpH} {R : Int32 → tpH → Prop} (hw : w_Ro_hasSamePushed o x1 h R) : tpC Ro_hasSamePushed 1 [vR (some o), vR x1] h (tpOi R (fun _ _ => False)) := by
  refine tpC_of mv_Ro_hasSamePushed.2.2.2.1 rfl rfl (Nat.le_of_ble_eq_true rfl) ?_
  show tpR Ro_hasSamePushed 1 h _ _ 0 [some (vR (some o)), some (vR x1), none] [] h
  unfold w_Ro_hasSamePushed at hw
  refine tq_aload_n dRo_hasSamePushed_0 rfl rfl ?_
  obtain ⟨f1, hw⟩ := hw
  refine te_geti dRo_hasSamePushed_1 fRo_15 rfl rfl f1 ?_
  refine tq_aload_n dRo_hasSamePushed_4 rfl rfl ?_
  obtain ⟨a2, e3, f4, hw⟩ := hw
  refine te_geti dRo_hasSamePushed_5 fRo_15 rfl e3 f4 ?_
  refine tq_icmpeq (tgt := 13) dRo_hasSamePushed_8 (by decide) (fun c5 => ?_) (fun c5 => ?_)
  · have hw := hw.1 c5
    refine tq_iconst (v := (0 : Int32)) dRo_hasSamePushed_13 tni_0 ?_
    refine tq_istore_n (ls' := [some (vR (some o)), some (vR x1), some (vI (0 : Int32))]) dRo_hasSamePushed_14 rfl (Nat.le_of_ble_eq_true rfl) rfl ?_
    refine tpR.fo (ls' := [some (vR (some o)), some (vR x1), some (vI (0 : Int32))]) ?_ (And.intro rfl (And.intro rfl (And.intro rfl trivial)))
    obtain ⟨n, hw⟩ := hw
    exact s_Ro_hasSamePushed_15 n _ _ _ _ hw
  · have hw := hw.2 c5
    refine tq_iconst (v := (0 : Int32)) dRo_hasSamePushed_11 tni_0 ?_
    exact tq_iret rfl (by decide) dRo_hasSamePushed_12 hw
