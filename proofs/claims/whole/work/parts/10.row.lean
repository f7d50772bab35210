/-! T$Row.<init> -/
theorem dRo_init_0 : decode (mB Ro_init) 0 = .ok (.aload_n 0, 1) := by decide +kernel
theorem dRo_init_1 : decode (mB Ro_init) 1 = .ok (.invokespecial 3, 3) := by decide +kernel
theorem dRo_init_4 : decode (mB Ro_init) 4 = .ok (.aload_n 0, 1) := by decide +kernel
theorem dRo_init_5 : decode (mB Ro_init) 5 = .ok (.iload_n 1, 1) := by decide +kernel
theorem dRo_init_6 : decode (mB Ro_init) 6 = .ok (.ifCond .le 7, 3) := by decide +kernel
theorem dRo_init_9 : decode (mB Ro_init) 9 = .ok (.iload_n 1, 1) := by decide +kernel
theorem dRo_init_10 : decode (mB Ro_init) 10 = .ok (.goto 4, 3) := by decide +kernel
theorem dRo_init_13 : decode (mB Ro_init) 13 = .ok (.iconst 0, 1) := by decide +kernel
theorem dRo_init_14 : decode (mB Ro_init) 14 = .ok (.newarray .int, 2) := by decide +kernel
theorem dRo_init_16 : decode (mB Ro_init) 16 = .ok (.putfield 9, 3) := by decide +kernel
theorem dRo_init_19 : decode (mB Ro_init) 19 = .ok (.return_, 1) := by decide +kernel
def w_Ro_init_14 (R : tpH → Prop) (t0 : Int32) (t1 : Option Nat) (h : tpH) : Prop :=
  ¬ t0 < 0 ∧ t0.toNatClampNeg ≤ 1000000 ∧ (∀ a3 h4, a3 = hZ h → h4 = nC h 15 (t0.toNatClampNeg) (t0.toNatClampNeg) → (∃ a7, t1 = some a7 ∧ hT h4 a7 = 8 ∧ (∀ h10, h10 = sR h4 a7 0 (some a3) → (R h10))))
def w_Ro_init (o : Nat) (x1 : Int32) (h : tpH) (R : tpH → Prop) : Prop :=
  (x1 ≤ 0 → (w_Ro_init_14 R (0 : Int32) (some o) h)) ∧ (¬ x1 ≤ 0 → (w_Ro_init_14 R x1 (some o) h))
theorem s_Ro_init_14 {h0 : tpH} {av : List tpV} {R : tpH → Prop} : ∀ (t0 : Int32) (t1 : Option Nat) (h : tpH), w_Ro_init_14 R t0 t1 h → tpR Ro_init 1 h0 av (tpOv R (fun _ _ => False)) 14 [none, none] [vI t0, vR t1] h := by
  intro t0 t1 h hw
  unfold w_Ro_init_14 at hw
  obtain ⟨f1, f2, hw⟩ := hw
  refine tq_newa tpN_int (N := t0.toNatClampNeg) dRo_init_14 f1 rfl f2 (fun a3 h4 e5 e6 => ?_)
  have hw := hw a3 h4 e5 e6
  obtain ⟨a7, e8, f9, hw⟩ := hw
  refine te_putr dRo_init_16 pRo_9 rfl rfl e8 f9 (fun h10 e11 => ?_)
  have hw := hw h10 e11
  exact tq_vret rfl dRo_init_19 hw
theorem s_Ro_init {o : Nat} {x1 : Int32} {h : tpH} {R : tpH → Prop} (hw : w_Ro_init o x1 h R) : tpC Ro_init 1 [vR (some o), vI x1] h (tpOv R (fun _ _ => False)) := by
  refine tpC_of mi_Ro_init.2.2.2.1 rfl rfl (Nat.le_of_ble_eq_true rfl) ?_
  show tpR Ro_init 1 h _ _ 0 [some (vR (some o)), some (vI x1)] [] h
  unfold w_Ro_init at hw
  refine tq_aload_n dRo_init_0 rfl rfl ?_
  refine tq_obj oRo_3 (Nat.le_of_ble_eq_true rfl) (Nat.le_of_ble_eq_true rfl) dRo_init_1 ?_
  refine tq_aload_n dRo_init_4 rfl rfl ?_
  refine tq_iload_n dRo_init_5 rfl rfl ?_
  refine tq_ifle (tgt := 13) dRo_init_6 (by decide) (fun c1 => ?_) (fun c1 => ?_)
  · have hw := hw.1 c1
    refine tq_iconst (v := (0 : Int32)) dRo_init_13 tni_0 ?_
    refine tpR.fo (ls' := [none, none]) ?_ (trivial)
    exact s_Ro_init_14 _ _ _ hw
  · have hw := hw.2 c1
    refine tq_iload_n dRo_init_9 rfl rfl ?_
    refine tq_goto (tgt := 14) dRo_init_10 (by decide) ?_
    refine tpR.fo (ls' := [none, none]) ?_ (trivial)
    exact s_Ro_init_14 _ _ _ hw
/-! T$Row.at -/
theorem dRo_at_0 : decode (mB Ro_at) 0 = .ok (.iload_n 1, 1) := by decide +kernel
theorem dRo_at_1 : decode (mB Ro_at) 1 = .ok (.ifCond .lt 21, 3) := by decide +kernel
theorem dRo_at_4 : decode (mB Ro_at) 4 = .ok (.iload_n 1, 1) := by decide +kernel
theorem dRo_at_5 : decode (mB Ro_at) 5 = .ok (.aload_n 0, 1) := by decide +kernel
theorem dRo_at_6 : decode (mB Ro_at) 6 = .ok (.getfield 9, 3) := by decide +kernel
theorem dRo_at_9 : decode (mB Ro_at) 9 = .ok (.arraylength, 1) := by decide +kernel
theorem dRo_at_10 : decode (mB Ro_at) 10 = .ok (.if_icmp .ge 12, 3) := by decide +kernel
theorem dRo_at_13 : decode (mB Ro_at) 13 = .ok (.aload_n 0, 1) := by decide +kernel
theorem dRo_at_14 : decode (mB Ro_at) 14 = .ok (.getfield 9, 3) := by decide +kernel
theorem dRo_at_17 : decode (mB Ro_at) 17 = .ok (.iload_n 1, 1) := by decide +kernel
theorem dRo_at_18 : decode (mB Ro_at) 18 = .ok (.iaload, 1) := by decide +kernel
theorem dRo_at_19 : decode (mB Ro_at) 19 = .ok (.goto 4, 3) := by decide +kernel
theorem dRo_at_22 : decode (mB Ro_at) 22 = .ok (.iconst (-1), 1) := by decide +kernel
theorem dRo_at_23 : decode (mB Ro_at) 23 = .ok (.ireturn, 1) := by decide +kernel
def w_Ro_at (o : Nat) (x1 : Int32) (h : tpH) (R : Int32 → tpH → Prop) : Prop :=
  (x1 < 0 → (R (-1 : Int32) h)) ∧ (¬ x1 < 0 → (hT h o = 8 ∧ (∃ a3, (hR h o 0) = some a3 ∧ hT h a3 = 15 ∧ (((Int32.ofNat (hL h a3)) ≤ x1 → (R (-1 : Int32) h)) ∧ (¬ (Int32.ofNat (hL h a3)) ≤ x1 → (vp_in x1 (hL h a3) ∧ (R (hI h a3 x1.toNatClampNeg) h)))))))
theorem s_Ro_at {o : Nat} {x1 : Int32} {h : tpH} {R : Int32 → tpH → Prop} (hw : w_Ro_at o x1 h R) : tpC Ro_at 0 [vR (some o), vI x1] h (tpOi R (fun _ _ => False)) := by
  refine tpC_of mv_Ro_at.2.2.2.1 rfl rfl (Nat.le_of_ble_eq_true rfl) ?_
  show tpR Ro_at 0 h _ _ 0 [some (vR (some o)), some (vI x1)] [] h
  unfold w_Ro_at at hw
  refine tq_iload_n dRo_at_0 rfl rfl ?_
  refine tq_iflt (tgt := 22) dRo_at_1 (by decide) (fun c1 => ?_) (fun c1 => ?_)
  · have hw := hw.1 c1
    refine tq_iconst (v := (-1 : Int32)) dRo_at_22 tni_m1 ?_
    exact tq_iret rfl rfl dRo_at_23 hw
  · have hw := hw.2 c1
    refine tq_iload_n dRo_at_4 rfl rfl ?_
    refine tq_aload_n dRo_at_5 rfl rfl ?_
    obtain ⟨f2, hw⟩ := hw
    refine te_getr dRo_at_6 fRo_9 rfl rfl f2 ?_
    obtain ⟨a3, e4, f5, hw⟩ := hw
    refine te_alen dRo_at_9 e4 (by rw [f5]; decide) ?_
    refine tq_icmpge (tgt := 22) dRo_at_10 (by decide) (fun c6 => ?_) (fun c6 => ?_)
    · have hw := hw.1 c6
      refine tq_iconst (v := (-1 : Int32)) dRo_at_22 tni_m1 ?_
      exact tq_iret rfl rfl dRo_at_23 hw
    · have hw := hw.2 c6
      refine tq_aload_n dRo_at_13 rfl rfl ?_
      refine te_getr dRo_at_14 fRo_9 rfl rfl f2 ?_
      refine tq_iload_n dRo_at_17 rfl rfl ?_
      obtain ⟨f7, hw⟩ := hw
      refine te_iald dRo_at_18 e4 (Or.inl f5) f7 ?_
      refine tq_goto (tgt := 23) dRo_at_19 (by decide) ?_
      exact tq_iret rfl rfl dRo_at_23 hw
/-! T$Row.put -/
theorem dRo_put_0 : decode (mB Ro_put) 0 = .ok (.iload_n 1, 1) := by decide +kernel
theorem dRo_put_1 : decode (mB Ro_put) 1 = .ok (.ifCond .lt 19, 3) := by decide +kernel
theorem dRo_put_4 : decode (mB Ro_put) 4 = .ok (.iload_n 1, 1) := by decide +kernel
theorem dRo_put_5 : decode (mB Ro_put) 5 = .ok (.aload_n 0, 1) := by decide +kernel
theorem dRo_put_6 : decode (mB Ro_put) 6 = .ok (.getfield 9, 3) := by decide +kernel
theorem dRo_put_9 : decode (mB Ro_put) 9 = .ok (.arraylength, 1) := by decide +kernel
theorem dRo_put_10 : decode (mB Ro_put) 10 = .ok (.if_icmp .ge 10, 3) := by decide +kernel
theorem dRo_put_13 : decode (mB Ro_put) 13 = .ok (.aload_n 0, 1) := by decide +kernel
theorem dRo_put_14 : decode (mB Ro_put) 14 = .ok (.getfield 9, 3) := by decide +kernel
theorem dRo_put_17 : decode (mB Ro_put) 17 = .ok (.iload_n 1, 1) := by decide +kernel
theorem dRo_put_18 : decode (mB Ro_put) 18 = .ok (.iload_n 2, 1) := by decide +kernel
theorem dRo_put_19 : decode (mB Ro_put) 19 = .ok (.iastore, 1) := by decide +kernel
theorem dRo_put_20 : decode (mB Ro_put) 20 = .ok (.return_, 1) := by decide +kernel
def w_Ro_put (o : Nat) (x1 : Int32) (x2 : Int32) (h : tpH) (R : tpH → Prop) : Prop :=
  (x1 < 0 → (R h)) ∧ (¬ x1 < 0 → (hT h o = 8 ∧ (∃ a3, (hR h o 0) = some a3 ∧ hT h a3 = 15 ∧ (((Int32.ofNat (hL h a3)) ≤ x1 → (R h)) ∧ (¬ (Int32.ofNat (hL h a3)) ≤ x1 → (vp_in x1 (hL h a3) ∧ (∀ h8, h8 = sI h a3 x1.toNatClampNeg x2 → (R h8))))))))
theorem s_Ro_put {o : Nat} {x1 : Int32} {x2 : Int32} {h : tpH} {R : tpH → Prop} (hw : w_Ro_put o x1 x2 h R) : tpC Ro_put 0 [vR (some o), vI x1, vI x2] h (tpOv R (fun _ _ => False)) := by
  refine tpC_of mv_Ro_put.2.2.2.1 rfl rfl (Nat.le_of_ble_eq_true rfl) ?_
  show tpR Ro_put 0 h _ _ 0 [some (vR (some o)), some (vI x1), some (vI x2)] [] h
  unfold w_Ro_put at hw
  refine tq_iload_n dRo_put_0 rfl rfl ?_
  refine tq_iflt (tgt := 20) dRo_put_1 (by decide) (fun c1 => ?_) (fun c1 => ?_)
  · have hw := hw.1 c1
    exact tq_vret rfl dRo_put_20 hw
  · have hw := hw.2 c1
    refine tq_iload_n dRo_put_4 rfl rfl ?_
    refine tq_aload_n dRo_put_5 rfl rfl ?_
    obtain ⟨f2, hw⟩ := hw
    refine te_getr dRo_put_6 fRo_9 rfl rfl f2 ?_
    obtain ⟨a3, e4, f5, hw⟩ := hw
    refine te_alen dRo_put_9 e4 (by rw [f5]; decide) ?_
    refine tq_icmpge (tgt := 20) dRo_put_10 (by decide) (fun c6 => ?_) (fun c6 => ?_)
    · have hw := hw.1 c6
      exact tq_vret rfl dRo_put_20 hw
    · have hw := hw.2 c6
      refine tq_aload_n dRo_put_13 rfl rfl ?_
      refine te_getr dRo_put_14 fRo_9 rfl rfl f2 ?_
      refine tq_iload_n dRo_put_17 rfl rfl ?_
      refine tq_iload_n dRo_put_18 rfl rfl ?_
      obtain ⟨f7, hw⟩ := hw
      refine te_iast dRo_put_19 e4 f5 f7 (fun h8 e9 => ?_)
      have hw := hw h8 e9
      exact tq_vret rfl dRo_put_20 hw
/-! T$Spot.<init> -/
theorem dSp_init_0 : decode (mB Sp_init) 0 = .ok (.aload_n 0, 1) := by decide +kernel
theorem dSp_init_1 : decode (mB Sp_init) 1 = .ok (.invokespecial 1, 3) := by decide +kernel
theorem dSp_init_4 : decode (mB Sp_init) 4 = .ok (.aload_n 0, 1) := by decide +kernel
theorem dSp_init_5 : decode (mB Sp_init) 5 = .ok (.iload_n 1, 1) := by decide +kernel
theorem dSp_init_6 : decode (mB Sp_init) 6 = .ok (.putfield 7, 3) := by decide +kernel
theorem dSp_init_9 : decode (mB Sp_init) 9 = .ok (.aload_n 0, 1) := by decide +kernel
theorem dSp_init_10 : decode (mB Sp_init) 10 = .ok (.iload_n 2, 1) := by decide +kernel
theorem dSp_init_11 : decode (mB Sp_init) 11 = .ok (.putfield 13, 3) := by decide +kernel
theorem dSp_init_14 : decode (mB Sp_init) 14 = .ok (.aload_n 0, 1) := by decide +kernel
theorem dSp_init_15 : decode (mB Sp_init) 15 = .ok (.iload_n 3, 1) := by decide +kernel
theorem dSp_init_16 : decode (mB Sp_init) 16 = .ok (.putfield 16, 3) := by decide +kernel
theorem dSp_init_19 : decode (mB Sp_init) 19 = .ok (.return_, 1) := by decide +kernel
def w_Sp_init (o : Nat) (x1 : Int32) (x2 : Int32) (x3 : Int32) (h : tpH) (R : tpH → Prop) : Prop :=
  hT h o = 10 ∧ (∀ h2, h2 = sI h o 0 x1 → (∀ h4, h4 = sI h2 o 1 x2 → (∀ h6, h6 = sI h4 o 2 x3 → (R h6))))
theorem s_Sp_init {o : Nat} {x1 : Int32} {x2 : Int32} {x3 : Int32} {h : tpH} {R : tpH → Prop} (hw : w_Sp_init o x1 x2 x3 h R) : tpC Sp_init 1 [vR (some o), vI x1, vI x2, vI x3] h (tpOv R (fun _ _ => False)) := by
  refine tpC_of mi_Sp_init.2.2.2.1 rfl rfl (Nat.le_of_ble_eq_true rfl) ?_
  show tpR Sp_init 1 h _ _ 0 [some (vR (some o)), some (vI x1), some (vI x2), some (vI x3)] [] h
  unfold w_Sp_init at hw
  refine tq_aload_n dSp_init_0 rfl rfl ?_
  refine tq_obj oSp_1 (Nat.le_of_ble_eq_true rfl) (Nat.le_of_ble_eq_true rfl) dSp_init_1 ?_
  refine tq_aload_n dSp_init_4 rfl rfl ?_
  refine tq_iload_n dSp_init_5 rfl rfl ?_
  obtain ⟨f1, hw⟩ := hw
  refine te_puti dSp_init_6 pSp_7 rfl rfl rfl f1 ⟨rfl, rfl⟩ (fun h2 e3 => ?_)
  have hw := hw h2 e3
  refine tq_aload_n dSp_init_9 rfl rfl ?_
  refine tq_iload_n dSp_init_10 rfl rfl ?_
  refine te_puti dSp_init_11 pSp_13 rfl rfl rfl (by rw [e3]; exact f1) ⟨rfl, rfl⟩ (fun h4 e5 => ?_)
  have hw := hw h4 e5
  refine tq_aload_n dSp_init_14 rfl rfl ?_
  refine tq_iload_n dSp_init_15 rfl rfl ?_
  refine te_puti dSp_init_16 pSp_16 rfl rfl rfl (by rw [e5]; exact (by rw [e3]; exact f1)) ⟨rfl, rfl⟩ (fun h6 e7 => ?_)
  have hw := hw h6 e7
  exact tq_vret rfl dSp_init_19 hw
/-! T$Row.fill -/
theorem dRo_fill_0 : decode (mB Ro_fill) 0 = .ok (.iconst 0, 1) := by decide +kernel
theorem dRo_fill_1 : decode (mB Ro_fill) 1 = .ok (.istore_n 3, 1) := by decide +kernel
theorem dRo_fill_2 : decode (mB Ro_fill) 2 = .ok (.iload_n 3, 1) := by decide +kernel
theorem dRo_fill_3 : decode (mB Ro_fill) 3 = .ok (.iload_n 1, 1) := by decide +kernel
theorem dRo_fill_4 : decode (mB Ro_fill) 4 = .ok (.if_icmp .ge 25, 3) := by decide +kernel
theorem dRo_fill_7 : decode (mB Ro_fill) 7 = .ok (.iload_n 3, 1) := by decide +kernel
theorem dRo_fill_8 : decode (mB Ro_fill) 8 = .ok (.aload_n 0, 1) := by decide +kernel
theorem dRo_fill_9 : decode (mB Ro_fill) 9 = .ok (.getfield 9, 3) := by decide +kernel
theorem dRo_fill_12 : decode (mB Ro_fill) 12 = .ok (.arraylength, 1) := by decide +kernel
theorem dRo_fill_13 : decode (mB Ro_fill) 13 = .ok (.if_icmp .ge 16, 3) := by decide +kernel
theorem dRo_fill_16 : decode (mB Ro_fill) 16 = .ok (.aload_n 0, 1) := by decide +kernel
theorem dRo_fill_17 : decode (mB Ro_fill) 17 = .ok (.getfield 9, 3) := by decide +kernel
theorem dRo_fill_20 : decode (mB Ro_fill) 20 = .ok (.iload_n 3, 1) := by decide +kernel
theorem dRo_fill_21 : decode (mB Ro_fill) 21 = .ok (.iload_n 2, 1) := by decide +kernel
theorem dRo_fill_22 : decode (mB Ro_fill) 22 = .ok (.iastore, 1) := by decide +kernel
theorem dRo_fill_23 : decode (mB Ro_fill) 23 = .ok (.iinc 3 1, 3) := by decide +kernel
theorem dRo_fill_26 : decode (mB Ro_fill) 26 = .ok (.goto (-24), 3) := by decide +kernel
theorem dRo_fill_29 : decode (mB Ro_fill) 29 = .ok (.return_, 1) := by decide +kernel
def b_Ro_fill_2 (R : tpH → Prop) (Y : Nat → Int32 → Int32 → Int32 → tpH → Prop) (o : Nat) (x1 : Int32) (x2 : Int32) (x3 : Int32) (h : tpH) : Prop :=
  (x1 ≤ x3 → (R h)) ∧ (¬ x1 ≤ x3 → (hT h o = 8 ∧ (∃ a3, (hR h o 0) = some a3 ∧ hT h a3 = 15 ∧ (((Int32.ofNat (hL h a3)) ≤ x3 → (R h)) ∧ (¬ (Int32.ofNat (hL h a3)) ≤ x3 → (vp_in x3 (hL h a3) ∧ (∀ h8, h8 = sI h a3 x3.toNatClampNeg x2 → (Y o x1 x2 (x3 + (1 : Int32)) h8))))))))
def w_Ro_fill_2 (R : tpH → Prop) : Nat → Nat → Int32 → Int32 → Int32 → tpH → Prop
  | 0 => fun _ _ _ _ _ => False
  | n + 1 => b_Ro_fill_2 R (w_Ro_fill_2 R n)
def w_Ro_fill (o : Nat) (x1 : Int32) (x2 : Int32) (h : tpH) (R : tpH → Prop) : Prop :=
  ∃ n, w_Ro_fill_2 R n o x1 x2 (0 : Int32) h
theorem s_Ro_fill_2 {h0 : tpH} {av : List tpV} {R : tpH → Prop} : ∀ (n : Nat) (o : Nat) (x1 : Int32) (x2 : Int32) (x3 : Int32) (h : tpH), w_Ro_fill_2 R n o x1 x2 x3 h → tpR Ro_fill 0 h0 av (tpOv R (fun _ _ => False)) 2 [some (vR (some o)), some (vI x1), some (vI x2), some (vI x3)] [] h := by
  intro n
  induction n with
  | zero => intro o x1 x2 x3 h hw; exact False.elim hw
  | succ n ih =>
    intro o x1 x2 x3 h hw
    change b_Ro_fill_2 R (w_Ro_fill_2 R n) o x1 x2 x3 h at hw
    unfold b_Ro_fill_2 at hw
    refine tq_iload_n dRo_fill_2 rfl rfl ?_
    refine tq_iload_n dRo_fill_3 rfl rfl ?_
    refine tq_icmpge (tgt := 29) dRo_fill_4 (by decide) (fun c1 => ?_) (fun c1 => ?_)
    · have hw := hw.1 c1
      exact tq_vret rfl dRo_fill_29 hw
    · have hw := hw.2 c1
      refine tq_iload_n dRo_fill_7 rfl rfl ?_
      refine tq_aload_n dRo_fill_8 rfl rfl ?_
      obtain ⟨f2, hw⟩ := hw
      refine te_getr dRo_fill_9 fRo_9 rfl rfl f2 ?_
      obtain ⟨a3, e4, f5, hw⟩ := hw
      refine te_alen dRo_fill_12 e4 (by rw [f5]; decide) ?_
      refine tq_icmpge (tgt := 29) dRo_fill_13 (by decide) (fun c6 => ?_) (fun c6 => ?_)
      · have hw := hw.1 c6
        exact tq_vret rfl dRo_fill_29 hw
      · have hw := hw.2 c6
        refine tq_aload_n dRo_fill_16 rfl rfl ?_
        refine te_getr dRo_fill_17 fRo_9 rfl rfl f2 ?_
        refine tq_iload_n dRo_fill_20 rfl rfl ?_
        refine tq_iload_n dRo_fill_21 rfl rfl ?_
        obtain ⟨f7, hw⟩ := hw
        refine te_iast dRo_fill_22 e4 f5 f7 (fun h8 e9 => ?_)
        have hw := hw h8 e9
        refine tq_inc (k := (1 : Int32)) (ls' := [some (vR (some o)), some (vI x1), some (vI x2), some (vI (x3 + (1 : Int32)))]) dRo_fill_23 rfl tni_1 (Nat.le_of_ble_eq_true rfl) rfl ?_
        refine tq_goto (tgt := 2) dRo_fill_26 (by decide) ?_
        refine tpR.fo (ls' := [some (vR (some o)), some (vI x1), some (vI x2), some (vI (x3 + (1 : Int32)))]) ?_ (And.intro rfl (And.intro rfl (And.intro rfl (And.intro rfl trivial))))
        exact ih _ _ _ _ _ hw
theorem s_Ro_fill {o : Nat} {x1 : Int32} {x2 : Int32} {h : tpH} {R : tpH → Prop} (hw : w_Ro_fill o x1 x2 h R) : tpC Ro_fill 0 [vR (some o), vI x1, vI x2] h (tpOv R (fun _ _ => False)) := by
  refine tpC_of mv_Ro_fill.2.2.2.1 rfl rfl (Nat.le_of_ble_eq_true rfl) ?_
  show tpR Ro_fill 0 h _ _ 0 [some (vR (some o)), some (vI x1), some (vI x2), none] [] h
  unfold w_Ro_fill at hw
  refine tq_iconst (v := (0 : Int32)) dRo_fill_0 tni_0 ?_
  refine tq_istore_n (ls' := [some (vR (some o)), some (vI x1), some (vI x2), some (vI (0 : Int32))]) dRo_fill_1 rfl (Nat.le_of_ble_eq_true rfl) rfl ?_
  refine tpR.fo (ls' := [some (vR (some o)), some (vI x1), some (vI x2), some (vI (0 : Int32))]) ?_ (And.intro rfl (And.intro rfl (And.intro rfl (And.intro rfl trivial))))
  obtain ⟨n, hw⟩ := hw
  exact s_Ro_fill_2 n _ _ _ _ _ hw
/-! T$Marks.isLoose -/
theorem dMa_isLoose_0 : decode (mB Ma_isLoose) 0 = .ok (.aload_n 0, 1) := by decide +kernel
theorem dMa_isLoose_1 : decode (mB Ma_isLoose) 1 = .ok (.getfield 14, 3) := by decide +kernel
theorem dMa_isLoose_4 : decode (mB Ma_isLoose) 4 = .ok (.iload_n 1, 1) := by decide +kernel
theorem dMa_isLoose_5 : decode (mB Ma_isLoose) 5 = .ok (.invokevirtual 31, 3) := by decide +kernel
theorem dMa_isLoose_8 : decode (mB Ma_isLoose) 8 = .ok (.iconst 4, 1) := by decide +kernel
theorem dMa_isLoose_9 : decode (mB Ma_isLoose) 9 = .ok (.if_icmp .lt 7, 3) := by decide +kernel
theorem dMa_isLoose_12 : decode (mB Ma_isLoose) 12 = .ok (.iconst 1, 1) := by decide +kernel
theorem dMa_isLoose_13 : decode (mB Ma_isLoose) 13 = .ok (.goto 4, 3) := by decide +kernel
theorem dMa_isLoose_16 : decode (mB Ma_isLoose) 16 = .ok (.iconst 0, 1) := by decide +kernel
theorem dMa_isLoose_17 : decode (mB Ma_isLoose) 17 = .ok (.ireturn, 1) := by decide +kernel
def w_Ma_isLoose (o : Nat) (x1 : Int32) (h : tpH) (R : Int32 → tpH → Prop) : Prop :=
  hT h o = 5 ∧ (∃ a2, (hR h o 0) = some a2 ∧ hT h a2 = 8 ∧ (w_Ro_at a2 x1 h (fun v6 h5 => (v6 < (4 : Int32) → (R (0 : Int32) h5)) ∧ (¬ v6 < (4 : Int32) → (R (1 : Int32) h5)))))
theorem s_Ma_isLoose {o : Nat} {x1 : Int32} {h : tpH} {R : Int32 → tpH → Prop} (hw : w_Ma_isLoose o x1 h R) : tpC Ma_isLoose 1 [vR (some o), vI x1] h (tpOi R (fun _ _ => False)) := by
  refine tpC_of mv_Ma_isLoose.2.2.2.1 rfl rfl (Nat.le_of_ble_eq_true rfl) ?_
  show tpR Ma_isLoose 1 h _ _ 0 [some (vR (some o)), some (vI x1)] [] h
  unfold w_Ma_isLoose at hw
  refine tq_aload_n dMa_isLoose_0 rfl rfl ?_
  obtain ⟨f1, hw⟩ := hw
  refine te_getr dMa_isLoose_1 fMa_14 rfl rfl f1 ?_
  refine tq_iload_n dMa_isLoose_4 rfl rfl ?_
  obtain ⟨a2, e3, f4, hw⟩ := hw
  refine te_callV mv_Ro_at (ci := 7) (dc := 0) (as := [vI x1]) (rest := []) kMa_31 rfl (Nat.le_of_ble_eq_true rfl) (Nat.le_of_ble_eq_true rfl) rfl rfl e3 f4 (Nat.le_of_ble_eq_true rfl) dMa_isLoose_5 (s_Ro_at hw) (fun _ _ hx => False.elim hx) (tk_i fun v6 h5 hw => ?_)
  refine tq_iconst (v := (4 : Int32)) dMa_isLoose_8 tni_4 ?_
  refine tq_icmplt (tgt := 16) dMa_isLoose_9 (by decide) (fun c7 => ?_) (fun c7 => ?_)
  · have hw := hw.1 c7
    refine tq_iconst (v := (0 : Int32)) dMa_isLoose_16 tni_0 ?_
    exact tq_iret rfl (by decide) dMa_isLoose_17 hw
  · have hw := hw.2 c7
    refine tq_iconst (v := (1 : Int32)) dMa_isLoose_12 tni_1 ?_
    refine tq_goto (tgt := 17) dMa_isLoose_13 (by decide) ?_
    exact tq_iret rfl (by decide) dMa_isLoose_17 hw
/-! T$History.<init> -/
theorem dHi_init_0 : decode (mB Hi_init) 0 = .ok (.aload_n 0, 1) := by decide +kernel
theorem dHi_init_1 : decode (mB Hi_init) 1 = .ok (.invokespecial 3, 3) := by decide +kernel
theorem dHi_init_4 : decode (mB Hi_init) 4 = .ok (.aload_n 0, 1) := by decide +kernel
theorem dHi_init_5 : decode (mB Hi_init) 5 = .ok (.new 9, 3) := by decide +kernel
theorem dHi_init_8 : decode (mB Hi_init) 8 = .ok (.dup, 1) := by decide +kernel
theorem dHi_init_9 : decode (mB Hi_init) 9 = .ok (.bipush 30, 2) := by decide +kernel
theorem dHi_init_11 : decode (mB Hi_init) 11 = .ok (.invokespecial 11, 3) := by decide +kernel
theorem dHi_init_14 : decode (mB Hi_init) 14 = .ok (.putfield 14, 3) := by decide +kernel
theorem dHi_init_17 : decode (mB Hi_init) 17 = .ok (.aload_n 0, 1) := by decide +kernel
theorem dHi_init_18 : decode (mB Hi_init) 18 = .ok (.new 9, 3) := by decide +kernel
theorem dHi_init_21 : decode (mB Hi_init) 21 = .ok (.dup, 1) := by decide +kernel
theorem dHi_init_22 : decode (mB Hi_init) 22 = .ok (.bipush 30, 2) := by decide +kernel
theorem dHi_init_24 : decode (mB Hi_init) 24 = .ok (.invokespecial 11, 3) := by decide +kernel
theorem dHi_init_27 : decode (mB Hi_init) 27 = .ok (.putfield 20, 3) := by decide +kernel
theorem dHi_init_30 : decode (mB Hi_init) 30 = .ok (.aload_n 0, 1) := by decide +kernel
theorem dHi_init_31 : decode (mB Hi_init) 31 = .ok (.new 9, 3) := by decide +kernel
theorem dHi_init_34 : decode (mB Hi_init) 34 = .ok (.dup, 1) := by decide +kernel
theorem dHi_init_35 : decode (mB Hi_init) 35 = .ok (.bipush 30, 2) := by decide +kernel
theorem dHi_init_37 : decode (mB Hi_init) 37 = .ok (.invokespecial 11, 3) := by decide +kernel
theorem dHi_init_40 : decode (mB Hi_init) 40 = .ok (.putfield 23, 3) := by decide +kernel
theorem dHi_init_43 : decode (mB Hi_init) 43 = .ok (.aload_n 0, 1) := by decide +kernel
theorem dHi_init_44 : decode (mB Hi_init) 44 = .ok (.new 9, 3) := by decide +kernel
theorem dHi_init_47 : decode (mB Hi_init) 47 = .ok (.dup, 1) := by decide +kernel
theorem dHi_init_48 : decode (mB Hi_init) 48 = .ok (.bipush 30, 2) := by decide +kernel
theorem dHi_init_50 : decode (mB Hi_init) 50 = .ok (.invokespecial 11, 3) := by decide +kernel
theorem dHi_init_53 : decode (mB Hi_init) 53 = .ok (.putfield 26, 3) := by decide +kernel
theorem dHi_init_56 : decode (mB Hi_init) 56 = .ok (.aload_n 0, 1) := by decide +kernel
theorem dHi_init_57 : decode (mB Hi_init) 57 = .ok (.new 9, 3) := by decide +kernel
theorem dHi_init_60 : decode (mB Hi_init) 60 = .ok (.dup, 1) := by decide +kernel
theorem dHi_init_61 : decode (mB Hi_init) 61 = .ok (.bipush 30, 2) := by decide +kernel
theorem dHi_init_63 : decode (mB Hi_init) 63 = .ok (.invokespecial 11, 3) := by decide +kernel
theorem dHi_init_66 : decode (mB Hi_init) 66 = .ok (.putfield 29, 3) := by decide +kernel
theorem dHi_init_69 : decode (mB Hi_init) 69 = .ok (.return_, 1) := by decide +kernel
def w_Hi_init (o : Nat) (h : tpH) (R : tpH → Prop) : Prop :=
  ∀ a1 h2, a1 = hZ h → h2 = nC h 8 0 2 → (w_Ro_init a1 (30 : Int32) h2 (fun h5 => hT h5 o = 3 ∧ (∀ h7, h7 = sR h5 o 0 (some a1) → (∀ a9 h10, a9 = hZ h7 → h10 = nC h7 8 0 2 → (w_Ro_init a9 (30 : Int32) h10 (fun h13 => hT h13 o = 3 ∧ (∀ h15, h15 = sR h13 o 1 (some a9) → (∀ a17 h18, a17 = hZ h15 → h18 = nC h15 8 0 2 → (w_Ro_init a17 (30 : Int32) h18 (fun h21 => hT h21 o = 3 ∧ (∀ h23, h23 = sR h21 o 2 (some a17) → (∀ a25 h26, a25 = hZ h23 → h26 = nC h23 8 0 2 → (w_Ro_init a25 (30 : Int32) h26 (fun h29 => hT h29 o = 3 ∧ (∀ h31, h31 = sR h29 o 3 (some a25) → (∀ a33 h34, a33 = hZ h31 → h34 = nC h31 8 0 2 → (w_Ro_init a33 (30 : Int32) h34 (fun h37 => hT h37 o = 3 ∧ (∀ h39, h39 = sR h37 o 4 (some a33) → (R h39))))))))))))))))))))
theorem s_Hi_init {o : Nat} {h : tpH} {R : tpH → Prop} (hw : w_Hi_init o h R) : tpC Hi_init 2 [vR (some o)] h (tpOv R (fun _ _ => False)) := by
  refine tpC_of mi_Hi_init.2.2.2.1 rfl rfl (Nat.le_of_ble_eq_true rfl) ?_
  show tpR Hi_init 2 h _ _ 0 [some (vR (some o))] [] h
  unfold w_Hi_init at hw
  refine tq_aload_n dHi_init_0 rfl rfl ?_
  refine tq_obj oHi_3 (Nat.le_of_ble_eq_true rfl) (Nat.le_of_ble_eq_true rfl) dHi_init_1 ?_
  refine tq_aload_n dHi_init_4 rfl rfl ?_
  refine tq_new (ci := 7) cHi_9 ti_7 rfl dHi_init_5 (fun a1 h2 e3 e4 => ?_)
  have hw := hw a1 h2 e3 e4
  refine tq_dup dHi_init_8 rfl ?_
  refine tq_bipush (v := (30 : Int32)) dHi_init_9 tnb_30 ?_
  refine te_init mi_Ro_init (dc := 1) (as := [vI (30 : Int32)]) (rest := [vR (some a1), vR (some o)]) (Or.inl kHi_11) (Nat.le_of_ble_eq_true rfl) (Nat.le_of_ble_eq_true rfl) rfl rfl rfl (Nat.le_of_ble_eq_true rfl) dHi_init_11 (s_Ro_init hw) (fun _ _ hx => hx) (tk_v fun h5 hw => ?_)
  obtain ⟨f6, hw⟩ := hw
  refine te_putr dHi_init_14 pHi_14 rfl rfl rfl f6 (fun h7 e8 => ?_)
  have hw := hw h7 e8
  refine tq_aload_n dHi_init_17 rfl rfl ?_
  refine tq_new (ci := 7) cHi_9 ti_7 rfl dHi_init_18 (fun a9 h10 e11 e12 => ?_)
  have hw := hw a9 h10 e11 e12
  refine tq_dup dHi_init_21 rfl ?_
  refine tq_bipush (v := (30 : Int32)) dHi_init_22 tnb_30 ?_
  refine te_init mi_Ro_init (dc := 1) (as := [vI (30 : Int32)]) (rest := [vR (some a9), vR (some o)]) (Or.inl kHi_11) (Nat.le_of_ble_eq_true rfl) (Nat.le_of_ble_eq_true rfl) rfl rfl rfl (Nat.le_of_ble_eq_true rfl) dHi_init_24 (s_Ro_init hw) (fun _ _ hx => hx) (tk_v fun h13 hw => ?_)
  obtain ⟨f14, hw⟩ := hw
  refine te_putr dHi_init_27 pHi_20 rfl rfl rfl f14 (fun h15 e16 => ?_)
  have hw := hw h15 e16
  refine tq_aload_n dHi_init_30 rfl rfl ?_
  refine tq_new (ci := 7) cHi_9 ti_7 rfl dHi_init_31 (fun a17 h18 e19 e20 => ?_)
  have hw := hw a17 h18 e19 e20
  refine tq_dup dHi_init_34 rfl ?_
  refine tq_bipush (v := (30 : Int32)) dHi_init_35 tnb_30 ?_
  refine te_init mi_Ro_init (dc := 1) (as := [vI (30 : Int32)]) (rest := [vR (some a17), vR (some o)]) (Or.inl kHi_11) (Nat.le_of_ble_eq_true rfl) (Nat.le_of_ble_eq_true rfl) rfl rfl rfl (Nat.le_of_ble_eq_true rfl) dHi_init_37 (s_Ro_init hw) (fun _ _ hx => hx) (tk_v fun h21 hw => ?_)
  obtain ⟨f22, hw⟩ := hw
  refine te_putr dHi_init_40 pHi_23 rfl rfl rfl f22 (fun h23 e24 => ?_)
  have hw := hw h23 e24
  refine tq_aload_n dHi_init_43 rfl rfl ?_
  refine tq_new (ci := 7) cHi_9 ti_7 rfl dHi_init_44 (fun a25 h26 e27 e28 => ?_)
  have hw := hw a25 h26 e27 e28
  refine tq_dup dHi_init_47 rfl ?_
  refine tq_bipush (v := (30 : Int32)) dHi_init_48 tnb_30 ?_
  refine te_init mi_Ro_init (dc := 1) (as := [vI (30 : Int32)]) (rest := [vR (some a25), vR (some o)]) (Or.inl kHi_11) (Nat.le_of_ble_eq_true rfl) (Nat.le_of_ble_eq_true rfl) rfl rfl rfl (Nat.le_of_ble_eq_true rfl) dHi_init_50 (s_Ro_init hw) (fun _ _ hx => hx) (tk_v fun h29 hw => ?_)
  obtain ⟨f30, hw⟩ := hw
  refine te_putr dHi_init_53 pHi_26 rfl rfl rfl f30 (fun h31 e32 => ?_)
  have hw := hw h31 e32
  refine tq_aload_n dHi_init_56 rfl rfl ?_
  refine tq_new (ci := 7) cHi_9 ti_7 rfl dHi_init_57 (fun a33 h34 e35 e36 => ?_)
  have hw := hw a33 h34 e35 e36
  refine tq_dup dHi_init_60 rfl ?_
  refine tq_bipush (v := (30 : Int32)) dHi_init_61 tnb_30 ?_
  refine te_init mi_Ro_init (dc := 1) (as := [vI (30 : Int32)]) (rest := [vR (some a33), vR (some o)]) (Or.inl kHi_11) (Nat.le_of_ble_eq_true rfl) (Nat.le_of_ble_eq_true rfl) rfl rfl rfl (Nat.le_of_ble_eq_true rfl) dHi_init_63 (s_Ro_init hw) (fun _ _ hx => hx) (tk_v fun h37 hw => ?_)
  obtain ⟨f38, hw⟩ := hw
  refine te_putr dHi_init_66 pHi_29 rfl rfl rfl f38 (fun h39 e40 => ?_)
  have hw := hw h39 e40
  exact tq_vret rfl dHi_init_69 hw
/-! T$History.has -/
theorem dHi_has_0 : decode (mB Hi_has) 0 = .ok (.iload_n 1, 1) := by decide +kernel
theorem dHi_has_1 : decode (mB Hi_has) 1 = .ok (.ifCond .lt 15, 3) := by decide +kernel
theorem dHi_has_4 : decode (mB Hi_has) 4 = .ok (.iload_n 1, 1) := by decide +kernel
theorem dHi_has_5 : decode (mB Hi_has) 5 = .ok (.aload_n 0, 1) := by decide +kernel
theorem dHi_has_6 : decode (mB Hi_has) 6 = .ok (.getfield 32, 3) := by decide +kernel
theorem dHi_has_9 : decode (mB Hi_has) 9 = .ok (.if_icmp .ge 7, 3) := by decide +kernel
theorem dHi_has_12 : decode (mB Hi_has) 12 = .ok (.iconst 1, 1) := by decide +kernel
theorem dHi_has_13 : decode (mB Hi_has) 13 = .ok (.goto 4, 3) := by decide +kernel
theorem dHi_has_16 : decode (mB Hi_has) 16 = .ok (.iconst 0, 1) := by decide +kernel
theorem dHi_has_17 : decode (mB Hi_has) 17 = .ok (.ireturn, 1) := by decide +kernel
def w_Hi_has (o : Nat) (x1 : Int32) (h : tpH) (R : Int32 → tpH → Prop) : Prop :=
  (x1 < 0 → (R (0 : Int32) h)) ∧ (¬ x1 < 0 → (hT h o = 3 ∧ (((hI h o 5) ≤ x1 → (R (0 : Int32) h)) ∧ (¬ (hI h o 5) ≤ x1 → (R (1 : Int32) h)))))
theorem s_Hi_has {o : Nat} {x1 : Int32} {h : tpH} {R : Int32 → tpH → Prop} (hw : w_Hi_has o x1 h R) : tpC Hi_has 0 [vR (some o), vI x1] h (tpOi R (fun _ _ => False)) := by
  refine tpC_of mv_Hi_has.2.2.2.1 rfl rfl (Nat.le_of_ble_eq_true rfl) ?_
  show tpR Hi_has 0 h _ _ 0 [some (vR (some o)), some (vI x1)] [] h
  unfold w_Hi_has at hw
  refine tq_iload_n dHi_has_0 rfl rfl ?_
  refine tq_iflt (tgt := 16) dHi_has_1 (by decide) (fun c1 => ?_) (fun c1 => ?_)
  · have hw := hw.1 c1
    refine tq_iconst (v := (0 : Int32)) dHi_has_16 tni_0 ?_
    exact tq_iret rfl (by decide) dHi_has_17 hw
  · have hw := hw.2 c1
    refine tq_iload_n dHi_has_4 rfl rfl ?_
    refine tq_aload_n dHi_has_5 rfl rfl ?_
    obtain ⟨f2, hw⟩ := hw
    refine te_geti dHi_has_6 fHi_32 rfl rfl f2 ?_
    refine tq_icmpge (tgt := 16) dHi_has_9 (by decide) (fun c3 => ?_) (fun c3 => ?_)
    · have hw := hw.1 c3
      refine tq_iconst (v := (0 : Int32)) dHi_has_16 tni_0 ?_
      exact tq_iret rfl (by decide) dHi_has_17 hw
    · have hw := hw.2 c3
      refine tq_iconst (v := (1 : Int32)) dHi_has_12 tni_1 ?_
      refine tq_goto (tgt := 17) dHi_has_13 (by decide) ?_
      exact tq_iret rfl (by decide) dHi_has_17 hw
/-! T$History.treeNumber -/
theorem dHi_treeNumber_0 : decode (mB Hi_treeNumber) 0 = .ok (.aload_n 0, 1) := by decide +kernel
theorem dHi_treeNumber_1 : decode (mB Hi_treeNumber) 1 = .ok (.getfield 14, 3) := by decide +kernel
theorem dHi_treeNumber_4 : decode (mB Hi_treeNumber) 4 = .ok (.iload_n 1, 1) := by decide +kernel
theorem dHi_treeNumber_5 : decode (mB Hi_treeNumber) 5 = .ok (.invokevirtual 36, 3) := by decide +kernel
theorem dHi_treeNumber_8 : decode (mB Hi_treeNumber) 8 = .ok (.ireturn, 1) := by decide +kernel
def w_Hi_treeNumber (o : Nat) (x1 : Int32) (h : tpH) (R : Int32 → tpH → Prop) : Prop :=
  hT h o = 3 ∧ (∃ a2, (hR h o 0) = some a2 ∧ hT h a2 = 8 ∧ (w_Ro_at a2 x1 h (fun v6 h5 => R v6 h5)))
theorem s_Hi_treeNumber {o : Nat} {x1 : Int32} {h : tpH} {R : Int32 → tpH → Prop} (hw : w_Hi_treeNumber o x1 h R) : tpC Hi_treeNumber 1 [vR (some o), vI x1] h (tpOi R (fun _ _ => False)) := by
  refine tpC_of mv_Hi_treeNumber.2.2.2.1 rfl rfl (Nat.le_of_ble_eq_true rfl) ?_
  show tpR Hi_treeNumber 1 h _ _ 0 [some (vR (some o)), some (vI x1)] [] h
  unfold w_Hi_treeNumber at hw
  refine tq_aload_n dHi_treeNumber_0 rfl rfl ?_
  obtain ⟨f1, hw⟩ := hw
  refine te_getr dHi_treeNumber_1 fHi_14 rfl rfl f1 ?_
  refine tq_iload_n dHi_treeNumber_4 rfl rfl ?_
  obtain ⟨a2, e3, f4, hw⟩ := hw
  refine te_callV mv_Ro_at (ci := 7) (dc := 0) (as := [vI x1]) (rest := []) kHi_36 rfl (Nat.le_of_ble_eq_true rfl) (Nat.le_of_ble_eq_true rfl) rfl rfl e3 f4 (Nat.le_of_ble_eq_true rfl) dHi_treeNumber_5 (s_Ro_at hw) (fun _ _ hx => False.elim hx) (tk_i fun v6 h5 hw => ?_)
  exact tq_iret rfl rfl dHi_treeNumber_8 hw
/-! T$History.firstOf -/
theorem dHi_firstOf_0 : decode (mB Hi_firstOf) 0 = .ok (.aload_n 0, 1) := by decide +kernel
theorem dHi_firstOf_1 : decode (mB Hi_firstOf) 1 = .ok (.getfield 20, 3) := by decide +kernel
theorem dHi_firstOf_4 : decode (mB Hi_firstOf) 4 = .ok (.iload_n 1, 1) := by decide +kernel
theorem dHi_firstOf_5 : decode (mB Hi_firstOf) 5 = .ok (.invokevirtual 36, 3) := by decide +kernel
theorem dHi_firstOf_8 : decode (mB Hi_firstOf) 8 = .ok (.ireturn, 1) := by decide +kernel
def w_Hi_firstOf (o : Nat) (x1 : Int32) (h : tpH) (R : Int32 → tpH → Prop) : Prop :=
  hT h o = 3 ∧ (∃ a2, (hR h o 1) = some a2 ∧ hT h a2 = 8 ∧ (w_Ro_at a2 x1 h (fun v6 h5 => R v6 h5)))
theorem s_Hi_firstOf {o : Nat} {x1 : Int32} {h : tpH} {R : Int32 → tpH → Prop} (hw : w_Hi_firstOf o x1 h R) : tpC Hi_firstOf 1 [vR (some o), vI x1] h (tpOi R (fun _ _ => False)) := by
  refine tpC_of mv_Hi_firstOf.2.2.2.1 rfl rfl (Nat.le_of_ble_eq_true rfl) ?_
  show tpR Hi_firstOf 1 h _ _ 0 [some (vR (some o)), some (vI x1)] [] h
  unfold w_Hi_firstOf at hw
  refine tq_aload_n dHi_firstOf_0 rfl rfl ?_
  obtain ⟨f1, hw⟩ := hw
  refine te_getr dHi_firstOf_1 fHi_20 rfl rfl f1 ?_
  refine tq_iload_n dHi_firstOf_4 rfl rfl ?_
  obtain ⟨a2, e3, f4, hw⟩ := hw
  refine te_callV mv_Ro_at (ci := 7) (dc := 0) (as := [vI x1]) (rest := []) kHi_36 rfl (Nat.le_of_ble_eq_true rfl) (Nat.le_of_ble_eq_true rfl) rfl rfl e3 f4 (Nat.le_of_ble_eq_true rfl) dHi_firstOf_5 (s_Ro_at hw) (fun _ _ hx => False.elim hx) (tk_i fun v6 h5 hw => ?_)
  exact tq_iret rfl rfl dHi_firstOf_8 hw
/-! T$History.secondOf -/
theorem dHi_secondOf_0 : decode (mB Hi_secondOf) 0 = .ok (.aload_n 0, 1) := by decide +kernel
theorem dHi_secondOf_1 : decode (mB Hi_secondOf) 1 = .ok (.getfield 23, 3) := by decide +kernel
theorem dHi_secondOf_4 : decode (mB Hi_secondOf) 4 = .ok (.iload_n 1, 1) := by decide +kernel
theorem dHi_secondOf_5 : decode (mB Hi_secondOf) 5 = .ok (.invokevirtual 36, 3) := by decide +kernel
theorem dHi_secondOf_8 : decode (mB Hi_secondOf) 8 = .ok (.ireturn, 1) := by decide +kernel
def w_Hi_secondOf (o : Nat) (x1 : Int32) (h : tpH) (R : Int32 → tpH → Prop) : Prop :=
  hT h o = 3 ∧ (∃ a2, (hR h o 2) = some a2 ∧ hT h a2 = 8 ∧ (w_Ro_at a2 x1 h (fun v6 h5 => R v6 h5)))
theorem s_Hi_secondOf {o : Nat} {x1 : Int32} {h : tpH} {R : Int32 → tpH → Prop} (hw : w_Hi_secondOf o x1 h R) : tpC Hi_secondOf 1 [vR (some o), vI x1] h (tpOi R (fun _ _ => False)) := by
  refine tpC_of mv_Hi_secondOf.2.2.2.1 rfl rfl (Nat.le_of_ble_eq_true rfl) ?_
  show tpR Hi_secondOf 1 h _ _ 0 [some (vR (some o)), some (vI x1)] [] h
  unfold w_Hi_secondOf at hw
  refine tq_aload_n dHi_secondOf_0 rfl rfl ?_
  obtain ⟨f1, hw⟩ := hw
  refine te_getr dHi_secondOf_1 fHi_23 rfl rfl f1 ?_
  refine tq_iload_n dHi_secondOf_4 rfl rfl ?_
  obtain ⟨a2, e3, f4, hw⟩ := hw
  refine te_callV mv_Ro_at (ci := 7) (dc := 0) (as := [vI x1]) (rest := []) kHi_36 rfl (Nat.le_of_ble_eq_true rfl) (Nat.le_of_ble_eq_true rfl) rfl rfl e3 f4 (Nat.le_of_ble_eq_true rfl) dHi_secondOf_5 (s_Ro_at hw) (fun _ _ hx => False.elim hx) (tk_i fun v6 h5 hw => ?_)
  exact tq_iret rfl rfl dHi_secondOf_8 hw
/-! T$History.keep -/
theorem dHi_keep_0 : decode (mB Hi_keep) 0 = .ok (.aload_n 0, 1) := by decide +kernel
theorem dHi_keep_1 : decode (mB Hi_keep) 1 = .ok (.getfield 32, 3) := by decide +kernel
theorem dHi_keep_4 : decode (mB Hi_keep) 4 = .ok (.istore 4, 2) := by decide +kernel
theorem dHi_keep_6 : decode (mB Hi_keep) 6 = .ok (.aload_n 0, 1) := by decide +kernel
theorem dHi_keep_7 : decode (mB Hi_keep) 7 = .ok (.dup, 1) := by decide +kernel
theorem dHi_keep_8 : decode (mB Hi_keep) 8 = .ok (.getfield 32, 3) := by decide +kernel
theorem dHi_keep_11 : decode (mB Hi_keep) 11 = .ok (.iconst 1, 1) := by decide +kernel
theorem dHi_keep_12 : decode (mB Hi_keep) 12 = .ok (.iadd, 1) := by decide +kernel
theorem dHi_keep_13 : decode (mB Hi_keep) 13 = .ok (.putfield 32, 3) := by decide +kernel
theorem dHi_keep_16 : decode (mB Hi_keep) 16 = .ok (.aload_n 0, 1) := by decide +kernel
theorem dHi_keep_17 : decode (mB Hi_keep) 17 = .ok (.getfield 14, 3) := by decide +kernel
theorem dHi_keep_20 : decode (mB Hi_keep) 20 = .ok (.iload 4, 2) := by decide +kernel
theorem dHi_keep_22 : decode (mB Hi_keep) 22 = .ok (.iload_n 1, 1) := by decide +kernel
theorem dHi_keep_23 : decode (mB Hi_keep) 23 = .ok (.invokevirtual 40, 3) := by decide +kernel
theorem dHi_keep_26 : decode (mB Hi_keep) 26 = .ok (.aload_n 0, 1) := by decide +kernel
theorem dHi_keep_27 : decode (mB Hi_keep) 27 = .ok (.getfield 20, 3) := by decide +kernel
theorem dHi_keep_30 : decode (mB Hi_keep) 30 = .ok (.iload 4, 2) := by decide +kernel
theorem dHi_keep_32 : decode (mB Hi_keep) 32 = .ok (.iload_n 2, 1) := by decide +kernel
theorem dHi_keep_33 : decode (mB Hi_keep) 33 = .ok (.invokevirtual 40, 3) := by decide +kernel
theorem dHi_keep_36 : decode (mB Hi_keep) 36 = .ok (.aload_n 0, 1) := by decide +kernel
theorem dHi_keep_37 : decode (mB Hi_keep) 37 = .ok (.getfield 23, 3) := by decide +kernel
theorem dHi_keep_40 : decode (mB Hi_keep) 40 = .ok (.iload 4, 2) := by decide +kernel
theorem dHi_keep_42 : decode (mB Hi_keep) 42 = .ok (.iload_n 3, 1) := by decide +kernel
theorem dHi_keep_43 : decode (mB Hi_keep) 43 = .ok (.invokevirtual 40, 3) := by decide +kernel
theorem dHi_keep_46 : decode (mB Hi_keep) 46 = .ok (.iload 4, 2) := by decide +kernel
theorem dHi_keep_48 : decode (mB Hi_keep) 48 = .ok (.ireturn, 1) := by decide +kernel
def w_Hi_keep (o : Nat) (x1 : Int32) (x2 : Int32) (x3 : Int32) (h : tpH) (R : Int32 → tpH → Prop) : Prop :=
  hT h o = 3 ∧ (∀ h2, h2 = sI h o 5 ((hI h o 5) + (1 : Int32)) → (∃ a4, (hR h2 o 0) = some a4 ∧ hT h2 a4 = 8 ∧ (w_Ro_put a4 (hI h o 5) x1 h2 (fun h7 => hT h7 o = 3 ∧ (∃ a9, (hR h7 o 1) = some a9 ∧ hT h7 a9 = 8 ∧ (w_Ro_put a9 (hI h o 5) x2 h7 (fun h12 => hT h12 o = 3 ∧ (∃ a14, (hR h12 o 2) = some a14 ∧ hT h12 a14 = 8 ∧ (w_Ro_put a14 (hI h o 5) x3 h12 (fun h17 => R (hI h o 5) h17))))))))))
theorem s_Hi_keep {o : Nat} {x1 : Int32} {x2 : Int32} {x3 : Int32} {h : tpH} {R : Int32 → tpH → Prop} (hw : w_Hi_keep o x1 x2 x3 h R) : tpC Hi_keep 1 [vR (some o), vI x1, vI x2, vI x3] h (tpOi R (fun _ _ => False)) := by
  refine tpC_of mv_Hi_keep.2.2.2.1 rfl rfl (Nat.le_of_ble_eq_true rfl) ?_
  show tpR Hi_keep 1 h _ _ 0 [some (vR (some o)), some (vI x1), some (vI x2), some (vI x3), none] [] h
  unfold w_Hi_keep at hw
  refine tq_aload_n dHi_keep_0 rfl rfl ?_
  obtain ⟨f1, hw⟩ := hw
  refine te_geti dHi_keep_1 fHi_32 rfl rfl f1 ?_
  refine tq_istore (ls' := [some (vR (some o)), some (vI x1), some (vI x2), some (vI x3), some (vI (hI h o 5))]) dHi_keep_4 (Nat.le_of_ble_eq_true rfl) rfl ?_
  refine tq_aload_n dHi_keep_6 rfl rfl ?_
  refine tq_dup dHi_keep_7 rfl ?_
  refine te_geti dHi_keep_8 fHi_32 rfl rfl f1 ?_
  refine tq_iconst (v := (1 : Int32)) dHi_keep_11 tni_1 ?_
  refine tq_iadd dHi_keep_12 ?_
  refine te_puti dHi_keep_13 pHi_32 rfl rfl rfl f1 ⟨rfl, rfl⟩ (fun h2 e3 => ?_)
  have hw := hw h2 e3
  refine tq_aload_n dHi_keep_16 rfl rfl ?_
  refine te_getr dHi_keep_17 fHi_14 rfl rfl (by rw [e3]; exact f1) ?_
  refine tq_iload dHi_keep_20 rfl ?_
  refine tq_iload_n dHi_keep_22 rfl rfl ?_
  obtain ⟨a4, e5, f6, hw⟩ := hw
  refine te_callV mv_Ro_put (ci := 7) (dc := 0) (as := [vI (hI h o 5), vI x1]) (rest := []) kHi_40 rfl (Nat.le_of_ble_eq_true rfl) (Nat.le_of_ble_eq_true rfl) rfl rfl e5 f6 (Nat.le_of_ble_eq_true rfl) dHi_keep_23 (s_Ro_put hw) (fun _ _ hx => False.elim hx) (tk_v fun h7 hw => ?_)
  refine tq_aload_n dHi_keep_26 rfl rfl ?_
  obtain ⟨f8, hw⟩ := hw
  refine te_getr dHi_keep_27 fHi_20 rfl rfl f8 ?_
  refine tq_iload dHi_keep_30 rfl ?_
  refine tq_iload_n dHi_keep_32 rfl rfl ?_
  obtain ⟨a9, e10, f11, hw⟩ := hw
  refine te_callV mv_Ro_put (ci := 7) (dc := 0) (as := [vI (hI h o 5), vI x2]) (rest := []) kHi_40 rfl (Nat.le_of_ble_eq_true rfl) (Nat.le_of_ble_eq_true rfl) rfl rfl e10 f11 (Nat.le_of_ble_eq_true rfl) dHi_keep_33 (s_Ro_put hw) (fun _ _ hx => False.elim hx) (tk_v fun h12 hw => ?_)
  refine tq_aload_n dHi_keep_36 rfl rfl ?_
  obtain ⟨f13, hw⟩ := hw
  refine te_getr dHi_keep_37 fHi_23 rfl rfl f13 ?_
  refine tq_iload dHi_keep_40 rfl ?_
  refine tq_iload_n dHi_keep_42 rfl rfl ?_
  obtain ⟨a14, e15, f16, hw⟩ := hw
  refine te_callV mv_Ro_put (ci := 7) (dc := 0) (as := [vI (hI h o 5), vI x3]) (rest := []) kHi_40 rfl (Nat.le_of_ble_eq_true rfl) (Nat.le_of_ble_eq_true rfl) rfl rfl e15 f16 (Nat.le_of_ble_eq_true rfl) dHi_keep_43 (s_Ro_put hw) (fun _ _ hx => False.elim hx) (tk_v fun h17 hw => ?_)
  refine tq_iload dHi_keep_46 rfl ?_
  exact tq_iret rfl rfl dHi_keep_48 hw
/-! T$History.reachFrom -/
theorem dHi_reachFrom_0 : decode (mB Hi_reachFrom) 0 = .ok (.aload_n 0, 1) := by decide +kernel
theorem dHi_reachFrom_1 : decode (mB Hi_reachFrom) 1 = .ok (.getfield 26, 3) := by decide +kernel
theorem dHi_reachFrom_4 : decode (mB Hi_reachFrom) 4 = .ok (.bipush 30, 2) := by decide +kernel
theorem dHi_reachFrom_6 : decode (mB Hi_reachFrom) 6 = .ok (.iconst 0, 1) := by decide +kernel
theorem dHi_reachFrom_7 : decode (mB Hi_reachFrom) 7 = .ok (.invokevirtual 57, 3) := by decide +kernel
theorem dHi_reachFrom_10 : decode (mB Hi_reachFrom) 10 = .ok (.aload_n 0, 1) := by decide +kernel
theorem dHi_reachFrom_11 : decode (mB Hi_reachFrom) 11 = .ok (.getfield 26, 3) := by decide +kernel
theorem dHi_reachFrom_14 : decode (mB Hi_reachFrom) 14 = .ok (.iload_n 1, 1) := by decide +kernel
theorem dHi_reachFrom_15 : decode (mB Hi_reachFrom) 15 = .ok (.iconst 1, 1) := by decide +kernel
theorem dHi_reachFrom_16 : decode (mB Hi_reachFrom) 16 = .ok (.invokevirtual 40, 3) := by decide +kernel
theorem dHi_reachFrom_19 : decode (mB Hi_reachFrom) 19 = .ok (.iload_n 1, 1) := by decide +kernel
theorem dHi_reachFrom_20 : decode (mB Hi_reachFrom) 20 = .ok (.istore_n 2, 1) := by decide +kernel
theorem dHi_reachFrom_21 : decode (mB Hi_reachFrom) 21 = .ok (.iload_n 2, 1) := by decide +kernel
theorem dHi_reachFrom_22 : decode (mB Hi_reachFrom) 22 = .ok (.ifCond .lt 53, 3) := by decide +kernel
theorem dHi_reachFrom_25 : decode (mB Hi_reachFrom) 25 = .ok (.aload_n 0, 1) := by decide +kernel
theorem dHi_reachFrom_26 : decode (mB Hi_reachFrom) 26 = .ok (.getfield 26, 3) := by decide +kernel
theorem dHi_reachFrom_29 : decode (mB Hi_reachFrom) 29 = .ok (.iload_n 2, 1) := by decide +kernel
theorem dHi_reachFrom_30 : decode (mB Hi_reachFrom) 30 = .ok (.invokevirtual 36, 3) := by decide +kernel
theorem dHi_reachFrom_33 : decode (mB Hi_reachFrom) 33 = .ok (.iconst 1, 1) := by decide +kernel
theorem dHi_reachFrom_34 : decode (mB Hi_reachFrom) 34 = .ok (.if_icmp .ne 35, 3) := by decide +kernel
theorem dHi_reachFrom_37 : decode (mB Hi_reachFrom) 37 = .ok (.aload_n 0, 1) := by decide +kernel
theorem dHi_reachFrom_38 : decode (mB Hi_reachFrom) 38 = .ok (.getfield 26, 3) := by decide +kernel
theorem dHi_reachFrom_41 : decode (mB Hi_reachFrom) 41 = .ok (.aload_n 0, 1) := by decide +kernel
theorem dHi_reachFrom_42 : decode (mB Hi_reachFrom) 42 = .ok (.getfield 20, 3) := by decide +kernel
theorem dHi_reachFrom_45 : decode (mB Hi_reachFrom) 45 = .ok (.iload_n 2, 1) := by decide +kernel
theorem dHi_reachFrom_46 : decode (mB Hi_reachFrom) 46 = .ok (.invokevirtual 36, 3) := by decide +kernel
theorem dHi_reachFrom_49 : decode (mB Hi_reachFrom) 49 = .ok (.iconst 1, 1) := by decide +kernel
theorem dHi_reachFrom_50 : decode (mB Hi_reachFrom) 50 = .ok (.invokevirtual 40, 3) := by decide +kernel
theorem dHi_reachFrom_53 : decode (mB Hi_reachFrom) 53 = .ok (.aload_n 0, 1) := by decide +kernel
theorem dHi_reachFrom_54 : decode (mB Hi_reachFrom) 54 = .ok (.getfield 26, 3) := by decide +kernel
theorem dHi_reachFrom_57 : decode (mB Hi_reachFrom) 57 = .ok (.aload_n 0, 1) := by decide +kernel
theorem dHi_reachFrom_58 : decode (mB Hi_reachFrom) 58 = .ok (.getfield 23, 3) := by decide +kernel
theorem dHi_reachFrom_61 : decode (mB Hi_reachFrom) 61 = .ok (.iload_n 2, 1) := by decide +kernel
theorem dHi_reachFrom_62 : decode (mB Hi_reachFrom) 62 = .ok (.invokevirtual 36, 3) := by decide +kernel
theorem dHi_reachFrom_65 : decode (mB Hi_reachFrom) 65 = .ok (.iconst 1, 1) := by decide +kernel
theorem dHi_reachFrom_66 : decode (mB Hi_reachFrom) 66 = .ok (.invokevirtual 40, 3) := by decide +kernel
theorem dHi_reachFrom_69 : decode (mB Hi_reachFrom) 69 = .ok (.iinc 2 (-1), 3) := by decide +kernel
theorem dHi_reachFrom_72 : decode (mB Hi_reachFrom) 72 = .ok (.goto (-51), 3) := by decide +kernel
theorem dHi_reachFrom_75 : decode (mB Hi_reachFrom) 75 = .ok (.return_, 1) := by decide +kernel
def b_Hi_reachFrom_21 (R : tpH → Prop) (Y : Nat → Int32 → tpH → Prop) (o : Nat) (x2 : Int32) (h : tpH) : Prop :=
  (x2 < 0 → (R h)) ∧ (¬ x2 < 0 → (hT h o = 3 ∧ (∃ a3, (hR h o 3) = some a3 ∧ hT h a3 = 8 ∧ (w_Ro_at a3 x2 h (fun v7 h6 => (¬ v7 = (1 : Int32) → (Y o (x2 + (-1 : Int32)) h6)) ∧ (v7 = (1 : Int32) → (hT h6 o = 3 ∧ (∃ a10, (hR h6 o 1) = some a10 ∧ hT h6 a10 = 8 ∧ (w_Ro_at a10 x2 h6 (fun v14 h13 => ∃ a15, (hR h6 o 3) = some a15 ∧ hT h13 a15 = 8 ∧ (w_Ro_put a15 v14 (1 : Int32) h13 (fun h18 => hT h18 o = 3 ∧ (∃ a20, (hR h18 o 2) = some a20 ∧ hT h18 a20 = 8 ∧ (w_Ro_at a20 x2 h18 (fun v24 h23 => ∃ a25, (hR h18 o 3) = some a25 ∧ hT h23 a25 = 8 ∧ (w_Ro_put a25 v24 (1 : Int32) h23 (fun h28 => Y o (x2 + (-1 : Int32)) h28)))))))))))))))))
def w_Hi_reachFrom_21 (R : tpH → Prop) : Nat → Nat → Int32 → tpH → Prop
  | 0 => fun _ _ _ => False
  | n + 1 => b_Hi_reachFrom_21 R (w_Hi_reachFrom_21 R n)
def w_Hi_reachFrom (o : Nat) (x1 : Int32) (h : tpH) (R : tpH → Prop) : Prop :=
  hT h o = 3 ∧ (∃ a2, (hR h o 3) = some a2 ∧ hT h a2 = 8 ∧ (w_Ro_fill a2 (30 : Int32) (0 : Int32) h (fun h5 => hT h5 o = 3 ∧ (∃ a7, (hR h5 o 3) = some a7 ∧ hT h5 a7 = 8 ∧ (w_Ro_put a7 x1 (1 : Int32) h5 (fun h10 => ∃ n, w_Hi_reachFrom_21 R n o x1 h10))))))
theorem s_Hi_reachFrom_21 {h0 : tpH} {av : List tpV} {R : tpH → Prop} : ∀ (n : Nat) (o : Nat) (x2 : Int32) (h : tpH), w_Hi_reachFrom_21 R n o x2 h → tpR Hi_reachFrom 1 h0 av (tpOv R (fun _ _ => False)) 21 [some (vR (some o)), none, some (vI x2)] [] h := by
  intro n
  induction n with
  | zero => intro o x2 h hw; exact False.elim hw
  | succ n ih =>
    intro o x2 h hw
    change b_Hi_reachFrom_21 R (w_Hi_reachFrom_21 R n) o x2 h at hw
    unfold b_Hi_reachFrom_21 at hw
    refine tq_iload_n dHi_reachFrom_21 rfl rfl ?_
    refine tq_iflt (tgt := 75) dHi_reachFrom_22 (by decide) (fun c1 => ?_) (fun c1 => ?_)
    · have hw := hw.1 c1
      exact tq_vret rfl dHi_reachFrom_75 hw
    · have hw := hw.2 c1
      refine tq_aload_n dHi_reachFrom_25 rfl rfl ?_
      obtain ⟨f2, hw⟩ := hw
      refine te_getr dHi_reachFrom_26 fHi_26 rfl rfl f2 ?_
      refine tq_iload_n dHi_reachFrom_29 rfl rfl ?_
      obtain ⟨a3, e4, f5, hw⟩ := hw
      refine te_callV mv_Ro_at (ci := 7) (dc := 0) (as := [vI x2]) (rest := []) kHi_36 rfl (Nat.le_of_ble_eq_true rfl) (Nat.le_of_ble_eq_true rfl) rfl rfl e4 f5 (Nat.le_of_ble_eq_true rfl) dHi_reachFrom_30 (s_Ro_at hw) (fun _ _ hx => False.elim hx) (tk_i fun v7 h6 hw => ?_)
      refine tq_iconst (v := (1 : Int32)) dHi_reachFrom_33 tni_1 ?_
      refine tq_icmpne (tgt := 69) dHi_reachFrom_34 (by decide) (fun c8 => ?_) (fun c8 => ?_)
      · have hw := hw.1 c8
        refine tq_inc (k := (-1 : Int32)) (ls' := [some (vR (some o)), none, some (vI (x2 + (-1 : Int32)))]) dHi_reachFrom_69 rfl tni_m1 (Nat.le_of_ble_eq_true rfl) rfl ?_
        refine tq_goto (tgt := 21) dHi_reachFrom_72 (by decide) ?_
        refine tpR.fo (ls' := [some (vR (some o)), none, some (vI (x2 + (-1 : Int32)))]) ?_ (And.intro rfl (And.intro rfl trivial))
        exact ih _ _ _ hw
      · have hw := hw.2 c8
        refine tq_aload_n dHi_reachFrom_37 rfl rfl ?_
        obtain ⟨f9, hw⟩ := hw
        refine te_getr dHi_reachFrom_38 fHi_26 rfl rfl f9 ?_
        refine tq_aload_n dHi_reachFrom_41 rfl rfl ?_
        refine te_getr dHi_reachFrom_42 fHi_20 rfl rfl f9 ?_
        refine tq_iload_n dHi_reachFrom_45 rfl rfl ?_
        obtain ⟨a10, e11, f12, hw⟩ := hw
        refine te_callV mv_Ro_at (ci := 7) (dc := 0) (as := [vI x2]) (rest := [vR (hR h6 o 3)]) kHi_36 rfl (Nat.le_of_ble_eq_true rfl) (Nat.le_of_ble_eq_true rfl) rfl rfl e11 f12 (Nat.le_of_ble_eq_true rfl) dHi_reachFrom_46 (s_Ro_at hw) (fun _ _ hx => False.elim hx) (tk_i fun v14 h13 hw => ?_)
        refine tq_iconst (v := (1 : Int32)) dHi_reachFrom_49 tni_1 ?_
        obtain ⟨a15, e16, f17, hw⟩ := hw
        refine te_callV mv_Ro_put (ci := 7) (dc := 0) (as := [vI v14, vI (1 : Int32)]) (rest := []) kHi_40 rfl (Nat.le_of_ble_eq_true rfl) (Nat.le_of_ble_eq_true rfl) rfl rfl e16 f17 (Nat.le_of_ble_eq_true rfl) dHi_reachFrom_50 (s_Ro_put hw) (fun _ _ hx => False.elim hx) (tk_v fun h18 hw => ?_)
        refine tq_aload_n dHi_reachFrom_53 rfl rfl ?_
        obtain ⟨f19, hw⟩ := hw
        refine te_getr dHi_reachFrom_54 fHi_26 rfl rfl f19 ?_
        refine tq_aload_n dHi_reachFrom_57 rfl rfl ?_
        refine te_getr dHi_reachFrom_58 fHi_23 rfl rfl f19 ?_
        refine tq_iload_n dHi_reachFrom_61 rfl rfl ?_
        obtain ⟨a20, e21, f22, hw⟩ := hw
        refine te_callV mv_Ro_at (ci := 7) (dc := 0) (as := [vI x2]) (rest := [vR (hR h18 o 3)]) kHi_36 rfl (Nat.le_of_ble_eq_true rfl) (Nat.le_of_ble_eq_true rfl) rfl rfl e21 f22 (Nat.le_of_ble_eq_true rfl) dHi_reachFrom_62 (s_Ro_at hw) (fun _ _ hx => False.elim hx) (tk_i fun v24 h23 hw => ?_)
        refine tq_iconst (v := (1 : Int32)) dHi_reachFrom_65 tni_1 ?_
        obtain ⟨a25, e26, f27, hw⟩ := hw
        refine te_callV mv_Ro_put (ci := 7) (dc := 0) (as := [vI v24, vI (1 : Int32)]) (rest := []) kHi_40 rfl (Nat.le_of_ble_eq_true rfl) (Nat.le_of_ble_eq_true rfl) rfl rfl e26 f27 (Nat.le_of_ble_eq_true rfl) dHi_reachFrom_66 (s_Ro_put hw) (fun _ _ hx => False.elim hx) (tk_v fun h28 hw => ?_)
        refine tq_inc (k := (-1 : Int32)) (ls' := [some (vR (some o)), none, some (vI (x2 + (-1 : Int32)))]) dHi_reachFrom_69 rfl tni_m1 (Nat.le_of_ble_eq_true rfl) rfl ?_
        refine tq_goto (tgt := 21) dHi_reachFrom_72 (by decide) ?_
        refine tpR.fo (ls' := [some (vR (some o)), none, some (vI (x2 + (-1 : Int32)))]) ?_ (And.intro rfl (And.intro rfl trivial))
        exact ih _ _ _ hw
theorem s_Hi_reachFrom {o : Nat} {x1 : Int32} {h : tpH} {R : tpH → Prop} (hw : w_Hi_reachFrom o x1 h R) : tpC Hi_reachFrom 1 [vR (some o), vI x1] h (tpOv R (fun _ _ => False)) := by
  refine tpC_of mv_Hi_reachFrom.2.2.2.1 rfl rfl (Nat.le_of_ble_eq_true rfl) ?_
  show tpR Hi_reachFrom 1 h _ _ 0 [some (vR (some o)), some (vI x1), none] [] h
  unfold w_Hi_reachFrom at hw
  refine tq_aload_n dHi_reachFrom_0 rfl rfl ?_
  obtain ⟨f1, hw⟩ := hw
  refine te_getr dHi_reachFrom_1 fHi_26 rfl rfl f1 ?_
  refine tq_bipush (v := (30 : Int32)) dHi_reachFrom_4 tnb_30 ?_
  refine tq_iconst (v := (0 : Int32)) dHi_reachFrom_6 tni_0 ?_
  obtain ⟨a2, e3, f4, hw⟩ := hw
  refine te_callV mv_Ro_fill (ci := 7) (dc := 0) (as := [vI (30 : Int32), vI (0 : Int32)]) (rest := []) kHi_57 rfl (Nat.le_of_ble_eq_true rfl) (Nat.le_of_ble_eq_true rfl) rfl rfl e3 f4 (Nat.le_of_ble_eq_true rfl) dHi_reachFrom_7 (s_Ro_fill hw) (fun _ _ hx => False.elim hx) (tk_v fun h5 hw => ?_)
  refine tq_aload_n dHi_reachFrom_10 rfl rfl ?_
  obtain ⟨f6, hw⟩ := hw
  refine te_getr dHi_reachFrom_11 fHi_26 rfl rfl f6 ?_
  refine tq_iload_n dHi_reachFrom_14 rfl rfl ?_
  refine tq_iconst (v := (1 : Int32)) dHi_reachFrom_15 tni_1 ?_
  obtain ⟨a7, e8, f9, hw⟩ := hw
  refine te_callV mv_Ro_put (ci := 7) (dc := 0) (as := [vI x1, vI (1 : Int32)]) (rest := []) kHi_40 rfl (Nat.le_of_ble_eq_true rfl) (Nat.le_of_ble_eq_true rfl) rfl rfl e8 f9 (Nat.le_of_ble_eq_true rfl) dHi_reachFrom_16 (s_Ro_put hw) (fun _ _ hx => False.elim hx) (tk_v fun h10 hw => ?_)
  refine tq_iload_n dHi_reachFrom_19 rfl rfl ?_
  refine tq_istore_n (ls' := [some (vR (some o)), some (vI x1), some (vI x1)]) dHi_reachFrom_20 rfl (Nat.le_of_ble_eq_true rfl) rfl ?_
  refine tpR.fo (ls' := [some (vR (some o)), none, some (vI x1)]) ?_ (And.intro rfl (And.intro rfl trivial))
  obtain ⟨n, hw⟩ := hw
  exact s_Hi_reachFrom_21 n _ _ _ hw
/-! T$History.reaches -/
theorem dHi_reaches_0 : decode (mB Hi_reaches) 0 = .ok (.aload_n 0, 1) := by decide +kernel
theorem dHi_reaches_1 : decode (mB Hi_reaches) 1 = .ok (.iload_n 1, 1) := by decide +kernel
theorem dHi_reaches_2 : decode (mB Hi_reaches) 2 = .ok (.invokevirtual 44, 3) := by decide +kernel
theorem dHi_reaches_5 : decode (mB Hi_reaches) 5 = .ok (.aload_n 0, 1) := by decide +kernel
theorem dHi_reaches_6 : decode (mB Hi_reaches) 6 = .ok (.getfield 26, 3) := by decide +kernel
theorem dHi_reaches_9 : decode (mB Hi_reaches) 9 = .ok (.iload_n 2, 1) := by decide +kernel
theorem dHi_reaches_10 : decode (mB Hi_reaches) 10 = .ok (.invokevirtual 36, 3) := by decide +kernel
theorem dHi_reaches_13 : decode (mB Hi_reaches) 13 = .ok (.iconst 1, 1) := by decide +kernel
theorem dHi_reaches_14 : decode (mB Hi_reaches) 14 = .ok (.if_icmp .ne 7, 3) := by decide +kernel
theorem dHi_reaches_17 : decode (mB Hi_reaches) 17 = .ok (.iconst 1, 1) := by decide +kernel
theorem dHi_reaches_18 : decode (mB Hi_reaches) 18 = .ok (.goto 4, 3) := by decide +kernel
theorem dHi_reaches_21 : decode (mB Hi_reaches) 21 = .ok (.iconst 0, 1) := by decide +kernel
theorem dHi_reaches_22 : decode (mB Hi_reaches) 22 = .ok (.ireturn, 1) := by decide +kernel
def w_Hi_reaches (o : Nat) (x1 : Int32) (x2 : Int32) (h : tpH) (R : Int32 → tpH → Prop) : Prop :=
  hT h o = 3 ∧ (w_Hi_reachFrom o x1 h (fun h2 => hT h2 o = 3 ∧ (∃ a4, (hR h2 o 3) = some a4 ∧ hT h2 a4 = 8 ∧ (w_Ro_at a4 x2 h2 (fun v8 h7 => (¬ v8 = (1 : Int32) → (R (0 : Int32) h7)) ∧ (v8 = (1 : Int32) → (R (1 : Int32) h7)))))))
theorem s_Hi_reaches {o : Nat} {x1 : Int32} {x2 : Int32} {h : tpH} {R : Int32 → tpH → Prop} (hw : w_Hi_reaches o x1 x2 h R) : tpC Hi_reaches 2 [vR (some o), vI x1, vI x2] h (tpOi R (fun _ _ => False)) := by
  refine tpC_of mv_Hi_reaches.2.2.2.1 rfl rfl (Nat.le_of_ble_eq_true rfl) ?_
  show tpR Hi_reaches 2 h _ _ 0 [some (vR (some o)), some (vI x1), some (vI x2)] [] h
  unfold w_Hi_reaches at hw
  refine tq_aload_n dHi_reaches_0 rfl rfl ?_
  refine tq_iload_n dHi_reaches_1 rfl rfl ?_
  obtain ⟨f1, hw⟩ := hw
  refine te_callV mv_Hi_reachFrom (ci := 2) (dc := 1) (as := [vI x1]) (rest := []) kHi_44 rfl (Nat.le_of_ble_eq_true rfl) (Nat.le_of_ble_eq_true rfl) rfl rfl rfl f1 (Nat.le_of_ble_eq_true rfl) dHi_reaches_2 (s_Hi_reachFrom hw) (fun _ _ hx => False.elim hx) (tk_v fun h2 hw => ?_)
  refine tq_aload_n dHi_reaches_5 rfl rfl ?_
  obtain ⟨f3, hw⟩ := hw
  refine te_getr dHi_reaches_6 fHi_26 rfl rfl f3 ?_
  refine tq_iload_n dHi_reaches_9 rfl rfl ?_
  obtain ⟨a4, e5, f6, hw⟩ := hw
  refine te_callV mv_Ro_at (ci := 7) (dc := 0) (as := [vI x2]) (rest := []) kHi_36 rfl (Nat.le_of_ble_eq_true rfl) (Nat.le_of_ble_eq_true rfl) rfl rfl e5 f6 (Nat.le_of_ble_eq_true rfl) dHi_reaches_10 (s_Ro_at hw) (fun _ _ hx => False.elim hx) (tk_i fun v8 h7 hw => ?_)
  refine tq_iconst (v := (1 : Int32)) dHi_reaches_13 tni_1 ?_
  refine tq_icmpne (tgt := 21) dHi_reaches_14 (by decide) (fun c9 => ?_) (fun c9 => ?_)
  · have hw := hw.1 c9
    refine tq_iconst (v := (0 : Int32)) dHi_reaches_21 tni_0 ?_
    exact tq_iret rfl (by decide) dHi_reaches_22 hw
  · have hw := hw.2 c9
    refine tq_iconst (v := (1 : Int32)) dHi_reaches_17 tni_1 ?_
    refine tq_goto (tgt := 22) dHi_reaches_18 (by decide) ?_
    exact tq_iret rfl (by decide) dHi_reaches_22 hw
/-! T$History.baseOf -/
theorem dHi_baseOf_0 : decode (mB Hi_baseOf) 0 = .ok (.iload_n 1, 1) := by decide +kernel
theorem dHi_baseOf_1 : decode (mB Hi_baseOf) 1 = .ok (.iload_n 2, 1) := by decide +kernel
theorem dHi_baseOf_2 : decode (mB Hi_baseOf) 2 = .ok (.invokestatic 47, 3) := by decide +kernel
theorem dHi_baseOf_5 : decode (mB Hi_baseOf) 5 = .ok (.istore_n 3, 1) := by decide +kernel
theorem dHi_baseOf_6 : decode (mB Hi_baseOf) 6 = .ok (.iload_n 3, 1) := by decide +kernel
theorem dHi_baseOf_7 : decode (mB Hi_baseOf) 7 = .ok (.ifCond .lt 29, 3) := by decide +kernel
theorem dHi_baseOf_10 : decode (mB Hi_baseOf) 10 = .ok (.aload_n 0, 1) := by decide +kernel
theorem dHi_baseOf_11 : decode (mB Hi_baseOf) 11 = .ok (.iload_n 1, 1) := by decide +kernel
theorem dHi_baseOf_12 : decode (mB Hi_baseOf) 12 = .ok (.iload_n 3, 1) := by decide +kernel
theorem dHi_baseOf_13 : decode (mB Hi_baseOf) 13 = .ok (.invokevirtual 53, 3) := by decide +kernel
theorem dHi_baseOf_16 : decode (mB Hi_baseOf) 16 = .ok (.ifCond .eq 14, 3) := by decide +kernel
theorem dHi_baseOf_19 : decode (mB Hi_baseOf) 19 = .ok (.aload_n 0, 1) := by decide +kernel
theorem dHi_baseOf_20 : decode (mB Hi_baseOf) 20 = .ok (.iload_n 2, 1) := by decide +kernel
theorem dHi_baseOf_21 : decode (mB Hi_baseOf) 21 = .ok (.iload_n 3, 1) := by decide +kernel
theorem dHi_baseOf_22 : decode (mB Hi_baseOf) 22 = .ok (.invokevirtual 53, 3) := by decide +kernel
theorem dHi_baseOf_25 : decode (mB Hi_baseOf) 25 = .ok (.ifCond .eq 5, 3) := by decide +kernel
theorem dHi_baseOf_28 : decode (mB Hi_baseOf) 28 = .ok (.iload_n 3, 1) := by decide +kernel
theorem dHi_baseOf_29 : decode (mB Hi_baseOf) 29 = .ok (.ireturn, 1) := by decide +kernel
theorem dHi_baseOf_30 : decode (mB Hi_baseOf) 30 = .ok (.iinc 3 (-1), 3) := by decide +kernel
theorem dHi_baseOf_33 : decode (mB Hi_baseOf) 33 = .ok (.goto (-27), 3) := by decide +kernel
theorem dHi_baseOf_36 : decode (mB Hi_baseOf) 36 = .ok (.iconst (-1), 1) := by decide +kernel
theorem dHi_baseOf_37 : decode (mB Hi_baseOf) 37 = .ok (.ireturn, 1) := by decide +kernel
def b_Hi_baseOf_6 (R : Int32 → tpH → Prop) (Y : Nat → Int32 → Int32 → Int32 → tpH → Prop) (o : Nat) (x1 : Int32) (x2 : Int32) (x3 : Int32) (h : tpH) : Prop :=
  (x3 < 0 → (R (-1 : Int32) h)) ∧ (¬ x3 < 0 → (hT h o = 3 ∧ (w_Hi_reaches o x1 x3 h (fun v4 h3 => (v4 = 0 → (Y o x1 x2 (x3 + (-1 : Int32)) h3)) ∧ (¬ v4 = 0 → (hT h3 o = 3 ∧ (w_Hi_reaches o x2 x3 h3 (fun v8 h7 => (v8 = 0 → (Y o x1 x2 (x3 + (-1 : Int32)) h7)) ∧ (¬ v8 = 0 → (R x3 h7))))))))))
def w_Hi_baseOf_6 (R : Int32 → tpH → Prop) : Nat → Nat → Int32 → Int32 → Int32 → tpH → Prop
  | 0 => fun _ _ _ _ _ => False
  | n + 1 => b_Hi_baseOf_6 R (w_Hi_baseOf_6 R n)
def w_Hi_baseOf (o : Nat) (x1 : Int32) (x2 : Int32) (h : tpH) (R : Int32 → tpH → Prop) : Prop :=
  ∃ n, w_Hi_baseOf_6 R n o x1 x2 (if x2 < x1 then x2 else x1) h
theorem s_Hi_baseOf_6 {h0 : tpH} {av : List tpV} {R : Int32 → tpH → Prop} : ∀ (n : Nat) (o : Nat) (x1 : Int32) (x2 : Int32) (x3 : Int32) (h : tpH), w_Hi_baseOf_6 R n o x1 x2 x3 h → tpR Hi_baseOf 3 h0 av (tpOi R (fun _ _ => False)) 6 [some (vR (some o)), some (vI x1), some (vI x2), some (vI x3)] [] h := by
  intro n
  induction n with
  | zero => intro o x1 x2 x3 h hw; exact False.elim hw
  | succ n ih =>
    intro o x1 x2 x3 h hw
    change b_Hi_baseOf_6 R (w_Hi_baseOf_6 R n) o x1 x2 x3 h at hw
    unfold b_Hi_baseOf_6 at hw
    refine tq_iload_n dHi_baseOf_6 rfl rfl ?_
    refine tq_iflt (tgt := 36) dHi_baseOf_7 (by decide) (fun c1 => ?_) (fun c1 => ?_)
    · have hw := hw.1 c1
      refine tq_iconst (v := (-1 : Int32)) dHi_baseOf_36 tni_m1 ?_
      exact tq_iret rfl rfl dHi_baseOf_37 hw
    · have hw := hw.2 c1
      refine tq_aload_n dHi_baseOf_10 rfl rfl ?_
      refine tq_iload_n dHi_baseOf_11 rfl rfl ?_
      refine tq_iload_n dHi_baseOf_12 rfl rfl ?_
      obtain ⟨f2, hw⟩ := hw
      refine te_callV mv_Hi_reaches (ci := 2) (dc := 2) (as := [vI x1, vI x3]) (rest := []) kHi_53 rfl (Nat.le_of_ble_eq_true rfl) (Nat.le_of_ble_eq_true rfl) rfl rfl rfl f2 (Nat.le_of_ble_eq_true rfl) dHi_baseOf_13 (s_Hi_reaches hw) (fun _ _ hx => False.elim hx) (tk_i fun v4 h3 hw => ?_)
      refine tq_ifeq (tgt := 30) dHi_baseOf_16 (by decide) (fun c5 => ?_) (fun c5 => ?_)
      · have hw := hw.1 c5
        refine tq_inc (k := (-1 : Int32)) (ls' := [some (vR (some o)), some (vI x1), some (vI x2), some (vI (x3 + (-1 : Int32)))]) dHi_baseOf_30 rfl tni_m1 (Nat.le_of_ble_eq_true rfl) rfl ?_
        refine tq_goto (tgt := 6) dHi_baseOf_33 (by decide) ?_
        refine tpR.fo (ls' := [some (vR (some o)), some (vI x1), some (vI x2), some (vI (x3 + (-1 : Int32)))]) ?_ (And.intro rfl (And.intro rfl (And.intro rfl (And.intro rfl trivial))))
        exact ih _ _ _ _ _ hw
      · have hw := hw.2 c5
        refine tq_aload_n dHi_baseOf_19 rfl rfl ?_
        refine tq_iload_n dHi_baseOf_20 rfl rfl ?_
        refine tq_iload_n dHi_baseOf_21 rfl rfl ?_
        obtain ⟨f6, hw⟩ := hw
        refine te_callV mv_Hi_reaches (ci := 2) (dc := 2) (as := [vI x2, vI x3]) (rest := []) kHi_53 rfl (Nat.le_of_ble_eq_true rfl) (Nat.le_of_ble_eq_true rfl) rfl rfl rfl f6 (Nat.le_of_ble_eq_true rfl) dHi_baseOf_22 (s_Hi_reaches hw) (fun _ _ hx => False.elim hx) (tk_i fun v8 h7 hw => ?_)
        refine tq_ifeq (tgt := 30) dHi_baseOf_25 (by decide) (fun c9 => ?_) (fun c9 => ?_)
        · have hw := hw.1 c9
          refine tq_inc (k := (-1 : Int32)) (ls' := [some (vR (some o)), some (vI x1), some (vI x2), some (vI (x3 + (-1 : Int32)))]) dHi_baseOf_30 rfl tni_m1 (Nat.le_of_ble_eq_true rfl) rfl ?_
          refine tq_goto (tgt := 6) dHi_baseOf_33 (by decide) ?_
          refine tpR.fo (ls' := [some (vR (some o)), some (vI x1), some (vI x2), some (vI (x3 + (-1 : Int32)))]) ?_ (And.intro rfl (And.intro rfl (And.intro rfl (And.intro rfl trivial))))
          exact ih _ _ _ _ _ hw
        · have hw := hw.2 c9
          refine tq_iload_n dHi_baseOf_28 rfl rfl ?_
          exact tq_iret rfl rfl dHi_baseOf_29 hw
theorem s_Hi_baseOf {o : Nat} {x1 : Int32} {x2 : Int32} {h : tpH} {R : Int32 → tpH → Prop} (hw : w_Hi_baseOf o x1 x2 h R) : tpC Hi_baseOf 3 [vR (some o), vI x1, vI x2] h (tpOi R (fun _ _ => False)) := by
  refine tpC_of mv_Hi_baseOf.2.2.2.1 rfl rfl (Nat.le_of_ble_eq_true rfl) ?_
  show tpR Hi_baseOf 3 h _ _ 0 [some (vR (some o)), some (vI x1), some (vI x2), none] [] h
  unfold w_Hi_baseOf at hw
  refine tq_iload_n dHi_baseOf_0 rfl rfl ?_
  refine tq_iload_n dHi_baseOf_1 rfl rfl ?_
  refine tq_min mHi_47 (Nat.le_of_ble_eq_true rfl) (Nat.le_of_ble_eq_true rfl) dHi_baseOf_2 ?_
  refine tq_istore_n (ls' := [some (vR (some o)), some (vI x1), some (vI x2), some (vI (if x2 < x1 then x2 else x1))]) dHi_baseOf_5 rfl (Nat.le_of_ble_eq_true rfl) rfl ?_
  refine tpR.fo (ls' := [some (vR (some o)), some (vI x1), some (vI x2), some (vI (if x2 < x1 then x2 else x1))]) ?_ (And.intro rfl (And.intro rfl (And.intro rfl (And.intro rfl trivial))))
  obtain ⟨n, hw⟩ := hw
  exact s_Hi_baseOf_6 n _ _ _ _ _ hw
/-! T$History.layLine -/
theorem dHi_layLine_0 : decode (mB Hi_layLine) 0 = .ok (.aload_n 0, 1) := by decide +kernel
theorem dHi_layLine_1 : decode (mB Hi_layLine) 1 = .ok (.iconst 0, 1) := by decide +kernel
theorem dHi_layLine_2 : decode (mB Hi_layLine) 2 = .ok (.putfield 60, 3) := by decide +kernel
theorem dHi_layLine_5 : decode (mB Hi_layLine) 5 = .ok (.iload_n 2, 1) := by decide +kernel
theorem dHi_layLine_6 : decode (mB Hi_layLine) 6 = .ok (.istore_n 3, 1) := by decide +kernel
theorem dHi_layLine_7 : decode (mB Hi_layLine) 7 = .ok (.iconst 0, 1) := by decide +kernel
theorem dHi_layLine_8 : decode (mB Hi_layLine) 8 = .ok (.istore 4, 2) := by decide +kernel
theorem dHi_layLine_10 : decode (mB Hi_layLine) 10 = .ok (.iload 4, 2) := by decide +kernel
theorem dHi_layLine_12 : decode (mB Hi_layLine) 12 = .ok (.bipush 30, 2) := by decide +kernel
theorem dHi_layLine_14 : decode (mB Hi_layLine) 14 = .ok (.if_icmp .ge 52, 3) := by decide +kernel
theorem dHi_layLine_17 : decode (mB Hi_layLine) 17 = .ok (.iload_n 3, 1) := by decide +kernel
theorem dHi_layLine_18 : decode (mB Hi_layLine) 18 = .ok (.iconst (-1), 1) := by decide +kernel
theorem dHi_layLine_19 : decode (mB Hi_layLine) 19 = .ok (.if_icmp .eq 47, 3) := by decide +kernel
theorem dHi_layLine_22 : decode (mB Hi_layLine) 22 = .ok (.aload_n 0, 1) := by decide +kernel
theorem dHi_layLine_23 : decode (mB Hi_layLine) 23 = .ok (.getfield 29, 3) := by decide +kernel
theorem dHi_layLine_26 : decode (mB Hi_layLine) 26 = .ok (.aload_n 0, 1) := by decide +kernel
theorem dHi_layLine_27 : decode (mB Hi_layLine) 27 = .ok (.getfield 60, 3) := by decide +kernel
theorem dHi_layLine_30 : decode (mB Hi_layLine) 30 = .ok (.iload_n 3, 1) := by decide +kernel
theorem dHi_layLine_31 : decode (mB Hi_layLine) 31 = .ok (.invokevirtual 40, 3) := by decide +kernel
theorem dHi_layLine_34 : decode (mB Hi_layLine) 34 = .ok (.aload_n 0, 1) := by decide +kernel
theorem dHi_layLine_35 : decode (mB Hi_layLine) 35 = .ok (.dup, 1) := by decide +kernel
theorem dHi_layLine_36 : decode (mB Hi_layLine) 36 = .ok (.getfield 60, 3) := by decide +kernel
theorem dHi_layLine_39 : decode (mB Hi_layLine) 39 = .ok (.iconst 1, 1) := by decide +kernel
theorem dHi_layLine_40 : decode (mB Hi_layLine) 40 = .ok (.iadd, 1) := by decide +kernel
theorem dHi_layLine_41 : decode (mB Hi_layLine) 41 = .ok (.putfield 60, 3) := by decide +kernel
theorem dHi_layLine_44 : decode (mB Hi_layLine) 44 = .ok (.iload_n 3, 1) := by decide +kernel
theorem dHi_layLine_45 : decode (mB Hi_layLine) 45 = .ok (.iload_n 1, 1) := by decide +kernel
theorem dHi_layLine_46 : decode (mB Hi_layLine) 46 = .ok (.if_icmp .ne 5, 3) := by decide +kernel
theorem dHi_layLine_49 : decode (mB Hi_layLine) 49 = .ok (.iconst 1, 1) := by decide +kernel
theorem dHi_layLine_50 : decode (mB Hi_layLine) 50 = .ok (.ireturn, 1) := by decide +kernel
theorem dHi_layLine_51 : decode (mB Hi_layLine) 51 = .ok (.aload_n 0, 1) := by decide +kernel
theorem dHi_layLine_52 : decode (mB Hi_layLine) 52 = .ok (.getfield 20, 3) := by decide +kernel
theorem dHi_layLine_55 : decode (mB Hi_layLine) 55 = .ok (.iload_n 3, 1) := by decide +kernel
theorem dHi_layLine_56 : decode (mB Hi_layLine) 56 = .ok (.invokevirtual 36, 3) := by decide +kernel
theorem dHi_layLine_59 : decode (mB Hi_layLine) 59 = .ok (.istore_n 3, 1) := by decide +kernel
theorem dHi_layLine_60 : decode (mB Hi_layLine) 60 = .ok (.iinc 4 1, 3) := by decide +kernel
theorem dHi_layLine_63 : decode (mB Hi_layLine) 63 = .ok (.goto (-53), 3) := by decide +kernel
theorem dHi_layLine_66 : decode (mB Hi_layLine) 66 = .ok (.iconst 0, 1) := by decide +kernel
theorem dHi_layLine_67 : decode (mB Hi_layLine) 67 = .ok (.ireturn, 1) := by decide +kernel
def b_Hi_layLine_10 (R : Int32 → tpH → Prop) (Y : Nat → Int32 → Int32 → Int32 → tpH → Prop) (o : Nat) (x1 : Int32) (x3 : Int32) (x4 : Int32) (h : tpH) : Prop :=
  ((30 : Int32) ≤ x4 → (R (0 : Int32) h)) ∧ (¬ (30 : Int32) ≤ x4 → ((x3 = (-1 : Int32) → (R (0 : Int32) h)) ∧ (¬ x3 = (-1 : Int32) → (hT h o = 3 ∧ (∃ a4, (hR h o 4) = some a4 ∧ hT h a4 = 8 ∧ (w_Ro_put a4 (hI h o 6) x3 h (fun h7 => hT h7 o = 3 ∧ (∀ h9, h9 = sI h7 o 6 ((hI h7 o 6) + (1 : Int32)) → ((¬ x3 = x1 → (∃ a12, (hR h9 o 1) = some a12 ∧ hT h9 a12 = 8 ∧ (w_Ro_at a12 x3 h9 (fun v16 h15 => Y o x1 v16 (x4 + (1 : Int32)) h15)))) ∧ (x3 = x1 → (R (1 : Int32) h9)))))))))))
def w_Hi_layLine_10 (R : Int32 → tpH → Prop) : Nat → Nat → Int32 → Int32 → Int32 → tpH → Prop
  | 0 => fun _ _ _ _ _ => False
  | n + 1 => b_Hi_layLine_10 R (w_Hi_layLine_10 R n)
def w_Hi_layLine (o : Nat) (x1 : Int32) (x2 : Int32) (h : tpH) (R : Int32 → tpH → Prop) : Prop :=
  hT h o = 3 ∧ (∀ h2, h2 = sI h o 6 (0 : Int32) → (∃ n, w_Hi_layLine_10 R n o x1 x2 (0 : Int32) h2))
theorem s_Hi_layLine_10 {h0 : tpH} {av : List tpV} {R : Int32 → tpH → Prop} : ∀ (n : Nat) (o : Nat) (x1 : Int32) (x3 : Int32) (x4 : Int32) (h : tpH), w_Hi_layLine_10 R n o x1 x3 x4 h → tpR Hi_layLine 1 h0 av (tpOi R (fun _ _ => False)) 10 [some (vR (some o)), some (vI x1), none, some (vI x3), some (vI x4)] [] h := by
  intro n
  induction n with
  | zero => intro o x1 x3 x4 h hw; exact False.elim hw
  | succ n ih =>
    intro o x1 x3 x4 h hw
    change b_Hi_layLine_10 R (w_Hi_layLine_10 R n) o x1 x3 x4 h at hw
    unfold b_Hi_layLine_10 at hw
    refine tq_iload dHi_layLine_10 rfl ?_
    refine tq_bipush (v := (30 : Int32)) dHi_layLine_12 tnb_30 ?_
    refine tq_icmpge (tgt := 66) dHi_layLine_14 (by decide) (fun c1 => ?_) (fun c1 => ?_)
    · have hw := hw.1 c1
      refine tq_iconst (v := (0 : Int32)) dHi_layLine_66 tni_0 ?_
      exact tq_iret rfl (by decide) dHi_layLine_67 hw
    · have hw := hw.2 c1
      refine tq_iload_n dHi_layLine_17 rfl rfl ?_
      refine tq_iconst (v := (-1 : Int32)) dHi_layLine_18 tni_m1 ?_
      refine tq_icmpeq (tgt := 66) dHi_layLine_19 (by decide) (fun c2 => ?_) (fun c2 => ?_)
      · have hw := hw.1 c2
        refine tq_iconst (v := (0 : Int32)) dHi_layLine_66 tni_0 ?_
        exact tq_iret rfl (by decide) dHi_layLine_67 hw
      · have hw := hw.2 c2
        refine tq_aload_n dHi_layLine_22 rfl rfl ?_
        obtain ⟨f3, hw⟩ := hw
        refine te_getr dHi_layLine_23 fHi_29 rfl rfl f3 ?_
        refine tq_aload_n dHi_layLine_26 rfl rfl ?_
        refine te_geti dHi_layLine_27 fHi_60 rfl rfl f3 ?_
        refine tq_iload_n dHi_layLine_30 rfl rfl ?_
        obtain ⟨a4, e5, f6, hw⟩ := hw
        refine te_callV mv_Ro_put (ci := 7) (dc := 0) (as := [vI (hI h o 6), vI x3]) (rest := []) kHi_40 rfl (Nat.le_of_ble_eq_true rfl) (Nat.le_of_ble_eq_true rfl) rfl rfl e5 f6 (Nat.le_of_ble_eq_true rfl) dHi_layLine_31 (s_Ro_put hw) (fun _ _ hx => False.elim hx) (tk_v fun h7 hw => ?_)
        refine tq_aload_n dHi_layLine_34 rfl rfl ?_
        refine tq_dup dHi_layLine_35 rfl ?_
        obtain ⟨f8, hw⟩ := hw
        refine te_geti dHi_layLine_36 fHi_60 rfl rfl f8 ?_
        refine tq_iconst (v := (1 : Int32)) dHi_layLine_39 tni_1 ?_
        refine tq_iadd dHi_layLine_40 ?_
        refine te_puti dHi_layLine_41 pHi_60 rfl rfl rfl f8 ⟨rfl, rfl⟩ (fun h9 e10 => ?_)
        have hw := hw h9 e10
        refine tq_iload_n dHi_layLine_44 rfl rfl ?_
        refine tq_iload_n dHi_layLine_45 rfl rfl ?_
        refine tq_icmpne (tgt := 51) dHi_layLine_46 (by decide) (fun c11 => ?_) (fun c11 => ?_)
        · have hw := hw.1 c11
          refine tq_aload_n dHi_layLine_51 rfl rfl ?_
          refine te_getr dHi_layLine_52 fHi_20 rfl rfl (by rw [e10]; exact f8) ?_
          refine tq_iload_n dHi_layLine_55 rfl rfl ?_
          obtain ⟨a12, e13, f14, hw⟩ := hw
          refine te_callV mv_Ro_at (ci := 7) (dc := 0) (as := [vI x3]) (rest := []) kHi_36 rfl (Nat.le_of_ble_eq_true rfl) (Nat.le_of_ble_eq_true rfl) rfl rfl e13 f14 (Nat.le_of_ble_eq_true rfl) dHi_layLine_56 (s_Ro_at hw) (fun _ _ hx => False.elim hx) (tk_i fun v16 h15 hw => ?_)
          refine tq_istore_n (ls' := [some (vR (some o)), some (vI x1), none, some (vI v16), some (vI x4)]) dHi_layLine_59 rfl (Nat.le_of_ble_eq_true rfl) rfl ?_
          refine tq_inc (k := (1 : Int32)) (ls' := [some (vR (some o)), some (vI x1), none, some (vI v16), some (vI (x4 + (1 : Int32)))]) dHi_layLine_60 rfl tni_1 (Nat.le_of_ble_eq_true rfl) rfl ?_
          refine tq_goto (tgt := 10) dHi_layLine_63 (by decide) ?_
          refine tpR.fo (ls' := [some (vR (some o)), some (vI x1), none, some (vI v16), some (vI (x4 + (1 : Int32)))]) ?_ (And.intro rfl (And.intro rfl (And.intro rfl (And.intro rfl trivial))))
          exact ih _ _ _ _ _ hw
        · have hw := hw.2 c11
          refine tq_iconst (v := (1 : Int32)) dHi_layLine_49 tni_1 ?_
          exact tq_iret rfl (by decide) dHi_layLine_50 hw
theorem s_Hi_layLine {o : Nat} {x1 : Int32} {x2 : Int32} {h : tpH} {R : Int32 → tpH → Prop} (hw : w_Hi_layLine o x1 x2 h R) : tpC Hi_layLine 1 [vR (some o), vI x1, vI x2] h (tpOi R (fun _ _ => False)) := by
  refine tpC_of mv_Hi_layLine.2.2.2.1 rfl rfl (Nat.le_of_ble_eq_true rfl) ?_
  show tpR Hi_layLine 1 h _ _ 0 [some (vR (some o)), some (vI x1), some (vI x2), none, none] [] h
  unfold w_Hi_layLine at hw
  refine tq_aload_n dHi_layLine_0 rfl rfl ?_
  refine tq_iconst (v := (0 : Int32)) dHi_layLine_1 tni_0 ?_
  obtain ⟨f1, hw⟩ := hw
  refine te_puti dHi_layLine_2 pHi_60 rfl rfl rfl f1 ⟨rfl, rfl⟩ (fun h2 e3 => ?_)
  have hw := hw h2 e3
  refine tq_iload_n dHi_layLine_5 rfl rfl ?_
  refine tq_istore_n (ls' := [some (vR (some o)), some (vI x1), some (vI x2), some (vI x2), none]) dHi_layLine_6 rfl (Nat.le_of_ble_eq_true rfl) rfl ?_
  refine tq_iconst (v := (0 : Int32)) dHi_layLine_7 tni_0 ?_
  refine tq_istore (ls' := [some (vR (some o)), some (vI x1), some (vI x2), some (vI x2), some (vI (0 : Int32))]) dHi_layLine_8 (Nat.le_of_ble_eq_true rfl) rfl ?_
  refine tpR.fo (ls' := [some (vR (some o)), some (vI x1), none, some (vI x2), some (vI (0 : Int32))]) ?_ (And.intro rfl (And.intro rfl (And.intro rfl (And.intro rfl trivial))))
  obtain ⟨n, hw⟩ := hw
  exact s_Hi_layLine_10 n _ _ _ _ _ hw
/-! T$History.onLine -/
theorem dHi_onLine_0 : decode (mB Hi_onLine) 0 = .ok (.aload_n 0, 1) := by decide +kernel
theorem dHi_onLine_1 : decode (mB Hi_onLine) 1 = .ok (.getfield 29, 3) := by decide +kernel
theorem dHi_onLine_4 : decode (mB Hi_onLine) 4 = .ok (.aload_n 0, 1) := by decide +kernel
theorem dHi_onLine_5 : decode (mB Hi_onLine) 5 = .ok (.getfield 60, 3) := by decide +kernel
theorem dHi_onLine_8 : decode (mB Hi_onLine) 8 = .ok (.iconst 1, 1) := by decide +kernel
theorem dHi_onLine_9 : decode (mB Hi_onLine) 9 = .ok (.isub, 1) := by decide +kernel
theorem dHi_onLine_10 : decode (mB Hi_onLine) 10 = .ok (.iload_n 1, 1) := by decide +kernel
theorem dHi_onLine_11 : decode (mB Hi_onLine) 11 = .ok (.isub, 1) := by decide +kernel
theorem dHi_onLine_12 : decode (mB Hi_onLine) 12 = .ok (.invokevirtual 36, 3) := by decide +kernel
theorem dHi_onLine_15 : decode (mB Hi_onLine) 15 = .ok (.ireturn, 1) := by decide +kernel
def w_Hi_onLine (o : Nat) (x1 : Int32) (h : tpH) (R : Int32 → tpH → Prop) : Prop :=
  hT h o = 3 ∧ (∃ a2, (hR h o 4) = some a2 ∧ hT h a2 = 8 ∧ (w_Ro_at a2 (((hI h o 6) - (1 : Int32)) - x1) h (fun v6 h5 => R v6 h5)))
theorem s_Hi_onLine {o : Nat} {x1 : Int32} {h : tpH} {R : Int32 → tpH → Prop} (hw : w_Hi_onLine o x1 h R) : tpC Hi_onLine 1 [vR (some o), vI x1] h (tpOi R (fun _ _ => False)) := by
  refine tpC_of mv_Hi_onLine.2.2.2.1 rfl rfl (Nat.le_of_ble_eq_true rfl) ?_
  show tpR Hi_onLine 1 h _ _ 0 [some (vR (some o)), some (vI x1)] [] h
  unfold w_Hi_onLine at hw
  refine tq_aload_n dHi_onLine_0 rfl rfl ?_
  obtain ⟨f1, hw⟩ := hw
  refine te_getr dHi_onLine_1 fHi_29 rfl rfl f1 ?_
  refine tq_aload_n dHi_onLine_4 rfl rfl ?_
  refine te_geti dHi_onLine_5 fHi_60 rfl rfl f1 ?_
  refine tq_iconst (v := (1 : Int32)) dHi_onLine_8 tni_1 ?_
  refine tq_isub dHi_onLine_9 ?_
  refine tq_iload_n dHi_onLine_10 rfl rfl ?_
  refine tq_isub dHi_onLine_11 ?_
  obtain ⟨a2, e3, f4, hw⟩ := hw
  refine te_callV mv_Ro_at (ci := 7) (dc := 0) (as := [vI (((hI h o 6) - (1 : Int32)) - x1)]) (rest := []) kHi_36 rfl (Nat.le_of_ble_eq_true rfl) (Nat.le_of_ble_eq_true rfl) rfl rfl e3 f4 (Nat.le_of_ble_eq_true rfl) dHi_onLine_12 (s_Ro_at hw) (fun _ _ hx => False.elim hx) (tk_i fun v6 h5 hw => ?_)
  exact tq_iret rfl rfl dHi_onLine_15 hw
/-! T$Marks.agree -/
theorem dMa_agree_0 : decode (mB Ma_agree) 0 = .ok (.aload_n 0, 1) := by decide +kernel
theorem dMa_agree_1 : decode (mB Ma_agree) 1 = .ok (.getfield 14, 3) := by decide +kernel
theorem dMa_agree_4 : decode (mB Ma_agree) 4 = .ok (.iload_n 1, 1) := by decide +kernel
theorem dMa_agree_5 : decode (mB Ma_agree) 5 = .ok (.invokevirtual 31, 3) := by decide +kernel
theorem dMa_agree_8 : decode (mB Ma_agree) 8 = .ok (.aload_n 0, 1) := by decide +kernel
theorem dMa_agree_9 : decode (mB Ma_agree) 9 = .ok (.getfield 14, 3) := by decide +kernel
theorem dMa_agree_12 : decode (mB Ma_agree) 12 = .ok (.iload_n 2, 1) := by decide +kernel
theorem dMa_agree_13 : decode (mB Ma_agree) 13 = .ok (.invokevirtual 31, 3) := by decide +kernel
theorem dMa_agree_16 : decode (mB Ma_agree) 16 = .ok (.if_icmp .ne 26, 3) := by decide +kernel
theorem dMa_agree_19 : decode (mB Ma_agree) 19 = .ok (.aload_n 0, 1) := by decide +kernel
theorem dMa_agree_20 : decode (mB Ma_agree) 20 = .ok (.getfield 20, 3) := by decide +kernel
theorem dMa_agree_23 : decode (mB Ma_agree) 23 = .ok (.iload_n 1, 1) := by decide +kernel
theorem dMa_agree_24 : decode (mB Ma_agree) 24 = .ok (.invokevirtual 31, 3) := by decide +kernel
theorem dMa_agree_27 : decode (mB Ma_agree) 27 = .ok (.aload_n 0, 1) := by decide +kernel
theorem dMa_agree_28 : decode (mB Ma_agree) 28 = .ok (.getfield 20, 3) := by decide +kernel
theorem dMa_agree_31 : decode (mB Ma_agree) 31 = .ok (.iload_n 2, 1) := by decide +kernel
theorem dMa_agree_32 : decode (mB Ma_agree) 32 = .ok (.invokevirtual 31, 3) := by decide +kernel
theorem dMa_agree_35 : decode (mB Ma_agree) 35 = .ok (.if_icmp .ne 7, 3) := by decide +kernel
theorem dMa_agree_38 : decode (mB Ma_agree) 38 = .ok (.iconst 1, 1) := by decide +kernel
theorem dMa_agree_39 : decode (mB Ma_agree) 39 = .ok (.goto 4, 3) := by decide +kernel
theorem dMa_agree_42 : decode (mB Ma_agree) 42 = .ok (.iconst 0, 1) := by decide +kernel
theorem dMa_agree_43 : decode (mB Ma_agree) 43 = .ok (.ireturn, 1) := by decide +kernel
def w_Ma_agree (o : Nat) (x1 : Int32) (x2 : Int32) (h : tpH) (R : Int32 → tpH → Prop) : Prop :=
  hT h o = 5 ∧ (∃ a2, (hR h o 0) = some a2 ∧ hT h a2 = 8 ∧ (w_Ro_at a2 x1 h (fun v6 h5 => hT h5 o = 5 ∧ (∃ a8, (hR h5 o 0) = some a8 ∧ hT h5 a8 = 8 ∧ (w_Ro_at a8 x2 h5 (fun v12 h11 => (¬ v6 = v12 → (R (0 : Int32) h11)) ∧ (v6 = v12 → (hT h11 o = 5 ∧ (∃ a15, (hR h11 o 1) = some a15 ∧ hT h11 a15 = 8 ∧ (w_Ro_at a15 x1 h11 (fun v19 h18 => hT h18 o = 5 ∧ (∃ a21, (hR h18 o 1) = some a21 ∧ hT h18 a21 = 8 ∧ (w_Ro_at a21 x2 h18 (fun v25 h24 => (¬ v19 = v25 → (R (0 : Int32) h24)) ∧ (v19 = v25 → (R (1 : Int32) h24))))))))))))))))
theorem s_Ma_agree {o : Nat} {x1 : Int32} {x2 : Int32} {h : tpH} {R : Int32 → tpH → Prop} (hw : w_Ma_agree o x1 x2 h R) : tpC Ma_agree 1 [vR (some o), vI x1, vI x2] h (tpOi R (fun _ _ => False)) := by
  refine tpC_of mv_Ma_agree.2.2.2.1 rfl rfl (Nat.le_of_ble_eq_true rfl) ?_
  show tpR Ma_agree 1 h _ _ 0 [some (vR (some o)), some (vI x1), some (vI x2)] [] h
  unfold w_Ma_agree at hw
  refine tq_aload_n dMa_agree_0 rfl rfl ?_
  obtain ⟨f1, hw⟩ := hw
  refine te_getr dMa_agree_1 fMa_14 rfl rfl f1 ?_
  refine tq_iload_n dMa_agree_4 rfl rfl ?_
  obtain ⟨a2, e3, f4, hw⟩ := hw
  refine te_callV mv_Ro_at (ci := 7) (dc := 0) (as := [vI x1]) (rest := []) kMa_31 rfl (Nat.le_of_ble_eq_true rfl) (Nat.le_of_ble_eq_true rfl) rfl rfl e3 f4 (Nat.le_of_ble_eq_true rfl) dMa_agree_5 (s_Ro_at hw) (fun _ _ hx => False.elim hx) (tk_i fun v6 h5 hw => ?_)
  refine tq_aload_n dMa_agree_8 rfl rfl ?_
  obtain ⟨f7, hw⟩ := hw
  refine te_getr dMa_agree_9 fMa_14 rfl rfl f7 ?_
  refine tq_iload_n dMa_agree_12 rfl rfl ?_
  obtain ⟨a8, e9, f10, hw⟩ := hw
  refine te_callV mv_Ro_at (ci := 7) (dc := 0) (as := [vI x2]) (rest := [vI v6]) kMa_31 rfl (Nat.le_of_ble_eq_true rfl) (Nat.le_of_ble_eq_true rfl) rfl rfl e9 f10 (Nat.le_of_ble_eq_true rfl) dMa_agree_13 (s_Ro_at hw) (fun _ _ hx => False.elim hx) (tk_i fun v12 h11 hw => ?_)
  refine tq_icmpne (tgt := 42) dMa_agree_16 (by decide) (fun c13 => ?_) (fun c13 => ?_)
  · have hw := hw.1 c13
    refine tq_iconst (v := (0 : Int32)) dMa_agree_42 tni_0 ?_
    exact tq_iret rfl (by decide) dMa_agree_43 hw
  · have hw := hw.2 c13
    refine tq_aload_n dMa_agree_19 rfl rfl ?_
    obtain ⟨f14, hw⟩ := hw
    refine te_getr dMa_agree_20 fMa_20 rfl rfl f14 ?_
    refine tq_iload_n dMa_agree_23 rfl rfl ?_
    obtain ⟨a15, e16, f17, hw⟩ := hw
    refine te_callV mv_Ro_at (ci := 7) (dc := 0) (as := [vI x1]) (rest := []) kMa_31 rfl (Nat.le_of_ble_eq_true rfl) (Nat.le_of_ble_eq_true rfl) rfl rfl e16 f17 (Nat.le_of_ble_eq_true rfl) dMa_agree_24 (s_Ro_at hw) (fun _ _ hx => False.elim hx) (tk_i fun v19 h18 hw => ?_)
    refine tq_aload_n dMa_agree_27 rfl rfl ?_
    obtain ⟨f20, hw⟩ := hw
    refine te_getr dMa_agree_28 fMa_20 rfl rfl f20 ?_
    refine tq_iload_n dMa_agree_31 rfl rfl ?_
    obtain ⟨a21, e22, f23, hw⟩ := hw
    refine te_callV mv_Ro_at (ci := 7) (dc := 0) (as := [vI x2]) (rest := [vI v19]) kMa_31 rfl (Nat.le_of_ble_eq_true rfl) (Nat.le_of_ble_eq_true rfl) rfl rfl e22 f23 (Nat.le_of_ble_eq_true rfl) dMa_agree_32 (s_Ro_at hw) (fun _ _ hx => False.elim hx) (tk_i fun v25 h24 hw => ?_)
    refine tq_icmpne (tgt := 42) dMa_agree_35 (by decide) (fun c26 => ?_) (fun c26 => ?_)
    · have hw := hw.1 c26
      refine tq_iconst (v := (0 : Int32)) dMa_agree_42 tni_0 ?_
      exact tq_iret rfl (by decide) dMa_agree_43 hw
    · have hw := hw.2 c26
      refine tq_iconst (v := (1 : Int32)) dMa_agree_38 tni_1 ?_
      refine tq_goto (tgt := 43) dMa_agree_39 (by decide) ?_
      exact tq_iret rfl (by decide) dMa_agree_43 hw
/-! T$Marks.<init> -/
theorem dMa_init_0 : decode (mB Ma_init) 0 = .ok (.aload_n 0, 1) := by decide +kernel
theorem dMa_init_1 : decode (mB Ma_init) 1 = .ok (.invokespecial 3, 3) := by decide +kernel
theorem dMa_init_4 : decode (mB Ma_init) 4 = .ok (.aload_n 0, 1) := by decide +kernel
theorem dMa_init_5 : decode (mB Ma_init) 5 = .ok (.new 9, 3) := by decide +kernel
theorem dMa_init_8 : decode (mB Ma_init) 8 = .ok (.dup, 1) := by decide +kernel
theorem dMa_init_9 : decode (mB Ma_init) 9 = .ok (.sipush 300, 3) := by decide +kernel
theorem dMa_init_12 : decode (mB Ma_init) 12 = .ok (.invokespecial 11, 3) := by decide +kernel
theorem dMa_init_15 : decode (mB Ma_init) 15 = .ok (.putfield 14, 3) := by decide +kernel
theorem dMa_init_18 : decode (mB Ma_init) 18 = .ok (.aload_n 0, 1) := by decide +kernel
theorem dMa_init_19 : decode (mB Ma_init) 19 = .ok (.new 9, 3) := by decide +kernel
theorem dMa_init_22 : decode (mB Ma_init) 22 = .ok (.dup, 1) := by decide +kernel
theorem dMa_init_23 : decode (mB Ma_init) 23 = .ok (.sipush 300, 3) := by decide +kernel
theorem dMa_init_26 : decode (mB Ma_init) 26 = .ok (.invokespecial 11, 3) := by decide +kernel
theorem dMa_init_29 : decode (mB Ma_init) 29 = .ok (.putfield 20, 3) := by decide +kernel
theorem dMa_init_32 : decode (mB Ma_init) 32 = .ok (.return_, 1) := by decide +kernel
def w_Ma_init (o : Nat) (h : tpH) (R : tpH → Prop) : Prop :=
  ∀ a1 h2, a1 = hZ h → h2 = nC h 8 0 2 → (w_Ro_init a1 (300 : Int32) h2 (fun h5 => hT h5 o = 5 ∧ (∀ h7, h7 = sR h5 o 0 (some a1) → (∀ a9 h10, a9 = hZ h7 → h10 = nC h7 8 0 2 → (w_Ro_init a9 (300 : Int32) h10 (fun h13 => hT h13 o = 5 ∧ (∀ h15, h15 = sR h13 o 1 (some a9) → (R h15))))))))
theorem s_Ma_init {o : Nat} {h : tpH} {R : tpH → Prop} (hw : w_Ma_init o h R) : tpC Ma_init 2 [vR (some o)] h (tpOv R (fun _ _ => False)) := by
  refine tpC_of mi_Ma_init.2.2.2.1 rfl rfl (Nat.le_of_ble_eq_true rfl) ?_
  show tpR Ma_init 2 h _ _ 0 [some (vR (some o))] [] h
  unfold w_Ma_init at hw
  refine tq_aload_n dMa_init_0 rfl rfl ?_
  refine tq_obj oMa_3 (Nat.le_of_ble_eq_true rfl) (Nat.le_of_ble_eq_true rfl) dMa_init_1 ?_
  refine tq_aload_n dMa_init_4 rfl rfl ?_
  refine tq_new (ci := 7) cMa_9 ti_7 rfl dMa_init_5 (fun a1 h2 e3 e4 => ?_)
  have hw := hw a1 h2 e3 e4
  refine tq_dup dMa_init_8 rfl ?_
  refine tq_sipush (v := (300 : Int32)) dMa_init_9 tns_300 ?_
  refine te_init mi_Ro_init (dc := 1) (as := [vI (300 : Int32)]) (rest := [vR (some a1), vR (some o)]) (Or.inl kMa_11) (Nat.le_of_ble_eq_true rfl) (Nat.le_of_ble_eq_true rfl) rfl rfl rfl (Nat.le_of_ble_eq_true rfl) dMa_init_12 (s_Ro_init hw) (fun _ _ hx => hx) (tk_v fun h5 hw => ?_)
  obtain ⟨f6, hw⟩ := hw
  refine te_putr dMa_init_15 pMa_14 rfl rfl rfl f6 (fun h7 e8 => ?_)
  have hw := hw h7 e8
  refine tq_aload_n dMa_init_18 rfl rfl ?_
  refine tq_new (ci := 7) cMa_9 ti_7 rfl dMa_init_19 (fun a9 h10 e11 e12 => ?_)
  have hw := hw a9 h10 e11 e12
  refine tq_dup dMa_init_22 rfl ?_
  refine tq_sipush (v := (300 : Int32)) dMa_init_23 tns_300 ?_
  refine te_init mi_Ro_init (dc := 1) (as := [vI (300 : Int32)]) (rest := [vR (some a9), vR (some o)]) (Or.inl kMa_11) (Nat.le_of_ble_eq_true rfl) (Nat.le_of_ble_eq_true rfl) rfl rfl rfl (Nat.le_of_ble_eq_true rfl) dMa_init_26 (s_Ro_init hw) (fun _ _ hx => hx) (tk_v fun h13 hw => ?_)
  obtain ⟨f14, hw⟩ := hw
  refine te_putr dMa_init_29 pMa_20 rfl rfl rfl f14 (fun h15 e16 => ?_)
  have hw := hw h15 e16
  exact tq_vret rfl dMa_init_32 hw
/-! T$Marks.make -/
theorem dMa_make_0 : decode (mB Ma_make) 0 = .ok (.aload_n 0, 1) := by decide +kernel
theorem dMa_make_1 : decode (mB Ma_make) 1 = .ok (.getfield 23, 3) := by decide +kernel
theorem dMa_make_4 : decode (mB Ma_make) 4 = .ok (.istore_n 3, 1) := by decide +kernel
theorem dMa_make_5 : decode (mB Ma_make) 5 = .ok (.aload_n 0, 1) := by decide +kernel
theorem dMa_make_6 : decode (mB Ma_make) 6 = .ok (.dup, 1) := by decide +kernel
theorem dMa_make_7 : decode (mB Ma_make) 7 = .ok (.getfield 23, 3) := by decide +kernel
theorem dMa_make_10 : decode (mB Ma_make) 10 = .ok (.iconst 1, 1) := by decide +kernel
theorem dMa_make_11 : decode (mB Ma_make) 11 = .ok (.iadd, 1) := by decide +kernel
theorem dMa_make_12 : decode (mB Ma_make) 12 = .ok (.putfield 23, 3) := by decide +kernel
theorem dMa_make_15 : decode (mB Ma_make) 15 = .ok (.aload_n 0, 1) := by decide +kernel
theorem dMa_make_16 : decode (mB Ma_make) 16 = .ok (.getfield 14, 3) := by decide +kernel
theorem dMa_make_19 : decode (mB Ma_make) 19 = .ok (.iload_n 3, 1) := by decide +kernel
theorem dMa_make_20 : decode (mB Ma_make) 20 = .ok (.iload_n 1, 1) := by decide +kernel
theorem dMa_make_21 : decode (mB Ma_make) 21 = .ok (.invokevirtual 27, 3) := by decide +kernel
theorem dMa_make_24 : decode (mB Ma_make) 24 = .ok (.aload_n 0, 1) := by decide +kernel
theorem dMa_make_25 : decode (mB Ma_make) 25 = .ok (.getfield 20, 3) := by decide +kernel
theorem dMa_make_28 : decode (mB Ma_make) 28 = .ok (.iload_n 3, 1) := by decide +kernel
theorem dMa_make_29 : decode (mB Ma_make) 29 = .ok (.iload_n 2, 1) := by decide +kernel
theorem dMa_make_30 : decode (mB Ma_make) 30 = .ok (.invokevirtual 27, 3) := by decide +kernel
theorem dMa_make_33 : decode (mB Ma_make) 33 = .ok (.iload_n 3, 1) := by decide +kernel
theorem dMa_make_34 : decode (mB Ma_make) 34 = .ok (.ireturn, 1) := by decide +kernel
def w_Ma_make (o : Nat) (x1 : Int32) (x2 : Int32) (h : tpH) (R : Int32 → tpH → Prop) : Prop :=
  hT h o = 5 ∧ (∀ h2, h2 = sI h o 2 ((hI h o 2) + (1 : Int32)) → (∃ a4, (hR h2 o 0) = some a4 ∧ hT h2 a4 = 8 ∧ (w_Ro_put a4 (hI h o 2) x1 h2 (fun h7 => hT h7 o = 5 ∧ (∃ a9, (hR h7 o 1) = some a9 ∧ hT h7 a9 = 8 ∧ (w_Ro_put a9 (hI h o 2) x2 h7 (fun h12 => R (hI h o 2) h12)))))))
theorem s_Ma_make {o : Nat} {x1 : Int32} {x2 : Int32} {h : tpH} {R : Int32 → tpH → Prop} (hw : w_Ma_make o x1 x2 h R) : tpC Ma_make 1 [vR (some o), vI x1, vI x2] h (tpOi R (fun _ _ => False)) := by
  refine tpC_of mv_Ma_make.2.2.2.1 rfl rfl (Nat.le_of_ble_eq_true rfl) ?_
  show tpR Ma_make 1 h _ _ 0 [some (vR (some o)), some (vI x1), some (vI x2), none] [] h
  unfold w_Ma_make at hw
  refine tq_aload_n dMa_make_0 rfl rfl ?_
  obtain ⟨f1, hw⟩ := hw
  refine te_geti dMa_make_1 fMa_23 rfl rfl f1 ?_
  refine tq_istore_n (ls' := [some (vR (some o)), some (vI x1), some (vI x2), some (vI (hI h o 2))]) dMa_make_4 rfl (Nat.le_of_ble_eq_true rfl) rfl ?_
  refine tq_aload_n dMa_make_5 rfl rfl ?_
  refine tq_dup dMa_make_6 rfl ?_
  refine te_geti dMa_make_7 fMa_23 rfl rfl f1 ?_
  refine tq_iconst (v := (1 : Int32)) dMa_make_10 tni_1 ?_
  refine tq_iadd dMa_make_11 ?_
  refine te_puti dMa_make_12 pMa_23 rfl rfl rfl f1 ⟨rfl, rfl⟩ (fun h2 e3 => ?_)
  have hw := hw h2 e3
  refine tq_aload_n dMa_make_15 rfl rfl ?_
  refine te_getr dMa_make_16 fMa_14 rfl rfl (by rw [e3]; exact f1) ?_
  refine tq_iload_n dMa_make_19 rfl rfl ?_
  refine tq_iload_n dMa_make_20 rfl rfl ?_
  obtain ⟨a4, e5, f6, hw⟩ := hw
  refine te_callV mv_Ro_put (ci := 7) (dc := 0) (as := [vI (hI h o 2), vI x1]) (rest := []) kMa_27 rfl (Nat.le_of_ble_eq_true rfl) (Nat.le_of_ble_eq_true rfl) rfl rfl e5 f6 (Nat.le_of_ble_eq_true rfl) dMa_make_21 (s_Ro_put hw) (fun _ _ hx => False.elim hx) (tk_v fun h7 hw => ?_)
  refine tq_aload_n dMa_make_24 rfl rfl ?_
  obtain ⟨f8, hw⟩ := hw
  refine te_getr dMa_make_25 fMa_20 rfl rfl f8 ?_
  refine tq_iload_n dMa_make_28 rfl rfl ?_
  refine tq_iload_n dMa_make_29 rfl rfl ?_
  obtain ⟨a9, e10, f11, hw⟩ := hw
  refine te_callV mv_Ro_put (ci := 7) (dc := 0) (as := [vI (hI h o 2), vI x2]) (rest := []) kMa_27 rfl (Nat.le_of_ble_eq_true rfl) (Nat.le_of_ble_eq_true rfl) rfl rfl e10 f11 (Nat.le_of_ble_eq_true rfl) dMa_make_30 (s_Ro_put hw) (fun _ _ hx => False.elim hx) (tk_v fun h12 hw => ?_)
  refine tq_iload_n dMa_make_33 rfl rfl ?_
  exact tq_iret rfl rfl dMa_make_34 hw
/-! T$Marks.kindOf -/
theorem dMa_kindOf_0 : decode (mB Ma_kindOf) 0 = .ok (.aload_n 0, 1) := by decide +kernel
theorem dMa_kindOf_1 : decode (mB Ma_kindOf) 1 = .ok (.getfield 14, 3) := by decide +kernel
theorem dMa_kindOf_4 : decode (mB Ma_kindOf) 4 = .ok (.iload_n 1, 1) := by decide +kernel
theorem dMa_kindOf_5 : decode (mB Ma_kindOf) 5 = .ok (.invokevirtual 31, 3) := by decide +kernel
theorem dMa_kindOf_8 : decode (mB Ma_kindOf) 8 = .ok (.ireturn, 1) := by decide +kernel
def w_Ma_kindOf (o : Nat) (x1 : Int32) (h : tpH) (R : Int32 → tpH → Prop) : Prop :=
  hT h o = 5 ∧ (∃ a2, (hR h o 0) = some a2 ∧ hT h a2 = 8 ∧ (w_Ro_at a2 x1 h (fun v6 h5 => R v6 h5)))
theorem s_Ma_kindOf {o : Nat} {x1 : Int32} {h : tpH} {R : Int32 → tpH → Prop} (hw : w_Ma_kindOf o x1 h R) : tpC Ma_kindOf 1 [vR (some o), vI x1] h (tpOi R (fun _ _ => False)) := by
  refine tpC_of mv_Ma_kindOf.2.2.2.1 rfl rfl (Nat.le_of_ble_eq_true rfl) ?_
  show tpR Ma_kindOf 1 h _ _ 0 [some (vR (some o)), some (vI x1)] [] h
  unfold w_Ma_kindOf at hw
  refine tq_aload_n dMa_kindOf_0 rfl rfl ?_
  obtain ⟨f1, hw⟩ := hw
  refine te_getr dMa_kindOf_1 fMa_14 rfl rfl f1 ?_
  refine tq_iload_n dMa_kindOf_4 rfl rfl ?_
  obtain ⟨a2, e3, f4, hw⟩ := hw
  refine te_callV mv_Ro_at (ci := 7) (dc := 0) (as := [vI x1]) (rest := []) kMa_31 rfl (Nat.le_of_ble_eq_true rfl) (Nat.le_of_ble_eq_true rfl) rfl rfl e3 f4 (Nat.le_of_ble_eq_true rfl) dMa_kindOf_5 (s_Ro_at hw) (fun _ _ hx => False.elim hx) (tk_i fun v6 h5 hw => ?_)
  exact tq_iret rfl rfl dMa_kindOf_8 hw
/-! T$Marks.identityOf -/
theorem dMa_identityOf_0 : decode (mB Ma_identityOf) 0 = .ok (.aload_n 0, 1) := by decide +kernel
theorem dMa_identityOf_1 : decode (mB Ma_identityOf) 1 = .ok (.getfield 20, 3) := by decide +kernel
theorem dMa_identityOf_4 : decode (mB Ma_identityOf) 4 = .ok (.iload_n 1, 1) := by decide +kernel
theorem dMa_identityOf_5 : decode (mB Ma_identityOf) 5 = .ok (.invokevirtual 31, 3) := by decide +kernel
theorem dMa_identityOf_8 : decode (mB Ma_identityOf) 8 = .ok (.ireturn, 1) := by decide +kernel
def w_Ma_identityOf (o : Nat) (x1 : Int32) (h : tpH) (R : Int32 → tpH → Prop) : Prop :=
  hT h o = 5 ∧ (∃ a2, (hR h o 1) = some a2 ∧ hT h a2 = 8 ∧ (w_Ro_at a2 x1 h (fun v6 h5 => R v6 h5)))
theorem s_Ma_identityOf {o : Nat} {x1 : Int32} {h : tpH} {R : Int32 → tpH → Prop} (hw : w_Ma_identityOf o x1 h R) : tpC Ma_identityOf 1 [vR (some o), vI x1] h (tpOi R (fun _ _ => False)) := by
  refine tpC_of mv_Ma_identityOf.2.2.2.1 rfl rfl (Nat.le_of_ble_eq_true rfl) ?_
  show tpR Ma_identityOf 1 h _ _ 0 [some (vR (some o)), some (vI x1)] [] h
  unfold w_Ma_identityOf at hw
  refine tq_aload_n dMa_identityOf_0 rfl rfl ?_
  obtain ⟨f1, hw⟩ := hw
  refine te_getr dMa_identityOf_1 fMa_20 rfl rfl f1 ?_
  refine tq_iload_n dMa_identityOf_4 rfl rfl ?_
  obtain ⟨a2, e3, f4, hw⟩ := hw
  refine te_callV mv_Ro_at (ci := 7) (dc := 0) (as := [vI x1]) (rest := []) kMa_31 rfl (Nat.le_of_ble_eq_true rfl) (Nat.le_of_ble_eq_true rfl) rfl rfl e3 f4 (Nat.le_of_ble_eq_true rfl) dMa_identityOf_5 (s_Ro_at hw) (fun _ _ hx => False.elim hx) (tk_i fun v6 h5 hw => ?_)
  exact tq_iret rfl rfl dMa_identityOf_8 hw
/-! T$Row.clear -/
theorem dRo_clear_0 : decode (mB Ro_clear) 0 = .ok (.aload_n 0, 1) := by decide +kernel
theorem dRo_clear_1 : decode (mB Ro_clear) 1 = .ok (.iconst 0, 1) := by decide +kernel
theorem dRo_clear_2 : decode (mB Ro_clear) 2 = .ok (.putfield 15, 3) := by decide +kernel
theorem dRo_clear_5 : decode (mB Ro_clear) 5 = .ok (.return_, 1) := by decide +kernel
def w_Ro_clear (o : Nat) (h : tpH) (R : tpH → Prop) : Prop :=
  hT h o = 8 ∧ (∀ h2, h2 = sI h o 1 (0 : Int32) → (R h2))
theorem s_Ro_clear {o : Nat} {h : tpH} {R : tpH → Prop} (hw : w_Ro_clear o h R) : tpC Ro_clear 0 [vR (some o)] h (tpOv R (fun _ _ => False)) := by
  refine tpC_of mv_Ro_clear.2.2.2.1 rfl rfl (Nat.le_of_ble_eq_true rfl) ?_
  show tpR Ro_clear 0 h _ _ 0 [some (vR (some o))] [] h
  unfold w_Ro_clear at hw
  refine tq_aload_n dRo_clear_0 rfl rfl ?_
  refine tq_iconst (v := (0 : Int32)) dRo_clear_1 tni_0 ?_
  obtain ⟨f1, hw⟩ := hw
  refine te_puti dRo_clear_2 pRo_15 rfl rfl rfl f1 ⟨rfl, rfl⟩ (fun h2 e3 => ?_)
  have hw := hw h2 e3
  exact tq_vret rfl dRo_clear_5 hw
/-! T$Row.lengthen -/
theorem dRo_lengthen_0 : decode (mB Ro_lengthen) 0 = .ok (.iconst 2, 1) := by decide +kernel
theorem dRo_lengthen_1 : decode (mB Ro_lengthen) 1 = .ok (.aload_n 0, 1) := by decide +kernel
theorem dRo_lengthen_2 : decode (mB Ro_lengthen) 2 = .ok (.getfield 9, 3) := by decide +kernel
theorem dRo_lengthen_5 : decode (mB Ro_lengthen) 5 = .ok (.arraylength, 1) := by decide +kernel
theorem dRo_lengthen_6 : decode (mB Ro_lengthen) 6 = .ok (.imul, 1) := by decide +kernel
theorem dRo_lengthen_7 : decode (mB Ro_lengthen) 7 = .ok (.iconst 1, 1) := by decide +kernel
theorem dRo_lengthen_8 : decode (mB Ro_lengthen) 8 = .ok (.iadd, 1) := by decide +kernel
theorem dRo_lengthen_9 : decode (mB Ro_lengthen) 9 = .ok (.istore_n 1, 1) := by decide +kernel
theorem dRo_lengthen_10 : decode (mB Ro_lengthen) 10 = .ok (.iload_n 1, 1) := by decide +kernel
theorem dRo_lengthen_11 : decode (mB Ro_lengthen) 11 = .ok (.aload_n 0, 1) := by decide +kernel
theorem dRo_lengthen_12 : decode (mB Ro_lengthen) 12 = .ok (.getfield 9, 3) := by decide +kernel
theorem dRo_lengthen_15 : decode (mB Ro_lengthen) 15 = .ok (.arraylength, 1) := by decide +kernel
theorem dRo_lengthen_16 : decode (mB Ro_lengthen) 16 = .ok (.if_icmp .le 15, 3) := by decide +kernel
theorem dRo_lengthen_19 : decode (mB Ro_lengthen) 19 = .ok (.aload_n 0, 1) := by decide +kernel
theorem dRo_lengthen_20 : decode (mB Ro_lengthen) 20 = .ok (.aload_n 0, 1) := by decide +kernel
theorem dRo_lengthen_21 : decode (mB Ro_lengthen) 21 = .ok (.getfield 9, 3) := by decide +kernel
theorem dRo_lengthen_24 : decode (mB Ro_lengthen) 24 = .ok (.iload_n 1, 1) := by decide +kernel
theorem dRo_lengthen_25 : decode (mB Ro_lengthen) 25 = .ok (.invokestatic 22, 3) := by decide +kernel
theorem dRo_lengthen_28 : decode (mB Ro_lengthen) 28 = .ok (.putfield 9, 3) := by decide +kernel
theorem dRo_lengthen_31 : decode (mB Ro_lengthen) 31 = .ok (.return_, 1) := by decide +kernel
def w_Ro_lengthen (o : Nat) (h : tpH) (R : tpH → Prop) : Prop :=
  hT h o = 8 ∧ (∃ a2, (hR h o 0) = some a2 ∧ hT h a2 = 15 ∧ (((((2 : Int32) * (Int32.ofNat (hL h a2))) + (1 : Int32)) ≤ (Int32.ofNat (hL h a2)) → (R h)) ∧ (¬ (((2 : Int32) * (Int32.ofNat (hL h a2))) + (1 : Int32)) ≤ (Int32.ofNat (hL h a2)) → (w_JA_copyOf_59c91 (hR h o 0) (((2 : Int32) * (Int32.ofNat (hL h a2))) + (1 : Int32)) h (fun v7 h6 => hT h6 o = 8 ∧ (∀ h9, h9 = sR h6 o 0 v7 → (R h9)))))))
theorem s_Ro_lengthen {o : Nat} {h : tpH} {R : tpH → Prop} (hw : w_Ro_lengthen o h R) : tpC Ro_lengthen 3 [vR (some o)] h (tpOv R (fun _ _ => False)) := by
  refine tpC_of mv_Ro_lengthen.2.2.2.1 rfl rfl (Nat.le_of_ble_eq_true rfl) ?_
  show tpR Ro_lengthen 3 h _ _ 0 [some (vR (some o)), none] [] h
  unfold w_Ro_lengthen at hw
  refine tq_iconst (v := (2 : Int32)) dRo_lengthen_0 tni_2 ?_
  refine tq_aload_n dRo_lengthen_1 rfl rfl ?_
  obtain ⟨f1, hw⟩ := hw
  refine te_getr dRo_lengthen_2 fRo_9 rfl rfl f1 ?_
  obtain ⟨a2, e3, f4, hw⟩ := hw
  refine te_alen dRo_lengthen_5 e3 (by rw [f4]; decide) ?_
  refine tq_imul dRo_lengthen_6 ?_
  refine tq_iconst (v := (1 : Int32)) dRo_lengthen_7 tni_1 ?_
  refine tq_iadd dRo_lengthen_8 ?_
  refine tq_istore_n (ls' := [some (vR (some o)), some (vI (((2 : Int32) * (Int32.ofNat (hL h a2))) + (1 : Int32)))]) dRo_lengthen_9 rfl (Nat.le_of_ble_eq_true rfl) rfl ?_
  refine tq_iload_n dRo_lengthen_10 rfl rfl ?_
  refine tq_aload_n dRo_lengthen_11 rfl rfl ?_
  refine te_getr dRo_lengthen_12 fRo_9 rfl rfl f1 ?_
  refine te_alen dRo_lengthen_15 e3 (by rw [f4]; decide) ?_
  refine tq_icmple (tgt := 31) dRo_lengthen_16 (by decide) (fun c5 => ?_) (fun c5 => ?_)
  · have hw := hw.1 c5
    exact tq_vret rfl dRo_lengthen_31 hw
  · have hw := hw.2 c5
    refine tq_aload_n dRo_lengthen_19 rfl rfl ?_
    refine tq_aload_n dRo_lengthen_20 rfl rfl ?_
    refine te_getr dRo_lengthen_21 fRo_9 rfl rfl f1 ?_
    refine tq_iload_n dRo_lengthen_24 rfl rfl ?_
    refine tq_callS ms_JA_copyOf_59c91 (dc := 2) (as := [vR (hR h o 0), vI (((2 : Int32) * (Int32.ofNat (hL h a2))) + (1 : Int32))]) (rest := [vR (some o)]) kRo_22 (Nat.le_of_ble_eq_true rfl) (Nat.le_of_ble_eq_true rfl) rfl rfl (Nat.le_of_ble_eq_true rfl) dRo_lengthen_25 (s_JA_copyOf_59c91 hw) (fun _ _ hx => False.elim hx) (tk_r fun v7 h6 hw => ?_)
    obtain ⟨f8, hw⟩ := hw
    refine te_putr dRo_lengthen_28 pRo_9 rfl rfl rfl f8 (fun h9 e10 => ?_)
    have hw := hw h9 e10
    exact tq_vret rfl dRo_lengthen_31 hw
/-! T$Row.push -/
theorem dRo_push_0 : decode (mB Ro_push) 0 = .ok (.aload_n 0, 1) := by decide +kernel
theorem dRo_push_1 : decode (mB Ro_push) 1 = .ok (.getfield 15, 3) := by decide +kernel
theorem dRo_push_4 : decode (mB Ro_push) 4 = .ok (.aload_n 0, 1) := by decide +kernel
theorem dRo_push_5 : decode (mB Ro_push) 5 = .ok (.getfield 9, 3) := by decide +kernel
theorem dRo_push_8 : decode (mB Ro_push) 8 = .ok (.arraylength, 1) := by decide +kernel
theorem dRo_push_9 : decode (mB Ro_push) 9 = .ok (.if_icmp .lt 7, 3) := by decide +kernel
theorem dRo_push_12 : decode (mB Ro_push) 12 = .ok (.aload_n 0, 1) := by decide +kernel
theorem dRo_push_13 : decode (mB Ro_push) 13 = .ok (.invokevirtual 19, 3) := by decide +kernel
theorem dRo_push_16 : decode (mB Ro_push) 16 = .ok (.aload_n 0, 1) := by decide +kernel
theorem dRo_push_17 : decode (mB Ro_push) 17 = .ok (.getfield 15, 3) := by decide +kernel
theorem dRo_push_20 : decode (mB Ro_push) 20 = .ok (.aload_n 0, 1) := by decide +kernel
theorem dRo_push_21 : decode (mB Ro_push) 21 = .ok (.getfield 9, 3) := by decide +kernel
theorem dRo_push_24 : decode (mB Ro_push) 24 = .ok (.arraylength, 1) := by decide +kernel
theorem dRo_push_25 : decode (mB Ro_push) 25 = .ok (.if_icmp .ge 23, 3) := by decide +kernel
theorem dRo_push_28 : decode (mB Ro_push) 28 = .ok (.aload_n 0, 1) := by decide +kernel
theorem dRo_push_29 : decode (mB Ro_push) 29 = .ok (.getfield 9, 3) := by decide +kernel
theorem dRo_push_32 : decode (mB Ro_push) 32 = .ok (.aload_n 0, 1) := by decide +kernel
theorem dRo_push_33 : decode (mB Ro_push) 33 = .ok (.getfield 15, 3) := by decide +kernel
theorem dRo_push_36 : decode (mB Ro_push) 36 = .ok (.iload_n 1, 1) := by decide +kernel
theorem dRo_push_37 : decode (mB Ro_push) 37 = .ok (.iastore, 1) := by decide +kernel
theorem dRo_push_38 : decode (mB Ro_push) 38 = .ok (.aload_n 0, 1) := by decide +kernel
theorem dRo_push_39 : decode (mB Ro_push) 39 = .ok (.dup, 1) := by decide +kernel
theorem dRo_push_40 : decode (mB Ro_push) 40 = .ok (.getfield 15, 3) := by decide +kernel
theorem dRo_push_43 : decode (mB Ro_push) 43 = .ok (.iconst 1, 1) := by decide +kernel
theorem dRo_push_44 : decode (mB Ro_push) 44 = .ok (.iadd, 1) := by decide +kernel
theorem dRo_push_45 : decode (mB Ro_push) 45 = .ok (.putfield 15, 3) := by decide +kernel
theorem dRo_push_48 : decode (mB Ro_push) 48 = .ok (.return_, 1) := by decide +kernel
def w_Ro_push_16 (R : tpH → Prop) (o : Nat) (x1 : Int32) (h : tpH) : Prop :=
  hT h o = 8 ∧ (∃ a2, (hR h o 0) = some a2 ∧ hT h a2 = 15 ∧ (((Int32.ofNat (hL h a2)) ≤ (hI h o 1) → (R h)) ∧ (¬ (Int32.ofNat (hL h a2)) ≤ (hI h o 1) → (vp_in (hI h o 1) (hL h a2) ∧ (∀ h7, h7 = sI h a2 (hI h o 1).toNatClampNeg x1 → (∀ h9, h9 = sI h7 o 1 ((hI h7 o 1) + (1 : Int32)) → (R h9)))))))
def w_Ro_push (o : Nat) (x1 : Int32) (h : tpH) (R : tpH → Prop) : Prop :=
  hT h o = 8 ∧ (∃ a2, (hR h o 0) = some a2 ∧ hT h a2 = 15 ∧ (((hI h o 1) < (Int32.ofNat (hL h a2)) → (w_Ro_push_16 R o x1 h)) ∧ (¬ (hI h o 1) < (Int32.ofNat (hL h a2)) → (w_Ro_lengthen o h (fun h6 => w_Ro_push_16 R o x1 h6)))))
theorem s_Ro_push_16 {h0 : tpH} {av : List tpV} {R : tpH → Prop} : ∀ (o : Nat) (x1 : Int32) (h : tpH), w_Ro_push_16 R o x1 h → tpR Ro_push 4 h0 av (tpOv R (fun _ _ => False)) 16 [some (vR (some o)), some (vI x1)] [] h := by
  intro o x1 h hw
  unfold w_Ro_push_16 at hw
  refine tq_aload_n dRo_push_16 rfl rfl ?_
  obtain ⟨f1, hw⟩ := hw
  refine te_geti dRo_push_17 fRo_15 rfl rfl f1 ?_
  refine tq_aload_n dRo_push_20 rfl rfl ?_
  refine te_getr dRo_push_21 fRo_9 rfl rfl f1 ?_
  obtain ⟨a2, e3, f4, hw⟩ := hw
  refine te_alen dRo_push_24 e3 (by rw [f4]; decide) ?_
  refine tq_icmpge (tgt := 48) dRo_push_25 (by decide) (fun c5 => ?_) (fun c5 => ?_)
  · have hw := hw.1 c5
    exact tq_vret rfl dRo_push_48 hw
  · have hw := hw.2 c5
    refine tq_aload_n dRo_push_28 rfl rfl ?_
    refine te_getr dRo_push_29 fRo_9 rfl rfl f1 ?_
    refine tq_aload_n dRo_push_32 rfl rfl ?_
    refine te_geti dRo_push_33 fRo_15 rfl rfl f1 ?_
    refine tq_iload_n dRo_push_36 rfl rfl ?_
    obtain ⟨f6, hw⟩ := hw
    refine te_iast dRo_push_37 e3 f4 f6 (fun h7 e8 => ?_)
    have hw := hw h7 e8
    refine tq_aload_n dRo_push_38 rfl rfl ?_
    refine tq_dup dRo_push_39 rfl ?_
    refine te_geti dRo_push_40 fRo_15 rfl rfl (by rw [e8]; exact f1) ?_
    refine tq_iconst (v := (1 : Int32)) dRo_push_43 tni_1 ?_
    refine tq_iadd dRo_push_44 ?_
    refine te_puti dRo_push_45 pRo_15 rfl rfl rfl (by rw [e8]; exact f1) ⟨rfl, rfl⟩ (fun h9 e10 => ?_)
    have hw := hw h9 e10
    exact tq_vret rfl dRo_push_48 hw
theorem s_Ro_push {o : Nat} {x1 : Int32} {h : tpH} {R : tpH → Prop} (hw : w_Ro_push o x1 h R) : tpC Ro_push 4 [vR (some o), vI x1] h (tpOv R (fun _ _ => False)) := by
  refine tpC_of mv_Ro_push.2.2.2.1 rfl rfl (Nat.le_of_ble_eq_true rfl) ?_
  show tpR Ro_push 4 h _ _ 0 [some (vR (some o)), some (vI x1)] [] h
  unfold w_Ro_push at hw
  refine tq_aload_n dRo_push_0 rfl rfl ?_
  obtain ⟨f1, hw⟩ := hw
  refine te_geti dRo_push_1 fRo_15 rfl rfl f1 ?_
  refine tq_aload_n dRo_push_4 rfl rfl ?_
  refine te_getr dRo_push_5 fRo_9 rfl rfl f1 ?_
  obtain ⟨a2, e3, f4, hw⟩ := hw
  refine te_alen dRo_push_8 e3 (by rw [f4]; decide) ?_
  refine tq_icmplt (tgt := 16) dRo_push_9 (by decide) (fun c5 => ?_) (fun c5 => ?_)
  · have hw := hw.1 c5
    refine tpR.fo (ls' := [some (vR (some o)), some (vI x1)]) ?_ (And.intro rfl (And.intro rfl trivial))
    exact s_Ro_push_16 _ _ _ hw
  · have hw := hw.2 c5
    refine tq_aload_n dRo_push_12 rfl rfl ?_
    refine te_callV mv_Ro_lengthen (ci := 7) (dc := 3) (as := []) (rest := []) kRo_19 rfl (Nat.le_of_ble_eq_true rfl) (Nat.le_of_ble_eq_true rfl) rfl rfl rfl f1 (Nat.le_of_ble_eq_true rfl) dRo_push_13 (s_Ro_lengthen hw) (fun _ _ hx => False.elim hx) (tk_v fun h6 hw => ?_)
    refine tpR.fo (ls' := [some (vR (some o)), some (vI x1)]) ?_ (And.intro rfl (And.intro rfl trivial))
    exact s_Ro_push_16 _ _ _ hw
/-! T$Row.hasSamePushed -/
theorem dRo_hasSamePushed_0 : decode (mB Ro_hasSamePushed) 0 = .ok (.aload_n 0, 1) := by decide +kernel
theorem dRo_hasSamePushed_1 : decode (mB Ro_hasSamePushed) 1 = .ok (.getfield 15, 3) := by decide +kernel
theorem dRo_hasSamePushed_4 : decode (mB Ro_hasSamePushed) 4 = .ok (.aload_n 1, 1) := by decide +kernel
theorem dRo_hasSamePushed_5 : decode (mB Ro_hasSamePushed) 5 = .ok (.getfield 15, 3) := by decide +kernel
theorem dRo_hasSamePushed_8 : decode (mB Ro_hasSamePushed) 8 = .ok (.if_icmp .eq 5, 3) := by decide +kernel
theorem dRo_hasSamePushed_11 : decode (mB Ro_hasSamePushed) 11 = .ok (.iconst 0, 1) := by decide +kernel
theorem dRo_hasSamePushed_12 : decode (mB Ro_hasSamePushed) 12 = .ok (.ireturn, 1) := by decide +kernel
theorem dRo_hasSamePushed_13 : decode (mB Ro_hasSamePushed) 13 = .ok (.iconst 0, 1) := by decide +kernel
theorem dRo_hasSamePushed_14 : decode (mB Ro_hasSamePushed) 14 = .ok (.istore_n 2, 1) := by decide +kernel
theorem dRo_hasSamePushed_15 : decode (mB Ro_hasSamePushed) 15 = .ok (.iload_n 2, 1) := by decide +kernel
theorem dRo_hasSamePushed_16 : decode (mB Ro_hasSamePushed) 16 = .ok (.aload_n 0, 1) := by decide +kernel
theorem dRo_hasSamePushed_17 : decode (mB Ro_hasSamePushed) 17 = .ok (.getfield 15, 3) := by decide +kernel
theorem dRo_hasSamePushed_20 : decode (mB Ro_hasSamePushed) 20 = .ok (.if_icmp .ge 24, 3) := by decide +kernel
theorem dRo_hasSamePushed_23 : decode (mB Ro_hasSamePushed) 23 = .ok (.aload_n 0, 1) := by decide +kernel
theorem dRo_hasSamePushed_24 : decode (mB Ro_hasSamePushed) 24 = .ok (.iload_n 2, 1) := by decide +kernel
theorem dRo_hasSamePushed_25 : decode (mB Ro_hasSamePushed) 25 = .ok (.invokevirtual 28, 3) := by decide +kernel
theorem dRo_hasSamePushed_28 : decode (mB Ro_hasSamePushed) 28 = .ok (.aload_n 1, 1) := by decide +kernel
theorem dRo_hasSamePushed_29 : decode (mB Ro_hasSamePushed) 29 = .ok (.iload_n 2, 1) := by decide +kernel
theorem dRo_hasSamePushed_30 : decode (mB Ro_hasSamePushed) 30 = .ok (.invokevirtual 28, 3) := by decide +kernel
theorem dRo_hasSamePushed_33 : decode (mB Ro_hasSamePushed) 33 = .ok (.if_icmp .eq 5, 3) := by decide +kernel
theorem dRo_hasSamePushed_36 : decode (mB Ro_hasSamePushed) 36 = .ok (.iconst 0, 1) := by decide +kernel
theorem dRo_hasSamePushed_37 : decode (mB Ro_hasSamePushed) 37 = .ok (.ireturn, 1) := by decide +kernel
theorem dRo_hasSamePushed_38 : decode (mB Ro_hasSamePushed) 38 = .ok (.iinc 2 1, 3) := by decide +kernel
theorem dRo_hasSamePushed_41 : decode (mB Ro_hasSamePushed) 41 = .ok (.goto (-26), 3) := by decide +kernel
theorem dRo_hasSamePushed_44 : decode (mB Ro_hasSamePushed) 44 = .ok (.iconst 1, 1) := by decide +kernel
theorem dRo_hasSamePushed_45 : decode (mB Ro_hasSamePushed) 45 = .ok (.ireturn, 1) := by decide +kernel
def b_Ro_hasSamePushed_15 (R : Int32 → tpH → Prop) (Y : Nat → (Option Nat) → Int32 → tpH → Prop) (o : Nat) (x1 : Option Nat) (x2 : Int32) (h : tpH) : Prop :=
  hT h o = 8 ∧ (((hI h o 1) ≤ x2 → (R (1 : Int32) h)) ∧ (¬ (hI h o 1) ≤ x2 → (w_Ro_at o x2 h (fun v4 h3 => ∃ a5, x1 = some a5 ∧ hT h3 a5 = 8 ∧ (w_Ro_at a5 x2 h3 (fun v9 h8 => (v4 = v9 → (Y o x1 (x2 + (1 : Int32)) h8)) ∧ (¬ v4 = v9 → (R (0 : Int32) h8))))))))
def w_Ro_hasSamePushed_15 (R : Int32 → tpH → Prop) : Nat → Nat → (Option Nat) → Int32 → tpH → Prop
  | 0 => fun _ _ _ _ => False
  | n + 1 => b_Ro_hasSamePushed_15 R (w_Ro_hasSamePushed_15 R n)
def w_Ro_hasSamePushed (o : Nat) (x1 : Option Nat) (h : tpH) (R : Int32 → tpH → Prop) : Prop :=
  hT h o = 8 ∧ (∃ a2, x1 = some a2 ∧ hT h a2 = 8 ∧ (((hI h o 1) = (hI h a2 1) → (∃ n, w_Ro_hasSamePushed_15 R n o x1 (0 : Int32) h)) ∧ (¬ (hI h o 1) = (hI h a2 1) → (R (0 : Int32) h))))
theorem s_Ro_hasSamePushed_15 {h0 : tpH} {av : List tpV} {R : Int32 → tpH → Prop} : ∀ (n : Nat) (o : Nat) (x1 : Option Nat) (x2 : Int32) (h : tpH), w_Ro_hasSamePushed_15 R n o x1 x2 h → tpR Ro_hasSamePushed 1 h0 av (tpOi R (fun _ _ => False)) 15 [some (vR (some o)), some (vR x1), some (vI x2)] [] h := by
  intro n
  induction n with
  | zero => intro o x1 x2 h hw; exact False.elim hw
  | succ n ih =>
    intro o x1 x2 h hw
    change b_Ro_hasSamePushed_15 R (w_Ro_hasSamePushed_15 R n) o x1 x2 h at hw
    unfold b_Ro_hasSamePushed_15 at hw
    refine tq_iload_n dRo_hasSamePushed_15 rfl rfl ?_
    refine tq_aload_n dRo_hasSamePushed_16 rfl rfl ?_
    obtain ⟨f1, hw⟩ := hw
    refine te_geti dRo_hasSamePushed_17 fRo_15 rfl rfl f1 ?_
    refine tq_icmpge (tgt := 44) dRo_hasSamePushed_20 (by decide) (fun c2 => ?_) (fun c2 => ?_)
    · have hw := hw.1 c2
      refine tq_iconst (v := (1 : Int32)) dRo_hasSamePushed_44 tni_1 ?_
      exact tq_iret rfl (by decide) dRo_hasSamePushed_45 hw
    · have hw := hw.2 c2
      refine tq_aload_n dRo_hasSamePushed_23 rfl rfl ?_
      refine tq_iload_n dRo_hasSamePushed_24 rfl rfl ?_
      refine te_callV mv_Ro_at (ci := 7) (dc := 0) (as := [vI x2]) (rest := []) kRo_28 rfl (Nat.le_of_ble_eq_true rfl) (Nat.le_of_ble_eq_true rfl) rfl rfl rfl f1 (Nat.le_of_ble_eq_true rfl) dRo_hasSamePushed_25 (s_Ro_at hw) (fun _ _ hx => False.elim hx) (tk_i fun v4 h3 hw => ?_)
      refine tq_aload_n dRo_hasSamePushed_28 rfl rfl ?_
      refine tq_iload_n dRo_hasSamePushed_29 rfl rfl ?_
      obtain ⟨a5, e6, f7, hw⟩ := hw
      refine te_callV mv_Ro_at (ci := 7) (dc := 0) (as := [vI x2]) (rest := [vI v4]) kRo_28 rfl (Nat.le_of_ble_eq_true rfl) (Nat.le_of_ble_eq_true rfl) rfl rfl e6 f7 (Nat.le_of_ble_eq_true rfl) dRo_hasSamePushed_30 (s_Ro_at hw) (fun _ _ hx => False.elim hx) (tk_i fun v9 h8 hw => ?_)
      refine tq_icmpeq (tgt := 38) dRo_hasSamePushed_33 (by decide) (fun c10 => ?_) (fun c10 => ?_)
      · have hw := hw.1 c10
        refine tq_inc (k := (1 : Int32)) (ls' := [some (vR (some o)), some (vR x1), some (vI (x2 + (1 : Int32)))]) dRo_hasSamePushed_38 rfl tni_1 (Nat.le_of_ble_eq_true rfl) rfl ?_
        refine tq_goto (tgt := 15) dRo_hasSamePushed_41 (by decide) ?_
        refine tpR.fo (ls' := [some (vR (some o)), some (vR x1), some (vI (x2 + (1 : Int32)))]) ?_ (And.intro rfl (And.intro rfl (And.intro rfl trivial)))
        exact ih _ _ _ _ hw
      · have hw := hw.2 c10
        refine tq_iconst (v := (0 : Int32)) dRo_hasSamePushed_36 tni_0 ?_
        exact tq_iret rfl (by decide) dRo_hasSamePushed_37 hw
theorem s_Ro_hasSamePushed {o : Nat} {x1 : Option Nat} {h : tpH} {R : Int32 → tpH → Prop} (hw : w_Ro_hasSamePushed o x1 h R) : tpC Ro_hasSamePushed 1 [vR (some o), vR x1] h (tpOi R (fun _ _ => False)) := by
  refine tpC_of mv_Ro_hasSamePushed.2.2.2.1 rfl rfl (Nat.le_of_ble_eq_true rfl) ?_
  show tpR Ro_hasSamePushed 1 h _ _ 0 [some (vR (some o)), some (vR x1), none] [] h
  unfold w_Ro_hasSamePushed at hw
  refine tq_aload_n dRo_hasSamePushed_0 rfl rfl ?_
  obtain ⟨f1, hw⟩ := hw
  refine te_geti dRo_hasSamePushed_1 fRo_15 rfl rfl f1 ?_
  refine tq_aload_n dRo_hasSamePushed_4 rfl rfl ?_
  obtain ⟨a2, e3, f4, hw⟩ := hw
  refine te_geti dRo_hasSamePushed_5 fRo_15 rfl e3 f4 ?_
  refine tq_icmpeq (tgt := 13) dRo_hasSamePushed_8 (by decide) (fun c5 => ?_) (fun c5 => ?_)
  · have hw := hw.1 c5
    refine tq_iconst (v := (0 : Int32)) dRo_hasSamePushed_13 tni_0 ?_
    refine tq_istore_n (ls' := [some (vR (some o)), some (vR x1), some (vI (0 : Int32))]) dRo_hasSamePushed_14 rfl (Nat.le_of_ble_eq_true rfl) rfl ?_
    refine tpR.fo (ls' := [some (vR (some o)), some (vR x1), some (vI (0 : Int32))]) ?_ (And.intro rfl (And.intro rfl (And.intro rfl trivial)))
    obtain ⟨n, hw⟩ := hw
    exact s_Ro_hasSamePushed_15 n _ _ _ _ hw
  · have hw := hw.2 c5
    refine tq_iconst (v := (0 : Int32)) dRo_hasSamePushed_11 tni_0 ?_
    exact tq_iret rfl (by decide) dRo_hasSamePushed_12 hw
