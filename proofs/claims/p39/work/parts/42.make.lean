section PMAKE
/-- the cell b is the same -/
def hSm (h h' : tpH) (b : Nat) : Prop := hT h' b = hT h b ∧ hL h' b = hL h b ∧ hR h' b = hR h b ∧ hI h' b = hI h b ∧ hJ h' b = hJ h b ∧ hF h' b = hF h b
theorem hSm_rf (h : tpH) (b : Nat) : hSm h h b := ⟨rfl, rfl, rfl, rfl, rfl, rfl⟩
theorem hSm_tr {h h1 h2 : tpH} {b : Nat} (a : hSm h h1 b) (c : hSm h1 h2 b) : hSm h h2 b := by
  obtain ⟨a1, a2, a3, a4, a5, a6⟩ := a
  obtain ⟨c1, c2, c3, c4, c5, c6⟩ := c
  exact ⟨c1.trans a1, c2.trans a2, c3.trans a3, c4.trans a4, c5.trans a5, c6.trans a6⟩
theorem hSm_nC (h : tpH) (k n m b : Nat) (hb : b < hZ h) : hSm h (nC h k n m) b := by
  have e : b ≠ hZ h := by omega
  exact ⟨tpn_n _ _ _ _ e, tpn_n _ _ _ _ e, tpn_n _ _ _ _ e, tpn_n _ _ _ _ e, tpn_n _ _ _ _ e, tpn_n _ _ _ _ e⟩
theorem hSm_sR (h : tpH) (o j : Nat) (v : Option Nat) (b : Nat) (hb : b ≠ o) : hSm h (sR h o j v) b := ⟨rfl, rfl, tpu_fa _ _ _ _ _ hb, rfl, rfl, rfl⟩
theorem hSm_sI (h : tpH) (o j : Nat) (v : Int32) (b : Nat) (hb : b ≠ o) : hSm h (sI h o j v) b := ⟨rfl, rfl, rfl, tpu_fa _ _ _ _ _ hb, rfl, rfl⟩
theorem rwL_k {h h' : tpH} {r c n : Nat} (H : rwL h r c n) (a : hSm h h' r) (b : hSm h h' c) : rwL h' r c n := by
  obtain ⟨h1, h2, h3, h4⟩ := H
  obtain ⟨a1, a2, a3, a4, a5, a6⟩ := a
  obtain ⟨b1, b2, b3, b4, b5, b6⟩ := b
  exact ⟨by rw [a1]; exact h1, by rw [a3]; exact h2, by rw [b1]; exact h3, by rw [b2]; exact h4⟩
theorem nC_new (h : tpH) (k n m : Nat) : hT (nC h k n m) (hZ h) = k ∧ hL (nC h k n m) (hZ h) = n ∧ hR (nC h k n m) (hZ h) = (fun _ => none) ∧ hI (nC h k n m) (hZ h) = (fun _ => 0) ∧ hJ (nC h k n m) (hZ h) = (fun _ => 0) ∧ hF (nC h k n m) (hZ h) = (fun _ => 0) := tpN_ax
/-- a row, made from h on -/
def mkRow (h h' : tpH) (n : Nat) : Prop := hZ h' = hZ h + 2 ∧ hU h' = hU h + (2 + n) ∧ (∀ b, b < hZ h → hSm h h' b) ∧ rwL h' (hZ h) (hZ h + 1) n ∧ hI h' (hZ h) 1 = 0 ∧ ∀ j, hI h' (hZ h + 1) j = 0
theorem p_Ro_init {h : tpH} {n : Nat} {x : Int32} {R : tpH → Prop} (hx : x = nI n) (h0 : 0 < n) (hn : n ≤ 1000000) (k : ∀ h', mkRow h h' n → R h') : w_Ro_init (hZ h) x (nC h 8 0 2) R := by
  subst hx
  have c1 : ¬ nI n ≤ 0 := nI_nle h0 (by omega)
  unfold w_Ro_init w_Ro_init_14
  refine ⟨fun c => absurd c c1, fun _ => ⟨nI_pos (by omega), by rw [nI_clamp (by omega)]; exact hn, fun a3 h4 e3 e4 => ⟨hZ h, rfl, ?_, fun h10 e10 => k h10 ?_⟩⟩⟩
  · rw [e4]
    have := hSm_nC (nC h 8 0 2) 15 (nI n).toNatClampNeg (nI n).toNatClampNeg (hZ h) (by show hZ h < hZ h + 1; omega)
    exact this.1.trans (nC_new h 8 0 2).1
  · rw [nI_clamp (by omega)] at e4
    have z4 : hZ h4 = hZ h + 2 := by rw [e4]; rfl
    have u4 : hU h4 = hU h + (2 + n) := by rw [e4]; show hU h + 2 + n = _; omega
    have ea : a3 = hZ h + 1 := e3
    have w := nC_new (nC h 8 0 2) 15 n n
    have w0 := nC_new h 8 0 2
    have s0 := hSm_nC (nC h 8 0 2) 15 n n (hZ h) (by show hZ h < hZ h + 1; omega)
    rw [← e4] at w s0
    have ez : hZ (nC h 8 0 2) = hZ h + 1 := rfl
    rw [ez] at w
    obtain ⟨w1, w2, w3, w4, -, -⟩ := w
    obtain ⟨y1, y2, y3, y4, -, -⟩ := s0
    obtain ⟨v1, v2, v3, v4, -, -⟩ := w0
    have ne : hZ h + 1 ≠ hZ h := by omega
    refine ⟨by rw [e10]; exact z4, by rw [e10]; exact u4, fun b hb => ?_, ⟨by rw [e10]; exact y1.trans v1, ?_, by rw [e10]; exact w1, by rw [e10]; exact w2⟩, ?_, fun j => ?_⟩
    · rw [e10]
      have q1 := hSm_nC h 8 0 2 b hb
      have q2 := hSm_nC (nC h 8 0 2) 15 n n b (by show b < hZ h + 1; omega)
      rw [← e4] at q2
      exact hSm_tr (hSm_tr q1 q2) (hSm_sR _ _ _ _ _ (by omega))
    · rw [e10, ← ea]; exact tpu_s _ _ _ _
    · rw [e10]
      show hI h4 (hZ h) 1 = 0
      rw [y4, v4]
    · rw [e10]
      show hI h4 (hZ h + 1) j = 0
      rw [w4]
theorem tpu_row2 {α : Type} (f : Nat → Nat → α) (a j k : Nat) (v : α) : tpu f a j v a k = if k = j then v else f a k := by simp [tpu]
theorem hR_sR (h : tpH) (a j : Nat) (v : Option Nat) : hR (sR h a j v) = tpu (hR h) a j v := rfl
theorem hI_sI (h : tpH) (a j : Nat) (v : Int32) : hI (sI h a j v) = tpu (hI h) a j v := rfl
theorem hI_sR (h : tpH) (a j : Nat) (v : Option Nat) : hI (sR h a j v) = hI h := rfl
theorem hR_sI (h : tpH) (a j : Nat) (v : Int32) : hR (sI h a j v) = hR h := rfl
theorem hT_sR (h : tpH) (a j : Nat) (v : Option Nat) : hT (sR h a j v) = hT h := rfl
theorem hT_sI (h : tpH) (a j : Nat) (v : Int32) : hT (sI h a j v) = hT h := rfl
theorem hZ_sR (h : tpH) (a j : Nat) (v : Option Nat) : hZ (sR h a j v) = hZ h := rfl
theorem hZ_sI (h : tpH) (a j : Nat) (v : Int32) : hZ (sI h a j v) = hZ h := rfl
theorem hU_sR (h : tpH) (a j : Nat) (v : Option Nat) : hU (sR h a j v) = hU h := rfl
theorem hU_sI (h : tpH) (a j : Nat) (v : Int32) : hU (sI h a j v) = hU h := rfl
theorem mkKeep {h h' : tpH} {r c n : Nat} (W0 : rwL h r c n ∧ (∀ j, hI h c j = 0) ∧ hI h r 1 = 0) (a : hSm h h' r) (b : hSm h h' c) : rwL h' r c n ∧ (∀ j, hI h' c j = 0) ∧ hI h' r 1 = 0 :=
  ⟨rwL_k W0.1 a b, fun j => by rw [b.2.2.2.1]; exact W0.2.1 j, by rw [a.2.2.2.1]; exact W0.2.2⟩
theorem mkKeepS {h h' : tpH} {r : Nat} (W0 : hT h r = 10 ∧ ∀ j, j < 3 → hI h r j = -1) (a : hSm h h' r) : hT h' r = 10 ∧ ∀ j, j < 3 → hI h' r j = -1 :=
  ⟨by rw [a.1]; exact W0.1, fun j hj => by rw [a.2.2.2.1]; exact W0.2 j hj⟩
def mkMa (h h' : tpH) (o : Nat)  : Prop :=
  hZ h' = hZ h + 4 ∧
  hU h' = hU h + 604 ∧
  (∀ b, b < hZ h → b ≠ o → hSm h h' b) ∧
  hT h' o = 5 ∧
  (hR h' o 0 = some (hZ h + 0) ∧ hR h' o 1 = some (hZ h + 2)) ∧
  (∀ j, hI h' o j = hI h o j) ∧
  (rwL h' (hZ h + 0) (hZ h + 1) 300 ∧ (∀ j, hI h' (hZ h + 1) j = 0) ∧ hI h' (hZ h + 0) 1 = 0) ∧
  (rwL h' (hZ h + 2) (hZ h + 3) 300 ∧ (∀ j, hI h' (hZ h + 3) j = 0) ∧ hI h' (hZ h + 2) 1 = 0)
theorem p_Ma_init {h : tpH} {o : Nat} {R : tpH → Prop} (ho : o < hZ h) (hk : hT h o = 5) (k : ∀ h', mkMa h h' o  → R h') : w_Ma_init o  h R := by
  unfold w_Ma_init
  have F0 : ∀ b, b < hZ h → b ≠ o → hSm h h b := fun b _ _ => hSm_rf h b
  have Z0 : hZ h = hZ h + 0 := rfl
  have U0 : hU h = hU h + 0 := rfl
  have T0 : hT h o = 5 := hk
  have I0 : ∀ j, hI h o j = hI h o j := fun _ => rfl
  intro a1 g1 ea1 eg1
  subst ea1 eg1
  refine p_Ro_init (n := 300) (by decide) (by decide) (by decide) (fun h1a M1 => ?_)
  obtain ⟨mz, mu, mf, mr, m1, m0⟩ := M1
  rw [Z0] at mz mr m1 m0
  rw [U0] at mu
  have so : hSm h h1a o := mf o (by rw [Z0]; omega)
  have T1 : hT h1a o = 5 := so.1.trans T0
  refine ⟨T1, fun h1 e1 => ?_⟩
  have Z1 : hZ h1 = hZ h + 2 := by rw [e1, hZ_sR]; omega
  have U1 : hU h1 = hU h + 302 := by rw [e1, hU_sR]; omega
  have G1 : ∀ b, b < hZ h → b ≠ o → hSm h h1 b := fun b hb hbo => by rw [e1]; exact hSm_tr (mf b hb) (hSm_sR _ _ _ _ _ hbo)
  have F1 : ∀ b, b < hZ h → b ≠ o → hSm h h1 b := fun b hb hbo => hSm_tr (F0 b hb hbo) (G1 b (by rw [Z0]; omega) hbo)
  have T1 : hT h1 o = 5 := by rw [e1, hT_sR]; exact T1
  have K1 : ∀ q, q ≠ 0 → hR h1 o q = hR h o q := fun q hq => by rw [e1, hR_sR, tpu_row2, if_neg hq, so.2.2.1]
  have N1 : hR h1 o 0 = some (hZ h + 0) := by rw [e1, hR_sR, tpu_row2, if_pos rfl, Z0]
  have J1 : ∀ q, hI h1 o q = hI h o q := fun q => by rw [e1, hI_sR, so.2.2.2.1]
  have W1 : rwL h1 (hZ h + 0) (hZ h + 1) 300 ∧ (∀ j, hI h1 (hZ h + 1) j = 0) ∧ hI h1 (hZ h + 0) 1 = 0 := by
    refine ⟨?_, fun j => ?_, ?_⟩
    · rw [e1]; exact rwL_k mr (hSm_sR _ _ _ _ _ (by omega)) (hSm_sR _ _ _ _ _ (by omega))
    · rw [e1, hI_sR]; exact m0 j
    · rw [e1, hI_sR]; exact m1
  clear mz mu mf mr m1 m0 so e1
  have I1 : ∀ q, hI h1 o q = hI h o q := fun q  => (J1 q).trans (I0 q )
  clear K1 J1 G1
  intro a2 g2 ea2 eg2
  subst ea2 eg2
  refine p_Ro_init (n := 300) (by decide) (by decide) (by decide) (fun h2a M2 => ?_)
  obtain ⟨mz, mu, mf, mr, m1, m0⟩ := M2
  rw [Z1] at mz mr m1 m0
  rw [U1] at mu
  have so : hSm h1 h2a o := mf o (by rw [Z1]; omega)
  have T2 : hT h2a o = 5 := so.1.trans T1
  refine ⟨T2, fun h2 e2 => ?_⟩
  have Z2 : hZ h2 = hZ h + 4 := by rw [e2, hZ_sR]; omega
  have U2 : hU h2 = hU h + 604 := by rw [e2, hU_sR]; omega
  have G2 : ∀ b, b < hZ h1 → b ≠ o → hSm h1 h2 b := fun b hb hbo => by rw [e2]; exact hSm_tr (mf b hb) (hSm_sR _ _ _ _ _ hbo)
  have F2 : ∀ b, b < hZ h → b ≠ o → hSm h h2 b := fun b hb hbo => hSm_tr (F1 b hb hbo) (G2 b (by rw [Z1]; omega) hbo)
  have T2 : hT h2 o = 5 := by rw [e2, hT_sR]; exact T2
  have K2 : ∀ q, q ≠ 1 → hR h2 o q = hR h1 o q := fun q hq => by rw [e2, hR_sR, tpu_row2, if_neg hq, so.2.2.1]
  have N2 : hR h2 o 1 = some (hZ h + 2) := by rw [e2, hR_sR, tpu_row2, if_pos rfl, Z1]
  have J2 : ∀ q, hI h2 o q = hI h1 o q := fun q => by rw [e2, hI_sR, so.2.2.2.1]
  have W2 : rwL h2 (hZ h + 2) (hZ h + 3) 300 ∧ (∀ j, hI h2 (hZ h + 3) j = 0) ∧ hI h2 (hZ h + 2) 1 = 0 := by
    refine ⟨?_, fun j => ?_, ?_⟩
    · rw [e2]; exact rwL_k mr (hSm_sR _ _ _ _ _ (by omega)) (hSm_sR _ _ _ _ _ (by omega))
    · rw [e2, hI_sR]; exact m0 j
    · rw [e2, hI_sR]; exact m1
  clear mz mu mf mr m1 m0 so e2
  have W1x2 : rwL h2 (hZ h + 0) (hZ h + 1) 300 ∧ (∀ j, hI h2 (hZ h + 1) j = 0) ∧ hI h2 (hZ h + 0) 1 = 0 := mkKeep W1 (G2 _ (by rw [Z1]; omega) (by omega)) (G2 _ (by rw [Z1]; omega) (by omega))
  clear W1
  have N1x2 : hR h2 o 0 = some (hZ h + 0) := (K2 0 (by decide)).trans N1
  have I2 : ∀ q, hI h2 o q = hI h o q := fun q  => (J2 q).trans (I1 q )
  clear K2 J2 G2
  exact k h2 ⟨Z2, U2, F2, T2, ⟨N1x2, N2⟩, I2, W1x2, W2⟩
def mkBu (h h' : tpH) (o : Nat) (x1 : Option Nat) : Prop :=
  hZ h' = hZ h + 14 ∧
  hU h' = hU h + 2114 ∧
  (∀ b, b < hZ h → b ≠ o → hSm h h' b) ∧
  hT h' o = 1 ∧
  (hR h' o 0 = x1 ∧ hR h' o 1 = some (hZ h + 0) ∧ hR h' o 2 = some (hZ h + 2) ∧ hR h' o 3 = some (hZ h + 4) ∧ hR h' o 4 = some (hZ h + 6) ∧ hR h' o 5 = some (hZ h + 8) ∧ hR h' o 6 = some (hZ h + 10) ∧ hR h' o 7 = some (hZ h + 12)) ∧
  (hI h' o 8 = (-1 : Int32) ∧ ∀ j, j ≠ 8 → hI h' o j = hI h o j) ∧
  (rwL h' (hZ h + 0) (hZ h + 1) 300 ∧ (∀ j, hI h' (hZ h + 1) j = 0) ∧ hI h' (hZ h + 0) 1 = 0) ∧
  (rwL h' (hZ h + 2) (hZ h + 3) 300 ∧ (∀ j, hI h' (hZ h + 3) j = 0) ∧ hI h' (hZ h + 2) 1 = 0) ∧
  (rwL h' (hZ h + 4) (hZ h + 5) 300 ∧ (∀ j, hI h' (hZ h + 5) j = 0) ∧ hI h' (hZ h + 4) 1 = 0) ∧
  (rwL h' (hZ h + 6) (hZ h + 7) 300 ∧ (∀ j, hI h' (hZ h + 7) j = 0) ∧ hI h' (hZ h + 6) 1 = 0) ∧
  (rwL h' (hZ h + 8) (hZ h + 9) 300 ∧ (∀ j, hI h' (hZ h + 9) j = 0) ∧ hI h' (hZ h + 8) 1 = 0) ∧
  (rwL h' (hZ h + 10) (hZ h + 11) 300 ∧ (∀ j, hI h' (hZ h + 11) j = 0) ∧ hI h' (hZ h + 10) 1 = 0) ∧
  (rwL h' (hZ h + 12) (hZ h + 13) 300 ∧ (∀ j, hI h' (hZ h + 13) j = 0) ∧ hI h' (hZ h + 12) 1 = 0)
theorem p_Bu_init {h : tpH} {o : Nat} {x1 : Option Nat} {R : tpH → Prop} (ho : o < hZ h) (hk : hT h o = 1) (k : ∀ h', mkBu h h' o x1 → R h') : w_Bu_init o x1 h R := by
  unfold w_Bu_init
  have F0 : ∀ b, b < hZ h → b ≠ o → hSm h h b := fun b _ _ => hSm_rf h b
  have Z0 : hZ h = hZ h + 0 := rfl
  have U0 : hU h = hU h + 0 := rfl
  have T0 : hT h o = 1 := hk
  have I0 : ∀ j, hI h o j = hI h o j := fun _ => rfl
  intro a1 g1 ea1 eg1
  subst ea1 eg1
  refine p_Ro_init (n := 300) (by decide) (by decide) (by decide) (fun h1a M1 => ?_)
  obtain ⟨mz, mu, mf, mr, m1, m0⟩ := M1
  rw [Z0] at mz mr m1 m0
  rw [U0] at mu
  have so : hSm h h1a o := mf o (by rw [Z0]; omega)
  have T1 : hT h1a o = 1 := so.1.trans T0
  refine ⟨T1, fun h1 e1 => ?_⟩
  have Z1 : hZ h1 = hZ h + 2 := by rw [e1, hZ_sR]; omega
  have U1 : hU h1 = hU h + 302 := by rw [e1, hU_sR]; omega
  have G1 : ∀ b, b < hZ h → b ≠ o → hSm h h1 b := fun b hb hbo => by rw [e1]; exact hSm_tr (mf b hb) (hSm_sR _ _ _ _ _ hbo)
  have F1 : ∀ b, b < hZ h → b ≠ o → hSm h h1 b := fun b hb hbo => hSm_tr (F0 b hb hbo) (G1 b (by rw [Z0]; omega) hbo)
  have T1 : hT h1 o = 1 := by rw [e1, hT_sR]; exact T1
  have K1 : ∀ q, q ≠ 1 → hR h1 o q = hR h o q := fun q hq => by rw [e1, hR_sR, tpu_row2, if_neg hq, so.2.2.1]
  have N1 : hR h1 o 1 = some (hZ h + 0) := by rw [e1, hR_sR, tpu_row2, if_pos rfl, Z0]
  have J1 : ∀ q, hI h1 o q = hI h o q := fun q => by rw [e1, hI_sR, so.2.2.2.1]
  have W1 : rwL h1 (hZ h + 0) (hZ h + 1) 300 ∧ (∀ j, hI h1 (hZ h + 1) j = 0) ∧ hI h1 (hZ h + 0) 1 = 0 := by
    refine ⟨?_, fun j => ?_, ?_⟩
    · rw [e1]; exact rwL_k mr (hSm_sR _ _ _ _ _ (by omega)) (hSm_sR _ _ _ _ _ (by omega))
    · rw [e1, hI_sR]; exact m0 j
    · rw [e1, hI_sR]; exact m1
  clear mz mu mf mr m1 m0 so e1
  have I1 : ∀ q, hI h1 o q = hI h o q := fun q  => (J1 q).trans (I0 q )
  clear K1 J1 G1
  intro a2 g2 ea2 eg2
  subst ea2 eg2
  refine p_Ro_init (n := 300) (by decide) (by decide) (by decide) (fun h2a M2 => ?_)
  obtain ⟨mz, mu, mf, mr, m1, m0⟩ := M2
  rw [Z1] at mz mr m1 m0
  rw [U1] at mu
  have so : hSm h1 h2a o := mf o (by rw [Z1]; omega)
  have T2 : hT h2a o = 1 := so.1.trans T1
  refine ⟨T2, fun h2 e2 => ?_⟩
  have Z2 : hZ h2 = hZ h + 4 := by rw [e2, hZ_sR]; omega
  have U2 : hU h2 = hU h + 604 := by rw [e2, hU_sR]; omega
  have G2 : ∀ b, b < hZ h1 → b ≠ o → hSm h1 h2 b := fun b hb hbo => by rw [e2]; exact hSm_tr (mf b hb) (hSm_sR _ _ _ _ _ hbo)
  have F2 : ∀ b, b < hZ h → b ≠ o → hSm h h2 b := fun b hb hbo => hSm_tr (F1 b hb hbo) (G2 b (by rw [Z1]; omega) hbo)
  have T2 : hT h2 o = 1 := by rw [e2, hT_sR]; exact T2
  have K2 : ∀ q, q ≠ 2 → hR h2 o q = hR h1 o q := fun q hq => by rw [e2, hR_sR, tpu_row2, if_neg hq, so.2.2.1]
  have N2 : hR h2 o 2 = some (hZ h + 2) := by rw [e2, hR_sR, tpu_row2, if_pos rfl, Z1]
  have J2 : ∀ q, hI h2 o q = hI h1 o q := fun q => by rw [e2, hI_sR, so.2.2.2.1]
  have W2 : rwL h2 (hZ h + 2) (hZ h + 3) 300 ∧ (∀ j, hI h2 (hZ h + 3) j = 0) ∧ hI h2 (hZ h + 2) 1 = 0 := by
    refine ⟨?_, fun j => ?_, ?_⟩
    · rw [e2]; exact rwL_k mr (hSm_sR _ _ _ _ _ (by omega)) (hSm_sR _ _ _ _ _ (by omega))
    · rw [e2, hI_sR]; exact m0 j
    · rw [e2, hI_sR]; exact m1
  clear mz mu mf mr m1 m0 so e2
  have W1x2 : rwL h2 (hZ h + 0) (hZ h + 1) 300 ∧ (∀ j, hI h2 (hZ h + 1) j = 0) ∧ hI h2 (hZ h + 0) 1 = 0 := mkKeep W1 (G2 _ (by rw [Z1]; omega) (by omega)) (G2 _ (by rw [Z1]; omega) (by omega))
  clear W1
  have N1x2 : hR h2 o 1 = some (hZ h + 0) := (K2 1 (by decide)).trans N1
  have I2 : ∀ q, hI h2 o q = hI h o q := fun q  => (J2 q).trans (I1 q )
  clear K2 J2 G2
  intro a3 g3 ea3 eg3
  subst ea3 eg3
  refine p_Ro_init (n := 300) (by decide) (by decide) (by decide) (fun h3a M3 => ?_)
  obtain ⟨mz, mu, mf, mr, m1, m0⟩ := M3
  rw [Z2] at mz mr m1 m0
  rw [U2] at mu
  have so : hSm h2 h3a o := mf o (by rw [Z2]; omega)
  have T3 : hT h3a o = 1 := so.1.trans T2
  refine ⟨T3, fun h3 e3 => ?_⟩
  have Z3 : hZ h3 = hZ h + 6 := by rw [e3, hZ_sR]; omega
  have U3 : hU h3 = hU h + 906 := by rw [e3, hU_sR]; omega
  have G3 : ∀ b, b < hZ h2 → b ≠ o → hSm h2 h3 b := fun b hb hbo => by rw [e3]; exact hSm_tr (mf b hb) (hSm_sR _ _ _ _ _ hbo)
  have F3 : ∀ b, b < hZ h → b ≠ o → hSm h h3 b := fun b hb hbo => hSm_tr (F2 b hb hbo) (G3 b (by rw [Z2]; omega) hbo)
  have T3 : hT h3 o = 1 := by rw [e3, hT_sR]; exact T3
  have K3 : ∀ q, q ≠ 3 → hR h3 o q = hR h2 o q := fun q hq => by rw [e3, hR_sR, tpu_row2, if_neg hq, so.2.2.1]
  have N3 : hR h3 o 3 = some (hZ h + 4) := by rw [e3, hR_sR, tpu_row2, if_pos rfl, Z2]
  have J3 : ∀ q, hI h3 o q = hI h2 o q := fun q => by rw [e3, hI_sR, so.2.2.2.1]
  have W3 : rwL h3 (hZ h + 4) (hZ h + 5) 300 ∧ (∀ j, hI h3 (hZ h + 5) j = 0) ∧ hI h3 (hZ h + 4) 1 = 0 := by
    refine ⟨?_, fun j => ?_, ?_⟩
    · rw [e3]; exact rwL_k mr (hSm_sR _ _ _ _ _ (by omega)) (hSm_sR _ _ _ _ _ (by omega))
    · rw [e3, hI_sR]; exact m0 j
    · rw [e3, hI_sR]; exact m1
  clear mz mu mf mr m1 m0 so e3
  have W1x2x3 : rwL h3 (hZ h + 0) (hZ h + 1) 300 ∧ (∀ j, hI h3 (hZ h + 1) j = 0) ∧ hI h3 (hZ h + 0) 1 = 0 := mkKeep W1x2 (G3 _ (by rw [Z2]; omega) (by omega)) (G3 _ (by rw [Z2]; omega) (by omega))
  clear W1x2
  have W2x3 : rwL h3 (hZ h + 2) (hZ h + 3) 300 ∧ (∀ j, hI h3 (hZ h + 3) j = 0) ∧ hI h3 (hZ h + 2) 1 = 0 := mkKeep W2 (G3 _ (by rw [Z2]; omega) (by omega)) (G3 _ (by rw [Z2]; omega) (by omega))
  clear W2
  have N1x2x3 : hR h3 o 1 = some (hZ h + 0) := (K3 1 (by decide)).trans N1x2
  have N2x3 : hR h3 o 2 = some (hZ h + 2) := (K3 2 (by decide)).trans N2
  have I3 : ∀ q, hI h3 o q = hI h o q := fun q  => (J3 q).trans (I2 q )
  clear K3 J3 G3
  intro a4 g4 ea4 eg4
  subst ea4 eg4
  refine p_Ro_init (n := 300) (by decide) (by decide) (by decide) (fun h4a M4 => ?_)
  obtain ⟨mz, mu, mf, mr, m1, m0⟩ := M4
  rw [Z3] at mz mr m1 m0
  rw [U3] at mu
  have so : hSm h3 h4a o := mf o (by rw [Z3]; omega)
  have T4 : hT h4a o = 1 := so.1.trans T3
  refine ⟨T4, fun h4 e4 => ?_⟩
  have Z4 : hZ h4 = hZ h + 8 := by rw [e4, hZ_sR]; omega
  have U4 : hU h4 = hU h + 1208 := by rw [e4, hU_sR]; omega
  have G4 : ∀ b, b < hZ h3 → b ≠ o → hSm h3 h4 b := fun b hb hbo => by rw [e4]; exact hSm_tr (mf b hb) (hSm_sR _ _ _ _ _ hbo)
  have F4 : ∀ b, b < hZ h → b ≠ o → hSm h h4 b := fun b hb hbo => hSm_tr (F3 b hb hbo) (G4 b (by rw [Z3]; omega) hbo)
  have T4 : hT h4 o = 1 := by rw [e4, hT_sR]; exact T4
  have K4 : ∀ q, q ≠ 4 → hR h4 o q = hR h3 o q := fun q hq => by rw [e4, hR_sR, tpu_row2, if_neg hq, so.2.2.1]
  have N4 : hR h4 o 4 = some (hZ h + 6) := by rw [e4, hR_sR, tpu_row2, if_pos rfl, Z3]
  have J4 : ∀ q, hI h4 o q = hI h3 o q := fun q => by rw [e4, hI_sR, so.2.2.2.1]
  have W4 : rwL h4 (hZ h + 6) (hZ h + 7) 300 ∧ (∀ j, hI h4 (hZ h + 7) j = 0) ∧ hI h4 (hZ h + 6) 1 = 0 := by
    refine ⟨?_, fun j => ?_, ?_⟩
    · rw [e4]; exact rwL_k mr (hSm_sR _ _ _ _ _ (by omega)) (hSm_sR _ _ _ _ _ (by omega))
    · rw [e4, hI_sR]; exact m0 j
    · rw [e4, hI_sR]; exact m1
  clear mz mu mf mr m1 m0 so e4
  have W1x2x3x4 : rwL h4 (hZ h + 0) (hZ h + 1) 300 ∧ (∀ j, hI h4 (hZ h + 1) j = 0) ∧ hI h4 (hZ h + 0) 1 = 0 := mkKeep W1x2x3 (G4 _ (by rw [Z3]; omega) (by omega)) (G4 _ (by rw [Z3]; omega) (by omega))
  clear W1x2x3
  have W2x3x4 : rwL h4 (hZ h + 2) (hZ h + 3) 300 ∧ (∀ j, hI h4 (hZ h + 3) j = 0) ∧ hI h4 (hZ h + 2) 1 = 0 := mkKeep W2x3 (G4 _ (by rw [Z3]; omega) (by omega)) (G4 _ (by rw [Z3]; omega) (by omega))
  clear W2x3
  have W3x4 : rwL h4 (hZ h + 4) (hZ h + 5) 300 ∧ (∀ j, hI h4 (hZ h + 5) j = 0) ∧ hI h4 (hZ h + 4) 1 = 0 := mkKeep W3 (G4 _ (by rw [Z3]; omega) (by omega)) (G4 _ (by rw [Z3]; omega) (by omega))
  clear W3
  have N1x2x3x4 : hR h4 o 1 = some (hZ h + 0) := (K4 1 (by decide)).trans N1x2x3
  have N2x3x4 : hR h4 o 2 = some (hZ h + 2) := (K4 2 (by decide)).trans N2x3
  have N3x4 : hR h4 o 3 = some (hZ h + 4) := (K4 3 (by decide)).trans N3
  have I4 : ∀ q, hI h4 o q = hI h o q := fun q  => (J4 q).trans (I3 q )
  clear K4 J4 G4
  intro a5 g5 ea5 eg5
  subst ea5 eg5
  refine p_Ro_init (n := 300) (by decide) (by decide) (by decide) (fun h5a M5 => ?_)
  obtain ⟨mz, mu, mf, mr, m1, m0⟩ := M5
  rw [Z4] at mz mr m1 m0
  rw [U4] at mu
  have so : hSm h4 h5a o := mf o (by rw [Z4]; omega)
  have T5 : hT h5a o = 1 := so.1.trans T4
  refine ⟨T5, fun h5 e5 => ?_⟩
  have Z5 : hZ h5 = hZ h + 10 := by rw [e5, hZ_sR]; omega
  have U5 : hU h5 = hU h + 1510 := by rw [e5, hU_sR]; omega
  have G5 : ∀ b, b < hZ h4 → b ≠ o → hSm h4 h5 b := fun b hb hbo => by rw [e5]; exact hSm_tr (mf b hb) (hSm_sR _ _ _ _ _ hbo)
  have F5 : ∀ b, b < hZ h → b ≠ o → hSm h h5 b := fun b hb hbo => hSm_tr (F4 b hb hbo) (G5 b (by rw [Z4]; omega) hbo)
  have T5 : hT h5 o = 1 := by rw [e5, hT_sR]; exact T5
  have K5 : ∀ q, q ≠ 5 → hR h5 o q = hR h4 o q := fun q hq => by rw [e5, hR_sR, tpu_row2, if_neg hq, so.2.2.1]
  have N5 : hR h5 o 5 = some (hZ h + 8) := by rw [e5, hR_sR, tpu_row2, if_pos rfl, Z4]
  have J5 : ∀ q, hI h5 o q = hI h4 o q := fun q => by rw [e5, hI_sR, so.2.2.2.1]
  have W5 : rwL h5 (hZ h + 8) (hZ h + 9) 300 ∧ (∀ j, hI h5 (hZ h + 9) j = 0) ∧ hI h5 (hZ h + 8) 1 = 0 := by
    refine ⟨?_, fun j => ?_, ?_⟩
    · rw [e5]; exact rwL_k mr (hSm_sR _ _ _ _ _ (by omega)) (hSm_sR _ _ _ _ _ (by omega))
    · rw [e5, hI_sR]; exact m0 j
    · rw [e5, hI_sR]; exact m1
  clear mz mu mf mr m1 m0 so e5
  have W1x2x3x4x5 : rwL h5 (hZ h + 0) (hZ h + 1) 300 ∧ (∀ j, hI h5 (hZ h + 1) j = 0) ∧ hI h5 (hZ h + 0) 1 = 0 := mkKeep W1x2x3x4 (G5 _ (by rw [Z4]; omega) (by omega)) (G5 _ (by rw [Z4]; omega) (by omega))
  clear W1x2x3x4
  have W2x3x4x5 : rwL h5 (hZ h + 2) (hZ h + 3) 300 ∧ (∀ j, hI h5 (hZ h + 3) j = 0) ∧ hI h5 (hZ h + 2) 1 = 0 := mkKeep W2x3x4 (G5 _ (by rw [Z4]; omega) (by omega)) (G5 _ (by rw [Z4]; omega) (by omega))
  clear W2x3x4
  have W3x4x5 : rwL h5 (hZ h + 4) (hZ h + 5) 300 ∧ (∀ j, hI h5 (hZ h + 5) j = 0) ∧ hI h5 (hZ h + 4) 1 = 0 := mkKeep W3x4 (G5 _ (by rw [Z4]; omega) (by omega)) (G5 _ (by rw [Z4]; omega) (by omega))
  clear W3x4
  have W4x5 : rwL h5 (hZ h + 6) (hZ h + 7) 300 ∧ (∀ j, hI h5 (hZ h + 7) j = 0) ∧ hI h5 (hZ h + 6) 1 = 0 := mkKeep W4 (G5 _ (by rw [Z4]; omega) (by omega)) (G5 _ (by rw [Z4]; omega) (by omega))
  clear W4
  have N1x2x3x4x5 : hR h5 o 1 = some (hZ h + 0) := (K5 1 (by decide)).trans N1x2x3x4
  have N2x3x4x5 : hR h5 o 2 = some (hZ h + 2) := (K5 2 (by decide)).trans N2x3x4
  have N3x4x5 : hR h5 o 3 = some (hZ h + 4) := (K5 3 (by decide)).trans N3x4
  have N4x5 : hR h5 o 4 = some (hZ h + 6) := (K5 4 (by decide)).trans N4
  have I5 : ∀ q, hI h5 o q = hI h o q := fun q  => (J5 q).trans (I4 q )
  clear K5 J5 G5
  intro a6 g6 ea6 eg6
  subst ea6 eg6
  refine p_Ro_init (n := 300) (by decide) (by decide) (by decide) (fun h6a M6 => ?_)
  obtain ⟨mz, mu, mf, mr, m1, m0⟩ := M6
  rw [Z5] at mz mr m1 m0
  rw [U5] at mu
  have so : hSm h5 h6a o := mf o (by rw [Z5]; omega)
  have T6 : hT h6a o = 1 := so.1.trans T5
  refine ⟨T6, fun h6 e6 => ?_⟩
  have Z6 : hZ h6 = hZ h + 12 := by rw [e6, hZ_sR]; omega
  have U6 : hU h6 = hU h + 1812 := by rw [e6, hU_sR]; omega
  have G6 : ∀ b, b < hZ h5 → b ≠ o → hSm h5 h6 b := fun b hb hbo => by rw [e6]; exact hSm_tr (mf b hb) (hSm_sR _ _ _ _ _ hbo)
  have F6 : ∀ b, b < hZ h → b ≠ o → hSm h h6 b := fun b hb hbo => hSm_tr (F5 b hb hbo) (G6 b (by rw [Z5]; omega) hbo)
  have T6 : hT h6 o = 1 := by rw [e6, hT_sR]; exact T6
  have K6 : ∀ q, q ≠ 6 → hR h6 o q = hR h5 o q := fun q hq => by rw [e6, hR_sR, tpu_row2, if_neg hq, so.2.2.1]
  have N6 : hR h6 o 6 = some (hZ h + 10) := by rw [e6, hR_sR, tpu_row2, if_pos rfl, Z5]
  have J6 : ∀ q, hI h6 o q = hI h5 o q := fun q => by rw [e6, hI_sR, so.2.2.2.1]
  have W6 : rwL h6 (hZ h + 10) (hZ h + 11) 300 ∧ (∀ j, hI h6 (hZ h + 11) j = 0) ∧ hI h6 (hZ h + 10) 1 = 0 := by
    refine ⟨?_, fun j => ?_, ?_⟩
    · rw [e6]; exact rwL_k mr (hSm_sR _ _ _ _ _ (by omega)) (hSm_sR _ _ _ _ _ (by omega))
    · rw [e6, hI_sR]; exact m0 j
    · rw [e6, hI_sR]; exact m1
  clear mz mu mf mr m1 m0 so e6
  have W1x2x3x4x5x6 : rwL h6 (hZ h + 0) (hZ h + 1) 300 ∧ (∀ j, hI h6 (hZ h + 1) j = 0) ∧ hI h6 (hZ h + 0) 1 = 0 := mkKeep W1x2x3x4x5 (G6 _ (by rw [Z5]; omega) (by omega)) (G6 _ (by rw [Z5]; omega) (by omega))
  clear W1x2x3x4x5
  have W2x3x4x5x6 : rwL h6 (hZ h + 2) (hZ h + 3) 300 ∧ (∀ j, hI h6 (hZ h + 3) j = 0) ∧ hI h6 (hZ h + 2) 1 = 0 := mkKeep W2x3x4x5 (G6 _ (by rw [Z5]; omega) (by omega)) (G6 _ (by rw [Z5]; omega) (by omega))
  clear W2x3x4x5
  have W3x4x5x6 : rwL h6 (hZ h + 4) (hZ h + 5) 300 ∧ (∀ j, hI h6 (hZ h + 5) j = 0) ∧ hI h6 (hZ h + 4) 1 = 0 := mkKeep W3x4x5 (G6 _ (by rw [Z5]; omega) (by omega)) (G6 _ (by rw [Z5]; omega) (by omega))
  clear W3x4x5
  have W4x5x6 : rwL h6 (hZ h + 6) (hZ h + 7) 300 ∧ (∀ j, hI h6 (hZ h + 7) j = 0) ∧ hI h6 (hZ h + 6) 1 = 0 := mkKeep W4x5 (G6 _ (by rw [Z5]; omega) (by omega)) (G6 _ (by rw [Z5]; omega) (by omega))
  clear W4x5
  have W5x6 : rwL h6 (hZ h + 8) (hZ h + 9) 300 ∧ (∀ j, hI h6 (hZ h + 9) j = 0) ∧ hI h6 (hZ h + 8) 1 = 0 := mkKeep W5 (G6 _ (by rw [Z5]; omega) (by omega)) (G6 _ (by rw [Z5]; omega) (by omega))
  clear W5
  have N1x2x3x4x5x6 : hR h6 o 1 = some (hZ h + 0) := (K6 1 (by decide)).trans N1x2x3x4x5
  have N2x3x4x5x6 : hR h6 o 2 = some (hZ h + 2) := (K6 2 (by decide)).trans N2x3x4x5
  have N3x4x5x6 : hR h6 o 3 = some (hZ h + 4) := (K6 3 (by decide)).trans N3x4x5
  have N4x5x6 : hR h6 o 4 = some (hZ h + 6) := (K6 4 (by decide)).trans N4x5
  have N5x6 : hR h6 o 5 = some (hZ h + 8) := (K6 5 (by decide)).trans N5
  have I6 : ∀ q, hI h6 o q = hI h o q := fun q  => (J6 q).trans (I5 q )
  clear K6 J6 G6
  intro a7 g7 ea7 eg7
  subst ea7 eg7
  refine p_Ro_init (n := 300) (by decide) (by decide) (by decide) (fun h7a M7 => ?_)
  obtain ⟨mz, mu, mf, mr, m1, m0⟩ := M7
  rw [Z6] at mz mr m1 m0
  rw [U6] at mu
  have so : hSm h6 h7a o := mf o (by rw [Z6]; omega)
  have T7 : hT h7a o = 1 := so.1.trans T6
  refine ⟨T7, fun h7 e7 => ?_⟩
  have Z7 : hZ h7 = hZ h + 14 := by rw [e7, hZ_sR]; omega
  have U7 : hU h7 = hU h + 2114 := by rw [e7, hU_sR]; omega
  have G7 : ∀ b, b < hZ h6 → b ≠ o → hSm h6 h7 b := fun b hb hbo => by rw [e7]; exact hSm_tr (mf b hb) (hSm_sR _ _ _ _ _ hbo)
  have F7 : ∀ b, b < hZ h → b ≠ o → hSm h h7 b := fun b hb hbo => hSm_tr (F6 b hb hbo) (G7 b (by rw [Z6]; omega) hbo)
  have T7 : hT h7 o = 1 := by rw [e7, hT_sR]; exact T7
  have K7 : ∀ q, q ≠ 7 → hR h7 o q = hR h6 o q := fun q hq => by rw [e7, hR_sR, tpu_row2, if_neg hq, so.2.2.1]
  have N7 : hR h7 o 7 = some (hZ h + 12) := by rw [e7, hR_sR, tpu_row2, if_pos rfl, Z6]
  have J7 : ∀ q, hI h7 o q = hI h6 o q := fun q => by rw [e7, hI_sR, so.2.2.2.1]
  have W7 : rwL h7 (hZ h + 12) (hZ h + 13) 300 ∧ (∀ j, hI h7 (hZ h + 13) j = 0) ∧ hI h7 (hZ h + 12) 1 = 0 := by
    refine ⟨?_, fun j => ?_, ?_⟩
    · rw [e7]; exact rwL_k mr (hSm_sR _ _ _ _ _ (by omega)) (hSm_sR _ _ _ _ _ (by omega))
    · rw [e7, hI_sR]; exact m0 j
    · rw [e7, hI_sR]; exact m1
  clear mz mu mf mr m1 m0 so e7
  have W1x2x3x4x5x6x7 : rwL h7 (hZ h + 0) (hZ h + 1) 300 ∧ (∀ j, hI h7 (hZ h + 1) j = 0) ∧ hI h7 (hZ h + 0) 1 = 0 := mkKeep W1x2x3x4x5x6 (G7 _ (by rw [Z6]; omega) (by omega)) (G7 _ (by rw [Z6]; omega) (by omega))
  clear W1x2x3x4x5x6
  have W2x3x4x5x6x7 : rwL h7 (hZ h + 2) (hZ h + 3) 300 ∧ (∀ j, hI h7 (hZ h + 3) j = 0) ∧ hI h7 (hZ h + 2) 1 = 0 := mkKeep W2x3x4x5x6 (G7 _ (by rw [Z6]; omega) (by omega)) (G7 _ (by rw [Z6]; omega) (by omega))
  clear W2x3x4x5x6
  have W3x4x5x6x7 : rwL h7 (hZ h + 4) (hZ h + 5) 300 ∧ (∀ j, hI h7 (hZ h + 5) j = 0) ∧ hI h7 (hZ h + 4) 1 = 0 := mkKeep W3x4x5x6 (G7 _ (by rw [Z6]; omega) (by omega)) (G7 _ (by rw [Z6]; omega) (by omega))
  clear W3x4x5x6
  have W4x5x6x7 : rwL h7 (hZ h + 6) (hZ h + 7) 300 ∧ (∀ j, hI h7 (hZ h + 7) j = 0) ∧ hI h7 (hZ h + 6) 1 = 0 := mkKeep W4x5x6 (G7 _ (by rw [Z6]; omega) (by omega)) (G7 _ (by rw [Z6]; omega) (by omega))
  clear W4x5x6
  have W5x6x7 : rwL h7 (hZ h + 8) (hZ h + 9) 300 ∧ (∀ j, hI h7 (hZ h + 9) j = 0) ∧ hI h7 (hZ h + 8) 1 = 0 := mkKeep W5x6 (G7 _ (by rw [Z6]; omega) (by omega)) (G7 _ (by rw [Z6]; omega) (by omega))
  clear W5x6
  have W6x7 : rwL h7 (hZ h + 10) (hZ h + 11) 300 ∧ (∀ j, hI h7 (hZ h + 11) j = 0) ∧ hI h7 (hZ h + 10) 1 = 0 := mkKeep W6 (G7 _ (by rw [Z6]; omega) (by omega)) (G7 _ (by rw [Z6]; omega) (by omega))
  clear W6
  have N1x2x3x4x5x6x7 : hR h7 o 1 = some (hZ h + 0) := (K7 1 (by decide)).trans N1x2x3x4x5x6
  have N2x3x4x5x6x7 : hR h7 o 2 = some (hZ h + 2) := (K7 2 (by decide)).trans N2x3x4x5x6
  have N3x4x5x6x7 : hR h7 o 3 = some (hZ h + 4) := (K7 3 (by decide)).trans N3x4x5x6
  have N4x5x6x7 : hR h7 o 4 = some (hZ h + 6) := (K7 4 (by decide)).trans N4x5x6
  have N5x6x7 : hR h7 o 5 = some (hZ h + 8) := (K7 5 (by decide)).trans N5x6
  have N6x7 : hR h7 o 6 = some (hZ h + 10) := (K7 6 (by decide)).trans N6
  have I7 : ∀ q, hI h7 o q = hI h o q := fun q  => (J7 q).trans (I6 q )
  clear K7 J7 G7
  intro h8 e8
  have Z8 : hZ h8 = hZ h + 14 := by rw [e8, hZ_sI]; exact Z7
  have U8 : hU h8 = hU h + 2114 := by rw [e8, hU_sI]; exact U7
  have G8 : ∀ b, b < hZ h7 → b ≠ o → hSm h7 h8 b := fun b hb hbo => by rw [e8]; exact hSm_sI _ _ _ _ _ hbo
  have F8 : ∀ b, b < hZ h → b ≠ o → hSm h h8 b := fun b hb hbo => hSm_tr (F7 b hb hbo) (G8 b (by rw [Z7]; omega) hbo)
  have T8 : hT h8 o = 1 := by rw [e8, hT_sI]; exact T7
  have K8 : ∀ q : Nat, hR h8 o q = hR h7 o q := fun q => by rw [e8, hR_sI]
  have N8 : hI h8 o 8 = (-1 : Int32) := by rw [e8, hI_sI, tpu_row2, if_pos rfl]
  have J8 : ∀ q, q ≠ 8 → hI h8 o q = hI h7 o q := fun q hq => by rw [e8, hI_sI, tpu_row2, if_neg hq]
  clear e8
  have W1x2x3x4x5x6x7x8 : rwL h8 (hZ h + 0) (hZ h + 1) 300 ∧ (∀ j, hI h8 (hZ h + 1) j = 0) ∧ hI h8 (hZ h + 0) 1 = 0 := mkKeep W1x2x3x4x5x6x7 (G8 _ (by rw [Z7]; omega) (by omega)) (G8 _ (by rw [Z7]; omega) (by omega))
  clear W1x2x3x4x5x6x7
  have W2x3x4x5x6x7x8 : rwL h8 (hZ h + 2) (hZ h + 3) 300 ∧ (∀ j, hI h8 (hZ h + 3) j = 0) ∧ hI h8 (hZ h + 2) 1 = 0 := mkKeep W2x3x4x5x6x7 (G8 _ (by rw [Z7]; omega) (by omega)) (G8 _ (by rw [Z7]; omega) (by omega))
  clear W2x3x4x5x6x7
  have W3x4x5x6x7x8 : rwL h8 (hZ h + 4) (hZ h + 5) 300 ∧ (∀ j, hI h8 (hZ h + 5) j = 0) ∧ hI h8 (hZ h + 4) 1 = 0 := mkKeep W3x4x5x6x7 (G8 _ (by rw [Z7]; omega) (by omega)) (G8 _ (by rw [Z7]; omega) (by omega))
  clear W3x4x5x6x7
  have W4x5x6x7x8 : rwL h8 (hZ h + 6) (hZ h + 7) 300 ∧ (∀ j, hI h8 (hZ h + 7) j = 0) ∧ hI h8 (hZ h + 6) 1 = 0 := mkKeep W4x5x6x7 (G8 _ (by rw [Z7]; omega) (by omega)) (G8 _ (by rw [Z7]; omega) (by omega))
  clear W4x5x6x7
  have W5x6x7x8 : rwL h8 (hZ h + 8) (hZ h + 9) 300 ∧ (∀ j, hI h8 (hZ h + 9) j = 0) ∧ hI h8 (hZ h + 8) 1 = 0 := mkKeep W5x6x7 (G8 _ (by rw [Z7]; omega) (by omega)) (G8 _ (by rw [Z7]; omega) (by omega))
  clear W5x6x7
  have W6x7x8 : rwL h8 (hZ h + 10) (hZ h + 11) 300 ∧ (∀ j, hI h8 (hZ h + 11) j = 0) ∧ hI h8 (hZ h + 10) 1 = 0 := mkKeep W6x7 (G8 _ (by rw [Z7]; omega) (by omega)) (G8 _ (by rw [Z7]; omega) (by omega))
  clear W6x7
  have W7x8 : rwL h8 (hZ h + 12) (hZ h + 13) 300 ∧ (∀ j, hI h8 (hZ h + 13) j = 0) ∧ hI h8 (hZ h + 12) 1 = 0 := mkKeep W7 (G8 _ (by rw [Z7]; omega) (by omega)) (G8 _ (by rw [Z7]; omega) (by omega))
  clear W7
  have N1x2x3x4x5x6x7x8 : hR h8 o 1 = some (hZ h + 0) := (K8 1).trans N1x2x3x4x5x6x7
  have N2x3x4x5x6x7x8 : hR h8 o 2 = some (hZ h + 2) := (K8 2).trans N2x3x4x5x6x7
  have N3x4x5x6x7x8 : hR h8 o 3 = some (hZ h + 4) := (K8 3).trans N3x4x5x6x7
  have N4x5x6x7x8 : hR h8 o 4 = some (hZ h + 6) := (K8 4).trans N4x5x6x7
  have N5x6x7x8 : hR h8 o 5 = some (hZ h + 8) := (K8 5).trans N5x6x7
  have N6x7x8 : hR h8 o 6 = some (hZ h + 10) := (K8 6).trans N6x7
  have N7x8 : hR h8 o 7 = some (hZ h + 12) := (K8 7).trans N7
  have I8 : ∀ q, q ≠ 8 → hI h8 o q = hI h o q := fun q n8 => (J8 q n8).trans (I7 q )
  clear K8 J8 G8
  intro h9 e9
  have Z9 : hZ h9 = hZ h + 14 := by rw [e9, hZ_sR]; exact Z8
  have U9 : hU h9 = hU h + 2114 := by rw [e9, hU_sR]; exact U8
  have G9 : ∀ b, b < hZ h8 → b ≠ o → hSm h8 h9 b := fun b hb hbo => by rw [e9]; exact hSm_sR _ _ _ _ _ hbo
  have F9 : ∀ b, b < hZ h → b ≠ o → hSm h h9 b := fun b hb hbo => hSm_tr (F8 b hb hbo) (G9 b (by rw [Z8]; omega) hbo)
  have T9 : hT h9 o = 1 := by rw [e9, hT_sR]; exact T8
  have K9 : ∀ q, q ≠ 0 → hR h9 o q = hR h8 o q := fun q hq => by rw [e9, hR_sR, tpu_row2, if_neg hq]
  have N9 : hR h9 o 0 = x1 := by rw [e9, hR_sR, tpu_row2, if_pos rfl]
  have J9 : ∀ q, hI h9 o q = hI h8 o q := fun q => by rw [e9, hI_sR]
  clear e9
  have W1x2x3x4x5x6x7x8x9 : rwL h9 (hZ h + 0) (hZ h + 1) 300 ∧ (∀ j, hI h9 (hZ h + 1) j = 0) ∧ hI h9 (hZ h + 0) 1 = 0 := mkKeep W1x2x3x4x5x6x7x8 (G9 _ (by rw [Z8]; omega) (by omega)) (G9 _ (by rw [Z8]; omega) (by omega))
  clear W1x2x3x4x5x6x7x8
  have W2x3x4x5x6x7x8x9 : rwL h9 (hZ h + 2) (hZ h + 3) 300 ∧ (∀ j, hI h9 (hZ h + 3) j = 0) ∧ hI h9 (hZ h + 2) 1 = 0 := mkKeep W2x3x4x5x6x7x8 (G9 _ (by rw [Z8]; omega) (by omega)) (G9 _ (by rw [Z8]; omega) (by omega))
  clear W2x3x4x5x6x7x8
  have W3x4x5x6x7x8x9 : rwL h9 (hZ h + 4) (hZ h + 5) 300 ∧ (∀ j, hI h9 (hZ h + 5) j = 0) ∧ hI h9 (hZ h + 4) 1 = 0 := mkKeep W3x4x5x6x7x8 (G9 _ (by rw [Z8]; omega) (by omega)) (G9 _ (by rw [Z8]; omega) (by omega))
  clear W3x4x5x6x7x8
  have W4x5x6x7x8x9 : rwL h9 (hZ h + 6) (hZ h + 7) 300 ∧ (∀ j, hI h9 (hZ h + 7) j = 0) ∧ hI h9 (hZ h + 6) 1 = 0 := mkKeep W4x5x6x7x8 (G9 _ (by rw [Z8]; omega) (by omega)) (G9 _ (by rw [Z8]; omega) (by omega))
  clear W4x5x6x7x8
  have W5x6x7x8x9 : rwL h9 (hZ h + 8) (hZ h + 9) 300 ∧ (∀ j, hI h9 (hZ h + 9) j = 0) ∧ hI h9 (hZ h + 8) 1 = 0 := mkKeep W5x6x7x8 (G9 _ (by rw [Z8]; omega) (by omega)) (G9 _ (by rw [Z8]; omega) (by omega))
  clear W5x6x7x8
  have W6x7x8x9 : rwL h9 (hZ h + 10) (hZ h + 11) 300 ∧ (∀ j, hI h9 (hZ h + 11) j = 0) ∧ hI h9 (hZ h + 10) 1 = 0 := mkKeep W6x7x8 (G9 _ (by rw [Z8]; omega) (by omega)) (G9 _ (by rw [Z8]; omega) (by omega))
  clear W6x7x8
  have W7x8x9 : rwL h9 (hZ h + 12) (hZ h + 13) 300 ∧ (∀ j, hI h9 (hZ h + 13) j = 0) ∧ hI h9 (hZ h + 12) 1 = 0 := mkKeep W7x8 (G9 _ (by rw [Z8]; omega) (by omega)) (G9 _ (by rw [Z8]; omega) (by omega))
  clear W7x8
  have N1x2x3x4x5x6x7x8x9 : hR h9 o 1 = some (hZ h + 0) := (K9 1 (by decide)).trans N1x2x3x4x5x6x7x8
  have N2x3x4x5x6x7x8x9 : hR h9 o 2 = some (hZ h + 2) := (K9 2 (by decide)).trans N2x3x4x5x6x7x8
  have N3x4x5x6x7x8x9 : hR h9 o 3 = some (hZ h + 4) := (K9 3 (by decide)).trans N3x4x5x6x7x8
  have N4x5x6x7x8x9 : hR h9 o 4 = some (hZ h + 6) := (K9 4 (by decide)).trans N4x5x6x7x8
  have N5x6x7x8x9 : hR h9 o 5 = some (hZ h + 8) := (K9 5 (by decide)).trans N5x6x7x8
  have N6x7x8x9 : hR h9 o 6 = some (hZ h + 10) := (K9 6 (by decide)).trans N6x7x8
  have N7x8x9 : hR h9 o 7 = some (hZ h + 12) := (K9 7 (by decide)).trans N7x8
  have N8x9 : hI h9 o 8 = (-1 : Int32) := (J9 8).trans N8
  have I9 : ∀ q, q ≠ 8 → hI h9 o q = hI h o q := fun q n8 => (J9 q).trans (I8 q n8)
  clear K9 J9 G9
  exact k h9 ⟨Z9, U9, F9, T9, ⟨N9, N1x2x3x4x5x6x7x8x9, N2x3x4x5x6x7x8x9, N3x4x5x6x7x8x9, N4x5x6x7x8x9, N5x6x7x8x9, N6x7x8x9, N7x8x9⟩, ⟨N8x9, I9⟩, W1x2x3x4x5x6x7x8x9, W2x3x4x5x6x7x8x9, W3x4x5x6x7x8x9, W4x5x6x7x8x9, W5x6x7x8x9, W6x7x8x9, W7x8x9⟩
def mkLi (h h' : tpH) (o : Nat) (x1 : Option Nat) : Prop :=
  hZ h' = hZ h + 12 ∧
  hU h' = hU h + 3612 ∧
  (∀ b, b < hZ h → b ≠ o → hSm h h' b) ∧
  hT h' o = 4 ∧
  (hR h' o 0 = x1 ∧ hR h' o 1 = some (hZ h + 0) ∧ hR h' o 2 = some (hZ h + 2) ∧ hR h' o 3 = some (hZ h + 4) ∧ hR h' o 4 = some (hZ h + 6) ∧ hR h' o 5 = some (hZ h + 8) ∧ hR h' o 6 = some (hZ h + 10)) ∧
  (∀ j, hI h' o j = hI h o j) ∧
  (rwL h' (hZ h + 0) (hZ h + 1) 600 ∧ (∀ j, hI h' (hZ h + 1) j = 0) ∧ hI h' (hZ h + 0) 1 = 0) ∧
  (rwL h' (hZ h + 2) (hZ h + 3) 600 ∧ (∀ j, hI h' (hZ h + 3) j = 0) ∧ hI h' (hZ h + 2) 1 = 0) ∧
  (rwL h' (hZ h + 4) (hZ h + 5) 600 ∧ (∀ j, hI h' (hZ h + 5) j = 0) ∧ hI h' (hZ h + 4) 1 = 0) ∧
  (rwL h' (hZ h + 6) (hZ h + 7) 600 ∧ (∀ j, hI h' (hZ h + 7) j = 0) ∧ hI h' (hZ h + 6) 1 = 0) ∧
  (rwL h' (hZ h + 8) (hZ h + 9) 600 ∧ (∀ j, hI h' (hZ h + 9) j = 0) ∧ hI h' (hZ h + 8) 1 = 0) ∧
  (rwL h' (hZ h + 10) (hZ h + 11) 600 ∧ (∀ j, hI h' (hZ h + 11) j = 0) ∧ hI h' (hZ h + 10) 1 = 0)
theorem p_Li_init {h : tpH} {o : Nat} {x1 : Option Nat} {R : tpH → Prop} (ho : o < hZ h) (hk : hT h o = 4) (k : ∀ h', mkLi h h' o x1 → R h') : w_Li_init o x1 h R := by
  unfold w_Li_init
  have F0 : ∀ b, b < hZ h → b ≠ o → hSm h h b := fun b _ _ => hSm_rf h b
  have Z0 : hZ h = hZ h + 0 := rfl
  have U0 : hU h = hU h + 0 := rfl
  have T0 : hT h o = 4 := hk
  have I0 : ∀ j, hI h o j = hI h o j := fun _ => rfl
  intro a1 g1 ea1 eg1
  subst ea1 eg1
  refine p_Ro_init (n := 600) (by decide) (by decide) (by decide) (fun h1a M1 => ?_)
  obtain ⟨mz, mu, mf, mr, m1, m0⟩ := M1
  rw [Z0] at mz mr m1 m0
  rw [U0] at mu
  have so : hSm h h1a o := mf o (by rw [Z0]; omega)
  have T1 : hT h1a o = 4 := so.1.trans T0
  refine ⟨T1, fun h1 e1 => ?_⟩
  have Z1 : hZ h1 = hZ h + 2 := by rw [e1, hZ_sR]; omega
  have U1 : hU h1 = hU h + 602 := by rw [e1, hU_sR]; omega
  have G1 : ∀ b, b < hZ h → b ≠ o → hSm h h1 b := fun b hb hbo => by rw [e1]; exact hSm_tr (mf b hb) (hSm_sR _ _ _ _ _ hbo)
  have F1 : ∀ b, b < hZ h → b ≠ o → hSm h h1 b := fun b hb hbo => hSm_tr (F0 b hb hbo) (G1 b (by rw [Z0]; omega) hbo)
  have T1 : hT h1 o = 4 := by rw [e1, hT_sR]; exact T1
  have K1 : ∀ q, q ≠ 1 → hR h1 o q = hR h o q := fun q hq => by rw [e1, hR_sR, tpu_row2, if_neg hq, so.2.2.1]
  have N1 : hR h1 o 1 = some (hZ h + 0) := by rw [e1, hR_sR, tpu_row2, if_pos rfl, Z0]
  have J1 : ∀ q, hI h1 o q = hI h o q := fun q => by rw [e1, hI_sR, so.2.2.2.1]
  have W1 : rwL h1 (hZ h + 0) (hZ h + 1) 600 ∧ (∀ j, hI h1 (hZ h + 1) j = 0) ∧ hI h1 (hZ h + 0) 1 = 0 := by
    refine ⟨?_, fun j => ?_, ?_⟩
    · rw [e1]; exact rwL_k mr (hSm_sR _ _ _ _ _ (by omega)) (hSm_sR _ _ _ _ _ (by omega))
    · rw [e1, hI_sR]; exact m0 j
    · rw [e1, hI_sR]; exact m1
  clear mz mu mf mr m1 m0 so e1
  have I1 : ∀ q, hI h1 o q = hI h o q := fun q  => (J1 q).trans (I0 q )
  clear K1 J1 G1
  intro a2 g2 ea2 eg2
  subst ea2 eg2
  refine p_Ro_init (n := 600) (by decide) (by decide) (by decide) (fun h2a M2 => ?_)
  obtain ⟨mz, mu, mf, mr, m1, m0⟩ := M2
  rw [Z1] at mz mr m1 m0
  rw [U1] at mu
  have so : hSm h1 h2a o := mf o (by rw [Z1]; omega)
  have T2 : hT h2a o = 4 := so.1.trans T1
  refine ⟨T2, fun h2 e2 => ?_⟩
  have Z2 : hZ h2 = hZ h + 4 := by rw [e2, hZ_sR]; omega
  have U2 : hU h2 = hU h + 1204 := by rw [e2, hU_sR]; omega
  have G2 : ∀ b, b < hZ h1 → b ≠ o → hSm h1 h2 b := fun b hb hbo => by rw [e2]; exact hSm_tr (mf b hb) (hSm_sR _ _ _ _ _ hbo)
  have F2 : ∀ b, b < hZ h → b ≠ o → hSm h h2 b := fun b hb hbo => hSm_tr (F1 b hb hbo) (G2 b (by rw [Z1]; omega) hbo)
  have T2 : hT h2 o = 4 := by rw [e2, hT_sR]; exact T2
  have K2 : ∀ q, q ≠ 2 → hR h2 o q = hR h1 o q := fun q hq => by rw [e2, hR_sR, tpu_row2, if_neg hq, so.2.2.1]
  have N2 : hR h2 o 2 = some (hZ h + 2) := by rw [e2, hR_sR, tpu_row2, if_pos rfl, Z1]
  have J2 : ∀ q, hI h2 o q = hI h1 o q := fun q => by rw [e2, hI_sR, so.2.2.2.1]
  have W2 : rwL h2 (hZ h + 2) (hZ h + 3) 600 ∧ (∀ j, hI h2 (hZ h + 3) j = 0) ∧ hI h2 (hZ h + 2) 1 = 0 := by
    refine ⟨?_, fun j => ?_, ?_⟩
    · rw [e2]; exact rwL_k mr (hSm_sR _ _ _ _ _ (by omega)) (hSm_sR _ _ _ _ _ (by omega))
    · rw [e2, hI_sR]; exact m0 j
    · rw [e2, hI_sR]; exact m1
  clear mz mu mf mr m1 m0 so e2
  have W1x2 : rwL h2 (hZ h + 0) (hZ h + 1) 600 ∧ (∀ j, hI h2 (hZ h + 1) j = 0) ∧ hI h2 (hZ h + 0) 1 = 0 := mkKeep W1 (G2 _ (by rw [Z1]; omega) (by omega)) (G2 _ (by rw [Z1]; omega) (by omega))
  clear W1
  have N1x2 : hR h2 o 1 = some (hZ h + 0) := (K2 1 (by decide)).trans N1
  have I2 : ∀ q, hI h2 o q = hI h o q := fun q  => (J2 q).trans (I1 q )
  clear K2 J2 G2
  intro a3 g3 ea3 eg3
  subst ea3 eg3
  refine p_Ro_init (n := 600) (by decide) (by decide) (by decide) (fun h3a M3 => ?_)
  obtain ⟨mz, mu, mf, mr, m1, m0⟩ := M3
  rw [Z2] at mz mr m1 m0
  rw [U2] at mu
  have so : hSm h2 h3a o := mf o (by rw [Z2]; omega)
  have T3 : hT h3a o = 4 := so.1.trans T2
  refine ⟨T3, fun h3 e3 => ?_⟩
  have Z3 : hZ h3 = hZ h + 6 := by rw [e3, hZ_sR]; omega
  have U3 : hU h3 = hU h + 1806 := by rw [e3, hU_sR]; omega
  have G3 : ∀ b, b < hZ h2 → b ≠ o → hSm h2 h3 b := fun b hb hbo => by rw [e3]; exact hSm_tr (mf b hb) (hSm_sR _ _ _ _ _ hbo)
  have F3 : ∀ b, b < hZ h → b ≠ o → hSm h h3 b := fun b hb hbo => hSm_tr (F2 b hb hbo) (G3 b (by rw [Z2]; omega) hbo)
  have T3 : hT h3 o = 4 := by rw [e3, hT_sR]; exact T3
  have K3 : ∀ q, q ≠ 3 → hR h3 o q = hR h2 o q := fun q hq => by rw [e3, hR_sR, tpu_row2, if_neg hq, so.2.2.1]
  have N3 : hR h3 o 3 = some (hZ h + 4) := by rw [e3, hR_sR, tpu_row2, if_pos rfl, Z2]
  have J3 : ∀ q, hI h3 o q = hI h2 o q := fun q => by rw [e3, hI_sR, so.2.2.2.1]
  have W3 : rwL h3 (hZ h + 4) (hZ h + 5) 600 ∧ (∀ j, hI h3 (hZ h + 5) j = 0) ∧ hI h3 (hZ h + 4) 1 = 0 := by
    refine ⟨?_, fun j => ?_, ?_⟩
    · rw [e3]; exact rwL_k mr (hSm_sR _ _ _ _ _ (by omega)) (hSm_sR _ _ _ _ _ (by omega))
    · rw [e3, hI_sR]; exact m0 j
    · rw [e3, hI_sR]; exact m1
  clear mz mu mf mr m1 m0 so e3
  have W1x2x3 : rwL h3 (hZ h + 0) (hZ h + 1) 600 ∧ (∀ j, hI h3 (hZ h + 1) j = 0) ∧ hI h3 (hZ h + 0) 1 = 0 := mkKeep W1x2 (G3 _ (by rw [Z2]; omega) (by omega)) (G3 _ (by rw [Z2]; omega) (by omega))
  clear W1x2
  have W2x3 : rwL h3 (hZ h + 2) (hZ h + 3) 600 ∧ (∀ j, hI h3 (hZ h + 3) j = 0) ∧ hI h3 (hZ h + 2) 1 = 0 := mkKeep W2 (G3 _ (by rw [Z2]; omega) (by omega)) (G3 _ (by rw [Z2]; omega) (by omega))
  clear W2
  have N1x2x3 : hR h3 o 1 = some (hZ h + 0) := (K3 1 (by decide)).trans N1x2
  have N2x3 : hR h3 o 2 = some (hZ h + 2) := (K3 2 (by decide)).trans N2
  have I3 : ∀ q, hI h3 o q = hI h o q := fun q  => (J3 q).trans (I2 q )
  clear K3 J3 G3
  intro a4 g4 ea4 eg4
  subst ea4 eg4
  refine p_Ro_init (n := 600) (by decide) (by decide) (by decide) (fun h4a M4 => ?_)
  obtain ⟨mz, mu, mf, mr, m1, m0⟩ := M4
  rw [Z3] at mz mr m1 m0
  rw [U3] at mu
  have so : hSm h3 h4a o := mf o (by rw [Z3]; omega)
  have T4 : hT h4a o = 4 := so.1.trans T3
  refine ⟨T4, fun h4 e4 => ?_⟩
  have Z4 : hZ h4 = hZ h + 8 := by rw [e4, hZ_sR]; omega
  have U4 : hU h4 = hU h + 2408 := by rw [e4, hU_sR]; omega
  have G4 : ∀ b, b < hZ h3 → b ≠ o → hSm h3 h4 b := fun b hb hbo => by rw [e4]; exact hSm_tr (mf b hb) (hSm_sR _ _ _ _ _ hbo)
  have F4 : ∀ b, b < hZ h → b ≠ o → hSm h h4 b := fun b hb hbo => hSm_tr (F3 b hb hbo) (G4 b (by rw [Z3]; omega) hbo)
  have T4 : hT h4 o = 4 := by rw [e4, hT_sR]; exact T4
  have K4 : ∀ q, q ≠ 4 → hR h4 o q = hR h3 o q := fun q hq => by rw [e4, hR_sR, tpu_row2, if_neg hq, so.2.2.1]
  have N4 : hR h4 o 4 = some (hZ h + 6) := by rw [e4, hR_sR, tpu_row2, if_pos rfl, Z3]
  have J4 : ∀ q, hI h4 o q = hI h3 o q := fun q => by rw [e4, hI_sR, so.2.2.2.1]
  have W4 : rwL h4 (hZ h + 6) (hZ h + 7) 600 ∧ (∀ j, hI h4 (hZ h + 7) j = 0) ∧ hI h4 (hZ h + 6) 1 = 0 := by
    refine ⟨?_, fun j => ?_, ?_⟩
    · rw [e4]; exact rwL_k mr (hSm_sR _ _ _ _ _ (by omega)) (hSm_sR _ _ _ _ _ (by omega))
    · rw [e4, hI_sR]; exact m0 j
    · rw [e4, hI_sR]; exact m1
  clear mz mu mf mr m1 m0 so e4
  have W1x2x3x4 : rwL h4 (hZ h + 0) (hZ h + 1) 600 ∧ (∀ j, hI h4 (hZ h + 1) j = 0) ∧ hI h4 (hZ h + 0) 1 = 0 := mkKeep W1x2x3 (G4 _ (by rw [Z3]; omega) (by omega)) (G4 _ (by rw [Z3]; omega) (by omega))
  clear W1x2x3
  have W2x3x4 : rwL h4 (hZ h + 2) (hZ h + 3) 600 ∧ (∀ j, hI h4 (hZ h + 3) j = 0) ∧ hI h4 (hZ h + 2) 1 = 0 := mkKeep W2x3 (G4 _ (by rw [Z3]; omega) (by omega)) (G4 _ (by rw [Z3]; omega) (by omega))
  clear W2x3
  have W3x4 : rwL h4 (hZ h + 4) (hZ h + 5) 600 ∧ (∀ j, hI h4 (hZ h + 5) j = 0) ∧ hI h4 (hZ h + 4) 1 = 0 := mkKeep W3 (G4 _ (by rw [Z3]; omega) (by omega)) (G4 _ (by rw [Z3]; omega) (by omega))
  clear W3
  have N1x2x3x4 : hR h4 o 1 = some (hZ h + 0) := (K4 1 (by decide)).trans N1x2x3
  have N2x3x4 : hR h4 o 2 = some (hZ h + 2) := (K4 2 (by decide)).trans N2x3
  have N3x4 : hR h4 o 3 = some (hZ h + 4) := (K4 3 (by decide)).trans N3
  have I4 : ∀ q, hI h4 o q = hI h o q := fun q  => (J4 q).trans (I3 q )
  clear K4 J4 G4
  intro a5 g5 ea5 eg5
  subst ea5 eg5
  refine p_Ro_init (n := 600) (by decide) (by decide) (by decide) (fun h5a M5 => ?_)
  obtain ⟨mz, mu, mf, mr, m1, m0⟩ := M5
  rw [Z4] at mz mr m1 m0
  rw [U4] at mu
  have so : hSm h4 h5a o := mf o (by rw [Z4]; omega)
  have T5 : hT h5a o = 4 := so.1.trans T4
  refine ⟨T5, fun h5 e5 => ?_⟩
  have Z5 : hZ h5 = hZ h + 10 := by rw [e5, hZ_sR]; omega
  have U5 : hU h5 = hU h + 3010 := by rw [e5, hU_sR]; omega
  have G5 : ∀ b, b < hZ h4 → b ≠ o → hSm h4 h5 b := fun b hb hbo => by rw [e5]; exact hSm_tr (mf b hb) (hSm_sR _ _ _ _ _ hbo)
  have F5 : ∀ b, b < hZ h → b ≠ o → hSm h h5 b := fun b hb hbo => hSm_tr (F4 b hb hbo) (G5 b (by rw [Z4]; omega) hbo)
  have T5 : hT h5 o = 4 := by rw [e5, hT_sR]; exact T5
  have K5 : ∀ q, q ≠ 5 → hR h5 o q = hR h4 o q := fun q hq => by rw [e5, hR_sR, tpu_row2, if_neg hq, so.2.2.1]
  have N5 : hR h5 o 5 = some (hZ h + 8) := by rw [e5, hR_sR, tpu_row2, if_pos rfl, Z4]
  have J5 : ∀ q, hI h5 o q = hI h4 o q := fun q => by rw [e5, hI_sR, so.2.2.2.1]
  have W5 : rwL h5 (hZ h + 8) (hZ h + 9) 600 ∧ (∀ j, hI h5 (hZ h + 9) j = 0) ∧ hI h5 (hZ h + 8) 1 = 0 := by
    refine ⟨?_, fun j => ?_, ?_⟩
    · rw [e5]; exact rwL_k mr (hSm_sR _ _ _ _ _ (by omega)) (hSm_sR _ _ _ _ _ (by omega))
    · rw [e5, hI_sR]; exact m0 j
    · rw [e5, hI_sR]; exact m1
  clear mz mu mf mr m1 m0 so e5
  have W1x2x3x4x5 : rwL h5 (hZ h + 0) (hZ h + 1) 600 ∧ (∀ j, hI h5 (hZ h + 1) j = 0) ∧ hI h5 (hZ h + 0) 1 = 0 := mkKeep W1x2x3x4 (G5 _ (by rw [Z4]; omega) (by omega)) (G5 _ (by rw [Z4]; omega) (by omega))
  clear W1x2x3x4
  have W2x3x4x5 : rwL h5 (hZ h + 2) (hZ h + 3) 600 ∧ (∀ j, hI h5 (hZ h + 3) j = 0) ∧ hI h5 (hZ h + 2) 1 = 0 := mkKeep W2x3x4 (G5 _ (by rw [Z4]; omega) (by omega)) (G5 _ (by rw [Z4]; omega) (by omega))
  clear W2x3x4
  have W3x4x5 : rwL h5 (hZ h + 4) (hZ h + 5) 600 ∧ (∀ j, hI h5 (hZ h + 5) j = 0) ∧ hI h5 (hZ h + 4) 1 = 0 := mkKeep W3x4 (G5 _ (by rw [Z4]; omega) (by omega)) (G5 _ (by rw [Z4]; omega) (by omega))
  clear W3x4
  have W4x5 : rwL h5 (hZ h + 6) (hZ h + 7) 600 ∧ (∀ j, hI h5 (hZ h + 7) j = 0) ∧ hI h5 (hZ h + 6) 1 = 0 := mkKeep W4 (G5 _ (by rw [Z4]; omega) (by omega)) (G5 _ (by rw [Z4]; omega) (by omega))
  clear W4
  have N1x2x3x4x5 : hR h5 o 1 = some (hZ h + 0) := (K5 1 (by decide)).trans N1x2x3x4
  have N2x3x4x5 : hR h5 o 2 = some (hZ h + 2) := (K5 2 (by decide)).trans N2x3x4
  have N3x4x5 : hR h5 o 3 = some (hZ h + 4) := (K5 3 (by decide)).trans N3x4
  have N4x5 : hR h5 o 4 = some (hZ h + 6) := (K5 4 (by decide)).trans N4
  have I5 : ∀ q, hI h5 o q = hI h o q := fun q  => (J5 q).trans (I4 q )
  clear K5 J5 G5
  intro a6 g6 ea6 eg6
  subst ea6 eg6
  refine p_Ro_init (n := 600) (by decide) (by decide) (by decide) (fun h6a M6 => ?_)
  obtain ⟨mz, mu, mf, mr, m1, m0⟩ := M6
  rw [Z5] at mz mr m1 m0
  rw [U5] at mu
  have so : hSm h5 h6a o := mf o (by rw [Z5]; omega)
  have T6 : hT h6a o = 4 := so.1.trans T5
  refine ⟨T6, fun h6 e6 => ?_⟩
  have Z6 : hZ h6 = hZ h + 12 := by rw [e6, hZ_sR]; omega
  have U6 : hU h6 = hU h + 3612 := by rw [e6, hU_sR]; omega
  have G6 : ∀ b, b < hZ h5 → b ≠ o → hSm h5 h6 b := fun b hb hbo => by rw [e6]; exact hSm_tr (mf b hb) (hSm_sR _ _ _ _ _ hbo)
  have F6 : ∀ b, b < hZ h → b ≠ o → hSm h h6 b := fun b hb hbo => hSm_tr (F5 b hb hbo) (G6 b (by rw [Z5]; omega) hbo)
  have T6 : hT h6 o = 4 := by rw [e6, hT_sR]; exact T6
  have K6 : ∀ q, q ≠ 6 → hR h6 o q = hR h5 o q := fun q hq => by rw [e6, hR_sR, tpu_row2, if_neg hq, so.2.2.1]
  have N6 : hR h6 o 6 = some (hZ h + 10) := by rw [e6, hR_sR, tpu_row2, if_pos rfl, Z5]
  have J6 : ∀ q, hI h6 o q = hI h5 o q := fun q => by rw [e6, hI_sR, so.2.2.2.1]
  have W6 : rwL h6 (hZ h + 10) (hZ h + 11) 600 ∧ (∀ j, hI h6 (hZ h + 11) j = 0) ∧ hI h6 (hZ h + 10) 1 = 0 := by
    refine ⟨?_, fun j => ?_, ?_⟩
    · rw [e6]; exact rwL_k mr (hSm_sR _ _ _ _ _ (by omega)) (hSm_sR _ _ _ _ _ (by omega))
    · rw [e6, hI_sR]; exact m0 j
    · rw [e6, hI_sR]; exact m1
  clear mz mu mf mr m1 m0 so e6
  have W1x2x3x4x5x6 : rwL h6 (hZ h + 0) (hZ h + 1) 600 ∧ (∀ j, hI h6 (hZ h + 1) j = 0) ∧ hI h6 (hZ h + 0) 1 = 0 := mkKeep W1x2x3x4x5 (G6 _ (by rw [Z5]; omega) (by omega)) (G6 _ (by rw [Z5]; omega) (by omega))
  clear W1x2x3x4x5
  have W2x3x4x5x6 : rwL h6 (hZ h + 2) (hZ h + 3) 600 ∧ (∀ j, hI h6 (hZ h + 3) j = 0) ∧ hI h6 (hZ h + 2) 1 = 0 := mkKeep W2x3x4x5 (G6 _ (by rw [Z5]; omega) (by omega)) (G6 _ (by rw [Z5]; omega) (by omega))
  clear W2x3x4x5
  have W3x4x5x6 : rwL h6 (hZ h + 4) (hZ h + 5) 600 ∧ (∀ j, hI h6 (hZ h + 5) j = 0) ∧ hI h6 (hZ h + 4) 1 = 0 := mkKeep W3x4x5 (G6 _ (by rw [Z5]; omega) (by omega)) (G6 _ (by rw [Z5]; omega) (by omega))
  clear W3x4x5
  have W4x5x6 : rwL h6 (hZ h + 6) (hZ h + 7) 600 ∧ (∀ j, hI h6 (hZ h + 7) j = 0) ∧ hI h6 (hZ h + 6) 1 = 0 := mkKeep W4x5 (G6 _ (by rw [Z5]; omega) (by omega)) (G6 _ (by rw [Z5]; omega) (by omega))
  clear W4x5
  have W5x6 : rwL h6 (hZ h + 8) (hZ h + 9) 600 ∧ (∀ j, hI h6 (hZ h + 9) j = 0) ∧ hI h6 (hZ h + 8) 1 = 0 := mkKeep W5 (G6 _ (by rw [Z5]; omega) (by omega)) (G6 _ (by rw [Z5]; omega) (by omega))
  clear W5
  have N1x2x3x4x5x6 : hR h6 o 1 = some (hZ h + 0) := (K6 1 (by decide)).trans N1x2x3x4x5
  have N2x3x4x5x6 : hR h6 o 2 = some (hZ h + 2) := (K6 2 (by decide)).trans N2x3x4x5
  have N3x4x5x6 : hR h6 o 3 = some (hZ h + 4) := (K6 3 (by decide)).trans N3x4x5
  have N4x5x6 : hR h6 o 4 = some (hZ h + 6) := (K6 4 (by decide)).trans N4x5
  have N5x6 : hR h6 o 5 = some (hZ h + 8) := (K6 5 (by decide)).trans N5
  have I6 : ∀ q, hI h6 o q = hI h o q := fun q  => (J6 q).trans (I5 q )
  clear K6 J6 G6
  intro h7 e7
  have Z7 : hZ h7 = hZ h + 12 := by rw [e7, hZ_sR]; exact Z6
  have U7 : hU h7 = hU h + 3612 := by rw [e7, hU_sR]; exact U6
  have G7 : ∀ b, b < hZ h6 → b ≠ o → hSm h6 h7 b := fun b hb hbo => by rw [e7]; exact hSm_sR _ _ _ _ _ hbo
  have F7 : ∀ b, b < hZ h → b ≠ o → hSm h h7 b := fun b hb hbo => hSm_tr (F6 b hb hbo) (G7 b (by rw [Z6]; omega) hbo)
  have T7 : hT h7 o = 4 := by rw [e7, hT_sR]; exact T6
  have K7 : ∀ q, q ≠ 0 → hR h7 o q = hR h6 o q := fun q hq => by rw [e7, hR_sR, tpu_row2, if_neg hq]
  have N7 : hR h7 o 0 = x1 := by rw [e7, hR_sR, tpu_row2, if_pos rfl]
  have J7 : ∀ q, hI h7 o q = hI h6 o q := fun q => by rw [e7, hI_sR]
  clear e7
  have W1x2x3x4x5x6x7 : rwL h7 (hZ h + 0) (hZ h + 1) 600 ∧ (∀ j, hI h7 (hZ h + 1) j = 0) ∧ hI h7 (hZ h + 0) 1 = 0 := mkKeep W1x2x3x4x5x6 (G7 _ (by rw [Z6]; omega) (by omega)) (G7 _ (by rw [Z6]; omega) (by omega))
  clear W1x2x3x4x5x6
  have W2x3x4x5x6x7 : rwL h7 (hZ h + 2) (hZ h + 3) 600 ∧ (∀ j, hI h7 (hZ h + 3) j = 0) ∧ hI h7 (hZ h + 2) 1 = 0 := mkKeep W2x3x4x5x6 (G7 _ (by rw [Z6]; omega) (by omega)) (G7 _ (by rw [Z6]; omega) (by omega))
  clear W2x3x4x5x6
  have W3x4x5x6x7 : rwL h7 (hZ h + 4) (hZ h + 5) 600 ∧ (∀ j, hI h7 (hZ h + 5) j = 0) ∧ hI h7 (hZ h + 4) 1 = 0 := mkKeep W3x4x5x6 (G7 _ (by rw [Z6]; omega) (by omega)) (G7 _ (by rw [Z6]; omega) (by omega))
  clear W3x4x5x6
  have W4x5x6x7 : rwL h7 (hZ h + 6) (hZ h + 7) 600 ∧ (∀ j, hI h7 (hZ h + 7) j = 0) ∧ hI h7 (hZ h + 6) 1 = 0 := mkKeep W4x5x6 (G7 _ (by rw [Z6]; omega) (by omega)) (G7 _ (by rw [Z6]; omega) (by omega))
  clear W4x5x6
  have W5x6x7 : rwL h7 (hZ h + 8) (hZ h + 9) 600 ∧ (∀ j, hI h7 (hZ h + 9) j = 0) ∧ hI h7 (hZ h + 8) 1 = 0 := mkKeep W5x6 (G7 _ (by rw [Z6]; omega) (by omega)) (G7 _ (by rw [Z6]; omega) (by omega))
  clear W5x6
  have W6x7 : rwL h7 (hZ h + 10) (hZ h + 11) 600 ∧ (∀ j, hI h7 (hZ h + 11) j = 0) ∧ hI h7 (hZ h + 10) 1 = 0 := mkKeep W6 (G7 _ (by rw [Z6]; omega) (by omega)) (G7 _ (by rw [Z6]; omega) (by omega))
  clear W6
  have N1x2x3x4x5x6x7 : hR h7 o 1 = some (hZ h + 0) := (K7 1 (by decide)).trans N1x2x3x4x5x6
  have N2x3x4x5x6x7 : hR h7 o 2 = some (hZ h + 2) := (K7 2 (by decide)).trans N2x3x4x5x6
  have N3x4x5x6x7 : hR h7 o 3 = some (hZ h + 4) := (K7 3 (by decide)).trans N3x4x5x6
  have N4x5x6x7 : hR h7 o 4 = some (hZ h + 6) := (K7 4 (by decide)).trans N4x5x6
  have N5x6x7 : hR h7 o 5 = some (hZ h + 8) := (K7 5 (by decide)).trans N5x6
  have N6x7 : hR h7 o 6 = some (hZ h + 10) := (K7 6 (by decide)).trans N6
  have I7 : ∀ q, hI h7 o q = hI h o q := fun q  => (J7 q).trans (I6 q )
  clear K7 J7 G7
  exact k h7 ⟨Z7, U7, F7, T7, ⟨N7, N1x2x3x4x5x6x7, N2x3x4x5x6x7, N3x4x5x6x7, N4x5x6x7, N5x6x7, N6x7⟩, I7, W1x2x3x4x5x6x7, W2x3x4x5x6x7, W3x4x5x6x7, W4x5x6x7, W5x6x7, W6x7⟩
def mkMt (h h' : tpH) (o : Nat) (x1 : Option Nat) (x2 : Option Nat) : Prop :=
  hZ h' = hZ h + 10 ∧
  hU h' = hU h + 1511 ∧
  (∀ b, b < hZ h → b ≠ o → hSm h h' b) ∧
  hT h' o = 6 ∧
  (hR h' o 0 = x1 ∧ hR h' o 1 = x2 ∧ hR h' o 2 = some (hZ h + 0) ∧ hR h' o 3 = some (hZ h + 2) ∧ hR h' o 4 = some (hZ h + 4) ∧ hR h' o 5 = some (hZ h + 6) ∧ hR h' o 6 = some (hZ h + 8) ∧ hR h' o 7 = hR h o 7) ∧
  (∀ j, hI h' o j = hI h o j) ∧
  (rwL h' (hZ h + 0) (hZ h + 1) 300 ∧ (∀ j, hI h' (hZ h + 1) j = 0) ∧ hI h' (hZ h + 0) 1 = 0) ∧
  (rwL h' (hZ h + 2) (hZ h + 3) 300 ∧ (∀ j, hI h' (hZ h + 3) j = 0) ∧ hI h' (hZ h + 2) 1 = 0) ∧
  (rwL h' (hZ h + 4) (hZ h + 5) 300 ∧ (∀ j, hI h' (hZ h + 5) j = 0) ∧ hI h' (hZ h + 4) 1 = 0) ∧
  (rwL h' (hZ h + 6) (hZ h + 7) 300 ∧ (∀ j, hI h' (hZ h + 7) j = 0) ∧ hI h' (hZ h + 6) 1 = 0) ∧
  (rwL h' (hZ h + 8) (hZ h + 9) 301 ∧ (∀ j, hI h' (hZ h + 9) j = 0) ∧ hI h' (hZ h + 8) 1 = 0)
theorem p_Mt_init {h : tpH} {o : Nat} {x1 : Option Nat} {x2 : Option Nat} {R : tpH → Prop} (ho : o < hZ h) (hk : hT h o = 6) (k : ∀ h', mkMt h h' o x1 x2 → R h') : w_Mt_init o x1 x2 h R := by
  unfold w_Mt_init
  have F0 : ∀ b, b < hZ h → b ≠ o → hSm h h b := fun b _ _ => hSm_rf h b
  have Z0 : hZ h = hZ h + 0 := rfl
  have U0 : hU h = hU h + 0 := rfl
  have T0 : hT h o = 6 := hk
  have I0 : ∀ j, hI h o j = hI h o j := fun _ => rfl
  intro a1 g1 ea1 eg1
  subst ea1 eg1
  refine p_Ro_init (n := 300) (by decide) (by decide) (by decide) (fun h1a M1 => ?_)
  obtain ⟨mz, mu, mf, mr, m1, m0⟩ := M1
  rw [Z0] at mz mr m1 m0
  rw [U0] at mu
  have so : hSm h h1a o := mf o (by rw [Z0]; omega)
  have T1 : hT h1a o = 6 := so.1.trans T0
  refine ⟨T1, fun h1 e1 => ?_⟩
  have Z1 : hZ h1 = hZ h + 2 := by rw [e1, hZ_sR]; omega
  have U1 : hU h1 = hU h + 302 := by rw [e1, hU_sR]; omega
  have G1 : ∀ b, b < hZ h → b ≠ o → hSm h h1 b := fun b hb hbo => by rw [e1]; exact hSm_tr (mf b hb) (hSm_sR _ _ _ _ _ hbo)
  have F1 : ∀ b, b < hZ h → b ≠ o → hSm h h1 b := fun b hb hbo => hSm_tr (F0 b hb hbo) (G1 b (by rw [Z0]; omega) hbo)
  have T1 : hT h1 o = 6 := by rw [e1, hT_sR]; exact T1
  have K1 : ∀ q, q ≠ 2 → hR h1 o q = hR h o q := fun q hq => by rw [e1, hR_sR, tpu_row2, if_neg hq, so.2.2.1]
  have S1 : hR h1 o 7 = hR h o 7 := K1 7 (by decide)
  have N1 : hR h1 o 2 = some (hZ h + 0) := by rw [e1, hR_sR, tpu_row2, if_pos rfl, Z0]
  have J1 : ∀ q, hI h1 o q = hI h o q := fun q => by rw [e1, hI_sR, so.2.2.2.1]
  have W1 : rwL h1 (hZ h + 0) (hZ h + 1) 300 ∧ (∀ j, hI h1 (hZ h + 1) j = 0) ∧ hI h1 (hZ h + 0) 1 = 0 := by
    refine ⟨?_, fun j => ?_, ?_⟩
    · rw [e1]; exact rwL_k mr (hSm_sR _ _ _ _ _ (by omega)) (hSm_sR _ _ _ _ _ (by omega))
    · rw [e1, hI_sR]; exact m0 j
    · rw [e1, hI_sR]; exact m1
  clear mz mu mf mr m1 m0 so e1
  have I1 : ∀ q, hI h1 o q = hI h o q := fun q  => (J1 q).trans (I0 q )
  clear K1 J1 G1
  intro a2 g2 ea2 eg2
  subst ea2 eg2
  refine p_Ro_init (n := 300) (by decide) (by decide) (by decide) (fun h2a M2 => ?_)
  obtain ⟨mz, mu, mf, mr, m1, m0⟩ := M2
  rw [Z1] at mz mr m1 m0
  rw [U1] at mu
  have so : hSm h1 h2a o := mf o (by rw [Z1]; omega)
  have T2 : hT h2a o = 6 := so.1.trans T1
  refine ⟨T2, fun h2 e2 => ?_⟩
  have Z2 : hZ h2 = hZ h + 4 := by rw [e2, hZ_sR]; omega
  have U2 : hU h2 = hU h + 604 := by rw [e2, hU_sR]; omega
  have G2 : ∀ b, b < hZ h1 → b ≠ o → hSm h1 h2 b := fun b hb hbo => by rw [e2]; exact hSm_tr (mf b hb) (hSm_sR _ _ _ _ _ hbo)
  have F2 : ∀ b, b < hZ h → b ≠ o → hSm h h2 b := fun b hb hbo => hSm_tr (F1 b hb hbo) (G2 b (by rw [Z1]; omega) hbo)
  have T2 : hT h2 o = 6 := by rw [e2, hT_sR]; exact T2
  have K2 : ∀ q, q ≠ 3 → hR h2 o q = hR h1 o q := fun q hq => by rw [e2, hR_sR, tpu_row2, if_neg hq, so.2.2.1]
  have S2 : hR h2 o 7 = hR h o 7 := (K2 7 (by decide)).trans S1
  have N2 : hR h2 o 3 = some (hZ h + 2) := by rw [e2, hR_sR, tpu_row2, if_pos rfl, Z1]
  have J2 : ∀ q, hI h2 o q = hI h1 o q := fun q => by rw [e2, hI_sR, so.2.2.2.1]
  have W2 : rwL h2 (hZ h + 2) (hZ h + 3) 300 ∧ (∀ j, hI h2 (hZ h + 3) j = 0) ∧ hI h2 (hZ h + 2) 1 = 0 := by
    refine ⟨?_, fun j => ?_, ?_⟩
    · rw [e2]; exact rwL_k mr (hSm_sR _ _ _ _ _ (by omega)) (hSm_sR _ _ _ _ _ (by omega))
    · rw [e2, hI_sR]; exact m0 j
    · rw [e2, hI_sR]; exact m1
  clear mz mu mf mr m1 m0 so e2
  have W1x2 : rwL h2 (hZ h + 0) (hZ h + 1) 300 ∧ (∀ j, hI h2 (hZ h + 1) j = 0) ∧ hI h2 (hZ h + 0) 1 = 0 := mkKeep W1 (G2 _ (by rw [Z1]; omega) (by omega)) (G2 _ (by rw [Z1]; omega) (by omega))
  clear W1
  have N1x2 : hR h2 o 2 = some (hZ h + 0) := (K2 2 (by decide)).trans N1
  have I2 : ∀ q, hI h2 o q = hI h o q := fun q  => (J2 q).trans (I1 q )
  clear K2 J2 G2
  intro a3 g3 ea3 eg3
  subst ea3 eg3
  refine p_Ro_init (n := 300) (by decide) (by decide) (by decide) (fun h3a M3 => ?_)
  obtain ⟨mz, mu, mf, mr, m1, m0⟩ := M3
  rw [Z2] at mz mr m1 m0
  rw [U2] at mu
  have so : hSm h2 h3a o := mf o (by rw [Z2]; omega)
  have T3 : hT h3a o = 6 := so.1.trans T2
  refine ⟨T3, fun h3 e3 => ?_⟩
  have Z3 : hZ h3 = hZ h + 6 := by rw [e3, hZ_sR]; omega
  have U3 : hU h3 = hU h + 906 := by rw [e3, hU_sR]; omega
  have G3 : ∀ b, b < hZ h2 → b ≠ o → hSm h2 h3 b := fun b hb hbo => by rw [e3]; exact hSm_tr (mf b hb) (hSm_sR _ _ _ _ _ hbo)
  have F3 : ∀ b, b < hZ h → b ≠ o → hSm h h3 b := fun b hb hbo => hSm_tr (F2 b hb hbo) (G3 b (by rw [Z2]; omega) hbo)
  have T3 : hT h3 o = 6 := by rw [e3, hT_sR]; exact T3
  have K3 : ∀ q, q ≠ 4 → hR h3 o q = hR h2 o q := fun q hq => by rw [e3, hR_sR, tpu_row2, if_neg hq, so.2.2.1]
  have S3 : hR h3 o 7 = hR h o 7 := (K3 7 (by decide)).trans S2
  have N3 : hR h3 o 4 = some (hZ h + 4) := by rw [e3, hR_sR, tpu_row2, if_pos rfl, Z2]
  have J3 : ∀ q, hI h3 o q = hI h2 o q := fun q => by rw [e3, hI_sR, so.2.2.2.1]
  have W3 : rwL h3 (hZ h + 4) (hZ h + 5) 300 ∧ (∀ j, hI h3 (hZ h + 5) j = 0) ∧ hI h3 (hZ h + 4) 1 = 0 := by
    refine ⟨?_, fun j => ?_, ?_⟩
    · rw [e3]; exact rwL_k mr (hSm_sR _ _ _ _ _ (by omega)) (hSm_sR _ _ _ _ _ (by omega))
    · rw [e3, hI_sR]; exact m0 j
    · rw [e3, hI_sR]; exact m1
  clear mz mu mf mr m1 m0 so e3
  have W1x2x3 : rwL h3 (hZ h + 0) (hZ h + 1) 300 ∧ (∀ j, hI h3 (hZ h + 1) j = 0) ∧ hI h3 (hZ h + 0) 1 = 0 := mkKeep W1x2 (G3 _ (by rw [Z2]; omega) (by omega)) (G3 _ (by rw [Z2]; omega) (by omega))
  clear W1x2
  have W2x3 : rwL h3 (hZ h + 2) (hZ h + 3) 300 ∧ (∀ j, hI h3 (hZ h + 3) j = 0) ∧ hI h3 (hZ h + 2) 1 = 0 := mkKeep W2 (G3 _ (by rw [Z2]; omega) (by omega)) (G3 _ (by rw [Z2]; omega) (by omega))
  clear W2
  have N1x2x3 : hR h3 o 2 = some (hZ h + 0) := (K3 2 (by decide)).trans N1x2
  have N2x3 : hR h3 o 3 = some (hZ h + 2) := (K3 3 (by decide)).trans N2
  have I3 : ∀ q, hI h3 o q = hI h o q := fun q  => (J3 q).trans (I2 q )
  clear K3 J3 G3
  intro a4 g4 ea4 eg4
  subst ea4 eg4
  refine p_Ro_init (n := 300) (by decide) (by decide) (by decide) (fun h4a M4 => ?_)
  obtain ⟨mz, mu, mf, mr, m1, m0⟩ := M4
  rw [Z3] at mz mr m1 m0
  rw [U3] at mu
  have so : hSm h3 h4a o := mf o (by rw [Z3]; omega)
  have T4 : hT h4a o = 6 := so.1.trans T3
  refine ⟨T4, fun h4 e4 => ?_⟩
  have Z4 : hZ h4 = hZ h + 8 := by rw [e4, hZ_sR]; omega
  have U4 : hU h4 = hU h + 1208 := by rw [e4, hU_sR]; omega
  have G4 : ∀ b, b < hZ h3 → b ≠ o → hSm h3 h4 b := fun b hb hbo => by rw [e4]; exact hSm_tr (mf b hb) (hSm_sR _ _ _ _ _ hbo)
  have F4 : ∀ b, b < hZ h → b ≠ o → hSm h h4 b := fun b hb hbo => hSm_tr (F3 b hb hbo) (G4 b (by rw [Z3]; omega) hbo)
  have T4 : hT h4 o = 6 := by rw [e4, hT_sR]; exact T4
  have K4 : ∀ q, q ≠ 5 → hR h4 o q = hR h3 o q := fun q hq => by rw [e4, hR_sR, tpu_row2, if_neg hq, so.2.2.1]
  have S4 : hR h4 o 7 = hR h o 7 := (K4 7 (by decide)).trans S3
  have N4 : hR h4 o 5 = some (hZ h + 6) := by rw [e4, hR_sR, tpu_row2, if_pos rfl, Z3]
  have J4 : ∀ q, hI h4 o q = hI h3 o q := fun q => by rw [e4, hI_sR, so.2.2.2.1]
  have W4 : rwL h4 (hZ h + 6) (hZ h + 7) 300 ∧ (∀ j, hI h4 (hZ h + 7) j = 0) ∧ hI h4 (hZ h + 6) 1 = 0 := by
    refine ⟨?_, fun j => ?_, ?_⟩
    · rw [e4]; exact rwL_k mr (hSm_sR _ _ _ _ _ (by omega)) (hSm_sR _ _ _ _ _ (by omega))
    · rw [e4, hI_sR]; exact m0 j
    · rw [e4, hI_sR]; exact m1
  clear mz mu mf mr m1 m0 so e4
  have W1x2x3x4 : rwL h4 (hZ h + 0) (hZ h + 1) 300 ∧ (∀ j, hI h4 (hZ h + 1) j = 0) ∧ hI h4 (hZ h + 0) 1 = 0 := mkKeep W1x2x3 (G4 _ (by rw [Z3]; omega) (by omega)) (G4 _ (by rw [Z3]; omega) (by omega))
  clear W1x2x3
  have W2x3x4 : rwL h4 (hZ h + 2) (hZ h + 3) 300 ∧ (∀ j, hI h4 (hZ h + 3) j = 0) ∧ hI h4 (hZ h + 2) 1 = 0 := mkKeep W2x3 (G4 _ (by rw [Z3]; omega) (by omega)) (G4 _ (by rw [Z3]; omega) (by omega))
  clear W2x3
  have W3x4 : rwL h4 (hZ h + 4) (hZ h + 5) 300 ∧ (∀ j, hI h4 (hZ h + 5) j = 0) ∧ hI h4 (hZ h + 4) 1 = 0 := mkKeep W3 (G4 _ (by rw [Z3]; omega) (by omega)) (G4 _ (by rw [Z3]; omega) (by omega))
  clear W3
  have N1x2x3x4 : hR h4 o 2 = some (hZ h + 0) := (K4 2 (by decide)).trans N1x2x3
  have N2x3x4 : hR h4 o 3 = some (hZ h + 2) := (K4 3 (by decide)).trans N2x3
  have N3x4 : hR h4 o 4 = some (hZ h + 4) := (K4 4 (by decide)).trans N3
  have I4 : ∀ q, hI h4 o q = hI h o q := fun q  => (J4 q).trans (I3 q )
  clear K4 J4 G4
  intro a5 g5 ea5 eg5
  subst ea5 eg5
  refine p_Ro_init (n := 301) (by decide) (by decide) (by decide) (fun h5a M5 => ?_)
  obtain ⟨mz, mu, mf, mr, m1, m0⟩ := M5
  rw [Z4] at mz mr m1 m0
  rw [U4] at mu
  have so : hSm h4 h5a o := mf o (by rw [Z4]; omega)
  have T5 : hT h5a o = 6 := so.1.trans T4
  refine ⟨T5, fun h5 e5 => ?_⟩
  have Z5 : hZ h5 = hZ h + 10 := by rw [e5, hZ_sR]; omega
  have U5 : hU h5 = hU h + 1511 := by rw [e5, hU_sR]; omega
  have G5 : ∀ b, b < hZ h4 → b ≠ o → hSm h4 h5 b := fun b hb hbo => by rw [e5]; exact hSm_tr (mf b hb) (hSm_sR _ _ _ _ _ hbo)
  have F5 : ∀ b, b < hZ h → b ≠ o → hSm h h5 b := fun b hb hbo => hSm_tr (F4 b hb hbo) (G5 b (by rw [Z4]; omega) hbo)
  have T5 : hT h5 o = 6 := by rw [e5, hT_sR]; exact T5
  have K5 : ∀ q, q ≠ 6 → hR h5 o q = hR h4 o q := fun q hq => by rw [e5, hR_sR, tpu_row2, if_neg hq, so.2.2.1]
  have S5 : hR h5 o 7 = hR h o 7 := (K5 7 (by decide)).trans S4
  have N5 : hR h5 o 6 = some (hZ h + 8) := by rw [e5, hR_sR, tpu_row2, if_pos rfl, Z4]
  have J5 : ∀ q, hI h5 o q = hI h4 o q := fun q => by rw [e5, hI_sR, so.2.2.2.1]
  have W5 : rwL h5 (hZ h + 8) (hZ h + 9) 301 ∧ (∀ j, hI h5 (hZ h + 9) j = 0) ∧ hI h5 (hZ h + 8) 1 = 0 := by
    refine ⟨?_, fun j => ?_, ?_⟩
    · rw [e5]; exact rwL_k mr (hSm_sR _ _ _ _ _ (by omega)) (hSm_sR _ _ _ _ _ (by omega))
    · rw [e5, hI_sR]; exact m0 j
    · rw [e5, hI_sR]; exact m1
  clear mz mu mf mr m1 m0 so e5
  have W1x2x3x4x5 : rwL h5 (hZ h + 0) (hZ h + 1) 300 ∧ (∀ j, hI h5 (hZ h + 1) j = 0) ∧ hI h5 (hZ h + 0) 1 = 0 := mkKeep W1x2x3x4 (G5 _ (by rw [Z4]; omega) (by omega)) (G5 _ (by rw [Z4]; omega) (by omega))
  clear W1x2x3x4
  have W2x3x4x5 : rwL h5 (hZ h + 2) (hZ h + 3) 300 ∧ (∀ j, hI h5 (hZ h + 3) j = 0) ∧ hI h5 (hZ h + 2) 1 = 0 := mkKeep W2x3x4 (G5 _ (by rw [Z4]; omega) (by omega)) (G5 _ (by rw [Z4]; omega) (by omega))
  clear W2x3x4
  have W3x4x5 : rwL h5 (hZ h + 4) (hZ h + 5) 300 ∧ (∀ j, hI h5 (hZ h + 5) j = 0) ∧ hI h5 (hZ h + 4) 1 = 0 := mkKeep W3x4 (G5 _ (by rw [Z4]; omega) (by omega)) (G5 _ (by rw [Z4]; omega) (by omega))
  clear W3x4
  have W4x5 : rwL h5 (hZ h + 6) (hZ h + 7) 300 ∧ (∀ j, hI h5 (hZ h + 7) j = 0) ∧ hI h5 (hZ h + 6) 1 = 0 := mkKeep W4 (G5 _ (by rw [Z4]; omega) (by omega)) (G5 _ (by rw [Z4]; omega) (by omega))
  clear W4
  have N1x2x3x4x5 : hR h5 o 2 = some (hZ h + 0) := (K5 2 (by decide)).trans N1x2x3x4
  have N2x3x4x5 : hR h5 o 3 = some (hZ h + 2) := (K5 3 (by decide)).trans N2x3x4
  have N3x4x5 : hR h5 o 4 = some (hZ h + 4) := (K5 4 (by decide)).trans N3x4
  have N4x5 : hR h5 o 5 = some (hZ h + 6) := (K5 5 (by decide)).trans N4
  have I5 : ∀ q, hI h5 o q = hI h o q := fun q  => (J5 q).trans (I4 q )
  clear K5 J5 G5
  intro h6 e6
  have Z6 : hZ h6 = hZ h + 10 := by rw [e6, hZ_sR]; exact Z5
  have U6 : hU h6 = hU h + 1511 := by rw [e6, hU_sR]; exact U5
  have G6 : ∀ b, b < hZ h5 → b ≠ o → hSm h5 h6 b := fun b hb hbo => by rw [e6]; exact hSm_sR _ _ _ _ _ hbo
  have F6 : ∀ b, b < hZ h → b ≠ o → hSm h h6 b := fun b hb hbo => hSm_tr (F5 b hb hbo) (G6 b (by rw [Z5]; omega) hbo)
  have T6 : hT h6 o = 6 := by rw [e6, hT_sR]; exact T5
  have K6 : ∀ q, q ≠ 0 → hR h6 o q = hR h5 o q := fun q hq => by rw [e6, hR_sR, tpu_row2, if_neg hq]
  have S6 : hR h6 o 7 = hR h o 7 := (K6 7 (by decide)).trans S5
  have N6 : hR h6 o 0 = x1 := by rw [e6, hR_sR, tpu_row2, if_pos rfl]
  have J6 : ∀ q, hI h6 o q = hI h5 o q := fun q => by rw [e6, hI_sR]
  clear e6
  have W1x2x3x4x5x6 : rwL h6 (hZ h + 0) (hZ h + 1) 300 ∧ (∀ j, hI h6 (hZ h + 1) j = 0) ∧ hI h6 (hZ h + 0) 1 = 0 := mkKeep W1x2x3x4x5 (G6 _ (by rw [Z5]; omega) (by omega)) (G6 _ (by rw [Z5]; omega) (by omega))
  clear W1x2x3x4x5
  have W2x3x4x5x6 : rwL h6 (hZ h + 2) (hZ h + 3) 300 ∧ (∀ j, hI h6 (hZ h + 3) j = 0) ∧ hI h6 (hZ h + 2) 1 = 0 := mkKeep W2x3x4x5 (G6 _ (by rw [Z5]; omega) (by omega)) (G6 _ (by rw [Z5]; omega) (by omega))
  clear W2x3x4x5
  have W3x4x5x6 : rwL h6 (hZ h + 4) (hZ h + 5) 300 ∧ (∀ j, hI h6 (hZ h + 5) j = 0) ∧ hI h6 (hZ h + 4) 1 = 0 := mkKeep W3x4x5 (G6 _ (by rw [Z5]; omega) (by omega)) (G6 _ (by rw [Z5]; omega) (by omega))
  clear W3x4x5
  have W4x5x6 : rwL h6 (hZ h + 6) (hZ h + 7) 300 ∧ (∀ j, hI h6 (hZ h + 7) j = 0) ∧ hI h6 (hZ h + 6) 1 = 0 := mkKeep W4x5 (G6 _ (by rw [Z5]; omega) (by omega)) (G6 _ (by rw [Z5]; omega) (by omega))
  clear W4x5
  have W5x6 : rwL h6 (hZ h + 8) (hZ h + 9) 301 ∧ (∀ j, hI h6 (hZ h + 9) j = 0) ∧ hI h6 (hZ h + 8) 1 = 0 := mkKeep W5 (G6 _ (by rw [Z5]; omega) (by omega)) (G6 _ (by rw [Z5]; omega) (by omega))
  clear W5
  have N1x2x3x4x5x6 : hR h6 o 2 = some (hZ h + 0) := (K6 2 (by decide)).trans N1x2x3x4x5
  have N2x3x4x5x6 : hR h6 o 3 = some (hZ h + 2) := (K6 3 (by decide)).trans N2x3x4x5
  have N3x4x5x6 : hR h6 o 4 = some (hZ h + 4) := (K6 4 (by decide)).trans N3x4x5
  have N4x5x6 : hR h6 o 5 = some (hZ h + 6) := (K6 5 (by decide)).trans N4x5
  have N5x6 : hR h6 o 6 = some (hZ h + 8) := (K6 6 (by decide)).trans N5
  have I6 : ∀ q, hI h6 o q = hI h o q := fun q  => (J6 q).trans (I5 q )
  clear K6 J6 G6
  intro h7 e7
  have Z7 : hZ h7 = hZ h + 10 := by rw [e7, hZ_sR]; exact Z6
  have U7 : hU h7 = hU h + 1511 := by rw [e7, hU_sR]; exact U6
  have G7 : ∀ b, b < hZ h6 → b ≠ o → hSm h6 h7 b := fun b hb hbo => by rw [e7]; exact hSm_sR _ _ _ _ _ hbo
  have F7 : ∀ b, b < hZ h → b ≠ o → hSm h h7 b := fun b hb hbo => hSm_tr (F6 b hb hbo) (G7 b (by rw [Z6]; omega) hbo)
  have T7 : hT h7 o = 6 := by rw [e7, hT_sR]; exact T6
  have K7 : ∀ q, q ≠ 1 → hR h7 o q = hR h6 o q := fun q hq => by rw [e7, hR_sR, tpu_row2, if_neg hq]
  have S7 : hR h7 o 7 = hR h o 7 := (K7 7 (by decide)).trans S6
  have N7 : hR h7 o 1 = x2 := by rw [e7, hR_sR, tpu_row2, if_pos rfl]
  have J7 : ∀ q, hI h7 o q = hI h6 o q := fun q => by rw [e7, hI_sR]
  clear e7
  have W1x2x3x4x5x6x7 : rwL h7 (hZ h + 0) (hZ h + 1) 300 ∧ (∀ j, hI h7 (hZ h + 1) j = 0) ∧ hI h7 (hZ h + 0) 1 = 0 := mkKeep W1x2x3x4x5x6 (G7 _ (by rw [Z6]; omega) (by omega)) (G7 _ (by rw [Z6]; omega) (by omega))
  clear W1x2x3x4x5x6
  have W2x3x4x5x6x7 : rwL h7 (hZ h + 2) (hZ h + 3) 300 ∧ (∀ j, hI h7 (hZ h + 3) j = 0) ∧ hI h7 (hZ h + 2) 1 = 0 := mkKeep W2x3x4x5x6 (G7 _ (by rw [Z6]; omega) (by omega)) (G7 _ (by rw [Z6]; omega) (by omega))
  clear W2x3x4x5x6
  have W3x4x5x6x7 : rwL h7 (hZ h + 4) (hZ h + 5) 300 ∧ (∀ j, hI h7 (hZ h + 5) j = 0) ∧ hI h7 (hZ h + 4) 1 = 0 := mkKeep W3x4x5x6 (G7 _ (by rw [Z6]; omega) (by omega)) (G7 _ (by rw [Z6]; omega) (by omega))
  clear W3x4x5x6
  have W4x5x6x7 : rwL h7 (hZ h + 6) (hZ h + 7) 300 ∧ (∀ j, hI h7 (hZ h + 7) j = 0) ∧ hI h7 (hZ h + 6) 1 = 0 := mkKeep W4x5x6 (G7 _ (by rw [Z6]; omega) (by omega)) (G7 _ (by rw [Z6]; omega) (by omega))
  clear W4x5x6
  have W5x6x7 : rwL h7 (hZ h + 8) (hZ h + 9) 301 ∧ (∀ j, hI h7 (hZ h + 9) j = 0) ∧ hI h7 (hZ h + 8) 1 = 0 := mkKeep W5x6 (G7 _ (by rw [Z6]; omega) (by omega)) (G7 _ (by rw [Z6]; omega) (by omega))
  clear W5x6
  have N1x2x3x4x5x6x7 : hR h7 o 2 = some (hZ h + 0) := (K7 2 (by decide)).trans N1x2x3x4x5x6
  have N2x3x4x5x6x7 : hR h7 o 3 = some (hZ h + 2) := (K7 3 (by decide)).trans N2x3x4x5x6
  have N3x4x5x6x7 : hR h7 o 4 = some (hZ h + 4) := (K7 4 (by decide)).trans N3x4x5x6
  have N4x5x6x7 : hR h7 o 5 = some (hZ h + 6) := (K7 5 (by decide)).trans N4x5x6
  have N5x6x7 : hR h7 o 6 = some (hZ h + 8) := (K7 6 (by decide)).trans N5x6
  have N6x7 : hR h7 o 0 = x1 := (K7 0 (by decide)).trans N6
  have I7 : ∀ q, hI h7 o q = hI h o q := fun q  => (J7 q).trans (I6 q )
  clear K7 J7 G7
  exact k h7 ⟨Z7, U7, F7, T7, ⟨N6x7, N7, N1x2x3x4x5x6x7, N2x3x4x5x6x7, N3x4x5x6x7, N4x5x6x7, N5x6x7, S7⟩, I7, W1x2x3x4x5x6x7, W2x3x4x5x6x7, W3x4x5x6x7, W4x5x6x7, W5x6x7⟩
def mkFi (h h' : tpH) (o : Nat) (x1 : Option Nat) (x2 : Option Nat) (x3 : Option Nat) : Prop :=
  hZ h' = hZ h + 7 ∧
  hU h' = hU h + 909 ∧
  (∀ b, b < hZ h → b ≠ o → hSm h h' b) ∧
  hT h' o = 2 ∧
  (hR h' o 0 = x1 ∧ hR h' o 1 = x2 ∧ hR h' o 2 = x3 ∧ hR h' o 3 = some (hZ h + 0) ∧ hR h' o 4 = some (hZ h + 2) ∧ hR h' o 5 = some (hZ h + 4) ∧ hR h' o 6 = some (hZ h + 6)) ∧
  (∀ j, hI h' o j = hI h o j) ∧
  (rwL h' (hZ h + 0) (hZ h + 1) 300 ∧ (∀ j, hI h' (hZ h + 1) j = 0) ∧ hI h' (hZ h + 0) 1 = 0) ∧
  (rwL h' (hZ h + 2) (hZ h + 3) 300 ∧ (∀ j, hI h' (hZ h + 3) j = 0) ∧ hI h' (hZ h + 2) 1 = 0) ∧
  (rwL h' (hZ h + 4) (hZ h + 5) 300 ∧ (∀ j, hI h' (hZ h + 5) j = 0) ∧ hI h' (hZ h + 4) 1 = 0) ∧
  (hT h' (hZ h + 6) = 10 ∧ ∀ j, j < 3 → hI h' (hZ h + 6) j = -1)
theorem p_Fi_init {h : tpH} {o : Nat} {x1 : Option Nat} {x2 : Option Nat} {x3 : Option Nat} {R : tpH → Prop} (ho : o < hZ h) (hk : hT h o = 2) (k : ∀ h', mkFi h h' o x1 x2 x3 → R h') : w_Fi_init o x1 x2 x3 h R := by
  unfold w_Fi_init
  have F0 : ∀ b, b < hZ h → b ≠ o → hSm h h b := fun b _ _ => hSm_rf h b
  have Z0 : hZ h = hZ h + 0 := rfl
  have U0 : hU h = hU h + 0 := rfl
  have T0 : hT h o = 2 := hk
  have I0 : ∀ j, hI h o j = hI h o j := fun _ => rfl
  intro a1 g1 ea1 eg1
  subst ea1 eg1
  refine p_Ro_init (n := 300) (by decide) (by decide) (by decide) (fun h1a M1 => ?_)
  obtain ⟨mz, mu, mf, mr, m1, m0⟩ := M1
  rw [Z0] at mz mr m1 m0
  rw [U0] at mu
  have so : hSm h h1a o := mf o (by rw [Z0]; omega)
  have T1 : hT h1a o = 2 := so.1.trans T0
  refine ⟨T1, fun h1 e1 => ?_⟩
  have Z1 : hZ h1 = hZ h + 2 := by rw [e1, hZ_sR]; omega
  have U1 : hU h1 = hU h + 302 := by rw [e1, hU_sR]; omega
  have G1 : ∀ b, b < hZ h → b ≠ o → hSm h h1 b := fun b hb hbo => by rw [e1]; exact hSm_tr (mf b hb) (hSm_sR _ _ _ _ _ hbo)
  have F1 : ∀ b, b < hZ h → b ≠ o → hSm h h1 b := fun b hb hbo => hSm_tr (F0 b hb hbo) (G1 b (by rw [Z0]; omega) hbo)
  have T1 : hT h1 o = 2 := by rw [e1, hT_sR]; exact T1
  have K1 : ∀ q, q ≠ 3 → hR h1 o q = hR h o q := fun q hq => by rw [e1, hR_sR, tpu_row2, if_neg hq, so.2.2.1]
  have N1 : hR h1 o 3 = some (hZ h + 0) := by rw [e1, hR_sR, tpu_row2, if_pos rfl, Z0]
  have J1 : ∀ q, hI h1 o q = hI h o q := fun q => by rw [e1, hI_sR, so.2.2.2.1]
  have W1 : rwL h1 (hZ h + 0) (hZ h + 1) 300 ∧ (∀ j, hI h1 (hZ h + 1) j = 0) ∧ hI h1 (hZ h + 0) 1 = 0 := by
    refine ⟨?_, fun j => ?_, ?_⟩
    · rw [e1]; exact rwL_k mr (hSm_sR _ _ _ _ _ (by omega)) (hSm_sR _ _ _ _ _ (by omega))
    · rw [e1, hI_sR]; exact m0 j
    · rw [e1, hI_sR]; exact m1
  clear mz mu mf mr m1 m0 so e1
  have I1 : ∀ q, hI h1 o q = hI h o q := fun q  => (J1 q).trans (I0 q )
  clear K1 J1 G1
  intro a2 g2 ea2 eg2
  subst ea2 eg2
  refine p_Ro_init (n := 300) (by decide) (by decide) (by decide) (fun h2a M2 => ?_)
  obtain ⟨mz, mu, mf, mr, m1, m0⟩ := M2
  rw [Z1] at mz mr m1 m0
  rw [U1] at mu
  have so : hSm h1 h2a o := mf o (by rw [Z1]; omega)
  have T2 : hT h2a o = 2 := so.1.trans T1
  refine ⟨T2, fun h2 e2 => ?_⟩
  have Z2 : hZ h2 = hZ h + 4 := by rw [e2, hZ_sR]; omega
  have U2 : hU h2 = hU h + 604 := by rw [e2, hU_sR]; omega
  have G2 : ∀ b, b < hZ h1 → b ≠ o → hSm h1 h2 b := fun b hb hbo => by rw [e2]; exact hSm_tr (mf b hb) (hSm_sR _ _ _ _ _ hbo)
  have F2 : ∀ b, b < hZ h → b ≠ o → hSm h h2 b := fun b hb hbo => hSm_tr (F1 b hb hbo) (G2 b (by rw [Z1]; omega) hbo)
  have T2 : hT h2 o = 2 := by rw [e2, hT_sR]; exact T2
  have K2 : ∀ q, q ≠ 4 → hR h2 o q = hR h1 o q := fun q hq => by rw [e2, hR_sR, tpu_row2, if_neg hq, so.2.2.1]
  have N2 : hR h2 o 4 = some (hZ h + 2) := by rw [e2, hR_sR, tpu_row2, if_pos rfl, Z1]
  have J2 : ∀ q, hI h2 o q = hI h1 o q := fun q => by rw [e2, hI_sR, so.2.2.2.1]
  have W2 : rwL h2 (hZ h + 2) (hZ h + 3) 300 ∧ (∀ j, hI h2 (hZ h + 3) j = 0) ∧ hI h2 (hZ h + 2) 1 = 0 := by
    refine ⟨?_, fun j => ?_, ?_⟩
    · rw [e2]; exact rwL_k mr (hSm_sR _ _ _ _ _ (by omega)) (hSm_sR _ _ _ _ _ (by omega))
    · rw [e2, hI_sR]; exact m0 j
    · rw [e2, hI_sR]; exact m1
  clear mz mu mf mr m1 m0 so e2
  have W1x2 : rwL h2 (hZ h + 0) (hZ h + 1) 300 ∧ (∀ j, hI h2 (hZ h + 1) j = 0) ∧ hI h2 (hZ h + 0) 1 = 0 := mkKeep W1 (G2 _ (by rw [Z1]; omega) (by omega)) (G2 _ (by rw [Z1]; omega) (by omega))
  clear W1
  have N1x2 : hR h2 o 3 = some (hZ h + 0) := (K2 3 (by decide)).trans N1
  have I2 : ∀ q, hI h2 o q = hI h o q := fun q  => (J2 q).trans (I1 q )
  clear K2 J2 G2
  intro a3 g3 ea3 eg3
  subst ea3 eg3
  refine p_Ro_init (n := 300) (by decide) (by decide) (by decide) (fun h3a M3 => ?_)
  obtain ⟨mz, mu, mf, mr, m1, m0⟩ := M3
  rw [Z2] at mz mr m1 m0
  rw [U2] at mu
  have so : hSm h2 h3a o := mf o (by rw [Z2]; omega)
  have T3 : hT h3a o = 2 := so.1.trans T2
  refine ⟨T3, fun h3 e3 => ?_⟩
  have Z3 : hZ h3 = hZ h + 6 := by rw [e3, hZ_sR]; omega
  have U3 : hU h3 = hU h + 906 := by rw [e3, hU_sR]; omega
  have G3 : ∀ b, b < hZ h2 → b ≠ o → hSm h2 h3 b := fun b hb hbo => by rw [e3]; exact hSm_tr (mf b hb) (hSm_sR _ _ _ _ _ hbo)
  have F3 : ∀ b, b < hZ h → b ≠ o → hSm h h3 b := fun b hb hbo => hSm_tr (F2 b hb hbo) (G3 b (by rw [Z2]; omega) hbo)
  have T3 : hT h3 o = 2 := by rw [e3, hT_sR]; exact T3
  have K3 : ∀ q, q ≠ 5 → hR h3 o q = hR h2 o q := fun q hq => by rw [e3, hR_sR, tpu_row2, if_neg hq, so.2.2.1]
  have N3 : hR h3 o 5 = some (hZ h + 4) := by rw [e3, hR_sR, tpu_row2, if_pos rfl, Z2]
  have J3 : ∀ q, hI h3 o q = hI h2 o q := fun q => by rw [e3, hI_sR, so.2.2.2.1]
  have W3 : rwL h3 (hZ h + 4) (hZ h + 5) 300 ∧ (∀ j, hI h3 (hZ h + 5) j = 0) ∧ hI h3 (hZ h + 4) 1 = 0 := by
    refine ⟨?_, fun j => ?_, ?_⟩
    · rw [e3]; exact rwL_k mr (hSm_sR _ _ _ _ _ (by omega)) (hSm_sR _ _ _ _ _ (by omega))
    · rw [e3, hI_sR]; exact m0 j
    · rw [e3, hI_sR]; exact m1
  clear mz mu mf mr m1 m0 so e3
  have W1x2x3 : rwL h3 (hZ h + 0) (hZ h + 1) 300 ∧ (∀ j, hI h3 (hZ h + 1) j = 0) ∧ hI h3 (hZ h + 0) 1 = 0 := mkKeep W1x2 (G3 _ (by rw [Z2]; omega) (by omega)) (G3 _ (by rw [Z2]; omega) (by omega))
  clear W1x2
  have W2x3 : rwL h3 (hZ h + 2) (hZ h + 3) 300 ∧ (∀ j, hI h3 (hZ h + 3) j = 0) ∧ hI h3 (hZ h + 2) 1 = 0 := mkKeep W2 (G3 _ (by rw [Z2]; omega) (by omega)) (G3 _ (by rw [Z2]; omega) (by omega))
  clear W2
  have N1x2x3 : hR h3 o 3 = some (hZ h + 0) := (K3 3 (by decide)).trans N1x2
  have N2x3 : hR h3 o 4 = some (hZ h + 2) := (K3 4 (by decide)).trans N2
  have I3 : ∀ q, hI h3 o q = hI h o q := fun q  => (J3 q).trans (I2 q )
  clear K3 J3 G3
  intro a4 g4 ea4 eg4
  subst ea4 eg4
  have wn := nC_new h3 10 0 3
  have wf := hSm_nC h3 10 0 3
  unfold w_Sp_init
  refine ⟨wn.1, fun s1 es1 s2 es2 s3 es3 => ?_⟩
  have mf : ∀ b, b < hZ h3 → hSm h3 s3 b := fun b hb => by rw [es3, es2, es1]; exact hSm_tr (hSm_tr (hSm_tr (wf b hb) (hSm_sI _ _ _ _ _ (by omega))) (hSm_sI _ _ _ _ _ (by omega))) (hSm_sI _ _ _ _ _ (by omega))
  have mt : hT s3 (hZ h3) = 10 := by rw [es3, es2, es1]; exact wn.1
  have mi : ∀ q, q < 3 → hI s3 (hZ h3) q = -1 := fun q hq => by
    rw [es3, es2, es1, hI_sI, tpu_row2]
    by_cases h2 : q = 2
    · rw [if_pos h2]
    · rw [if_neg h2, hI_sI, tpu_row2]
      by_cases h1 : q = 1
      · rw [if_pos h1]
      · rw [if_neg h1, hI_sI, tpu_row2, if_pos (by omega)]
  have mz : hZ s3 = hZ h3 + 1 := by rw [es3, es2, es1]; rfl
  have mu : hU s3 = hU h3 + 3 := by rw [es3, es2, es1]; rfl
  clear es1 es2 es3 wn wf
  rw [Z3] at mz mt mi
  rw [U3] at mu
  have so : hSm h3 s3 o := mf o (by rw [Z3]; omega)
  have T4 : hT s3 o = 2 := so.1.trans T3
  refine ⟨T4, fun h4 e4 => ?_⟩
  have Z4 : hZ h4 = hZ h + 7 := by rw [e4, hZ_sR]; omega
  have U4 : hU h4 = hU h + 909 := by rw [e4, hU_sR]; omega
  have G4 : ∀ b, b < hZ h3 → b ≠ o → hSm h3 h4 b := fun b hb hbo => by rw [e4]; exact hSm_tr (mf b hb) (hSm_sR _ _ _ _ _ hbo)
  have F4 : ∀ b, b < hZ h → b ≠ o → hSm h h4 b := fun b hb hbo => hSm_tr (F3 b hb hbo) (G4 b (by rw [Z3]; omega) hbo)
  have T4 : hT h4 o = 2 := by rw [e4, hT_sR]; exact T4
  have K4 : ∀ q, q ≠ 6 → hR h4 o q = hR h3 o q := fun q hq => by rw [e4, hR_sR, tpu_row2, if_neg hq, so.2.2.1]
  have N4 : hR h4 o 6 = some (hZ h + 6) := by rw [e4, hR_sR, tpu_row2, if_pos rfl, Z3]
  have J4 : ∀ q, hI h4 o q = hI h3 o q := fun q => by rw [e4, hI_sR, so.2.2.2.1]
  have W4 : hT h4 (hZ h + 6) = 10 ∧ ∀ j, j < 3 → hI h4 (hZ h + 6) j = -1 := by
    refine ⟨by rw [e4, hT_sR]; exact mt, fun j hj => ?_⟩
    rw [e4, hI_sR]; exact mi j hj
  clear mz mu mf mt mi so e4
  have W1x2x3x4 : rwL h4 (hZ h + 0) (hZ h + 1) 300 ∧ (∀ j, hI h4 (hZ h + 1) j = 0) ∧ hI h4 (hZ h + 0) 1 = 0 := mkKeep W1x2x3 (G4 _ (by rw [Z3]; omega) (by omega)) (G4 _ (by rw [Z3]; omega) (by omega))
  clear W1x2x3
  have W2x3x4 : rwL h4 (hZ h + 2) (hZ h + 3) 300 ∧ (∀ j, hI h4 (hZ h + 3) j = 0) ∧ hI h4 (hZ h + 2) 1 = 0 := mkKeep W2x3 (G4 _ (by rw [Z3]; omega) (by omega)) (G4 _ (by rw [Z3]; omega) (by omega))
  clear W2x3
  have W3x4 : rwL h4 (hZ h + 4) (hZ h + 5) 300 ∧ (∀ j, hI h4 (hZ h + 5) j = 0) ∧ hI h4 (hZ h + 4) 1 = 0 := mkKeep W3 (G4 _ (by rw [Z3]; omega) (by omega)) (G4 _ (by rw [Z3]; omega) (by omega))
  clear W3
  have N1x2x3x4 : hR h4 o 3 = some (hZ h + 0) := (K4 3 (by decide)).trans N1x2x3
  have N2x3x4 : hR h4 o 4 = some (hZ h + 2) := (K4 4 (by decide)).trans N2x3
  have N3x4 : hR h4 o 5 = some (hZ h + 4) := (K4 5 (by decide)).trans N3
  have I4 : ∀ q, hI h4 o q = hI h o q := fun q  => (J4 q).trans (I3 q )
  clear K4 J4 G4
  intro h5 e5
  have Z5 : hZ h5 = hZ h + 7 := by rw [e5, hZ_sR]; exact Z4
  have U5 : hU h5 = hU h + 909 := by rw [e5, hU_sR]; exact U4
  have G5 : ∀ b, b < hZ h4 → b ≠ o → hSm h4 h5 b := fun b hb hbo => by rw [e5]; exact hSm_sR _ _ _ _ _ hbo
  have F5 : ∀ b, b < hZ h → b ≠ o → hSm h h5 b := fun b hb hbo => hSm_tr (F4 b hb hbo) (G5 b (by rw [Z4]; omega) hbo)
  have T5 : hT h5 o = 2 := by rw [e5, hT_sR]; exact T4
  have K5 : ∀ q, q ≠ 0 → hR h5 o q = hR h4 o q := fun q hq => by rw [e5, hR_sR, tpu_row2, if_neg hq]
  have N5 : hR h5 o 0 = x1 := by rw [e5, hR_sR, tpu_row2, if_pos rfl]
  have J5 : ∀ q, hI h5 o q = hI h4 o q := fun q => by rw [e5, hI_sR]
  clear e5
  have W1x2x3x4x5 : rwL h5 (hZ h + 0) (hZ h + 1) 300 ∧ (∀ j, hI h5 (hZ h + 1) j = 0) ∧ hI h5 (hZ h + 0) 1 = 0 := mkKeep W1x2x3x4 (G5 _ (by rw [Z4]; omega) (by omega)) (G5 _ (by rw [Z4]; omega) (by omega))
  clear W1x2x3x4
  have W2x3x4x5 : rwL h5 (hZ h + 2) (hZ h + 3) 300 ∧ (∀ j, hI h5 (hZ h + 3) j = 0) ∧ hI h5 (hZ h + 2) 1 = 0 := mkKeep W2x3x4 (G5 _ (by rw [Z4]; omega) (by omega)) (G5 _ (by rw [Z4]; omega) (by omega))
  clear W2x3x4
  have W3x4x5 : rwL h5 (hZ h + 4) (hZ h + 5) 300 ∧ (∀ j, hI h5 (hZ h + 5) j = 0) ∧ hI h5 (hZ h + 4) 1 = 0 := mkKeep W3x4 (G5 _ (by rw [Z4]; omega) (by omega)) (G5 _ (by rw [Z4]; omega) (by omega))
  clear W3x4
  have W4x5 : hT h5 (hZ h + 6) = 10 ∧ ∀ j, j < 3 → hI h5 (hZ h + 6) j = -1 := mkKeepS W4 (G5 _ (by rw [Z4]; omega) (by omega))
  clear W4
  have N1x2x3x4x5 : hR h5 o 3 = some (hZ h + 0) := (K5 3 (by decide)).trans N1x2x3x4
  have N2x3x4x5 : hR h5 o 4 = some (hZ h + 2) := (K5 4 (by decide)).trans N2x3x4
  have N3x4x5 : hR h5 o 5 = some (hZ h + 4) := (K5 5 (by decide)).trans N3x4
  have N4x5 : hR h5 o 6 = some (hZ h + 6) := (K5 6 (by decide)).trans N4
  have I5 : ∀ q, hI h5 o q = hI h o q := fun q  => (J5 q).trans (I4 q )
  clear K5 J5 G5
  intro h6 e6
  have Z6 : hZ h6 = hZ h + 7 := by rw [e6, hZ_sR]; exact Z5
  have U6 : hU h6 = hU h + 909 := by rw [e6, hU_sR]; exact U5
  have G6 : ∀ b, b < hZ h5 → b ≠ o → hSm h5 h6 b := fun b hb hbo => by rw [e6]; exact hSm_sR _ _ _ _ _ hbo
  have F6 : ∀ b, b < hZ h → b ≠ o → hSm h h6 b := fun b hb hbo => hSm_tr (F5 b hb hbo) (G6 b (by rw [Z5]; omega) hbo)
  have T6 : hT h6 o = 2 := by rw [e6, hT_sR]; exact T5
  have K6 : ∀ q, q ≠ 1 → hR h6 o q = hR h5 o q := fun q hq => by rw [e6, hR_sR, tpu_row2, if_neg hq]
  have N6 : hR h6 o 1 = x2 := by rw [e6, hR_sR, tpu_row2, if_pos rfl]
  have J6 : ∀ q, hI h6 o q = hI h5 o q := fun q => by rw [e6, hI_sR]
  clear e6
  have W1x2x3x4x5x6 : rwL h6 (hZ h + 0) (hZ h + 1) 300 ∧ (∀ j, hI h6 (hZ h + 1) j = 0) ∧ hI h6 (hZ h + 0) 1 = 0 := mkKeep W1x2x3x4x5 (G6 _ (by rw [Z5]; omega) (by omega)) (G6 _ (by rw [Z5]; omega) (by omega))
  clear W1x2x3x4x5
  have W2x3x4x5x6 : rwL h6 (hZ h + 2) (hZ h + 3) 300 ∧ (∀ j, hI h6 (hZ h + 3) j = 0) ∧ hI h6 (hZ h + 2) 1 = 0 := mkKeep W2x3x4x5 (G6 _ (by rw [Z5]; omega) (by omega)) (G6 _ (by rw [Z5]; omega) (by omega))
  clear W2x3x4x5
  have W3x4x5x6 : rwL h6 (hZ h + 4) (hZ h + 5) 300 ∧ (∀ j, hI h6 (hZ h + 5) j = 0) ∧ hI h6 (hZ h + 4) 1 = 0 := mkKeep W3x4x5 (G6 _ (by rw [Z5]; omega) (by omega)) (G6 _ (by rw [Z5]; omega) (by omega))
  clear W3x4x5
  have W4x5x6 : hT h6 (hZ h + 6) = 10 ∧ ∀ j, j < 3 → hI h6 (hZ h + 6) j = -1 := mkKeepS W4x5 (G6 _ (by rw [Z5]; omega) (by omega))
  clear W4x5
  have N1x2x3x4x5x6 : hR h6 o 3 = some (hZ h + 0) := (K6 3 (by decide)).trans N1x2x3x4x5
  have N2x3x4x5x6 : hR h6 o 4 = some (hZ h + 2) := (K6 4 (by decide)).trans N2x3x4x5
  have N3x4x5x6 : hR h6 o 5 = some (hZ h + 4) := (K6 5 (by decide)).trans N3x4x5
  have N4x5x6 : hR h6 o 6 = some (hZ h + 6) := (K6 6 (by decide)).trans N4x5
  have N5x6 : hR h6 o 0 = x1 := (K6 0 (by decide)).trans N5
  have I6 : ∀ q, hI h6 o q = hI h o q := fun q  => (J6 q).trans (I5 q )
  clear K6 J6 G6
  intro h7 e7
  have Z7 : hZ h7 = hZ h + 7 := by rw [e7, hZ_sR]; exact Z6
  have U7 : hU h7 = hU h + 909 := by rw [e7, hU_sR]; exact U6
  have G7 : ∀ b, b < hZ h6 → b ≠ o → hSm h6 h7 b := fun b hb hbo => by rw [e7]; exact hSm_sR _ _ _ _ _ hbo
  have F7 : ∀ b, b < hZ h → b ≠ o → hSm h h7 b := fun b hb hbo => hSm_tr (F6 b hb hbo) (G7 b (by rw [Z6]; omega) hbo)
  have T7 : hT h7 o = 2 := by rw [e7, hT_sR]; exact T6
  have K7 : ∀ q, q ≠ 2 → hR h7 o q = hR h6 o q := fun q hq => by rw [e7, hR_sR, tpu_row2, if_neg hq]
  have N7 : hR h7 o 2 = x3 := by rw [e7, hR_sR, tpu_row2, if_pos rfl]
  have J7 : ∀ q, hI h7 o q = hI h6 o q := fun q => by rw [e7, hI_sR]
  clear e7
  have W1x2x3x4x5x6x7 : rwL h7 (hZ h + 0) (hZ h + 1) 300 ∧ (∀ j, hI h7 (hZ h + 1) j = 0) ∧ hI h7 (hZ h + 0) 1 = 0 := mkKeep W1x2x3x4x5x6 (G7 _ (by rw [Z6]; omega) (by omega)) (G7 _ (by rw [Z6]; omega) (by omega))
  clear W1x2x3x4x5x6
  have W2x3x4x5x6x7 : rwL h7 (hZ h + 2) (hZ h + 3) 300 ∧ (∀ j, hI h7 (hZ h + 3) j = 0) ∧ hI h7 (hZ h + 2) 1 = 0 := mkKeep W2x3x4x5x6 (G7 _ (by rw [Z6]; omega) (by omega)) (G7 _ (by rw [Z6]; omega) (by omega))
  clear W2x3x4x5x6
  have W3x4x5x6x7 : rwL h7 (hZ h + 4) (hZ h + 5) 300 ∧ (∀ j, hI h7 (hZ h + 5) j = 0) ∧ hI h7 (hZ h + 4) 1 = 0 := mkKeep W3x4x5x6 (G7 _ (by rw [Z6]; omega) (by omega)) (G7 _ (by rw [Z6]; omega) (by omega))
  clear W3x4x5x6
  have W4x5x6x7 : hT h7 (hZ h + 6) = 10 ∧ ∀ j, j < 3 → hI h7 (hZ h + 6) j = -1 := mkKeepS W4x5x6 (G7 _ (by rw [Z6]; omega) (by omega))
  clear W4x5x6
  have N1x2x3x4x5x6x7 : hR h7 o 3 = some (hZ h + 0) := (K7 3 (by decide)).trans N1x2x3x4x5x6
  have N2x3x4x5x6x7 : hR h7 o 4 = some (hZ h + 2) := (K7 4 (by decide)).trans N2x3x4x5x6
  have N3x4x5x6x7 : hR h7 o 5 = some (hZ h + 4) := (K7 5 (by decide)).trans N3x4x5x6
  have N4x5x6x7 : hR h7 o 6 = some (hZ h + 6) := (K7 6 (by decide)).trans N4x5x6
  have N5x6x7 : hR h7 o 0 = x1 := (K7 0 (by decide)).trans N5x6
  have N6x7 : hR h7 o 1 = x2 := (K7 1 (by decide)).trans N6
  have I7 : ∀ q, hI h7 o q = hI h o q := fun q  => (J7 q).trans (I6 q )
  clear K7 J7 G7
  exact k h7 ⟨Z7, U7, F7, T7, ⟨N5x6x7, N6x7, N7, N1x2x3x4x5x6x7, N2x3x4x5x6x7, N3x4x5x6x7, N4x5x6x7⟩, I7, W1x2x3x4x5x6x7, W2x3x4x5x6x7, W3x4x5x6x7, W4x5x6x7⟩
def mkHi (h h' : tpH) (o : Nat)  : Prop :=
  hZ h' = hZ h + 10 ∧
  hU h' = hU h + 160 ∧
  (∀ b, b < hZ h → b ≠ o → hSm h h' b) ∧
  hT h' o = 3 ∧
  (hR h' o 0 = some (hZ h + 0) ∧ hR h' o 1 = some (hZ h + 2) ∧ hR h' o 2 = some (hZ h + 4) ∧ hR h' o 3 = some (hZ h + 6) ∧ hR h' o 4 = some (hZ h + 8)) ∧
  (∀ j, hI h' o j = hI h o j) ∧
  (rwL h' (hZ h + 0) (hZ h + 1) 30 ∧ (∀ j, hI h' (hZ h + 1) j = 0) ∧ hI h' (hZ h + 0) 1 = 0) ∧
  (rwL h' (hZ h + 2) (hZ h + 3) 30 ∧ (∀ j, hI h' (hZ h + 3) j = 0) ∧ hI h' (hZ h + 2) 1 = 0) ∧
  (rwL h' (hZ h + 4) (hZ h + 5) 30 ∧ (∀ j, hI h' (hZ h + 5) j = 0) ∧ hI h' (hZ h + 4) 1 = 0) ∧
  (rwL h' (hZ h + 6) (hZ h + 7) 30 ∧ (∀ j, hI h' (hZ h + 7) j = 0) ∧ hI h' (hZ h + 6) 1 = 0) ∧
  (rwL h' (hZ h + 8) (hZ h + 9) 30 ∧ (∀ j, hI h' (hZ h + 9) j = 0) ∧ hI h' (hZ h + 8) 1 = 0)
theorem p_Hi_init {h : tpH} {o : Nat} {R : tpH → Prop} (ho : o < hZ h) (hk : hT h o = 3) (k : ∀ h', mkHi h h' o  → R h') : w_Hi_init o  h R := by
  unfold w_Hi_init
  have F0 : ∀ b, b < hZ h → b ≠ o → hSm h h b := fun b _ _ => hSm_rf h b
  have Z0 : hZ h = hZ h + 0 := rfl
  have U0 : hU h = hU h + 0 := rfl
  have T0 : hT h o = 3 := hk
  have I0 : ∀ j, hI h o j = hI h o j := fun _ => rfl
  intro a1 g1 ea1 eg1
  subst ea1 eg1
  refine p_Ro_init (n := 30) (by decide) (by decide) (by decide) (fun h1a M1 => ?_)
  obtain ⟨mz, mu, mf, mr, m1, m0⟩ := M1
  rw [Z0] at mz mr m1 m0
  rw [U0] at mu
  have so : hSm h h1a o := mf o (by rw [Z0]; omega)
  have T1 : hT h1a o = 3 := so.1.trans T0
  refine ⟨T1, fun h1 e1 => ?_⟩
  have Z1 : hZ h1 = hZ h + 2 := by rw [e1, hZ_sR]; omega
  have U1 : hU h1 = hU h + 32 := by rw [e1, hU_sR]; omega
  have G1 : ∀ b, b < hZ h → b ≠ o → hSm h h1 b := fun b hb hbo => by rw [e1]; exact hSm_tr (mf b hb) (hSm_sR _ _ _ _ _ hbo)
  have F1 : ∀ b, b < hZ h → b ≠ o → hSm h h1 b := fun b hb hbo => hSm_tr (F0 b hb hbo) (G1 b (by rw [Z0]; omega) hbo)
  have T1 : hT h1 o = 3 := by rw [e1, hT_sR]; exact T1
  have K1 : ∀ q, q ≠ 0 → hR h1 o q = hR h o q := fun q hq => by rw [e1, hR_sR, tpu_row2, if_neg hq, so.2.2.1]
  have N1 : hR h1 o 0 = some (hZ h + 0) := by rw [e1, hR_sR, tpu_row2, if_pos rfl, Z0]
  have J1 : ∀ q, hI h1 o q = hI h o q := fun q => by rw [e1, hI_sR, so.2.2.2.1]
  have W1 : rwL h1 (hZ h + 0) (hZ h + 1) 30 ∧ (∀ j, hI h1 (hZ h + 1) j = 0) ∧ hI h1 (hZ h + 0) 1 = 0 := by
    refine ⟨?_, fun j => ?_, ?_⟩
    · rw [e1]; exact rwL_k mr (hSm_sR _ _ _ _ _ (by omega)) (hSm_sR _ _ _ _ _ (by omega))
    · rw [e1, hI_sR]; exact m0 j
    · rw [e1, hI_sR]; exact m1
  clear mz mu mf mr m1 m0 so e1
  have I1 : ∀ q, hI h1 o q = hI h o q := fun q  => (J1 q).trans (I0 q )
  clear K1 J1 G1
  intro a2 g2 ea2 eg2
  subst ea2 eg2
  refine p_Ro_init (n := 30) (by decide) (by decide) (by decide) (fun h2a M2 => ?_)
  obtain ⟨mz, mu, mf, mr, m1, m0⟩ := M2
  rw [Z1] at mz mr m1 m0
  rw [U1] at mu
  have so : hSm h1 h2a o := mf o (by rw [Z1]; omega)
  have T2 : hT h2a o = 3 := so.1.trans T1
  refine ⟨T2, fun h2 e2 => ?_⟩
  have Z2 : hZ h2 = hZ h + 4 := by rw [e2, hZ_sR]; omega
  have U2 : hU h2 = hU h + 64 := by rw [e2, hU_sR]; omega
  have G2 : ∀ b, b < hZ h1 → b ≠ o → hSm h1 h2 b := fun b hb hbo => by rw [e2]; exact hSm_tr (mf b hb) (hSm_sR _ _ _ _ _ hbo)
  have F2 : ∀ b, b < hZ h → b ≠ o → hSm h h2 b := fun b hb hbo => hSm_tr (F1 b hb hbo) (G2 b (by rw [Z1]; omega) hbo)
  have T2 : hT h2 o = 3 := by rw [e2, hT_sR]; exact T2
  have K2 : ∀ q, q ≠ 1 → hR h2 o q = hR h1 o q := fun q hq => by rw [e2, hR_sR, tpu_row2, if_neg hq, so.2.2.1]
  have N2 : hR h2 o 1 = some (hZ h + 2) := by rw [e2, hR_sR, tpu_row2, if_pos rfl, Z1]
  have J2 : ∀ q, hI h2 o q = hI h1 o q := fun q => by rw [e2, hI_sR, so.2.2.2.1]
  have W2 : rwL h2 (hZ h + 2) (hZ h + 3) 30 ∧ (∀ j, hI h2 (hZ h + 3) j = 0) ∧ hI h2 (hZ h + 2) 1 = 0 := by
    refine ⟨?_, fun j => ?_, ?_⟩
    · rw [e2]; exact rwL_k mr (hSm_sR _ _ _ _ _ (by omega)) (hSm_sR _ _ _ _ _ (by omega))
    · rw [e2, hI_sR]; exact m0 j
    · rw [e2, hI_sR]; exact m1
  clear mz mu mf mr m1 m0 so e2
  have W1x2 : rwL h2 (hZ h + 0) (hZ h + 1) 30 ∧ (∀ j, hI h2 (hZ h + 1) j = 0) ∧ hI h2 (hZ h + 0) 1 = 0 := mkKeep W1 (G2 _ (by rw [Z1]; omega) (by omega)) (G2 _ (by rw [Z1]; omega) (by omega))
  clear W1
  have N1x2 : hR h2 o 0 = some (hZ h + 0) := (K2 0 (by decide)).trans N1
  have I2 : ∀ q, hI h2 o q = hI h o q := fun q  => (J2 q).trans (I1 q )
  clear K2 J2 G2
  intro a3 g3 ea3 eg3
  subst ea3 eg3
  refine p_Ro_init (n := 30) (by decide) (by decide) (by decide) (fun h3a M3 => ?_)
  obtain ⟨mz, mu, mf, mr, m1, m0⟩ := M3
  rw [Z2] at mz mr m1 m0
  rw [U2] at mu
  have so : hSm h2 h3a o := mf o (by rw [Z2]; omega)
  have T3 : hT h3a o = 3 := so.1.trans T2
  refine ⟨T3, fun h3 e3 => ?_⟩
  have Z3 : hZ h3 = hZ h + 6 := by rw [e3, hZ_sR]; omega
  have U3 : hU h3 = hU h + 96 := by rw [e3, hU_sR]; omega
  have G3 : ∀ b, b < hZ h2 → b ≠ o → hSm h2 h3 b := fun b hb hbo => by rw [e3]; exact hSm_tr (mf b hb) (hSm_sR _ _ _ _ _ hbo)
  have F3 : ∀ b, b < hZ h → b ≠ o → hSm h h3 b := fun b hb hbo => hSm_tr (F2 b hb hbo) (G3 b (by rw [Z2]; omega) hbo)
  have T3 : hT h3 o = 3 := by rw [e3, hT_sR]; exact T3
  have K3 : ∀ q, q ≠ 2 → hR h3 o q = hR h2 o q := fun q hq => by rw [e3, hR_sR, tpu_row2, if_neg hq, so.2.2.1]
  have N3 : hR h3 o 2 = some (hZ h + 4) := by rw [e3, hR_sR, tpu_row2, if_pos rfl, Z2]
  have J3 : ∀ q, hI h3 o q = hI h2 o q := fun q => by rw [e3, hI_sR, so.2.2.2.1]
  have W3 : rwL h3 (hZ h + 4) (hZ h + 5) 30 ∧ (∀ j, hI h3 (hZ h + 5) j = 0) ∧ hI h3 (hZ h + 4) 1 = 0 := by
    refine ⟨?_, fun j => ?_, ?_⟩
    · rw [e3]; exact rwL_k mr (hSm_sR _ _ _ _ _ (by omega)) (hSm_sR _ _ _ _ _ (by omega))
    · rw [e3, hI_sR]; exact m0 j
    · rw [e3, hI_sR]; exact m1
  clear mz mu mf mr m1 m0 so e3
  have W1x2x3 : rwL h3 (hZ h + 0) (hZ h + 1) 30 ∧ (∀ j, hI h3 (hZ h + 1) j = 0) ∧ hI h3 (hZ h + 0) 1 = 0 := mkKeep W1x2 (G3 _ (by rw [Z2]; omega) (by omega)) (G3 _ (by rw [Z2]; omega) (by omega))
  clear W1x2
  have W2x3 : rwL h3 (hZ h + 2) (hZ h + 3) 30 ∧ (∀ j, hI h3 (hZ h + 3) j = 0) ∧ hI h3 (hZ h + 2) 1 = 0 := mkKeep W2 (G3 _ (by rw [Z2]; omega) (by omega)) (G3 _ (by rw [Z2]; omega) (by omega))
  clear W2
  have N1x2x3 : hR h3 o 0 = some (hZ h + 0) := (K3 0 (by decide)).trans N1x2
  have N2x3 : hR h3 o 1 = some (hZ h + 2) := (K3 1 (by decide)).trans N2
  have I3 : ∀ q, hI h3 o q = hI h o q := fun q  => (J3 q).trans (I2 q )
  clear K3 J3 G3
  intro a4 g4 ea4 eg4
  subst ea4 eg4
  refine p_Ro_init (n := 30) (by decide) (by decide) (by decide) (fun h4a M4 => ?_)
  obtain ⟨mz, mu, mf, mr, m1, m0⟩ := M4
  rw [Z3] at mz mr m1 m0
  rw [U3] at mu
  have so : hSm h3 h4a o := mf o (by rw [Z3]; omega)
  have T4 : hT h4a o = 3 := so.1.trans T3
  refine ⟨T4, fun h4 e4 => ?_⟩
  have Z4 : hZ h4 = hZ h + 8 := by rw [e4, hZ_sR]; omega
  have U4 : hU h4 = hU h + 128 := by rw [e4, hU_sR]; omega
  have G4 : ∀ b, b < hZ h3 → b ≠ o → hSm h3 h4 b := fun b hb hbo => by rw [e4]; exact hSm_tr (mf b hb) (hSm_sR _ _ _ _ _ hbo)
  have F4 : ∀ b, b < hZ h → b ≠ o → hSm h h4 b := fun b hb hbo => hSm_tr (F3 b hb hbo) (G4 b (by rw [Z3]; omega) hbo)
  have T4 : hT h4 o = 3 := by rw [e4, hT_sR]; exact T4
  have K4 : ∀ q, q ≠ 3 → hR h4 o q = hR h3 o q := fun q hq => by rw [e4, hR_sR, tpu_row2, if_neg hq, so.2.2.1]
  have N4 : hR h4 o 3 = some (hZ h + 6) := by rw [e4, hR_sR, tpu_row2, if_pos rfl, Z3]
  have J4 : ∀ q, hI h4 o q = hI h3 o q := fun q => by rw [e4, hI_sR, so.2.2.2.1]
  have W4 : rwL h4 (hZ h + 6) (hZ h + 7) 30 ∧ (∀ j, hI h4 (hZ h + 7) j = 0) ∧ hI h4 (hZ h + 6) 1 = 0 := by
    refine ⟨?_, fun j => ?_, ?_⟩
    · rw [e4]; exact rwL_k mr (hSm_sR _ _ _ _ _ (by omega)) (hSm_sR _ _ _ _ _ (by omega))
    · rw [e4, hI_sR]; exact m0 j
    · rw [e4, hI_sR]; exact m1
  clear mz mu mf mr m1 m0 so e4
  have W1x2x3x4 : rwL h4 (hZ h + 0) (hZ h + 1) 30 ∧ (∀ j, hI h4 (hZ h + 1) j = 0) ∧ hI h4 (hZ h + 0) 1 = 0 := mkKeep W1x2x3 (G4 _ (by rw [Z3]; omega) (by omega)) (G4 _ (by rw [Z3]; omega) (by omega))
  clear W1x2x3
  have W2x3x4 : rwL h4 (hZ h + 2) (hZ h + 3) 30 ∧ (∀ j, hI h4 (hZ h + 3) j = 0) ∧ hI h4 (hZ h + 2) 1 = 0 := mkKeep W2x3 (G4 _ (by rw [Z3]; omega) (by omega)) (G4 _ (by rw [Z3]; omega) (by omega))
  clear W2x3
  have W3x4 : rwL h4 (hZ h + 4) (hZ h + 5) 30 ∧ (∀ j, hI h4 (hZ h + 5) j = 0) ∧ hI h4 (hZ h + 4) 1 = 0 := mkKeep W3 (G4 _ (by rw [Z3]; omega) (by omega)) (G4 _ (by rw [Z3]; omega) (by omega))
  clear W3
  have N1x2x3x4 : hR h4 o 0 = some (hZ h + 0) := (K4 0 (by decide)).trans N1x2x3
  have N2x3x4 : hR h4 o 1 = some (hZ h + 2) := (K4 1 (by decide)).trans N2x3
  have N3x4 : hR h4 o 2 = some (hZ h + 4) := (K4 2 (by decide)).trans N3
  have I4 : ∀ q, hI h4 o q = hI h o q := fun q  => (J4 q).trans (I3 q )
  clear K4 J4 G4
  intro a5 g5 ea5 eg5
  subst ea5 eg5
  refine p_Ro_init (n := 30) (by decide) (by decide) (by decide) (fun h5a M5 => ?_)
  obtain ⟨mz, mu, mf, mr, m1, m0⟩ := M5
  rw [Z4] at mz mr m1 m0
  rw [U4] at mu
  have so : hSm h4 h5a o := mf o (by rw [Z4]; omega)
  have T5 : hT h5a o = 3 := so.1.trans T4
  refine ⟨T5, fun h5 e5 => ?_⟩
  have Z5 : hZ h5 = hZ h + 10 := by rw [e5, hZ_sR]; omega
  have U5 : hU h5 = hU h + 160 := by rw [e5, hU_sR]; omega
  have G5 : ∀ b, b < hZ h4 → b ≠ o → hSm h4 h5 b := fun b hb hbo => by rw [e5]; exact hSm_tr (mf b hb) (hSm_sR _ _ _ _ _ hbo)
  have F5 : ∀ b, b < hZ h → b ≠ o → hSm h h5 b := fun b hb hbo => hSm_tr (F4 b hb hbo) (G5 b (by rw [Z4]; omega) hbo)
  have T5 : hT h5 o = 3 := by rw [e5, hT_sR]; exact T5
  have K5 : ∀ q, q ≠ 4 → hR h5 o q = hR h4 o q := fun q hq => by rw [e5, hR_sR, tpu_row2, if_neg hq, so.2.2.1]
  have N5 : hR h5 o 4 = some (hZ h + 8) := by rw [e5, hR_sR, tpu_row2, if_pos rfl, Z4]
  have J5 : ∀ q, hI h5 o q = hI h4 o q := fun q => by rw [e5, hI_sR, so.2.2.2.1]
  have W5 : rwL h5 (hZ h + 8) (hZ h + 9) 30 ∧ (∀ j, hI h5 (hZ h + 9) j = 0) ∧ hI h5 (hZ h + 8) 1 = 0 := by
    refine ⟨?_, fun j => ?_, ?_⟩
    · rw [e5]; exact rwL_k mr (hSm_sR _ _ _ _ _ (by omega)) (hSm_sR _ _ _ _ _ (by omega))
    · rw [e5, hI_sR]; exact m0 j
    · rw [e5, hI_sR]; exact m1
  clear mz mu mf mr m1 m0 so e5
  have W1x2x3x4x5 : rwL h5 (hZ h + 0) (hZ h + 1) 30 ∧ (∀ j, hI h5 (hZ h + 1) j = 0) ∧ hI h5 (hZ h + 0) 1 = 0 := mkKeep W1x2x3x4 (G5 _ (by rw [Z4]; omega) (by omega)) (G5 _ (by rw [Z4]; omega) (by omega))
  clear W1x2x3x4
  have W2x3x4x5 : rwL h5 (hZ h + 2) (hZ h + 3) 30 ∧ (∀ j, hI h5 (hZ h + 3) j = 0) ∧ hI h5 (hZ h + 2) 1 = 0 := mkKeep W2x3x4 (G5 _ (by rw [Z4]; omega) (by omega)) (G5 _ (by rw [Z4]; omega) (by omega))
  clear W2x3x4
  have W3x4x5 : rwL h5 (hZ h + 4) (hZ h + 5) 30 ∧ (∀ j, hI h5 (hZ h + 5) j = 0) ∧ hI h5 (hZ h + 4) 1 = 0 := mkKeep W3x4 (G5 _ (by rw [Z4]; omega) (by omega)) (G5 _ (by rw [Z4]; omega) (by omega))
  clear W3x4
  have W4x5 : rwL h5 (hZ h + 6) (hZ h + 7) 30 ∧ (∀ j, hI h5 (hZ h + 7) j = 0) ∧ hI h5 (hZ h + 6) 1 = 0 := mkKeep W4 (G5 _ (by rw [Z4]; omega) (by omega)) (G5 _ (by rw [Z4]; omega) (by omega))
  clear W4
  have N1x2x3x4x5 : hR h5 o 0 = some (hZ h + 0) := (K5 0 (by decide)).trans N1x2x3x4
  have N2x3x4x5 : hR h5 o 1 = some (hZ h + 2) := (K5 1 (by decide)).trans N2x3x4
  have N3x4x5 : hR h5 o 2 = some (hZ h + 4) := (K5 2 (by decide)).trans N3x4
  have N4x5 : hR h5 o 3 = some (hZ h + 6) := (K5 3 (by decide)).trans N4
  have I5 : ∀ q, hI h5 o q = hI h o q := fun q  => (J5 q).trans (I4 q )
  clear K5 J5 G5
  exact k h5 ⟨Z5, U5, F5, T5, ⟨N1x2x3x4x5, N2x3x4x5, N3x4x5, N4x5, N5⟩, I5, W1x2x3x4x5, W2x3x4x5, W3x4x5, W4x5, W5⟩
end PMAKE
