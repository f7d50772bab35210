section PMODEL
/-- the reference's rows in the order of their making: kind, length, field -/
def mdT : List (Nat × Nat × Nat) := [(15, 300, 1), (15, 300, 2), (15, 42, 5), (15, 12600, 6), (15, 12600, 7), (15, 12600, 8), (15, 12600, 9), (15, 41, 11), (15, 4100, 12), (15, 4100, 13), (15, 4100, 14), (15, 4100, 15), (15, 4100, 16), (15, 4100, 17), (15, 4100, 18), (15, 4100, 19), (15, 4100, 20), (15, 4100, 21), (15, 6, 23), (15, 92000, 25), (15, 30, 27), (15, 30, 28), (15, 30, 29), (15, 30, 30), (15, 300, 32), (15, 300, 33), (16, 300, 36), (16, 90000, 37), (15, 300, 38), (15, 300, 39), (16, 300, 40), (15, 300, 41), (15, 300, 42), (16, 300, 43), (16, 300, 44), (15, 300, 45), (15, 300, 46), (16, 300, 47), (15, 300, 48), (15, 300, 49), (16, 300, 50), (15, 300, 51), (15, 300, 53), (15, 300, 55), (16, 300, 56), (15, 30, 57)]
def mdP (h g : tpH) (o p i u : Nat) : Prop := hZ g = p + i ∧ hU g = hU h + u ∧ hT g o = 14 ∧ (∀ j, hI g o j = 0) ∧ (∀ b, b < p → b ≠ o → hSm h g b) ∧
  ∀ j q, j < i → mdT[j]? = some q → hT g (p + j) = q.1 ∧ hL g (p + j) = q.2.1 ∧ hR g o q.2.2 = some (p + j) ∧ ∀ k, hI g (p + j) k = 0
theorem mdP_s {h g g' : tpH} {o p i u kd n f : Nat} (H : mdP h g o p i u) (ho : o < p) (hi : mdT[i]? = some (kd, n, f)) (hd : ((mdT.take i).all fun q => q.2.2 != f) = true) (e : g' = sR (nC g kd n n) o f (some (hZ g))) : mdP h g' o p (i + 1) (u + n) := by
  obtain ⟨h1, h2, h3, h4, h5, h6⟩ := H
  have wn := nC_new g kd n n
  have wf := hSm_nC g kd n n
  have so := wf o (by omega)
  have fr : ∀ b, b < hZ g → b ≠ o → hSm g g' b := fun b hb hbo => by rw [e]; exact hSm_tr (wf b hb) (hSm_sR _ _ _ _ _ hbo)
  refine ⟨by rw [e, hZ_sR]; show hZ g + 1 = _; omega, by rw [e, hU_sR]; show hU g + n = _; omega, by rw [e, hT_sR, so.1]; exact h3, fun j => by rw [e, hI_sR, so.2.2.2.1]; exact h4 j, fun b hb hbo => hSm_tr (h5 b hb hbo) (fr b (by omega) hbo), fun j q hj hq => ?_⟩
  by_cases ej : j = i
  · subst ej
    rw [hi] at hq
    cases hq
    rw [h1] at wn
    have sn := hSm_sR (nC g kd n n) o f (some (hZ g)) (p + j) (by omega)
    rw [← e] at sn
    refine ⟨by rw [sn.1]; exact wn.1, by rw [sn.2.1]; exact wn.2.1, ?_, fun k => by rw [sn.2.2.2.1, wn.2.2.2.1]⟩
    rw [e, hR_sR, tpu_row2, if_pos rfl, h1]
  · obtain ⟨a1, a2, a3, a4⟩ := h6 j q (by omega) hq
    have g1 := fr (p + j) (by omega) (by omega)
    refine ⟨by rw [g1.1]; exact a1, by rw [g1.2.1]; exact a2, ?_, fun k => by rw [g1.2.2.2.1]; exact a4 k⟩
    have hne : q.2.2 ≠ f := by
      have hm : q ∈ mdT.take i := List.mem_of_getElem? (i := j) (by rw [List.getElem?_take_of_lt (by omega)]; exact hq)
      have := List.all_eq_true.mp hd q hm
      simpa using this
    rw [e, hR_sR, tpu_row2, if_neg hne, so.2.2.1]
    exact a3
/-- what never changes of the reference's object o, whose rows lie from p on -/
def lMd (h : tpH) (o p : Nat) : Prop := hT h o = 14 ∧ ∀ j q, mdT[j]? = some q → hT h (p + j) = q.1 ∧ hL h (p + j) = q.2.1 ∧ hR h o q.2.2 = some (p + j)
def fMd (h : tpH) (o p : Nat) : Prop := lMd h o p ∧ (∀ j, hI h o j = 0) ∧ ∀ j k, j < 46 → hI h (p + j) k = if j = 3 ∧ k < 12600 then -2 else 0
theorem mdT_len : mdT.length = 46 := by decide
theorem lMd_k {h h' : tpH} {o p : Nat} (M : lMd h o p) (k0 : hSm h h' o) (k : ∀ b, p ≤ b → b < p + 46 → hSm h h' b) : lMd h' o p := by
  obtain ⟨m1, m2⟩ := M
  refine ⟨by rw [k0.1]; exact m1, fun j q hq => ?_⟩
  have hj : j < 46 := by
    have := (List.getElem?_eq_some_iff.mp hq).1
    rw [mdT_len] at this
    exact this
  obtain ⟨a1, a2, a3⟩ := m2 j q hq
  have g := k (p + j) (by omega) (by omega)
  exact ⟨by rw [g.1]; exact a1, by rw [g.2.1]; exact a2, by rw [k0.2.2.1]; exact a3⟩
theorem lMd_w {h : tpH} {F : Nat → Nat → Int32} {o p : Nat} (M : lMd h o p) : lMd (wI h F) o p := M
theorem p_Md_fill {h : tpH} {o p : Nat} {R : tpH → Prop} (M : lMd h o p) (k : R (wI h (rFill (hI h) (p + 3) 12600 (-2)))) : ∃ n, w_Md_init_410 R n o (0 : Int32) h := by
  obtain ⟨m1, m2⟩ := M
  obtain ⟨a1, a2, a3⟩ := m2 3 (15, 12600, 6) (by decide)
  have key : ∀ (m q : Nat), q ≤ 12600 → 12600 - q < m → w_Md_init_410 R m o (nI q) (wI h (rFill (hI h) (p + 3) q (-2))) := by
    intro m
    induction m with
    | zero => intro q _ h2; omega
    | succ m ih =>
      intro q hq hm
      change b_Md_init_410 R (w_Md_init_410 R m) o (nI q) (wI h (rFill (hI h) (p + 3) q (-2)))
      unfold b_Md_init_410
      refine ⟨fun c1 => ?_, fun c1 => ⟨m1, p + 3, a3, a1, ?_, fun h7 e7 => ?_⟩⟩
      · have c2 := (nI_le_iff (a := 12600) (b := q) (by decide) (by omega)).mp c1
        have e : q = 12600 := by omega
        rw [e]; exact k
      · have c4 : ¬ 12600 ≤ q := fun h => c1 (nI_le h (by omega))
        rw [wI_L, a2]
        exact vp_in_nI (by show q < 12600; omega) (by decide)
      · have c4 : ¬ 12600 ≤ q := fun h => c1 (nI_le h (by omega))
        rw [e7, sI_wI, wI_I, wI_wI, nI_clamp (by omega), rFill_s, nI_1]
        exact ih (q + 1) (by omega) (by omega)
  refine ⟨12601, ?_⟩
  have h9 := key 12601 0 (Nat.zero_le _) (by omega)
  rw [rFill_0, wI_self] at h9
  exact h9
theorem p_Md_init {h : tpH} {o : Nat} {R : tpH → Prop} (ho : o < hZ h) (hk : hT h o = 14) (hi : ∀ j, hI h o j = 0) (k : ∀ h', fMd h' o (hZ h) → hZ h' = hZ h + 46 → hU h' = hU h + 280239 → (∀ b, b < hZ h → b ≠ o → hSm h h' b) → R h') : w_Md_init o h R := by
  unfold w_Md_init
  obtain ⟨p, hp⟩ : ∃ p, p = hZ h := ⟨_, rfl⟩
  have M0 : mdP h h o p 0 0 := ⟨by omega, rfl, hk, hi, fun b _ _ => hSm_rf h b, fun j q hj => by omega⟩
  intro a1 g1 ea1 eg1
  refine ⟨by rw [eg1]; exact (hSm_nC h 15 300 300 o (by rw [M0.1]; omega)).1.trans M0.2.2.1, fun h1 e1 => ?_⟩
  have M1 : mdP h h1 o p 1 300 := mdP_s (g' := h1) (kd := 15) (n := 300) (f := 1) M0 (by omega) (by decide) (by decide) (by rw [e1, eg1, ea1])
  clear M0 e1 ea1 eg1
  intro a2 g2 ea2 eg2
  refine ⟨by rw [eg2]; exact (hSm_nC h1 15 300 300 o (by rw [M1.1]; omega)).1.trans M1.2.2.1, fun h2 e2 => ?_⟩
  have M2 : mdP h h2 o p 2 600 := mdP_s (g' := h2) (kd := 15) (n := 300) (f := 2) M1 (by omega) (by decide) (by decide) (by rw [e2, eg2, ea2])
  clear M1 e2 ea2 eg2
  intro a3 g3 ea3 eg3
  refine ⟨by rw [eg3]; exact (hSm_nC h2 15 42 42 o (by rw [M2.1]; omega)).1.trans M2.2.2.1, fun h3 e3 => ?_⟩
  have M3 : mdP h h3 o p 3 642 := mdP_s (g' := h3) (kd := 15) (n := 42) (f := 5) M2 (by omega) (by decide) (by decide) (by rw [e3, eg3, ea3])
  clear M2 e3 ea3 eg3
  intro a4 g4 ea4 eg4
  refine ⟨by rw [eg4]; exact (hSm_nC h3 15 12600 12600 o (by rw [M3.1]; omega)).1.trans M3.2.2.1, fun h4 e4 => ?_⟩
  have M4 : mdP h h4 o p 4 13242 := mdP_s (g' := h4) (kd := 15) (n := 12600) (f := 6) M3 (by omega) (by decide) (by decide) (by rw [e4, eg4, ea4])
  clear M3 e4 ea4 eg4
  intro a5 g5 ea5 eg5
  refine ⟨by rw [eg5]; exact (hSm_nC h4 15 12600 12600 o (by rw [M4.1]; omega)).1.trans M4.2.2.1, fun h5 e5 => ?_⟩
  have M5 : mdP h h5 o p 5 25842 := mdP_s (g' := h5) (kd := 15) (n := 12600) (f := 7) M4 (by omega) (by decide) (by decide) (by rw [e5, eg5, ea5])
  clear M4 e5 ea5 eg5
  intro a6 g6 ea6 eg6
  refine ⟨by rw [eg6]; exact (hSm_nC h5 15 12600 12600 o (by rw [M5.1]; omega)).1.trans M5.2.2.1, fun h6 e6 => ?_⟩
  have M6 : mdP h h6 o p 6 38442 := mdP_s (g' := h6) (kd := 15) (n := 12600) (f := 8) M5 (by omega) (by decide) (by decide) (by rw [e6, eg6, ea6])
  clear M5 e6 ea6 eg6
  intro a7 g7 ea7 eg7
  refine ⟨by rw [eg7]; exact (hSm_nC h6 15 12600 12600 o (by rw [M6.1]; omega)).1.trans M6.2.2.1, fun h7 e7 => ?_⟩
  have M7 : mdP h h7 o p 7 51042 := mdP_s (g' := h7) (kd := 15) (n := 12600) (f := 9) M6 (by omega) (by decide) (by decide) (by rw [e7, eg7, ea7])
  clear M6 e7 ea7 eg7
  intro a8 g8 ea8 eg8
  refine ⟨by rw [eg8]; exact (hSm_nC h7 15 41 41 o (by rw [M7.1]; omega)).1.trans M7.2.2.1, fun h8 e8 => ?_⟩
  have M8 : mdP h h8 o p 8 51083 := mdP_s (g' := h8) (kd := 15) (n := 41) (f := 11) M7 (by omega) (by decide) (by decide) (by rw [e8, eg8, ea8])
  clear M7 e8 ea8 eg8
  intro a9 g9 ea9 eg9
  refine ⟨by rw [eg9]; exact (hSm_nC h8 15 4100 4100 o (by rw [M8.1]; omega)).1.trans M8.2.2.1, fun h9 e9 => ?_⟩
  have M9 : mdP h h9 o p 9 55183 := mdP_s (g' := h9) (kd := 15) (n := 4100) (f := 12) M8 (by omega) (by decide) (by decide) (by rw [e9, eg9, ea9])
  clear M8 e9 ea9 eg9
  intro a10 g10 ea10 eg10
  refine ⟨by rw [eg10]; exact (hSm_nC h9 15 4100 4100 o (by rw [M9.1]; omega)).1.trans M9.2.2.1, fun h10 e10 => ?_⟩
  have M10 : mdP h h10 o p 10 59283 := mdP_s (g' := h10) (kd := 15) (n := 4100) (f := 13) M9 (by omega) (by decide) (by decide) (by rw [e10, eg10, ea10])
  clear M9 e10 ea10 eg10
  intro a11 g11 ea11 eg11
  refine ⟨by rw [eg11]; exact (hSm_nC h10 15 4100 4100 o (by rw [M10.1]; omega)).1.trans M10.2.2.1, fun h11 e11 => ?_⟩
  have M11 : mdP h h11 o p 11 63383 := mdP_s (g' := h11) (kd := 15) (n := 4100) (f := 14) M10 (by omega) (by decide) (by decide) (by rw [e11, eg11, ea11])
  clear M10 e11 ea11 eg11
  intro a12 g12 ea12 eg12
  refine ⟨by rw [eg12]; exact (hSm_nC h11 15 4100 4100 o (by rw [M11.1]; omega)).1.trans M11.2.2.1, fun h12 e12 => ?_⟩
  have M12 : mdP h h12 o p 12 67483 := mdP_s (g' := h12) (kd := 15) (n := 4100) (f := 15) M11 (by omega) (by decide) (by decide) (by rw [e12, eg12, ea12])
  clear M11 e12 ea12 eg12
  intro a13 g13 ea13 eg13
  refine ⟨by rw [eg13]; exact (hSm_nC h12 15 4100 4100 o (by rw [M12.1]; omega)).1.trans M12.2.2.1, fun h13 e13 => ?_⟩
  have M13 : mdP h h13 o p 13 71583 := mdP_s (g' := h13) (kd := 15) (n := 4100) (f := 16) M12 (by omega) (by decide) (by decide) (by rw [e13, eg13, ea13])
  clear M12 e13 ea13 eg13
  intro a14 g14 ea14 eg14
  refine ⟨by rw [eg14]; exact (hSm_nC h13 15 4100 4100 o (by rw [M13.1]; omega)).1.trans M13.2.2.1, fun h14 e14 => ?_⟩
  have M14 : mdP h h14 o p 14 75683 := mdP_s (g' := h14) (kd := 15) (n := 4100) (f := 17) M13 (by omega) (by decide) (by decide) (by rw [e14, eg14, ea14])
  clear M13 e14 ea14 eg14
  intro a15 g15 ea15 eg15
  refine ⟨by rw [eg15]; exact (hSm_nC h14 15 4100 4100 o (by rw [M14.1]; omega)).1.trans M14.2.2.1, fun h15 e15 => ?_⟩
  have M15 : mdP h h15 o p 15 79783 := mdP_s (g' := h15) (kd := 15) (n := 4100) (f := 18) M14 (by omega) (by decide) (by decide) (by rw [e15, eg15, ea15])
  clear M14 e15 ea15 eg15
  intro a16 g16 ea16 eg16
  refine ⟨by rw [eg16]; exact (hSm_nC h15 15 4100 4100 o (by rw [M15.1]; omega)).1.trans M15.2.2.1, fun h16 e16 => ?_⟩
  have M16 : mdP h h16 o p 16 83883 := mdP_s (g' := h16) (kd := 15) (n := 4100) (f := 19) M15 (by omega) (by decide) (by decide) (by rw [e16, eg16, ea16])
  clear M15 e16 ea16 eg16
  intro a17 g17 ea17 eg17
  refine ⟨by rw [eg17]; exact (hSm_nC h16 15 4100 4100 o (by rw [M16.1]; omega)).1.trans M16.2.2.1, fun h17 e17 => ?_⟩
  have M17 : mdP h h17 o p 17 87983 := mdP_s (g' := h17) (kd := 15) (n := 4100) (f := 20) M16 (by omega) (by decide) (by decide) (by rw [e17, eg17, ea17])
  clear M16 e17 ea17 eg17
  intro a18 g18 ea18 eg18
  refine ⟨by rw [eg18]; exact (hSm_nC h17 15 4100 4100 o (by rw [M17.1]; omega)).1.trans M17.2.2.1, fun h18 e18 => ?_⟩
  have M18 : mdP h h18 o p 18 92083 := mdP_s (g' := h18) (kd := 15) (n := 4100) (f := 21) M17 (by omega) (by decide) (by decide) (by rw [e18, eg18, ea18])
  clear M17 e18 ea18 eg18
  intro a19 g19 ea19 eg19
  refine ⟨by rw [eg19]; exact (hSm_nC h18 15 6 6 o (by rw [M18.1]; omega)).1.trans M18.2.2.1, fun h19 e19 => ?_⟩
  have M19 : mdP h h19 o p 19 92089 := mdP_s (g' := h19) (kd := 15) (n := 6) (f := 23) M18 (by omega) (by decide) (by decide) (by rw [e19, eg19, ea19])
  clear M18 e19 ea19 eg19
  intro a20 g20 ea20 eg20
  refine ⟨by rw [eg20]; exact (hSm_nC h19 15 92000 92000 o (by rw [M19.1]; omega)).1.trans M19.2.2.1, fun h20 e20 => ?_⟩
  have M20 : mdP h h20 o p 20 184089 := mdP_s (g' := h20) (kd := 15) (n := 92000) (f := 25) M19 (by omega) (by decide) (by decide) (by rw [e20, eg20, ea20])
  clear M19 e20 ea20 eg20
  intro a21 g21 ea21 eg21
  refine ⟨by rw [eg21]; exact (hSm_nC h20 15 30 30 o (by rw [M20.1]; omega)).1.trans M20.2.2.1, fun h21 e21 => ?_⟩
  have M21 : mdP h h21 o p 21 184119 := mdP_s (g' := h21) (kd := 15) (n := 30) (f := 27) M20 (by omega) (by decide) (by decide) (by rw [e21, eg21, ea21])
  clear M20 e21 ea21 eg21
  intro a22 g22 ea22 eg22
  refine ⟨by rw [eg22]; exact (hSm_nC h21 15 30 30 o (by rw [M21.1]; omega)).1.trans M21.2.2.1, fun h22 e22 => ?_⟩
  have M22 : mdP h h22 o p 22 184149 := mdP_s (g' := h22) (kd := 15) (n := 30) (f := 28) M21 (by omega) (by decide) (by decide) (by rw [e22, eg22, ea22])
  clear M21 e22 ea22 eg22
  intro a23 g23 ea23 eg23
  refine ⟨by rw [eg23]; exact (hSm_nC h22 15 30 30 o (by rw [M22.1]; omega)).1.trans M22.2.2.1, fun h23 e23 => ?_⟩
  have M23 : mdP h h23 o p 23 184179 := mdP_s (g' := h23) (kd := 15) (n := 30) (f := 29) M22 (by omega) (by decide) (by decide) (by rw [e23, eg23, ea23])
  clear M22 e23 ea23 eg23
  intro a24 g24 ea24 eg24
  refine ⟨by rw [eg24]; exact (hSm_nC h23 15 30 30 o (by rw [M23.1]; omega)).1.trans M23.2.2.1, fun h24 e24 => ?_⟩
  have M24 : mdP h h24 o p 24 184209 := mdP_s (g' := h24) (kd := 15) (n := 30) (f := 30) M23 (by omega) (by decide) (by decide) (by rw [e24, eg24, ea24])
  clear M23 e24 ea24 eg24
  intro a25 g25 ea25 eg25
  refine ⟨by rw [eg25]; exact (hSm_nC h24 15 300 300 o (by rw [M24.1]; omega)).1.trans M24.2.2.1, fun h25 e25 => ?_⟩
  have M25 : mdP h h25 o p 25 184509 := mdP_s (g' := h25) (kd := 15) (n := 300) (f := 32) M24 (by omega) (by decide) (by decide) (by rw [e25, eg25, ea25])
  clear M24 e25 ea25 eg25
  intro a26 g26 ea26 eg26
  refine ⟨by rw [eg26]; exact (hSm_nC h25 15 300 300 o (by rw [M25.1]; omega)).1.trans M25.2.2.1, fun h26 e26 => ?_⟩
  have M26 : mdP h h26 o p 26 184809 := mdP_s (g' := h26) (kd := 15) (n := 300) (f := 33) M25 (by omega) (by decide) (by decide) (by rw [e26, eg26, ea26])
  clear M25 e26 ea26 eg26
  intro a27 g27 ea27 eg27
  refine ⟨by rw [eg27]; exact (hSm_nC h26 16 300 300 o (by rw [M26.1]; omega)).1.trans M26.2.2.1, fun h27 e27 => ?_⟩
  have M27 : mdP h h27 o p 27 185109 := mdP_s (g' := h27) (kd := 16) (n := 300) (f := 36) M26 (by omega) (by decide) (by decide) (by rw [e27, eg27, ea27])
  clear M26 e27 ea27 eg27
  intro a28 g28 ea28 eg28
  refine ⟨by rw [eg28]; exact (hSm_nC h27 16 90000 90000 o (by rw [M27.1]; omega)).1.trans M27.2.2.1, fun h28 e28 => ?_⟩
  have M28 : mdP h h28 o p 28 275109 := mdP_s (g' := h28) (kd := 16) (n := 90000) (f := 37) M27 (by omega) (by decide) (by decide) (by rw [e28, eg28, ea28])
  clear M27 e28 ea28 eg28
  intro a29 g29 ea29 eg29
  refine ⟨by rw [eg29]; exact (hSm_nC h28 15 300 300 o (by rw [M28.1]; omega)).1.trans M28.2.2.1, fun h29 e29 => ?_⟩
  have M29 : mdP h h29 o p 29 275409 := mdP_s (g' := h29) (kd := 15) (n := 300) (f := 38) M28 (by omega) (by decide) (by decide) (by rw [e29, eg29, ea29])
  clear M28 e29 ea29 eg29
  intro a30 g30 ea30 eg30
  refine ⟨by rw [eg30]; exact (hSm_nC h29 15 300 300 o (by rw [M29.1]; omega)).1.trans M29.2.2.1, fun h30 e30 => ?_⟩
  have M30 : mdP h h30 o p 30 275709 := mdP_s (g' := h30) (kd := 15) (n := 300) (f := 39) M29 (by omega) (by decide) (by decide) (by rw [e30, eg30, ea30])
  clear M29 e30 ea30 eg30
  intro a31 g31 ea31 eg31
  refine ⟨by rw [eg31]; exact (hSm_nC h30 16 300 300 o (by rw [M30.1]; omega)).1.trans M30.2.2.1, fun h31 e31 => ?_⟩
  have M31 : mdP h h31 o p 31 276009 := mdP_s (g' := h31) (kd := 16) (n := 300) (f := 40) M30 (by omega) (by decide) (by decide) (by rw [e31, eg31, ea31])
  clear M30 e31 ea31 eg31
  intro a32 g32 ea32 eg32
  refine ⟨by rw [eg32]; exact (hSm_nC h31 15 300 300 o (by rw [M31.1]; omega)).1.trans M31.2.2.1, fun h32 e32 => ?_⟩
  have M32 : mdP h h32 o p 32 276309 := mdP_s (g' := h32) (kd := 15) (n := 300) (f := 41) M31 (by omega) (by decide) (by decide) (by rw [e32, eg32, ea32])
  clear M31 e32 ea32 eg32
  intro a33 g33 ea33 eg33
  refine ⟨by rw [eg33]; exact (hSm_nC h32 15 300 300 o (by rw [M32.1]; omega)).1.trans M32.2.2.1, fun h33 e33 => ?_⟩
  have M33 : mdP h h33 o p 33 276609 := mdP_s (g' := h33) (kd := 15) (n := 300) (f := 42) M32 (by omega) (by decide) (by decide) (by rw [e33, eg33, ea33])
  clear M32 e33 ea33 eg33
  intro a34 g34 ea34 eg34
  refine ⟨by rw [eg34]; exact (hSm_nC h33 16 300 300 o (by rw [M33.1]; omega)).1.trans M33.2.2.1, fun h34 e34 => ?_⟩
  have M34 : mdP h h34 o p 34 276909 := mdP_s (g' := h34) (kd := 16) (n := 300) (f := 43) M33 (by omega) (by decide) (by decide) (by rw [e34, eg34, ea34])
  clear M33 e34 ea34 eg34
  intro a35 g35 ea35 eg35
  refine ⟨by rw [eg35]; exact (hSm_nC h34 16 300 300 o (by rw [M34.1]; omega)).1.trans M34.2.2.1, fun h35 e35 => ?_⟩
  have M35 : mdP h h35 o p 35 277209 := mdP_s (g' := h35) (kd := 16) (n := 300) (f := 44) M34 (by omega) (by decide) (by decide) (by rw [e35, eg35, ea35])
  clear M34 e35 ea35 eg35
  intro a36 g36 ea36 eg36
  refine ⟨by rw [eg36]; exact (hSm_nC h35 15 300 300 o (by rw [M35.1]; omega)).1.trans M35.2.2.1, fun h36 e36 => ?_⟩
  have M36 : mdP h h36 o p 36 277509 := mdP_s (g' := h36) (kd := 15) (n := 300) (f := 45) M35 (by omega) (by decide) (by decide) (by rw [e36, eg36, ea36])
  clear M35 e36 ea36 eg36
  intro a37 g37 ea37 eg37
  refine ⟨by rw [eg37]; exact (hSm_nC h36 15 300 300 o (by rw [M36.1]; omega)).1.trans M36.2.2.1, fun h37 e37 => ?_⟩
  have M37 : mdP h h37 o p 37 277809 := mdP_s (g' := h37) (kd := 15) (n := 300) (f := 46) M36 (by omega) (by decide) (by decide) (by rw [e37, eg37, ea37])
  clear M36 e37 ea37 eg37
  intro a38 g38 ea38 eg38
  refine ⟨by rw [eg38]; exact (hSm_nC h37 16 300 300 o (by rw [M37.1]; omega)).1.trans M37.2.2.1, fun h38 e38 => ?_⟩
  have M38 : mdP h h38 o p 38 278109 := mdP_s (g' := h38) (kd := 16) (n := 300) (f := 47) M37 (by omega) (by decide) (by decide) (by rw [e38, eg38, ea38])
  clear M37 e38 ea38 eg38
  intro a39 g39 ea39 eg39
  refine ⟨by rw [eg39]; exact (hSm_nC h38 15 300 300 o (by rw [M38.1]; omega)).1.trans M38.2.2.1, fun h39 e39 => ?_⟩
  have M39 : mdP h h39 o p 39 278409 := mdP_s (g' := h39) (kd := 15) (n := 300) (f := 48) M38 (by omega) (by decide) (by decide) (by rw [e39, eg39, ea39])
  clear M38 e39 ea39 eg39
  intro a40 g40 ea40 eg40
  refine ⟨by rw [eg40]; exact (hSm_nC h39 15 300 300 o (by rw [M39.1]; omega)).1.trans M39.2.2.1, fun h40 e40 => ?_⟩
  have M40 : mdP h h40 o p 40 278709 := mdP_s (g' := h40) (kd := 15) (n := 300) (f := 49) M39 (by omega) (by decide) (by decide) (by rw [e40, eg40, ea40])
  clear M39 e40 ea40 eg40
  intro a41 g41 ea41 eg41
  refine ⟨by rw [eg41]; exact (hSm_nC h40 16 300 300 o (by rw [M40.1]; omega)).1.trans M40.2.2.1, fun h41 e41 => ?_⟩
  have M41 : mdP h h41 o p 41 279009 := mdP_s (g' := h41) (kd := 16) (n := 300) (f := 50) M40 (by omega) (by decide) (by decide) (by rw [e41, eg41, ea41])
  clear M40 e41 ea41 eg41
  intro a42 g42 ea42 eg42
  refine ⟨by rw [eg42]; exact (hSm_nC h41 15 300 300 o (by rw [M41.1]; omega)).1.trans M41.2.2.1, fun h42 e42 => ?_⟩
  have M42 : mdP h h42 o p 42 279309 := mdP_s (g' := h42) (kd := 15) (n := 300) (f := 51) M41 (by omega) (by decide) (by decide) (by rw [e42, eg42, ea42])
  clear M41 e42 ea42 eg42
  intro a43 g43 ea43 eg43
  refine ⟨by rw [eg43]; exact (hSm_nC h42 15 300 300 o (by rw [M42.1]; omega)).1.trans M42.2.2.1, fun h43 e43 => ?_⟩
  have M43 : mdP h h43 o p 43 279609 := mdP_s (g' := h43) (kd := 15) (n := 300) (f := 53) M42 (by omega) (by decide) (by decide) (by rw [e43, eg43, ea43])
  clear M42 e43 ea43 eg43
  intro a44 g44 ea44 eg44
  refine ⟨by rw [eg44]; exact (hSm_nC h43 15 300 300 o (by rw [M43.1]; omega)).1.trans M43.2.2.1, fun h44 e44 => ?_⟩
  have M44 : mdP h h44 o p 44 279909 := mdP_s (g' := h44) (kd := 15) (n := 300) (f := 55) M43 (by omega) (by decide) (by decide) (by rw [e44, eg44, ea44])
  clear M43 e44 ea44 eg44
  intro a45 g45 ea45 eg45
  refine ⟨by rw [eg45]; exact (hSm_nC h44 16 300 300 o (by rw [M44.1]; omega)).1.trans M44.2.2.1, fun h45 e45 => ?_⟩
  have M45 : mdP h h45 o p 45 280209 := mdP_s (g' := h45) (kd := 16) (n := 300) (f := 56) M44 (by omega) (by decide) (by decide) (by rw [e45, eg45, ea45])
  clear M44 e45 ea45 eg45
  intro a46 g46 ea46 eg46
  refine ⟨by rw [eg46]; exact (hSm_nC h45 15 30 30 o (by rw [M45.1]; omega)).1.trans M45.2.2.1, fun h46 e46 => ?_⟩
  have M46 : mdP h h46 o p 46 280239 := mdP_s (g' := h46) (kd := 15) (n := 30) (f := 57) M45 (by omega) (by decide) (by decide) (by rw [e46, eg46, ea46])
  clear M45 e46 ea46 eg46
  obtain ⟨z1, z2, z3, z4, z5, z6⟩ := M46
  have ml : lMd h46 o p := ⟨z3, fun j q hq => by
    have hj := (List.getElem?_eq_some_iff.mp hq).1
    rw [mdT_len] at hj
    obtain ⟨b1, b2, b3, -⟩ := z6 j q hj hq
    exact ⟨b1, b2, b3⟩⟩
  refine p_Md_fill ml (k _ ?_ (by rw [wI_Z, z1, hp]) (by rw [wI_U]; exact z2) (fun b hb hbo => ?_))
  · rw [← hp]
    refine ⟨ml, fun j => ?_, fun j k hj => ?_⟩
    · rw [wI_I, rFill_ne (by omega)]; exact z4 j
    · have hq : ∃ q, mdT[j]? = some q := ⟨_, List.getElem?_eq_getElem (by rw [mdT_len]; exact hj)⟩
      obtain ⟨q, hq⟩ := hq
      have b4 := (z6 j q hj hq).2.2.2 k
      rw [wI_I]
      by_cases e3 : j = 3
      · subst e3
        by_cases hk2 : k < 12600
        · rw [rFill_in hk2, if_pos ⟨rfl, hk2⟩]
        · rw [if_neg (fun h => hk2 h.2)]
          unfold rFill
          rw [if_neg (fun h => hk2 h.2)]
          exact b4
      · rw [rFill_ne (by omega), if_neg (fun h => e3 h.1)]; exact b4
  · have := z5 b (by omega) hbo
    obtain ⟨q1, q2, q3, q4, q5, q6⟩ := this
    exact ⟨q1, q2, q3, (rFill_ne (by omega)).trans q4, q5, q6⟩
end PMODEL
