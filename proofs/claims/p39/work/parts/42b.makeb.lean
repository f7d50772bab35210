section PMAKEB
def mkMg (h h' : tpH) (o : Nat) (x1 : Option Nat) (x2 : Option Nat) : Prop :=
  hZ h' = hZ h + 20 ∧
  hU h' = hU h + 2190 ∧
  (∀ b, b < hZ h → b ≠ o → hSm h h' b) ∧
  hT h' o = 7 ∧
  (hR h' o 0 = x1 ∧ hR h' o 1 = x2 ∧ hR h' o 2 = some (hZ h + 0) ∧ hR h' o 3 = some (hZ h + 2) ∧ hR h' o 4 = some (hZ h + 4) ∧ hR h' o 5 = some (hZ h + 6) ∧ hR h' o 6 = some (hZ h + 8) ∧ hR h' o 7 = some (hZ h + 10) ∧ hR h' o 8 = some (hZ h + 12) ∧ hR h' o 9 = some (hZ h + 14) ∧ hR h' o 10 = some (hZ h + 16) ∧ hR h' o 11 = some (hZ h + 18)) ∧
  (∀ j, hI h' o j = hI h o j) ∧
  (rwL h' (hZ h + 0) (hZ h + 1) 6 ∧ (∀ j, hI h' (hZ h + 1) j = 0) ∧ hI h' (hZ h + 0) 1 = 0) ∧
  (rwL h' (hZ h + 2) (hZ h + 3) 300 ∧ (∀ j, hI h' (hZ h + 3) j = 0) ∧ hI h' (hZ h + 2) 1 = 0) ∧
  (rwL h' (hZ h + 4) (hZ h + 5) 300 ∧ (∀ j, hI h' (hZ h + 5) j = 0) ∧ hI h' (hZ h + 4) 1 = 0) ∧
  (rwL h' (hZ h + 6) (hZ h + 7) 300 ∧ (∀ j, hI h' (hZ h + 7) j = 0) ∧ hI h' (hZ h + 6) 1 = 0) ∧
  (rwL h' (hZ h + 8) (hZ h + 9) 300 ∧ (∀ j, hI h' (hZ h + 9) j = 0) ∧ hI h' (hZ h + 8) 1 = 0) ∧
  (rwL h' (hZ h + 10) (hZ h + 11) 300 ∧ (∀ j, hI h' (hZ h + 11) j = 0) ∧ hI h' (hZ h + 10) 1 = 0) ∧
  (rwL h' (hZ h + 12) (hZ h + 13) 300 ∧ (∀ j, hI h' (hZ h + 13) j = 0) ∧ hI h' (hZ h + 12) 1 = 0) ∧
  (rwL h' (hZ h + 14) (hZ h + 15) 300 ∧ (∀ j, hI h' (hZ h + 15) j = 0) ∧ hI h' (hZ h + 14) 1 = 0) ∧
  (rwL h' (hZ h + 16) (hZ h + 17) 32 ∧ (∀ j, hI h' (hZ h + 17) j = 0) ∧ hI h' (hZ h + 16) 1 = 0) ∧
  (rwL h' (hZ h + 18) (hZ h + 19) 32 ∧ (∀ j, hI h' (hZ h + 19) j = 0) ∧ hI h' (hZ h + 18) 1 = 0)
def mgT : List (Nat × Nat) := [(2, 6), (3, 300), (4, 300), (5, 300), (6, 300), (7, 300), (8, 300), (9, 300), (10, 32), (11, 32)]
def rcP (h g : tpH) (o p i u : Nat) (r : Nat → Option Nat) : Prop := hZ g = p + 2 * i ∧ hU g = hU h + u ∧ hT g o = 7 ∧ (∀ j, hI g o j = hI h o j) ∧ (∀ b, b < p → b ≠ o → hSm h g b) ∧ (∀ q, q < 2 → hR g o q = r q) ∧
  ∀ j t, j < i → mgT[j]? = some t → hR g o t.1 = some (p + 2 * j) ∧ rwL g (p + 2 * j) (p + (2 * j + 1)) t.2 ∧ (∀ k, hI g (p + (2 * j + 1)) k = 0) ∧ hI g (p + 2 * j) 1 = 0
theorem mgT_ge : ∀ t ∈ mgT, 2 ≤ t.1 := by decide
theorem rcP_row {h g m g' : tpH} {o p i u f n : Nat} {r : Nat → Option Nat} (H : rcP h g o p i u r) (ho : o < p) (M : mkRow g m n) (hi : mgT[i]? = some (f, n)) (hd : ((mgT.take i).all fun q => q.1 != f) = true) (e : g' = sR m o f (some (hZ g))) : rcP h g' o p (i + 1) (u + (2 + n)) r := by
  obtain ⟨h1, h2, h3, h4, h5, h6, h7⟩ := H
  obtain ⟨mz, mu, mf, mr, m1, m0⟩ := M
  rw [h1] at mz mf mr m1 m0
  have so := mf o (by omega)
  have fr : ∀ b, b < p + 2 * i → b ≠ o → hSm g g' b := fun b hb hbo => by rw [e]; exact hSm_tr (mf b hb) (hSm_sR _ _ _ _ _ hbo)
  have f2 : 2 ≤ f := mgT_ge (f, n) (List.mem_of_getElem? hi)
  refine ⟨by rw [e, hZ_sR]; omega, by rw [e, hU_sR]; omega, by rw [e, hT_sR, so.1]; exact h3, fun j => by rw [e, hI_sR, so.2.2.2.1]; exact h4 j, fun b hb hbo => hSm_tr (h5 b hb hbo) (fr b (by omega) hbo), fun q hq => by rw [e, hR_sR, tpu_row2, if_neg (by omega), so.2.2.1]; exact h6 q hq, fun j t hj ht => ?_⟩
  by_cases ej : j = i
  · subst ej
    rw [hi] at ht
    cases ht
    have sn := hSm_sR m o f (some (hZ g)) (p + 2 * j) (by omega)
    have sn2 := hSm_sR m o f (some (hZ g)) (p + (2 * j + 1)) (by omega)
    rw [← e] at sn sn2
    refine ⟨by rw [e, hR_sR, tpu_row2, if_pos rfl, h1], rwL_k mr sn sn2, fun k => by rw [sn2.2.2.2.1]; exact m0 k, by rw [sn.2.2.2.1]; exact m1⟩
  · obtain ⟨a1, a2, a3, a4⟩ := h7 j t (by omega) ht
    have g1 := fr (p + 2 * j) (by omega) (by omega)
    have g2 := fr (p + (2 * j + 1)) (by omega) (by omega)
    have hne : t.1 ≠ f := by
      have hm : t ∈ mgT.take i := List.mem_of_getElem? (i := j) (by rw [List.getElem?_take_of_lt (by omega)]; exact ht)
      have := List.all_eq_true.mp hd t hm
      simpa using this
    exact ⟨by rw [e, hR_sR, tpu_row2, if_neg hne, so.2.2.1]; exact a1, rwL_k a2 g1 g2, fun k => by rw [g2.2.2.2.1]; exact a3 k, by rw [g1.2.2.2.1]; exact a4⟩
theorem rcP_ref {h g g' : tpH} {o p i u f : Nat} {r : Nat → Option Nat} {v : Option Nat} (H : rcP h g o p i u r) (ho : o < p) (hf : f < 2) (e : g' = sR g o f v) : rcP h g' o p i u (fun q => if q = f then v else r q) := by
  obtain ⟨h1, h2, h3, h4, h5, h6, h7⟩ := H
  refine ⟨by rw [e, hZ_sR]; exact h1, by rw [e, hU_sR]; exact h2, by rw [e, hT_sR]; exact h3, fun j => by rw [e, hI_sR]; exact h4 j, fun b hb hbo => by rw [e]; exact hSm_tr (h5 b hb hbo) (hSm_sR _ _ _ _ _ hbo), fun q hq => ?_, fun j t hj ht => ?_⟩
  · rw [e, hR_sR, tpu_row2]
    show (if q = f then v else hR g o q) = (if q = f then v else r q)
    by_cases eq : q = f
    · rw [if_pos eq, if_pos eq]
    · rw [if_neg eq, if_neg eq]; exact h6 q hq
  · obtain ⟨a1, a2, a3, a4⟩ := h7 j t hj ht
    have hg := mgT_ge t (List.mem_of_getElem? ht)
    have g1 := hSm_sR g o f v (p + 2 * j) (by omega)
    have g2 := hSm_sR g o f v (p + (2 * j + 1)) (by omega)
    rw [← e] at g1 g2
    exact ⟨by rw [e, hR_sR, tpu_row2, if_neg (by omega)]; exact a1, rwL_k a2 g1 g2, fun k => by rw [g2.2.2.2.1]; exact a3 k, by rw [g1.2.2.2.1]; exact a4⟩
theorem p_Mg_init {h : tpH} {o : Nat} {x1 : Option Nat} {x2 : Option Nat} {R : tpH → Prop} (ho : o < hZ h) (hk : hT h o = 7) (k : ∀ h', mkMg h h' o x1 x2 → R h') : w_Mg_init o x1 x2 h R := by
  unfold w_Mg_init
  obtain ⟨p, hp⟩ : ∃ p, p = hZ h := ⟨_, rfl⟩
  have M0 : rcP h h o p 0 0 (fun q => hR h o q) := ⟨by omega, rfl, hk, fun _ => rfl, fun b _ _ => hSm_rf h b, fun _ _ => rfl, fun j t hj => by omega⟩
  intro a1 g1 ea1 eg1
  subst ea1 eg1
  refine p_Ro_init (n := 6) (by decide) (by decide) (by decide) (fun m1 w1 => ?_)
  refine ⟨(w1.2.2.1 o (by rw [M0.1]; omega)).1.trans M0.2.2.1, fun h1 e1 => ?_⟩
  have M1 := rcP_row M0 (by omega) w1 (by decide) (by decide) e1
  clear M0 w1 e1
  intro a2 g2 ea2 eg2
  subst ea2 eg2
  refine p_Ro_init (n := 300) (by decide) (by decide) (by decide) (fun m2 w2 => ?_)
  refine ⟨(w2.2.2.1 o (by rw [M1.1]; omega)).1.trans M1.2.2.1, fun h2 e2 => ?_⟩
  have M2 := rcP_row M1 (by omega) w2 (by decide) (by decide) e2
  clear M1 w2 e2
  intro a3 g3 ea3 eg3
  subst ea3 eg3
  refine p_Ro_init (n := 300) (by decide) (by decide) (by decide) (fun m3 w3 => ?_)
  refine ⟨(w3.2.2.1 o (by rw [M2.1]; omega)).1.trans M2.2.2.1, fun h3 e3 => ?_⟩
  have M3 := rcP_row M2 (by omega) w3 (by decide) (by decide) e3
  clear M2 w3 e3
  intro a4 g4 ea4 eg4
  subst ea4 eg4
  refine p_Ro_init (n := 300) (by decide) (by decide) (by decide) (fun m4 w4 => ?_)
  refine ⟨(w4.2.2.1 o (by rw [M3.1]; omega)).1.trans M3.2.2.1, fun h4 e4 => ?_⟩
  have M4 := rcP_row M3 (by omega) w4 (by decide) (by decide) e4
  clear M3 w4 e4
  intro a5 g5 ea5 eg5
  subst ea5 eg5
  refine p_Ro_init (n := 300) (by decide) (by decide) (by decide) (fun m5 w5 => ?_)
  refine ⟨(w5.2.2.1 o (by rw [M4.1]; omega)).1.trans M4.2.2.1, fun h5 e5 => ?_⟩
  have M5 := rcP_row M4 (by omega) w5 (by decide) (by decide) e5
  clear M4 w5 e5
  intro a6 g6 ea6 eg6
  subst ea6 eg6
  refine p_Ro_init (n := 300) (by decide) (by decide) (by decide) (fun m6 w6 => ?_)
  refine ⟨(w6.2.2.1 o (by rw [M5.1]; omega)).1.trans M5.2.2.1, fun h6 e6 => ?_⟩
  have M6 := rcP_row M5 (by omega) w6 (by decide) (by decide) e6
  clear M5 w6 e6
  intro a7 g7 ea7 eg7
  subst ea7 eg7
  refine p_Ro_init (n := 300) (by decide) (by decide) (by decide) (fun m7 w7 => ?_)
  refine ⟨(w7.2.2.1 o (by rw [M6.1]; omega)).1.trans M6.2.2.1, fun h7 e7 => ?_⟩
  have M7 := rcP_row M6 (by omega) w7 (by decide) (by decide) e7
  clear M6 w7 e7
  intro a8 g8 ea8 eg8
  subst ea8 eg8
  refine p_Ro_init (n := 300) (by decide) (by decide) (by decide) (fun m8 w8 => ?_)
  refine ⟨(w8.2.2.1 o (by rw [M7.1]; omega)).1.trans M7.2.2.1, fun h8 e8 => ?_⟩
  have M8 := rcP_row M7 (by omega) w8 (by decide) (by decide) e8
  clear M7 w8 e8
  intro a9 g9 ea9 eg9
  subst ea9 eg9
  refine p_Ro_init (n := 32) (by decide) (by decide) (by decide) (fun m9 w9 => ?_)
  refine ⟨(w9.2.2.1 o (by rw [M8.1]; omega)).1.trans M8.2.2.1, fun h9 e9 => ?_⟩
  have M9 := rcP_row M8 (by omega) w9 (by decide) (by decide) e9
  clear M8 w9 e9
  intro a10 g10 ea10 eg10
  subst ea10 eg10
  refine p_Ro_init (n := 32) (by decide) (by decide) (by decide) (fun m10 w10 => ?_)
  refine ⟨(w10.2.2.1 o (by rw [M9.1]; omega)).1.trans M9.2.2.1, fun h10 e10 => ?_⟩
  have M10 := rcP_row M9 (by omega) w10 (by decide) (by decide) e10
  clear M9 w10 e10
  intro ha ea
  have N1 := rcP_ref (v := x1) M10 (by omega) (by decide) ea
  intro hb eb
  have N2 := rcP_ref (v := x2) N1 (by omega) (by decide) eb
  obtain ⟨z1, z2, z3, z4, z5, z6, z7⟩ := N2
  rw [hp] at z1 z5 z7
  have q0 := z7 0 (2, 6) (by decide) (by decide)
  have q1 := z7 1 (3, 300) (by decide) (by decide)
  have q2 := z7 2 (4, 300) (by decide) (by decide)
  have q3 := z7 3 (5, 300) (by decide) (by decide)
  have q4 := z7 4 (6, 300) (by decide) (by decide)
  have q5 := z7 5 (7, 300) (by decide) (by decide)
  have q6 := z7 6 (8, 300) (by decide) (by decide)
  have q7 := z7 7 (9, 300) (by decide) (by decide)
  have q8 := z7 8 (10, 32) (by decide) (by decide)
  have q9 := z7 9 (11, 32) (by decide) (by decide)
  exact k hb ⟨z1, z2, z5, z3, ⟨z6 0 (by decide), z6 1 (by decide), q0.1, q1.1, q2.1, q3.1, q4.1, q5.1, q6.1, q7.1, q8.1, q9.1⟩, z4, q0.2, q1.2, q2.2, q3.2, q4.2, q5.2, q6.2, q7.2, q8.2, q9.2⟩
end PMAKEB
