section CFROW
theorem p_push32 {h : tpH} {r c n u : Nat} {v : Int32} (H : rwL h r c n) (hrc : r ≠ c) (hu : hI h r 1 = nI u) (hlt : u < n) (hn : n < 2 ^ 30) {R : tpH → Prop} (kk : R (wI h (tpu (tpu (hI h) c u v) r 1 (nI (u + 1))))) : w_Ro_push_16 R r v h := by
  obtain ⟨H1, H2, H3, H4⟩ := H
  have en : ∀ k, Int32.ofNat k = nI k := fun _ => rfl
  refine ⟨H1, c, H2, H3, ?_⟩
  rw [hu, H4, en]
  refine ⟨fun g => absurd ((nI_le_iff (by omega) (by omega)).mp g) (by omega), fun g => ⟨vp_in_c (by omega) (fun g2 => absurd ((nI_lt_iff (b := 0) (by omega) (by omega)).mp g2) (by omega)) g, fun h7 e7 h9 e9 => ?_⟩⟩
  rw [nI_clamp (by omega), sI_wI] at e7
  subst e7
  rw [wI_I, tpu_o (by omega), hu, nI_1, sI_wI, wI_wI] at e9
  subst e9
  exact kk
theorem p_push {h : tpH} {r c n u : Nat} {v : Int32} (H : rwL h r c n) (hrc : r ≠ c) (hr : r < hZ h) (hc : c < hZ h) (hu : hI h r 1 = nI u) (hle : u ≤ n) (hn : n ≤ 300000) {R : tpH → Prop} (kk : ∀ h' c' n', rwL h' r c' n' → ((c' = c ∧ n' = n ∧ hZ h' = hZ h ∧ hU h' = hU h) ∨ (c' = hZ h ∧ n' = 2 * n + 1 ∧ u = n ∧ hZ h' = hZ h + 1 ∧ hU h' = hU h + (2 * n + 1))) → u < n' → c' < hZ h' → hI h' r 1 = nI (u + 1) → (∀ i, i < u → hI h' c' i = hI h c i) → hI h' c' u = v → hFr h h' (fun b j => (b = r ∧ j = 1) ∨ b = c) (fun b j => b = r ∧ j = 0) → R h') : w_Ro_push r v h R := by
  have H' := H
  obtain ⟨H1, H2, H3, H4⟩ := H'
  refine ⟨H1, c, H2, H3, ?_⟩
  have en : ∀ k, Int32.ofNat k = nI k := fun _ => rfl
  rw [hu, H4, en, nI_lt_iff (by omega) (by omega)]
  refine ⟨fun g => p_push32 H hrc hu g (by omega) ?_, fun g => ?_⟩
  · have f : hFr h (wI h (tpu (tpu (hI h) c u v) r 1 (nI (u + 1)))) (fun b j => (b = r ∧ j = 1) ∨ b = c) (fun b j => b = r ∧ j = 0) := hFr_w h _ (fun b j hb => by rw [tpu_o (by omega), tpu_o (by omega)])
    exact kk _ c n (rwL_w H) (Or.inl ⟨rfl, rfl, rfl, rfl⟩) g hc (tpu_s _ _ _ _) (fun i hi => by rw [wI_I, tpu_o (by omega), tpu_o (by omega)]) (by rw [wI_I, tpu_o (by omega), tpu_s]) f
  · have e2 : (2 : Int32) * nI n + 1 = nI (2 * n + 1) := by
      rw [show (2 : Int32) = nI 2 from rfl, mI_mul, nI_1]
    have c2 : (nI (2 * n + 1)).toNatClampNeg = 2 * n + 1 := nI_clamp (by omega)
    refine ⟨H1, c, H2, H3, ?_⟩
    rw [H4, en, e2]
    refine ⟨fun g => absurd ((nI_le_iff (by omega) (by omega)).mp g) (by omega), fun _ => ?_⟩
    refine ⟨c, H2, H3, hc, nI_pos (by omega), by rw [c2]; omega, by rw [c2, H4]; omega, fun b h2 eb e2' => ?_⟩
    rw [c2, H4] at e2'
    subst eb
    have eT : hT h2 = tpn (hT h) (hZ h) 15 := by rw [e2']; rfl
    have eL : hL h2 = tpn (hL h) (hZ h) (2 * n + 1) := by rw [e2']; rfl
    have eR : hR h2 = tpn (hR h) (hZ h) (fun _ => none) := by rw [e2']; rfl
    have eI : hI h2 = tpn (tpn (hI h) (hZ h) (fun _ => 0)) (hZ h) (fun k => if k < n then hI h c k else 0) := by rw [e2']; rfl
    have eJ : hJ h2 = tpn (hJ h) (hZ h) (fun _ => 0) := by rw [e2']; rfl
    have eF : hF h2 = tpn (hF h) (hZ h) (fun _ => 0) := by rw [e2']; rfl
    have eZ : hZ h2 = hZ h + 1 := by rw [e2']; rfl
    have eU : hU h2 = hU h + (2 * n + 1) := by rw [e2']; rfl
    refine ⟨by rw [eT, tpn_n _ _ _ _ (by omega)]; exact H1, fun h9 e9 => ?_⟩
    have fT : hT h9 = tpn (hT h) (hZ h) 15 := by rw [e9]; exact eT
    have fL : hL h9 = tpn (hL h) (hZ h) (2 * n + 1) := by rw [e9]; exact eL
    have fR : hR h9 = tpu (hR h2) r 0 (some (hZ h)) := by rw [e9]; rfl
    have fI : hI h9 = hI h2 := by rw [e9]; rfl
    have fJ : hJ h9 = hJ h2 := by rw [e9]; rfl
    have fF : hF h9 = hF h2 := by rw [e9]; rfl
    have fZ : hZ h9 = hZ h + 1 := by rw [e9]; exact eZ
    have fU : hU h9 = hU h + (2 * n + 1) := by rw [e9]; exact eU
    have W : rwL h9 r (hZ h) (2 * n + 1) := ⟨by rw [fT, tpn_n _ _ _ _ (by omega)]; exact H1, by rw [fR, tpu_s], by rw [fT, tpn_s], by rw [fL, tpn_s]⟩
    have u9 : hI h9 r 1 = nI u := by rw [fI, eI, tpn_n _ _ _ _ (by omega), tpn_n _ _ _ _ (by omega)]; exact hu
    refine p_push32 W (by omega) u9 (by omega) (by omega) ?_
    refine kk _ (hZ h) (2 * n + 1) (rwL_w W) (Or.inr ⟨rfl, rfl, by omega, fZ, fU⟩) (by omega) (by rw [wI_Z, fZ]; omega) (tpu_s _ _ _ _) (fun i hi => ?_) (by rw [wI_I, tpu_o (by omega), tpu_s]) ⟨by rw [wI_Z, fZ]; omega, fun d hd => ⟨by rw [wI_T, fT, tpn_n _ _ _ _ (by omega)], by rw [wI_L, fL, tpn_n _ _ _ _ (by omega)], by rw [wI_J, fJ, eJ, tpn_n _ _ _ _ (by omega)], by rw [wI_F, fF, eF, tpn_n _ _ _ _ (by omega)], fun j hj => ?_, fun j hj => ?_⟩⟩
    · rw [wI_I, tpu_o (by omega), tpu_o (by omega), fI, eI, tpn_s, if_pos (by omega)]
    · rw [wI_I, tpu_o (by omega), tpu_o (by omega), fI, eI, tpn_n _ _ _ _ (by omega), tpn_n _ _ _ _ (by omega)]
    · rw [wI_R, fR]
      unfold tpu
      rw [if_neg (by omega), eR, tpn_n _ _ _ _ (by omega)]
/-- the conflicts' rows while merging -/
def cfL (h : tpH) (p z0 e0 e1 : Nat) (cf : List (Nat × Nat)) (n : Nat) : Prop := ∃ c c', (rwL h (p + 86) c n ∧ c < hZ h ∧ (c = e0 ∨ z0 ≤ c)) ∧ (rwL h (p + 88) c' n ∧ c' < hZ h ∧ (c' = e1 ∨ z0 ≤ c')) ∧ c ≠ c' ∧ (hI h (p + 86) 1 = nI cf.length ∧ hI h (p + 88) 1 = nI cf.length ∧ cf.length ≤ n) ∧ ∀ (i : Nat) (e : Nat × Nat), cf[i]? = some e → hI h c i = nI e.1 ∧ hI h c' i = nI e.2
/-- the first rows of the conflicts lie apart -/
def cfE (p D z0 e0 e1 : Nat) : Prop := (e0 = p + 87 ∨ D ≤ e0) ∧ (e1 = p + 89 ∨ D ≤ e1) ∧ e0 ≠ e1 ∧ e0 < z0 ∧ e1 < z0 ∧ p + 101 ≤ D ∧ D ≤ z0
def cfT (p z0 e0 e1 c _j : Nat) : Prop := c = p + 86 ∨ c = p + 88 ∨ c = e0 ∨ c = e1 ∨ z0 ≤ c
def cfU (p c j : Nat) : Prop := (c = p + 86 ∨ c = p + 88) ∧ j = 0
theorem cfL_fr {h h' : tpH} {p D z0 e0 e1 n : Nat} {cf : List (Nat × Nat)} (H : cfL h p z0 e0 e1 cf n) (E : cfE p D z0 e0 e1) (hz : z0 ≤ hZ h) {T U : Nat → Nat → Prop} (f : hFr h h' T U) (nT : ∀ b j, (b = p + 86 ∨ b = p + 88 ∨ b = e0 ∨ b = e1 ∨ z0 ≤ b) → b < hZ h → ¬ T b j) (nU : ∀ b j, (b = p + 86 ∨ b = p + 88 ∨ b = e0 ∨ b = e1 ∨ z0 ≤ b) → b < hZ h → ¬ U b j) : cfL h' p z0 e0 e1 cf n := by
  obtain ⟨c, c', ⟨a1, a2, a3⟩, ⟨b1, b2, b3⟩, ne, ⟨d1, d2, d3⟩, g⟩ := H
  have sm : ∀ b, (b = p + 86 ∨ b = p + 88 ∨ b = e0 ∨ b = e1 ∨ z0 ≤ b) → b < hZ h → hSm h h' b := fun b hb hz => hFr_sS f hz (fun j => nT b j hb hz) (fun j => nU b j hb hz)
  unfold cfE at E
  have s86 := sm (p + 86) (by omega) (by omega)
  have s88 := sm (p + 88) (by omega) (by omega)
  have sc := sm c (by omega) a2
  have sd := sm c' (by omega) b2
  have := f.1
  exact ⟨c, c', ⟨rwL_k a1 s86 sc, by omega, a3⟩, ⟨rwL_k b1 s88 sd, by omega, b3⟩, ne, ⟨by rw [s86.2.2.2.1]; exact d1, by rw [s88.2.2.2.1]; exact d2, d3⟩, fun i e hi => by rw [sc.2.2.2.1, sd.2.2.2.1]; exact g i e hi⟩
theorem p_Mg_list {h : tpH} {x p D z0 e0 e1 n k m : Nat} {cf : List (Nat × Nat)} (l : lTP h x p) (hxp : x < p) (E : cfE p D z0 e0 e1) (hz : z0 ≤ hZ h) (H : cfL h p z0 e0 e1 cf n) (hc : cf.length < 92000) (hn : n ≤ 184001) (hn1 : 1 ≤ n) {R : tpH → Prop} (kk : ∀ h' n', cfL h' p z0 e0 e1 (cf ++ [(k, m)]) n' → n ≤ n' ∧ n' ≤ 184001 → hFr h h' (cfT p z0 e0 e1) (cfU p) → hZ h' ≤ hZ h + (n' - n) → hU h' ≤ hU h + 4 * (n' - n) → lTP h' x p → R h') : w_Mg_list (p + 69) (nI k) (nI m) h R := by
  obtain ⟨g0, g1, g2, g3, g4, _⟩ := lTP_mgL l
  obtain ⟨c, c', ⟨a1, a2, a3⟩, ⟨b1, b2, b3⟩, ne, ⟨d1, d2, d3⟩, g⟩ := H
  have E' := E
  unfold cfE at E'
  refine ⟨g0, p + 86, g1, g2, ?_⟩
  refine p_push a1 (by omega) (by omega) a2 d1 d3 (by omega) (fun h5 c5 n5 w5 o5 lt5 z5 u5 old5 new5 f5 => ?_)
  have zz := f5.1
  have s69 : hT h5 (p + 69) = 7 := by rw [(f5.2 (p + 69) (by omega)).1]; exact g0
  have r69 : hR h5 (p + 69) 11 = some (p + 88) := by rw [(f5.2 (p + 69) (by omega)).2.2.2.2.2 11 (by omega)]; exact g3
  have t88 : hT h5 (p + 88) = 8 := by rw [(f5.2 (p + 88) (by omega)).1]; exact g4
  have sm : ∀ b, b < hZ h → b ≠ p + 86 → b ≠ c → hSm h h5 b := fun b hb h1 h2 => hFr_sS f5 hb (fun j => by omega) (fun j => by omega)
  have s88 := sm (p + 88) (by omega) (by omega) (by omega)
  have sc' := sm c' b2 (by omega) (by omega)
  refine ⟨s69, p + 88, r69, t88, ?_⟩
  have cc : c5 < hZ h5 := z5
  refine p_push (rwL_k b1 s88 sc') (by omega) (by omega) (by omega) (by rw [s88.2.2.2.1]; exact d2) d3 (by omega) (fun h6 c6 n6 w6 o6 lt6 z6 u6 old6 new6 f6 => ?_)
  have zz6 := f6.1
  have ne56 : c5 ≠ c6 := by omega
  have en : n6 = n5 := by omega
  have sm6 : ∀ b, b < hZ h5 → b ≠ p + 88 → b ≠ c' → hSm h5 h6 b := fun b hb h1 h2 => hFr_sS f6 hb (fun j => by omega) (fun j => by omega)
  have q86 := sm6 (p + 86) (by omega) (by omega) (by omega)
  have qc := sm6 c5 z5 (by omega) (by omega)
  subst en
  have f : hFr h h6 (cfT p z0 e0 e1) (cfU p) := hFr_mono (hFr_tr f5 f6) (fun b j hb q => by unfold cfT; omega) (fun b j hb q => by unfold cfU; omega)
  refine kk h6 n6 ⟨c5, c6, ⟨rwL_k w5 q86 qc, by omega, by omega⟩, ⟨w6, z6, by omega⟩, ne56, ⟨by rw [q86.2.2.2.1, u5, List.length_append]; rfl, by rw [u6, List.length_append]; rfl, by rw [List.length_append]; show cf.length + 1 ≤ n6; omega⟩, fun i e hi => ?_⟩ ⟨by omega, by omega⟩ f (by omega) (by omega) (lTP_hFr l hxp (by omega) f (fun b j hb q => by unfold cfU at q; omega))
  by_cases ci : i < cf.length
  · rw [List.getElem?_append_left ci] at hi
    rw [qc.2.2.2.1, old5 i ci, old6 i ci, sc'.2.2.2.1]
    exact g i e hi
  · rw [List.getElem?_append_right (by omega)] at hi
    have hi0 : i = cf.length := by
      have h1 := (List.getElem?_eq_some_iff.mp hi).1
      have h2 : i - cf.length < 1 := h1
      omega
    subst hi0
    rw [Nat.sub_self] at hi
    have he : (k, m) = e := Option.some.inj hi
    rw [qc.2.2.2.1, new5, new6, ← he]
    exact ⟨rfl, rfl⟩
end CFROW
