section CASE4
theorem reP_keep {h h' : tpH} {x p D n : Nat} {kd idn : Nat → Int32} {r : mRe} (H : reP h x p D kd idn r n) (hxp : x < p) (hpD : p + 101 ≤ D) (hDz : D ≤ hZ h) {T U : Nat → Nat → Prop} (a : hFr h h' T U) (nT : ∀ b j, T b j → (b = x ∧ j = 4) ∨ (b ≠ x ∧ (b < p + 35 ∨ (p + 101 ≤ b ∧ b < D)))) (nU : ∀ b j, U b j → (b = p + 35 ∧ j = r.1.length) ∨ (b ≠ x ∧ (b < p + 35 ∨ (p + 101 ≤ b ∧ b < D)))) {t : mT} {a0 : Nat} (F' : FoP h' (hI h') x p D (r.1 ++ [t])) (e0 : hR h' (p + 35) r.1.length = some a0) (h0 : hZ h ≤ a0) : reP h' x p D kd idn (r.1 ++ [t], r.2) n := by
  obtain ⟨H1, H2, H3, H4, H5, H6, H7, H8⟩ := H
  have nt : fNT p D T U := fun b j hb => ⟨fun g => by have := nT b j g; omega, fun g => by have := nU b j g; omega⟩
  have n35 : ∀ i, i < r.1.length → ¬ U (p + 35) i := fun i hi g => by have := nU _ _ g; omega
  have eI : ∀ b, (p + 35 ≤ b ∧ b < p + 101) → hI h' b = hI h b := fun b hb => funext fun j => (a.2 b (by omega)).2.2.2.2.1 j (fun g => by have := nT _ _ g; omega)
  have ex : ∀ j, j ≠ 4 → hI h' x j = hI h x j := fun j hj => (a.2 x (by omega)).2.2.2.2.1 j (fun g => by have := nT _ _ g; omega)
  have e35 : ∀ i, i < r.1.length → hR h' (p + 35) i = hR h (p + 35) i := fun i hi => (a.2 (p + 35) (by omega)).2.2.2.2.2 i (n35 i hi)
  have old : ∀ i, i < r.1.length → hR h (p + 35) i ≠ some a0 := fun i hi e => by
    obtain ⟨b, mk, b1, b2, b3, _⟩ := H1.2.2 i _ (List.getElem?_eq_getElem hi)
    rw [b1] at e
    have := Option.some.inj e
    omega
  refine ⟨F', ?_, ScP_fr H3 hxp (by omega) a nt (fun g => by have := nT _ _ g; omega) (fun i _ g => by have := nU _ _ g; omega), by rw [ex 10 (by decide)]; exact H4, fun k hk => by rw [eI (p + 71) (by omega)]; exact H5 k hk,
    CfP_fr H6 (by omega) a (fun b j hb => ⟨fun g => by have := nT _ _ g; omega, fun g => by have := nU _ _ g; omega⟩) (fun i a1 e => by
      by_cases ci : i = r.1.length
      · rw [ci, e0] at e
        rw [← Option.some.inj e]
        obtain ⟨b, mk, b1, b2, b3, _⟩ := F'.2.2 r.1.length t (by rw [List.getElem?_append_right (Nat.le_refl _), Nat.sub_self]; rfl)
        rw [e0] at b1
        rw [Option.some.inj b1]
        exact Or.inr ⟨by rw [← Option.some.inj b1]; exact h0, b3⟩
      · rw [(a.2 (p + 35) (by omega)).2.2.2.2.2 i (fun g => by have := nU _ _ g; omega)] at e
        exact Or.inl e), HiP_fr H7 (by rw [eI _ (by omega)]) (fun b b1 b2 => eI b (by omega)),
    MiP_app (MiP_fr H8 (by omega) a (fun b j b1 b2 g => by have := nT _ _ g; omega) (fun b j b1 b2 g => by have := nU _ _ g; omega) n35) t⟩
  intro i j hi hj e
  rw [List.length_append] at hi hj
  have hi : i < r.1.length + 1 := hi
  have hj : j < r.1.length + 1 := hj
  by_cases ci : i < r.1.length
  · by_cases cj : j < r.1.length
    · rw [e35 i ci, e35 j cj] at e
      exact H2 i j ci cj e
    · have ej : j = r.1.length := by omega
      rw [ej, e0, e35 i ci] at e
      exact absurd e (old i ci)
  · have ei : i = r.1.length := by omega
    by_cases cj : j < r.1.length
    · rw [ei, e0, e35 j cj] at e
      exact absurd e.symm (old j cj)
    · omega
theorem reM_keep {F G : Nat → Nat → Int32} {Q q : Nat} {r : mRe} (H : reM F Q q r) {t : mT} (F' : FoM G Q q (r.1 ++ [t])) (hQ : ∀ j, j = 10 ∨ j = 22 ∨ j = 24 ∨ j = 26 → G Q j = F Q j) (hs : ∀ b, q + 7 ≤ b → b ≤ q + 23 → G b = F b) : reM G Q q (r.1 ++ [t], r.2) := by
  obtain ⟨H1, H2, H3, H4, H5, H6⟩ := H
  refine ⟨F', ⟨(hQ 10 (by omega)).trans H2.1, fun i s hi => ⟨by rw [hs (q + 7) (by omega) (by omega)]; exact (H2.2 i s hi).1, fun j e hj => StM_fr ((H2.2 i s hi).2 j e hj) (fun b b1 b2 => by rw [hs b (by omega) (by omega)])⟩⟩,
    (hQ 22 (by omega)).trans H3, fun k hk => by rw [hs (q + 18) (by omega) (by omega)]; exact H4 k hk, ⟨(hQ 24 (by omega)).trans H5.1, fun i e hi => by rw [hs (q + 19) (by omega) (by omega)]; exact H5.2 i e hi⟩,
    ⟨(hQ 26 (by omega)).trans H6.1, fun i e hi => by rw [hs (q + 20) (by omega) (by omega), hs (q + 21) (by omega) (by omega), hs (q + 22) (by omega) (by omega), hs (q + 23) (by omega) (by omega)]; exact H6.2 i e hi⟩⟩
theorem mIn_keep {mk : Nat} {kd : Nat → Int32} {rt : Nat → Bool} {dr : Option mT} {r : mRe} (H : mIn mk kd rt dr r) {t : mT} (ht : trI mk kd rt t) : mIn mk kd rt dr (r.1 ++ [t], r.2) := by
  obtain ⟨H1, H2, H3, H4, H5, H6, H7, H8⟩ := H
  refine ⟨H1, H2, fun u hu => ?_, H4, H5, H6, H7, fun i e hi => ⟨?_, (H8 i e hi).2⟩⟩
  · rcases List.mem_append.mp hu with g | g
    · exact H3 u g
    · have : u = t := by simpa using g
      rw [this]; exact ht
  · rw [List.length_append]
    exact Nat.lt_add_right _ (H8 i e hi).1
theorem stP_keep {h h' : tpH} {x p D mk n : Nat} {kd idn : Nat → Int32} {dr : Option mT} {r : mRe} (H : stP h x p D mk kd idn dr r n) (hxp : x < p) (hpD : p + 101 ≤ D) (hDz : D ≤ hZ h) (a : hFr h h' (fun b j => b = x ∧ j = 4) (fun b j => b = p + 35 ∧ j = r.1.length)) {t : mT} {a0 : Nat} (F' : FoP h' (hI h') x p D (r.1 ++ [t])) (e0 : hR h' (p + 35) r.1.length = some a0) (h0 : hZ h ≤ a0) : stP h' x p D mk kd idn dr (r.1 ++ [t], r.2) n := by
  obtain ⟨H1, H2, H3, H4, H5⟩ := H
  have eI : ∀ b, p ≤ b → b < p + 101 → hI h' b = hI h b := fun b b1 hb => funext fun j => (a.2 b (by omega)).2.2.2.2.1 j (fun g => by omega)
  exact ⟨lTP_hFr H1 hxp (by omega) a (fun b j hb g => by omega), MaP_k H2 (fun b b1 b2 => eI b (by omega) (by omega)), DrP_k H3 (fun b b1 b2 => eI b (by omega) (by omega)), fun j hj => by rw [eI (p + 68) (by omega) (by omega)]; exact H4 j hj,
    reP_keep H5 hxp hpD hDz a (fun b j g => Or.inl g) (fun b j g => Or.inl g) F' e0 h0⟩
theorem pO_le {t : mT} (hw : tWF 300 t) : (pO t).length ≤ 300 := by have := tCn_le t; have := pO_len hw; omega

theorem lw_seal {b L z : Nat} {xs : Nat → Int32} (hL0 : L ≤ 3072) : lwOK (lwI b L z xs) b z (z + 102) (z + 149) (z + 150) L w_Lw_law_648 := by
  intro R K k h I h6 kk
  obtain ⟨hb, hC, mk, kd, idn, rt, dr, r, n, hm, hP, hM, hB⟩ := I
  have vp : ∀ j, j < 6 → ∀ h', lwC b L z xs h' → vp_in (nI (6 * k) + nI j) (hL h' b) := fun j hj h' hC => lw_vp hL0 hC.2.2.2.1 h6 hj
  have hz := hB.2.1
  have hwf := mIn_wf hm
  obtain ⟨hdw, hdm⟩ := mIn_dw hm
  refine ⟨z, rfl, hP.1.1, ?_⟩
  refine p_TP_seal hP.1 (by omega) (D := z + 151) (by omega) hz hP.2.2.2.2.1 hP.2.2.1 hP.2.1.1 hm.1 hdm (fun g => ⟨rfl, ?_⟩) (fun t ed hlt h' z1 u1 f1 r1 F1 => lw_put (lwC_fr hC hb hz f1 (fun j g => by omega)).1 ?_)
  · have H := lw_exc (k := k) hb hC hm hP hM hB
    obtain ⟨-, hC7, hM7, -⟩ := id H
    refine ⟨z + 102, rfl, hM7.1.1, ?_⟩
    exact p_Md_seal hM7.1 (by omega) hM7.2.2.2.1 hwf hM7.2.2.1 hdw (fun _ => lw_xt H hwf (by decide) (tpu_s _ _ _ _) (lw_x1 1) kk) (fun t ed hlt => by
      rcases g with g | g
      · rw [ed] at g; simp at g
      · omega)
  · have ht := hm.2.1 t ed
    have hl3 := pO_le ht.1
    have hk3 := hm.1
    have H := lw_sJ (lw_cls (k := k) hb hC hm hM hB f1 (fun c j g => by omega) (fun c j g => by omega) (mIn_keep hm ht) (stP_keep hP (by omega) (by omega) hz f1 F1 r1 (Nat.le_refl _)) ⟨Nat.le_refl _, hB.1⟩ (by omega) (by omega)) (z + 149) 0 (nI r.1.length).toInt64
    obtain ⟨-, hC7, hM7, -⟩ := id H
    refine ⟨z + 102, rfl, hM7.1.1, ?_⟩
    refine p_Md_seal hM7.1 (by omega) hM7.2.2.2.1 hwf hM7.2.2.1 hdw (fun g => ?_) (fun t' ed' _ G' k1 k2 k3 => ?_)
    · rcases g with g | g
      · rw [ed] at g; simp at g
      · omega
    · have et : t = t' := by rw [ed] at ed'; exact Option.some.inj ed'
      subst et
      have hM0 := hM7
      obtain ⟨m1, m2, m3, m4⟩ := hM0
      have h40 := hM7.2.2.2.1.2.1
      refine lw_tail m1.1 k2 hC7.1 (fun _ => tpu_s _ _ _ _) (kk _ (lw_fin H (fun d j hd => k3 d j (by omega)) ⟨m1, MaM_fr m2 (k3 _ _ (by omega)) (fun d hd => funext fun j => k3 _ _ (by omega)), ?_, reM_keep m4 k1 (fun j hj => k3 _ _ (by omega)) (fun d d1 d2 => funext fun j => k3 _ _ (by omega))⟩))
      cases dr with
      | none => simp at ed
      | some u =>
        have hwu := hdw u rfl
        exact ⟨(k3 _ _ (by omega)).trans m3.1, MtP_k hwu m3.2 (k3 _ _ (by omega)) (fun d d1 d2 j j1 j2 => k3 _ _ (by omega))⟩
end CASE4

