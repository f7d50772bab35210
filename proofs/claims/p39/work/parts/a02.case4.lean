section CASE4
theorem reP_keep {h h' : tpH} {x p D n : Nat} {kd idn : Nat → Int32} {r : mRe} (H : reP h x p D kd idn r n) (hxp : x < p) (hpD : p + 101 ≤ D) (hDz : D ≤ hZ h) {T U : Nat → Nat → Prop} (a : hFr h h' T U) (nT : ∀ b j, T b j → (b = x ∧ j = 4) ∨ (b ≠ x ∧ (b < p + 35 ∨ (p + 101 ≤ b ∧ b < D)))) (nU : ∀ b j, U b j → (b = p + 35 ∧ j = r.1.length) ∨ (b ≠ x ∧ (b < p + 35 ∨ (p + 101 ≤ b ∧ b < D)))) {t : mT} {a0 : Nat} (F' : FoP h' (hI h') x p D (r.1 ++ [t])) (e0 : hR h' (p + 35) r.1.length = some a0) (h0 : hZ h ≤ a0) : reP h' x p D kd idn (r.1 ++ [t], r.2) n := by
  obtain ⟨H1, H2, H3, H4, H5, H6, H7, H8⟩ := H
  have nt : fNT p D T U := fun b j hb => ⟨fun g => by have := nT b j g; omega, fun g => by have := nU b j g; omega⟩
  have n35 : ∀ i, i < r.1.length → ¬ U (p + 35) i := fun i hi g => by have := nU _ _ g; omega
  have eI : ∀ b, (p + 35 ≤ b ∧ b < p + 101) → hI h' b = hI h b := fun b hb => funext fun j => (a.2 b (by omega)).2.2.2.2.1 j (fun g => by have := nT _ _ g; omega)
  have ex : ∀ j, j ≠ 4 → hI h' x j = hI h x j := fun j hj => (a.2 x (by omega)).2.2.2.2.1 j (fun g => by have := nT _ _ g; omega)
  have e35 : ∀ i, i < r.1.length → hR h' (p + 35) i = hR h (p + 35) i := fun i hi => (a.2 (p + 35) (by omega)).2.2.2.2.2 i (n35 i hi)
  have old : ∀ i, i < r.1.length → hR h (p + 35) i ≠ some a0 := fun i hi e => by
    obtain ⟨b, mk, b1, b2, b3, _⟩ := H1.2.2 i _ (List.getElem?_eq_getElem hi)
    rw [b1] at e
    have := Option.some.inj e
    omega
  refine ⟨F', ?_, ScP_fr H3 hxp (by omega) a nt (fun g => by have := nT _ _ g; omega) (fun i _ g => by have := nU _ _ g; omega), by rw [ex 10 (by decide)]; exact H4, fun k hk => by rw [eI (p + 71) (by omega)]; exact H5 k hk,
    CfP_fr H6 (by omega) a (fun b j hb => ⟨fun g => by have := nT _ _ g; omega, fun g => by have := nU _ _ g; omega⟩) (fun i a1 e => by
      by_cases ci : i = r.1.length
      · rw [ci, e0] at e
        rw [← Option.some.inj e]
        obtain ⟨b, mk, b1, b2, b3, _⟩ := F'.2.2 r.1.length t (by rw [List.getElem?_append_right (Nat.le_refl _), Nat.sub_self]; rfl)
        rw [e0] at b1
        rw [Option.some.inj b1]
        exact Or.inr ⟨by rw [← Option.some.inj b1]; exact h0, b3⟩
      · rw [(a.2 (p + 35) (by omega)).2.2.2.2.2 i (fun g => by have := nU _ _ g; omega)] at e
        exact Or.inl e), HiP_fr H7 (by rw [eI _ (by omega)]) (fun b b1 b2 => eI b (by omega)),
    MiP_app (MiP_fr H8 (by omega) a (fun b j b1 b2 g => by have := nT _ _ g; omega) (fun b j b1 b2 g => by have := nU _ _ g; omega) n35) t⟩
  intro i j hi hj e
  rw [List.length_append] at hi hj
  have hi : i < r.1.length + 1 := hi
  have hj : j < r.1.length + 1 := hj
  by_cases ci : i < r.1.length
  · by_cases cj : j < r.1.length
    · rw [e35 i ci, e35 j cj] at e
      exact H2 i j ci cj e
    · have ej : j = r.1.length := by omega
      rw [ej, e0, e35 i ci] at e
      exact absurd e (old i ci)
  · have ei : i = r.1.length := by omega
    by_cases cj : j < r.1.length
    · rw [ei, e0, e35 j cj] at e
      exact absurd e.symm (old j cj)
    · omega
theorem mIn_keep {mk : Nat} {kd : Nat → Int32} {rt : Nat → Bool} {dr : Option mT} {r : mRe} (H : mIn mk kd rt dr r) {t : mT} (ht : trI mk kd rt t) : mIn mk kd rt dr (r.1 ++ [t], r.2) := by
  obtain ⟨H1, H2, H3, H4, H5, H6, H7, H8⟩ := H
  refine ⟨H1, H2, fun u hu => ?_, H4, H5, H6, H7, fun i e hi => ⟨?_, (H8 i e hi).2⟩⟩
  · rcases List.mem_append.mp hu with g | g
    · exact H3 u g
    · have : u = t := by simpa using g
      rw [this]; exact ht
  · rw [List.length_append]
    exact Nat.lt_add_right _ (H8 i e hi).1
theorem stP_keep {h h' : tpH} {x p D mk n : Nat} {kd idn : Nat → Int32} {dr : Option mT} {r : mRe} (H : stP h x p D mk kd idn dr r n) (hxp : x < p) (hpD : p + 101 ≤ D) (hDz : D ≤ hZ h) (a : hFr h h' (fun b j => b = x ∧ j = 4) (fun b j => b = p + 35 ∧ j = r.1.length)) {t : mT} {a0 : Nat} (F' : FoP h' (hI h') x p D (r.1 ++ [t])) (e0 : hR h' (p + 35) r.1.length = some a0) (h0 : hZ h ≤ a0) : stP h' x p D mk kd idn dr (r.1 ++ [t], r.2) n := by
  obtain ⟨H1, H2, H3, H4, H5⟩ := H
  have eI : ∀ b, p ≤ b → b < p + 101 → hI h' b = hI h b := fun b b1 hb => funext fun j => (a.2 b (by omega)).2.2.2.2.1 j (fun g => by omega)
  exact ⟨lTP_hFr H1 hxp (by omega) a (fun b j hb g => by omega), MaP_k H2 (fun b b1 b2 => eI b (by omega) (by omega)), DrP_k H3 (fun b b1 b2 => eI b (by omega) (by omega)), fun j hj => by rw [eI (p + 68) (by omega) (by omega)]; exact H4 j hj,
    reP_keep H5 hxp hpD hDz a (fun b j g => Or.inl g) (fun b j g => Or.inl g) F' e0 h0⟩
theorem pO_le {t : mT} (hw : tWF 300 t) : (pO t).length ≤ 300 := by have := tCn_le t; have := pO_len hw; omega
end CASE4
