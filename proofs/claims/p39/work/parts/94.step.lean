section STEP
def noP (h : tpH) (p : Nat) : Prop := ∀ j, j < 3 → hI h (p + 68) j = -1
def stP (h : tpH) (x p D mk : Nat) (kd idn : Nat → Int32) (dr : Option mT) (r : mRe) (n : Nat) : Prop :=
  lTP h x p ∧ MaP (hI h) p mk kd idn ∧ DrP (hI h) p dr ∧ noP h p ∧ reP h x p D kd idn r n
theorem MaP_k {F G : Nat → Nat → Int32} {p mk : Nat} {kd idn : Nat → Int32} (H : MaP F p mk kd idn) (hk : ∀ b, p ≤ b → b < p + 5 → G b = F b) : MaP G p mk kd idn := by
  unfold MaP
  rw [hk p (by omega) (by omega), hk (p + 2) (by omega) (by omega), hk (p + 4) (by omega) (by omega)]
  exact H
theorem stP_oth {h h' : tpH} {x p D mk n : Nat} {kd idn : Nat → Int32} {dr : Option mT} {r : mRe} {T U : Nat → Nat → Prop} (H : stP h x p D mk kd idn dr r n) (hxp : x < p) (hpD : p + 101 ≤ D) (hDz : D ≤ hZ h) (a : hFr h h' T U) (nT : ∀ b j, T b j → p + 101 ≤ b ∧ b < D) (nU : ∀ b j, U b j → p + 101 ≤ b ∧ b < D) : stP h' x p D mk kd idn dr r n := by
  obtain ⟨H1, H2, H3, H4, H5⟩ := H
  have eI : ∀ b, b < p + 101 → hI h' b = hI h b := fun b hb => funext fun j => (a.2 b (by omega)).2.2.2.2.1 j (fun g => by have := nT _ _ g; omega)
  exact ⟨lTP_hFr H1 hxp (by omega) a (fun b j hb g => by have := nU _ _ g; omega), MaP_k H2 (fun b b1 b2 => eI b (by omega)), DrP_k H3 (fun b b1 b2 => eI b (by omega)), fun j hj => by rw [eI (p + 68) (by omega)]; exact H4 j hj,
    reP_fr H5 hxp hpD hDz a (fun b j g => by have := nT _ _ g; omega) (fun b j g => by have := nU _ _ g; omega)⟩
theorem mIn_wf {mk : Nat} {kd : Nat → Int32} {rt : Nat → Bool} {dr : Option mT} {r : mRe} (H : mIn mk kd rt dr r) : ∀ (i : Nat) (t : mT), r.1[i]? = some t → tWF 300 t := fun i t hi => (H.2.2.1 t (List.mem_of_getElem? hi)).1
theorem hFr_nC (h : tpH) (k n m : Nat) (T U : Nat → Nat → Prop) : hFr h (nC h k n m) T U := hFr_sm (Nat.le_succ _) (fun b hb => hSm_nC h k n m b hb) T U
end STEP
