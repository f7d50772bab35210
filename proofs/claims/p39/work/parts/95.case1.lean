section CASE1
theorem trI_mk {mk : Nat} {kd : Nat → Int32} {rt : Nat → Bool} {t : mT} (H : trI mk kd rt t) (k : Int32) (c : Bool) : trI (mk + 1) (mU kd mk k) (mU rt mk c) t := by
  have ne : ∀ m, tIn t m = true → m ≠ mk := fun m hi => Nat.ne_of_lt (H.2.1 m hi).1
  refine ⟨H.1, fun m hi => ⟨Nat.lt_succ_of_lt (H.2.1 m hi).1, by rw [mU_n _ _ (ne m hi)]; exact (H.2.1 m hi).2⟩, fun p hp hl => H.2.2 p hp ?_⟩
  unfold loK at hl ⊢
  rw [mU_n _ _ (ne p hp)] at hl
  exact hl
theorem spI_mk {mk : Nat} {s : mSp} (H : spI mk s) : spI (mk + 1) s := ⟨fun m e => Nat.lt_succ_of_lt (H.1 m e), fun m e => Nat.lt_succ_of_lt (H.2.1 m e), fun m e => Nat.lt_succ_of_lt (H.2.2 m e)⟩
theorem stpI_mk {mk : Nat} {rt : Nat → Bool} {e : mSt} (H : stpI mk rt e) (c : Bool) : stpI (mk + 1) (mU rt mk c) e :=
  ⟨H.1, Nat.lt_succ_of_lt H.2.1, fun g => by rw [mU_n _ _ (Nat.ne_of_lt H.2.1)]; exact H.2.2.1 g, spI_mk H.2.2.2.1, spI_mk H.2.2.2.2⟩
theorem mIn_mk {mk : Nat} {kd : Nat → Int32} {rt : Nat → Bool} {dr : Option mT} {r : mRe} (H : mIn mk kd rt dr r) (hlt : mk < 300) (k : Int32) (c : Bool) {t : mT} (ht : trI (mk + 1) (mU kd mk k) (mU rt mk c) t) : mIn (mk + 1) (mU kd mk k) (mU rt mk c) (some t) r :=
  ⟨hlt, fun u hu => by rw [← Option.some.inj hu]; exact ht, fun u hu => trI_mk (H.2.2.1 u hu) k c, fun s hs => ⟨(H.2.2.2.1 s hs).1, fun e he => stpI_mk ((H.2.2.2.1 s hs).2 e he) c⟩, H.2.2.2.2⟩
theorem mIn_dr {mk : Nat} {kd : Nat → Int32} {rt : Nat → Bool} {dr : Option mT} {r : mRe} (H : mIn mk kd rt dr r) {t : mT} (ht : trI mk kd rt t) : mIn mk kd rt (some t) r :=
  ⟨H.1, fun u hu => by rw [← Option.some.inj hu]; exact ht, H.2.2⟩
theorem stP_dr {h : tpH} {x p D mk n : Nat} {kd idn : Nat → Int32} {dr : Option mT} {r : mRe} (H : stP h x p D mk kd idn dr r n) (hxp : x < p) (hpD : p + 101 ≤ D) (hDz : D ≤ hZ h) {G : Nat → Nat → Int32} (fr : ∀ b, b < p ∨ p + 20 ≤ b → G b = hI h b) {mk' : Nat} {kd' idn' : Nat → Int32} {dr' : Option mT} (hM : MaP G p mk' kd' idn') (hD : DrP G p dr')
    (mi : MiP h p kd' idn' r.1) : stP (wI h G) x p D mk' kd' idn' dr' r n ∧ hFr h (wI h G) (fun b _ => p ≤ b ∧ b < p + 20) (fun _ _ => False) := by
  have f : hFr h (wI h G) (fun b _ => p ≤ b ∧ b < p + 20) (fun _ _ => False) := hFr_w h _ (fun b j hb => by rw [fr b (by omega)])
  obtain ⟨H1, H2, H3, H4, H5, H6, H7, H8, H9, H10, H11, H12⟩ := H
  exact ⟨⟨H1, hM, hD, fun j hj => by rw [wI_I, fr (p + 68) (by omega)]; exact H4 j hj, reP_fr (r := r) ⟨H5, H6, H7, H8, H9, H10, H11, mi⟩ hxp hpD hDz f (fun b j g => by omega) (fun b j g => g.elim)⟩, f⟩
theorem mIn_dw {mk : Nat} {kd : Nat → Int32} {rt : Nat → Bool} {dr : Option mT} {r : mRe} (H : mIn mk kd rt dr r) : (∀ t, dr = some t → tWF 300 t) ∧ (∀ t, dr = some t → ∀ m, tIn t m = true → m < mk) :=
  ⟨fun t e => (H.2.1 t e).1, fun t e m hi => ((H.2.1 t e).2.1 m hi).1⟩
end CASE1
