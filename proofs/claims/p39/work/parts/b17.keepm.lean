section KEEPM
def sm15 (h h' : tpH) (p D : Nat) : Prop := hZ h ≤ hZ h' ∧ p + 101 ≤ hZ h ∧ ∀ c, (D ≤ c ∨ c = p + 68) → c < hZ h → hT h c ≠ 15 → hSm h h' c
theorem SpP_s {h h' : tpH} {p D b : Nat} {s : mSp} (H : SpP h p D b s) (k : sm15 h h' p D) : SpP h' p D b s := by
  obtain ⟨H1, H2, H3, H4, H5⟩ := H
  have kz := k.1
  have kp := k.2.1
  have e := k.2.2 b (by omega) (by omega) (by rw [H2]; decide)
  exact ⟨by omega, e.1.trans H2, by rw [e.2.2.2.1]; exact H3, by rw [e.2.2.2.1]; exact H4, by rw [e.2.2.2.1]; exact H5⟩
theorem StP_s {h h' : tpH} {p D b : Nat} {e : mSt} (H : StP h p D b e) (k : sm15 h h' p D) : StP h' p D b e := by
  obtain ⟨H1, H2, H3, H4, H5, H6, ⟨u, H7, H8⟩, v, H9, H10⟩ := H
  have kz := k.1
  have e := k.2.2 b (Or.inl H1.1) H1.2 (by rw [H2]; decide)
  exact ⟨by omega, e.1.trans H2, by rw [e.2.2.2.1]; exact H3, by rw [e.2.2.2.1]; exact H4, by rw [e.2.2.2.1]; exact H5, by rw [e.2.2.2.1]; exact H6, ⟨u, by rw [e.2.2.1]; exact H7, SpP_s H8 k⟩, v, by rw [e.2.2.1]; exact H9, SpP_s H10 k⟩
theorem ScO_s {h h' : tpH} {p D b : Nat} {s : List mSt} (H : ScO h p D b s) (k : sm15 h h' p D) : ScO h' p D b s := by
  obtain ⟨H1, H2, H3, c, H4, H5, H6, H7, H8, H9⟩ := H
  have kz := k.1
  have e := k.2.2 b (Or.inl H1.1) H1.2 (by rw [H2]; decide)
  have f := k.2.2 c (Or.inl H5.1) H5.2 (by rw [H6]; decide)
  refine ⟨by omega, e.1.trans H2, by rw [e.2.2.2.1]; exact H3, c, by rw [e.2.2.1]; exact H4, by omega, f.1.trans H6, by rw [f.2.1]; exact H7, by rw [f.2.1]; exact H8, fun j e' hj => ?_⟩
  obtain ⟨d, d1, d2⟩ := H9 j e' hj
  exact ⟨d, by rw [f.2.2.1]; exact d1, StP_s d2 k⟩
theorem ScP_s {h h' : tpH} {x p D : Nat} {sc : List (List mSt)} (H : ScP h x p D sc) (k : sm15 h h' p D) (k6 : hI h' x 6 = hI h x 6) (k36 : ∀ i, hR h' (p + 36) i = hR h (p + 36) i) : ScP h' x p D sc := by
  refine ⟨k6.trans H.1, H.2.1, fun i s hi => ?_⟩
  obtain ⟨b, b1, b2⟩ := H.2.2 i s hi
  exact ⟨b, (k36 i).trans b1, ScO_s b2 k⟩
def mkT (x p z0 e0 e1 c j : Nat) : Prop := mtT p z0 e0 e1 c j ∨ (c = x ∧ j = 4)
def mkU (p n c j : Nat) : Prop := cfU p c j ∨ (c = p + 35 ∧ j = n)
theorem FoP_mt {h h' : tpH} {x p D n : Nat} {fr : List mT} {cf : List (Nat × Nat)} (hF : FoP h (hI h) x p D fr) (hxp : x < p) (hpD : p + 101 ≤ D) (hDz : D ≤ hZ h) {e0 e1 : Nat} (ap : ∀ i a, hR h (p + 35) i = some a → a + 19 ≤ hZ h ∧ (e0 < a ∨ a + 19 ≤ e0) ∧ (e1 < a ∨ a + 19 ≤ e1)) (E : cfE p D (hZ h) e0 e1) (f : hFr h h' (mtT p (hZ h) e0 e1) (cfU p)) : FoP h' (hI h') x p D fr := by
  unfold cfE at E
  refine ⟨((f.2 x (by omega)).2.2.2.2.1 4 (fun g => by unfold mtT at g; omega)).trans hF.1, hF.2.1, fun i t hi => ?_⟩
  obtain ⟨b, mk, b1, b2, b3, b4, b5, b6, b7⟩ := hF.2.2 i t hi
  have := ap i b b1
  have sm : ∀ c, b ≤ c → c < b + 19 → hSm h h' c := fun c c1 c2 => hFr_sS f (by omega) (fun j g => by unfold mtT at g; omega) (fun j g => by unfold cfU at g; omega)
  exact ⟨b, mk, ((f.2 (p + 35) (by omega)).2.2.2.2.2 i (fun g => by unfold cfU at g; omega)).trans b1, b2, Nat.le_trans b3 f.1, lTr_k b4 sm, TrP_k b5 (fun c c1 c2 => (sm c c1 c2).2.2.2.1), b6, b7⟩
/-- what the merged tree is -/
theorem mgRes_I {mk : Nat} {kd : Nat → Int32} {rt : Nat → Bool} {b l r : mT} {R0 : Nat} (HH : mgH mk R0 b l r) (po : Nat → Int32) (hb : trI mk kd rt b) (hl : trI mk kd rt l) (hr : trI mk kd rt r) : trI mk kd rt (mgRes po mk R0 b l r (loK kd)) := by
  obtain ⟨I, Eg, _⟩ := mgF_I (po := po) HH
  refine ⟨mgTr_wf HH I Eg (loK kd), fun m hm => ?_, mgTr_lo (loK kd)⟩
  have hm' : sIn (mgF po mk b l r) m = true := hm
  obtain ⟨q1, q2⟩ := I.1 m hm'
  refine ⟨q1, ?_⟩
  show rt m = true ↔ m = R0
  rcases q2 with g | g | g
  · rw [← HH.2.1.1]; exact (hb.2.1 m g).2
  · rw [← HH.2.1.2.1]; exact (hl.2.1 m g).2
  · rw [← HH.2.1.2.2]; exact (hr.2.1 m g).2
theorem p_mgKeep {h : tpH} {x p D mk n : Nat} {kd idn : Nat → Int32} {dr : Option mT} {r : mRe} {rt : Nat → Bool} (hP : stP h x p D mk kd idn dr r n) (hxp : x < p) (hpD : p + 101 ≤ D) (hDz : D ≤ hZ h) (hm : mIn mk kd rt dr r) (hn : n ≤ 184001) (hlt : r.1.length < 40) {i1 i2 i3 a1 a2 a3 k1 k2 k3 R0 : Nat} {t1 t2 t3 : mT} (f1 : r.1[i1]? = some t1) (f2 : r.1[i2]? = some t2) (f3 : r.1[i3]? = some t3) (r1 : hR h (p + 35) i1 = some a1) (r2 : hR h (p + 35) i2 = some a2) (r3 : hR h (p + 35) i3 = some a3) (l1 : lTr h a1 (pO t1).length k1 ∧ TrP (hI h) a1 t1 k1 ∧ k1 ≤ 300 ∧ (∀ m, tIn t1 m = true → m < k1) ∧ D ≤ a1 ∧ a1 + 19 ≤ hZ h) (l2 : lTr h a2 (pO t2).length k2 ∧ TrP (hI h) a2 t2 k2 ∧ k2 ≤ 300 ∧ (∀ m, tIn t2 m = true → m < k2) ∧ D ≤ a2 ∧ a2 + 19 ≤ hZ h) (l3 : lTr h a3 (pO t3).length k3 ∧ TrP (hI h) a3 t3 k3 ∧ k3 ≤ 300 ∧ (∀ m, tIn t3 m = true → m < k3) ∧ D ≤ a3 ∧ a3 + 19 ≤ hZ h) (eR : tRt t1 = R0 ∧ tRt t2 = R0 ∧ tRt t3 = R0) {R : tpH → Int32 → tpH → Prop} (kk : ∀ h1 h' n' e0 e1, hR h1 x = hR h x → stP h' x p D mk kd idn dr (r.1 ++ [mgRes r.2.2.2.1 mk R0 t1 t2 t3 (loK kd)], r.2.1, r.2.2.1, r.2.2.2.1, mgCfl r.2.2.2.1 mk R0 t1 t2 t3 (loK kd), r.2.2.2.2.2) n' → n ≤ n' ∧ n' ≤ 184001 → cfE p D (hZ h) e0 e1 → hFr h h' (mkT x p (hZ h) e0 e1) (mkU p r.1.length) → hZ h' ≤ hZ h + 19 + (n' - n) → hU h' ≤ hU h + 2728 + 4 * (n' - n) → R h1 (nI r.1.length) h') : w_Mg_mergeTrees (p + 69) (some a1) (some a2) (some a3) h (fun v h1 => hT h1 x = 13 ∧ w_TP_keepTree x v h1 (R h1)) := by
  obtain ⟨P1, P2, P3, P4, P5⟩ := id hP
  obtain ⟨H1, H2, H3, H4, H5, H6, H7, H8⟩ := id P5
  obtain ⟨C1, C2, ⟨C3, C4⟩, e0, e1, ⟨C5, C6, C7⟩, ⟨C8, C9, C10⟩, ⟨C11, C12⟩, C13⟩ := id H6
  have E : cfE p D (hZ h) e0 e1 := ⟨C6, C9, C11, C7, C10, hpD, hDz⟩
  have I1 := hm.2.2.1 t1 (List.mem_of_getElem? f1)
  have I2 := hm.2.2.1 t2 (List.mem_of_getElem? f2)
  have I3 := hm.2.2.1 t3 (List.mem_of_getElem? f3)
  have HH : mgH mk R0 t1 t2 t3 := ⟨⟨I1.1, I2.1, I3.1⟩, eR, hm.1, fun m g => (I1.2.1 m g).1, fun m g => (I2.2.1 m g).1, fun m g => (I3.2.1 m g).1⟩
  have TX : ∀ {i a k : Nat} {t : mT}, trI mk kd rt t → hR h (p + 35) i = some a → (lTr h a (pO t).length k ∧ TrP (hI h) a t k ∧ k ≤ 300 ∧ (∀ m, tIn t m = true → m < k) ∧ D ≤ a ∧ a + 19 ≤ hZ h) → trX h D (hZ h) e0 e1 mk a k t := fun It hr l => ⟨l.1, ⟨l.2.2.1, l.2.2.2.2.1, l.2.2.2.2.2⟩, l.2.1, It.1, fun m g => ⟨(It.2.1 m g).1, l.2.2.2.1 m g⟩, (C12 _ _ hr).2.1, (C12 _ _ hr).2.2⟩
  have M : MG h x p D (hZ h) mk e0 e1 a1 k1 a2 k2 a3 k3 kd idn r.2.2.2.1 t1 t2 t3 := ⟨⟨⟨P1, hxp, E, Nat.le_refl _⟩, P2, hm.1, H5⟩, TX I1 r1 l1, TX I2 r2 l2, TX I3 r3 l3⟩
  have C : cfL h p (hZ h) e0 e1 r.2.2.2.2.1 n := ⟨e0, e1, ⟨C5, C7, Or.inl rfl⟩, ⟨C8, C10, Or.inl rfl⟩, C11, ⟨C1, C2, C3⟩, C13⟩
  refine p_mergeTrees M HH C ⟨C4, hn⟩ (fun h1 n1 a' v1 v2 v3 v4 v5 v6 v7 v8 v9 v10 => ?_)
  have L1 := v1.1.1.1
  have zz := v4.1
  have F1 := FoP_mt (cf := r.2.2.2.2.1) (n := n) H1 hxp hpD hDz C12 E v4
  have RI := mgRes_I HH r.2.2.2.1 I1 I2 I3
  refine ⟨L1.1, p_TP_keepTree L1 hxp hpD (by omega) F1 hlt (by omega) v5.2.2 v6 v7 hm.1 (fun m g => (RI.2.1 m g).1) (fun h2 z2 u2 g2 w2 F2 => ?_)⟩
  have fA : hFr h h2 (mkT x p (hZ h) e0 e1) (mkU p r.1.length) := hFr_mono (hFr_tr v4 g2) (fun _ _ _ g => g) (fun _ _ _ g => g)
  unfold cfE at E
  have eI : ∀ c, (p ≤ c ∧ c < p + 20) ∨ (p + 35 ≤ c ∧ c < p + 72) ∨ (p + 90 ≤ c ∧ c < p + 101) → hI h2 c = hI h c := fun c hc => funext fun j => (fA.2 c (by omega)).2.2.2.2.1 j (fun g => by unfold mkT mtT at g; omega)
  have ex : ∀ j, j ≠ 4 → hI h2 x j = hI h x j := fun j hj => (fA.2 x (by omega)).2.2.2.2.1 j (fun g => by unfold mkT mtT at g; omega)
  have e35 : ∀ i, i ≠ r.1.length → hR h2 (p + 35) i = hR h (p + 35) i := fun i hi => (fA.2 (p + 35) (by omega)).2.2.2.2.2 i (fun g => by unfold mkU cfU at g; omega)
  have old : ∀ i, i < r.1.length → hR h (p + 35) i ≠ some a' := fun i hi e => by
    obtain ⟨b, mk, b1, b2, b3, _⟩ := H1.2.2 i _ (List.getElem?_eq_getElem hi)
    rw [b1] at e
    have := Option.some.inj e
    omega
  have t0 : hT h e0 = 15 := C5.2.2.1
  have t1' : hT h e1 = 15 := C8.2.2.1
  have S15 : sm15 h h2 p D := ⟨by omega, by omega, fun c c1 c2 c3 => hFr_sS fA c2 (fun j g => by
    have n0 : c ≠ e0 := fun q => c3 (by rw [q]; exact t0)
    have n1 : c ≠ e1 := fun q => c3 (by rw [q]; exact t1')
    unfold mkT mtT at g; omega) (fun j g => by unfold mkU cfU at g; omega)⟩
  refine kk h1 h2 n1 e0 e1 (funext fun j => (v4.2 x (by omega)).2.2.2.2.2 j (fun g => by unfold cfU at g; omega)) ⟨lTP_hFr P1 hxp (by omega) fA (fun b j hb g => by unfold mkU cfU at g; omega), MaP_k P2 (fun c c1 c2 => eI c (by omega)), DrP_k P3 (fun c c1 c2 => eI c (by omega)), fun j hj => by rw [eI (p + 68) (by omega)]; exact P4 j hj, F2, ?_, ScP_s H3 S15 (ex 6 (by decide)) (fun i => (fA.2 (p + 36) (by omega)).2.2.2.2.2 i (fun g => by unfold mkU cfU at g; omega)), (ex 10 (by decide)).trans H4, fun k hk => by rw [eI (p + 71) (by omega)]; exact H5 k hk, ?_, HiP_fr H7 (by rw [eI _ (by omega)]) (fun b b1 b2 => eI b (by omega)), MiP_app (MiP_fr H8 (by omega) fA (fun b j b1 b2 g => by unfold mkT mtT at g; omega) (fun b j b1 b2 g => by unfold mkU cfU at g; omega) (fun i hi g => by unfold mkU cfU at g; omega)) _⟩ v3 E fA (by omega) (by omega)
  · intro i j hi hj e
    rw [List.length_append] at hi hj
    have hi : i < r.1.length + 1 := hi
    have hj : j < r.1.length + 1 := hj
    by_cases ci : i = r.1.length
    · by_cases cj : j = r.1.length
      · omega
      · rw [ci, w2, e35 j cj] at e
        exact absurd e.symm (old j (by omega))
    · by_cases cj : j = r.1.length
      · rw [cj, w2, e35 i ci] at e
        exact absurd e (old i (by omega))
      · rw [e35 i ci, e35 j cj] at e
        exact H2 i j (by omega) (by omega) e
  · obtain ⟨c, c', ⟨q1, q2, q3⟩, ⟨q4, q5, q6⟩, q7, ⟨q8, q9, q10⟩, q11⟩ := v2
    have sm : ∀ d, (d = p + 86 ∨ d = p + 88 ∨ d = c ∨ d = c') → hSm h1 h2 d := fun d hd => hFr_sS g2 (by omega) (fun j g => by omega) (fun j g => by omega)
    have s86 := sm (p + 86) (by omega)
    have s88 := sm (p + 88) (by omega)
    have sc := sm c (by omega)
    have sd := sm c' (by omega)
    have lc := v8 c (Or.inl q1.2.1)
    have ld := v8 c' (Or.inr q4.2.1)
    refine ⟨by rw [s86.2.2.2.1]; exact q8, by rw [s88.2.2.2.1]; exact q9, ⟨q10, by omega⟩, c, c', ⟨rwL_k q1 s86 sc, by omega, by omega⟩, ⟨rwL_k q4 s88 sd, by omega, by omega⟩, ⟨q7, fun i a ha => ?_⟩, fun i e hi => by rw [sc.2.2.2.1, sd.2.2.2.1]; exact q11 i e hi⟩
    by_cases ci : i = r.1.length
    · rw [ci, w2] at ha
      have := Option.some.inj ha
      omega
    · rw [e35 i ci] at ha
      have ap := C12 i a ha
      omega
end KEEPM
