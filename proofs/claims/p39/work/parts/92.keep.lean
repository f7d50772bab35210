section KEEP
def hRx (h h' : tpH) : tpH := (hT h', hL h', hR h', hI h, hJ h, hF h, hZ h', hU h')
theorem lTP_fr {h h' : tpH} {x p : Nat} (M : lTP h x p) (kx : hT h' x = hT h x ∧ hR h' x = hR h x) (k : ∀ b, p ≤ b → b < p + 101 → hT h' b = hT h b ∧ hL h' b = hL h b ∧ (b ≠ p + 35 → b ≠ p + 36 → b ≠ p + 50 → b ≠ p + 86 → b ≠ p + 88 → hR h' b = hR h b))
    (k50 : ∀ j, j < 7 → hR h' (p + 50) j = hR h (p + 50) j) : lTP h' x p := by
  have s : ∀ b, p ≤ b → b < p + 101 → b ≠ p + 35 → b ≠ p + 36 → b ≠ p + 50 → b ≠ p + 86 → b ≠ p + 88 → hSm h (hRx h h') b := fun b b1 b2 n1 n2 n3 n4 n5 =>
    ⟨(k b b1 b2).1, (k b b1 b2).2.1, (k b b1 b2).2.2 n1 n2 n3 n4 n5, rfl, rfl, rfl⟩
  obtain ⟨t0, r0, o0, r1, o1, r2, o2, r3, o3, r5, o5, r7, o7, r8, o8, r9, o9, r11, o11, r12, o12⟩ := M
  obtain ⟨m0, m1, m2, w1, w2, w3, w4, w5⟩ := o8
  obtain ⟨g0, g1, g2, v1, v2, v3, v4, v5, v6, v7, v8, v9, v10⟩ := o11
  refine ⟨by rw [kx.1]; exact t0, by rw [kx.2]; exact r0, lMa_k (h' := hRx h h') o0 (fun b b1 b2 => s b (by omega) (by omega) (by omega) (by omega) (by omega) (by omega) (by omega)), by rw [kx.2]; exact r1, lBu_k (h' := hRx h h') o1 (fun b b1 b2 => s b (by omega) (by omega) (by omega) (by omega) (by omega) (by omega) (by omega)), by rw [kx.2]; exact r2, lBu_k (h' := hRx h h') o2 (fun b b1 b2 => s b (by omega) (by omega) (by omega) (by omega) (by omega) (by omega) (by omega)),
    by rw [kx.2]; exact r3, ⟨by rw [(k _ (by omega) (by omega)).1]; exact o3.1, by rw [(k _ (by omega) (by omega)).2.1]; exact o3.2⟩, by rw [kx.2]; exact r5, ⟨by rw [(k _ (by omega) (by omega)).1]; exact o5.1, by rw [(k _ (by omega) (by omega)).2.1]; exact o5.2⟩, by rw [kx.2]; exact r7, lLi_k (h' := hRx h h') o7 (fun b b1 b2 => s b (by omega) (by omega) (by omega) (by omega) (by omega) (by omega) (by omega)),
    by rw [kx.2]; exact r8, ?_, by rw [kx.2]; exact r9, lFi_k (h' := hRx h h') o9 (fun b b1 b2 => s b (by omega) (by omega) (by omega) (by omega) (by omega) (by omega) (by omega)), by rw [kx.2]; exact r11, ?_, by rw [kx.2]; exact r12, lHi_k (h' := hRx h h') o12 (fun b b1 b2 => s b (by omega) (by omega) (by omega) (by omega) (by omega) (by omega) (by omega))⟩
  · have rw8 : ∀ {r c n : Nat}, rwL h r c n → p + 50 < r → r < p + 61 → p + 50 < c → c < p + 61 → rwL (hRx h h') r c n := fun H a1 a2 a3 a4 => rwL_k H (s _ (by omega) (by omega) (by omega) (by omega) (by omega) (by omega) (by omega)) (s _ (by omega) (by omega) (by omega) (by omega) (by omega) (by omega) (by omega))
    exact ⟨by rw [(k _ (by omega) (by omega)).1]; exact m0, by rw [k50 0 (by decide)]; exact m1, by rw [k50 1 (by decide)]; exact m2, ⟨by rw [k50 2 (by decide)]; exact w1.1, rw8 w1.2 (by omega) (by omega) (by omega) (by omega)⟩, ⟨by rw [k50 3 (by decide)]; exact w2.1, rw8 w2.2 (by omega) (by omega) (by omega) (by omega)⟩, ⟨by rw [k50 4 (by decide)]; exact w3.1, rw8 w3.2 (by omega) (by omega) (by omega) (by omega)⟩, ⟨by rw [k50 5 (by decide)]; exact w4.1, rw8 w4.2 (by omega) (by omega) (by omega) (by omega)⟩, ⟨by rw [k50 6 (by decide)]; exact w5.1, rw8 w5.2 (by omega) (by omega) (by omega) (by omega)⟩⟩
  · have rw8 : ∀ {r c n : Nat}, rwL h r c n → p + 69 < r → r < p + 86 → p + 69 < c → c < p + 86 → rwL (hRx h h') r c n := fun H a1 a2 a3 a4 => rwL_k H (s _ (by omega) (by omega) (by omega) (by omega) (by omega) (by omega) (by omega)) (s _ (by omega) (by omega) (by omega) (by omega) (by omega) (by omega) (by omega))
    have e : hR h' (p + 69) = hR h (p + 69) := (k _ (by omega) (by omega)).2.2 (by omega) (by omega) (by omega) (by omega) (by omega)
    exact ⟨by rw [(k _ (by omega) (by omega)).1]; exact g0, by rw [e]; exact g1, by rw [e]; exact g2, ⟨by rw [e]; exact v1.1, rw8 v1.2 (by omega) (by omega) (by omega) (by omega)⟩, ⟨by rw [e]; exact v2.1, rw8 v2.2 (by omega) (by omega) (by omega) (by omega)⟩, ⟨by rw [e]; exact v3.1, rw8 v3.2 (by omega) (by omega) (by omega) (by omega)⟩, ⟨by rw [e]; exact v4.1, rw8 v4.2 (by omega) (by omega) (by omega) (by omega)⟩, ⟨by rw [e]; exact v5.1, rw8 v5.2 (by omega) (by omega) (by omega) (by omega)⟩, ⟨by rw [e]; exact v6.1, rw8 v6.2 (by omega) (by omega) (by omega) (by omega)⟩, ⟨by rw [e]; exact v7.1, rw8 v7.2 (by omega) (by omega) (by omega) (by omega)⟩, ⟨by rw [e]; exact v8.1, rw8 v8.2 (by omega) (by omega) (by omega) (by omega)⟩, ⟨by rw [e]; exact v9.1, by rw [(k _ (by omega) (by omega)).1]; exact v9.2⟩, ⟨by rw [e]; exact v10.1, by rw [(k _ (by omega) (by omega)).1]; exact v10.2⟩⟩
def hFr (h h' : tpH) (T U : Nat → Nat → Prop) : Prop :=
  hZ h ≤ hZ h' ∧ ∀ b, b < hZ h → hT h' b = hT h b ∧ hL h' b = hL h b ∧ hJ h' b = hJ h b ∧ hF h' b = hF h b ∧ (∀ j, ¬ T b j → hI h' b j = hI h b j) ∧ (∀ j, ¬ U b j → hR h' b j = hR h b j)
theorem hFr_w (h : tpH) {G : Nat → Nat → Int32} {T : Nat → Nat → Prop} (U : Nat → Nat → Prop) (hk : ∀ b j, ¬ T b j → G b j = hI h b j) : hFr h (wI h G) T U :=
  ⟨Nat.le_refl _, fun b _ => ⟨rfl, rfl, rfl, rfl, fun j hj => hk b j hj, fun j _ => rfl⟩⟩
theorem hFr_tr {h h' h'' : tpH} {T U T' U' : Nat → Nat → Prop} (a : hFr h h' T U) (b : hFr h' h'' T' U') : hFr h h'' (fun x j => T x j ∨ T' x j) (fun x j => U x j ∨ U' x j) :=
  ⟨Nat.le_trans a.1 b.1, fun x hx => by
    obtain ⟨a1, a2, a3, a4, a5, a6⟩ := a.2 x hx
    obtain ⟨b1, b2, b3, b4, b5, b6⟩ := b.2 x (Nat.lt_of_lt_of_le hx a.1)
    exact ⟨b1.trans a1, b2.trans a2, b3.trans a3, b4.trans a4, fun j hj => (b5 j (fun g => hj (Or.inr g))).trans (a5 j (fun g => hj (Or.inl g))), fun j hj => (b6 j (fun g => hj (Or.inr g))).trans (a6 j (fun g => hj (Or.inl g)))⟩⟩
theorem hFr_mono {h h' : tpH} {T U T' U' : Nat → Nat → Prop} (a : hFr h h' T U) (kT : ∀ b j, b < hZ h → T b j → T' b j) (kU : ∀ b j, b < hZ h → U b j → U' b j) : hFr h h' T' U' :=
  ⟨a.1, fun b hb => by
    obtain ⟨a1, a2, a3, a4, a5, a6⟩ := a.2 b hb
    exact ⟨a1, a2, a3, a4, fun j hj => a5 j (fun g => hj (kT b j hb g)), fun j hj => a6 j (fun g => hj (kU b j hb g))⟩⟩
theorem hFr_sm {h h' : tpH} (hz : hZ h ≤ hZ h') (k : ∀ b, b < hZ h → hSm h h' b) (T U : Nat → Nat → Prop) : hFr h h' T U :=
  ⟨hz, fun b hb => by
    obtain ⟨a1, a2, a3, a4, a5, a6⟩ := k b hb
    exact ⟨a1, a2, a5, a6, fun j _ => by rw [a4], fun j _ => by rw [a3]⟩⟩
theorem hFr_sS {h h' : tpH} {T U : Nat → Nat → Prop} (a : hFr h h' T U) {b : Nat} (hb : b < hZ h) (nT : ∀ j, ¬ T b j) (nU : ∀ j, ¬ U b j) : hSm h h' b := by
  obtain ⟨a1, a2, a3, a4, a5, a6⟩ := a.2 b hb
  exact ⟨a1, a2, funext fun j => a6 j (nU j), funext fun j => a5 j (nT j), a3, a4⟩
theorem lTP_hFr {h h' : tpH} {x p : Nat} {T U : Nat → Nat → Prop} (M : lTP h x p) (hxp : x < p) (hz : p + 101 ≤ hZ h) (a : hFr h h' T U) (nU : ∀ b j, b < p + 101 → U b j → b = p + 35 ∨ b = p + 36 ∨ (b = p + 50 ∧ 7 ≤ j) ∨ b = p + 86 ∨ b = p + 88) : lTP h' x p := by
  refine lTP_fr M ⟨(a.2 x (by omega)).1, funext fun j => (a.2 x (by omega)).2.2.2.2.2 j (fun g => ?_)⟩ (fun b b1 b2 => ⟨(a.2 b (by omega)).1, (a.2 b (by omega)).2.1, fun n1 n2 n3 n4 n5 => funext fun j => (a.2 b (by omega)).2.2.2.2.2 j (fun g => ?_)⟩) (fun j hj => (a.2 (p + 50) (by omega)).2.2.2.2.2 j (fun g => ?_))
  · have := nU x j (by omega) g
    omega
  · have := nU b j (by omega) g
    omega
  · have := nU (p + 50) j (by omega) g
    omega
theorem FoP_fr {h h' : tpH} {x p D : Nat} {fr : List mT} {T U : Nat → Nat → Prop} (hF : FoP h (hI h) x p D fr) (hxD : x < D) (hpD : p + 101 ≤ D) (hDz : D ≤ hZ h) (a : hFr h h' T U) (n4 : ¬ T x 4) (nT : ∀ b j, D ≤ b → ¬ T b j) (nU : ∀ b j, D ≤ b → ¬ U b j) (n35 : ∀ i, i < fr.length → ¬ U (p + 35) i) : FoP h' (hI h') x p D fr := by
  refine ⟨((a.2 x (by omega)).2.2.2.2.1 4 n4).trans hF.1, hF.2.1, fun i t hi => ?_⟩
  obtain ⟨b, mk, b1, b2, b3, b4, b5, b6, b7⟩ := hF.2.2 i t hi
  have hil : i < fr.length := (List.getElem?_eq_some_iff.mp hi).1
  have sm : ∀ c, b ≤ c → c < b + 19 → hSm h h' c := fun c c1 c2 => hFr_sS a (by omega) (nT c · (by omega)) (nU c · (by omega))
  exact ⟨b, mk, ((a.2 (p + 35) (by omega)).2.2.2.2.2 i (n35 i hil)).trans b1, b2, Nat.le_trans b3 a.1, lTr_k b4 sm, TrP_k b5 (fun c c1 c2 => (sm c c1 c2).2.2.2.1), b6, b7⟩
theorem p_TP_needRoomForTree {h : tpH} {x p n : Nat} (l : lTP h x p) (h4 : hI h x 4 = nI n) (hn : n ≤ 40) {X : String → tpH → Prop} {R : tpH → Prop} (k1 : n < 40 → R h) (k2 : n = 40 → X "java/lang/IllegalStateException" (nC h 0 0 6)) : w_TP_needRoomForTree x h X R := by
  refine ⟨l.1, ?_⟩
  have e : (40 : Int32) = nI 40 := rfl
  rw [h4, e, nI_lt_iff (by omega) (by decide)]
  exact ⟨fun g => k1 g, fun g => k2 (by omega)⟩
theorem p_TP_keepTree {h : tpH} {x p D : Nat} {fr : List mT} (l : lTP h x p) (hxp : x < p) (hpD : p + 101 ≤ D) (hDz : D ≤ hZ h) (hF : FoP h (hI h) x p D fr) (hlt : fr.length < 40) {t : mT} {a mk : Nat} (ha : D ≤ a) (haz : a + 19 ≤ hZ h) (lt : lTr h a (pO t).length mk) (tp : TrP (hI h) a t mk) (hk : mk ≤ 300) (hmk : ∀ m, tIn t m = true → m < mk) {R : Int32 → tpH → Prop}
    (kk : ∀ h', hZ h' = hZ h → hU h' = hU h → hFr h h' (fun b j => b = x ∧ j = 4) (fun b j => b = p + 35 ∧ j = fr.length) → hR h' (p + 35) fr.length = some a → FoP h' (hI h') x p D (fr ++ [t]) → R (nI fr.length) h') : w_TP_keepTree x (some a) h R := by
  have e40 : Int32.ofNat 40 = nI 40 := rfl
  obtain ⟨t0, _, _, _, _, _, _, r3, o3, _⟩ := l
  refine ⟨t0, p + 35, r3, o3.1, ?_⟩
  rw [hF.1, o3.2, e40, nI_lt_iff (by omega) (by decide)]
  refine ⟨fun _ => ⟨vp_in_nI hlt (by decide), a, rfl, lt.1, fun h10 e10 h12 e12 => ?_⟩, fun e => absurd hlt e⟩
  rw [nI_clamp (by omega)] at e10
  have ez : hZ h12 = hZ h := by rw [e12, e10]; rfl
  have eu : hU h12 = hU h := by rw [e12, e10]; rfl
  have eI : hI h12 = tpu (hI h) x 4 (nI (fr.length + 1)) := by
    rw [e12]
    show tpu (hI h10) x 4 _ = _
    rw [e10]
    show tpu (hI h) x 4 (hI h x 4 + 1) = _
    rw [hF.1, nI_1]
  have eR : hR h12 = tpu (hR h) (p + 35) fr.length (some a) := by rw [e12, e10]; rfl
  have fr12 : hFr h h12 (fun b j => b = x ∧ j = 4) (fun b j => b = p + 35 ∧ j = fr.length) := by
    refine ⟨by omega, fun b hb => ⟨by rw [e12, e10]; rfl, by rw [e12, e10]; rfl, by rw [e12, e10]; rfl, by rw [e12, e10]; rfl, fun j hj => ?_, fun j hj => ?_⟩⟩
    · rw [eI]; simp only [tpu]; rw [if_neg hj]
    · rw [eR]; simp only [tpu]; rw [if_neg hj]
  have e35 : hR h12 (p + 35) fr.length = some a := by rw [eR]; exact tpu_s _ _ _ _
  have ev : hI h12 x 4 - 1 = nI fr.length := by rw [eI, tpu_s]; exact nI_pred _
  rw [ev]
  refine kk h12 ez eu fr12 e35 ⟨by rw [eI, tpu_s, List.length_append]; rfl, by rw [List.length_append]; exact hlt, fun i u hi => ?_⟩
  have sm : ∀ c b : Nat, D ≤ b → b ≤ c → b + 19 ≤ hZ h → c < b + 19 → hSm h h12 c := fun c b b0 b1 b2 b3 => hFr_sS fr12 (by omega) (fun j g => by omega) (fun j g => by omega)
  by_cases c : i < fr.length
  · rw [List.getElem?_append_left c] at hi
    obtain ⟨b, mk2, b1, b2, b3, b4, b5, b6, b7⟩ := hF.2.2 i u hi
    refine ⟨b, mk2, ?_, b2, by omega, lTr_k b4 (fun z z1 z2 => sm z b b2 z1 b3 z2), TrP_k b5 (fun z z1 z2 => (sm z b b2 z1 b3 z2).2.2.2.1), b6, b7⟩
    rw [eR]; simp only [tpu]; rw [if_neg (by omega)]; exact b1
  · rw [List.getElem?_append_right (by omega)] at hi
    have hi0 : i = fr.length := by
      have := (List.getElem?_eq_some_iff.mp hi).1
      simp at this
      omega
    subst hi0
    rw [Nat.sub_self] at hi
    simp only [List.getElem?_cons_zero, Option.some.injEq] at hi
    subst hi
    exact ⟨a, mk, e35, ha, by omega, lTr_k lt (fun z z1 z2 => sm z a ha z1 haz z2), TrP_k tp (fun z z1 z2 => (sm z a ha z1 haz z2).2.2.2.1), hk, hmk⟩
theorem p_TP_seal {h : tpH} {x p D mk : Nat} {fr : List mT} {dr : Option mT} (l : lTP h x p) (hxp : x < p) (hpD : p + 101 ≤ D) (hDz : D ≤ hZ h) (hF : FoP h (hI h) x p D fr) (hD : DrP (hI h) p dr) (h2 : hI h p 2 = nI mk) (hk : mk ≤ 300) (hdm : ∀ t, dr = some t → ∀ m, tIn t m = true → m < mk) {X : String → tpH → Prop} {R : Int32 → tpH → Prop}
    (x1 : (dr = none ∨ fr.length = 40) → X "java/lang/IllegalStateException" (nC h 0 0 6))
    (kk : ∀ t, dr = some t → fr.length < 40 → ∀ h', hZ h' = hZ h + 19 → hU h' = hU h + (28 + 8 * (pO t).length + mk) → hFr h h' (fun b j => b = x ∧ j = 4) (fun b j => b = p + 35 ∧ j = fr.length) → hR h' (p + 35) fr.length = some (hZ h) → FoP h' (hI h') x p D (fr ++ [t]) → R (nI fr.length) h') : w_TP_seal x h X R := by
  have l0 := l
  obtain ⟨t0, r0, o0, r1, o1, _⟩ := l
  refine ⟨t0, p + 5, r1, o1.1, ?_⟩
  cases dr with
  | none =>
    rw [hD.1]
    exact ⟨fun e => absurd rfl e, fun _ => x1 (Or.inl rfl)⟩
  | some t =>
    have hw := hD.2.2
    rw [hD.2.1]
    refine ⟨fun _ => p_TP_needRoomForTree l0 hF.1 hF.2.1 (fun hlt => ?_) (fun e => x1 (Or.inr e)), fun e => absurd e (nI_ne_m (by have := hw.1.1 _ hw.2.1; omega))⟩
    refine ⟨t0, p + 5, r1, o1.1, ?_⟩
    refine p_Bu_freeze (k := p + 0) o1 o0 hD.1 hD.2.1 h2 hw hk (hdm t rfl) (by omega) (by omega) (fun h' lt tp z' u' sm => ?_)
    have fr1 := hFr_sm (by omega) sm (fun _ _ => False) (fun _ _ => False)
    have l1 : lTP h' x p := lTP_hFr l0 hxp (by omega) fr1 (fun b j _ g => g.elim)
    have hF1 : FoP h' (hI h') x p D fr := FoP_fr hF (by omega) hpD hDz fr1 (fun g => g) (fun _ _ _ g => g) (fun _ _ _ g => g) (fun _ _ g => g)
    refine ⟨l1.1, p_TP_keepTree l1 hxp hpD (by omega) hF1 hlt hDz (by omega) lt tp hk (hdm t rfl) (fun h2' z2 u2 f2 r2 F2 => kk t rfl hlt h2' (by omega) (by omega) (hFr_mono (hFr_tr fr1 f2) (fun b j _ g => g.elim (fun q => q.elim) (fun q => q)) (fun b j _ g => g.elim (fun q => q.elim) (fun q => q))) r2 F2)⟩
end KEEP
