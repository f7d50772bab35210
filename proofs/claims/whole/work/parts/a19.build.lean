section BUILD
def no2 : Nat → Nat → Prop := fun _ _ => False
theorem fNT_no (p D : Nat) : fNT p D no2 no2 := fun _ _ _ => ⟨fun g => g, fun g => g⟩
/-- a new step -/
theorem p_St_new {h : tpH} {p D : Nat} (hz : p + 101 ≤ hZ h) (hD : D ≤ hZ h) {k m : Nat} {wb wa : Int32} {w g : mSp} {u v : Nat} (hu : SpP h p D u w) (hv : SpP h p D v g) {R : tpH → Prop} (kk : ∀ h', StP h' p D (hZ h) (k, m, wb, wa, w, g) → hFr h h' no2 no2 → hZ h' = hZ h + 1 → hU h' = hU h + 6 → R h') : w_St_init (hZ h) (nI k) (nI m) wb wa (some u) (some v) (nC h 11 0 6) R := by
  have t0 : hT (nC h 11 0 6) (hZ h) = 11 := tpn_s _ _ _
  refine ⟨t0, fun h2 e2 h4 e4 h6 e6 h8 e8 h10 e10 h12 e12 => ?_⟩
  have eT : hT h12 = tpn (hT h) (hZ h) 11 := by rw [e12, e10, e8, e6, e4, e2]; rfl
  have eL : hL h12 = tpn (hL h) (hZ h) 0 := by rw [e12, e10, e8, e6, e4, e2]; rfl
  have eJ : hJ h12 = tpn (hJ h) (hZ h) (fun _ => 0) := by rw [e12, e10, e8, e6, e4, e2]; rfl
  have eF : hF h12 = tpn (hF h) (hZ h) (fun _ => 0) := by rw [e12, e10, e8, e6, e4, e2]; rfl
  have eI : hI h12 = tpu (tpu (tpu (tpu (tpn (hI h) (hZ h) (fun _ => 0)) (hZ h) 0 (nI k)) (hZ h) 1 (nI m)) (hZ h) 2 wb) (hZ h) 3 wa := by rw [e12, e10, e8, e6, e4, e2]; rfl
  have eR : hR h12 = tpu (tpu (tpn (hR h) (hZ h) (fun _ => none)) (hZ h) 4 (some u)) (hZ h) 5 (some v) := by rw [e12, e10, e8, e6, e4, e2]; rfl
  have eZ : hZ h12 = hZ h + 1 := by rw [e12, e10, e8, e6, e4, e2]; rfl
  have eU : hU h12 = hU h + 6 := by rw [e12, e10, e8, e6, e4, e2]; rfl
  have f : hFr h h12 no2 no2 := by
    refine ⟨by omega, fun b hb => ⟨by rw [eT, tpn_n _ _ _ _ (by omega)], by rw [eL, tpn_n _ _ _ _ (by omega)], by rw [eJ, tpn_n _ _ _ _ (by omega)], by rw [eF, tpn_n _ _ _ _ (by omega)], fun j _ => ?_, fun j _ => ?_⟩⟩
    · rw [eI, tpu_fa _ _ _ _ _ (by omega), tpu_fa _ _ _ _ _ (by omega), tpu_fa _ _ _ _ _ (by omega), tpu_fa _ _ _ _ _ (by omega), tpn_n _ _ _ _ (by omega)]
    · rw [eR, tpu_fa _ _ _ _ _ (by omega), tpu_fa _ _ _ _ _ (by omega), tpn_n _ _ _ _ (by omega)]
  refine kk h12 ⟨⟨hD, by omega⟩, by rw [eT, tpn_s], ?_, ?_, ?_, ?_, ⟨u, ?_, SpP_fr hu hz f (fNT_no p D)⟩, v, ?_, SpP_fr hv hz f (fNT_no p D)⟩ f eZ eU
  · rw [eI]; simp [tpu]
  · rw [eI]; simp [tpu]
  · rw [eI]; simp [tpu]
  · rw [eI]; simp [tpu]
  · rw [eR]; simp [tpu]
  · rw [eR]; simp [tpu]
/-- a script that is being made: a row for n steps -/
def ScB (h : tpH) (p D z0 a n : Nat) (l : List mSt) : Prop := (D ≤ z0 ∧ z0 ≤ a ∧ a < hZ h) ∧ hT h a = 9 ∧ hI h a 1 = nI l.length ∧ ∃ c, hR h a 0 = some c ∧ (z0 ≤ c ∧ c < hZ h) ∧ hT h c = 20 ∧ l.length ≤ n ∧ hL h c = n ∧ n ≤ 100 ∧ ∀ (j : Nat) (e : mSt), l[j]? = some e → ∃ b, hR h c j = some b ∧ StP h p D b e
theorem ScB_O {h : tpH} {p D z0 a n : Nat} {l : List mSt} (H : ScB h p D z0 a n l) : ScO h p D a l := by
  obtain ⟨⟨H0, H1, H2⟩, H3, H4, c, H5, H6, H7, H8, H9, H10, H11⟩ := H
  exact ⟨by omega, H3, H4, c, H5, by omega, H7, by omega, by omega, H11⟩
theorem ScB_fr {h h' : tpH} {p D z0 a n : Nat} {l : List mSt} (H : ScB h p D z0 a n l) (hz : p + 101 ≤ hZ h) {T U : Nat → Nat → Prop} (f : hFr h h' T U) (nt : fNT p D T U) : ScB h' p D z0 a n l := by
  obtain ⟨⟨H0, H1, H2⟩, H3, H4, c, H5, H6, H7, H8, H9, H10, H11⟩ := H
  obtain ⟨a1, a2, a3, a4, a5, a6⟩ := f.2 a H2
  obtain ⟨c1, c2, c3, c4, c5, c6⟩ := f.2 c H6.2
  have := f.1
  refine ⟨⟨H0, H1, by omega⟩, a1.trans H3, (a5 1 (nt a 1 (Or.inl (by omega))).1).trans H4, c, (a6 0 (nt a 0 (Or.inl (by omega))).2).trans H5, by omega, c1.trans H7, H8, c2.trans H9, H10, fun j e hj => ?_⟩
  obtain ⟨b, b1, b2⟩ := H11 j e hj
  exact ⟨b, (c6 j (nt c j (Or.inl (by omega))).2).trans b1, StP_fr b2 hz f nt⟩
theorem SpP_f2 {h h' : tpH} {p D b : Nat} {s : mSp} {T U : Nat → Nat → Prop} (H : SpP h p D b s) (hz : p + 101 ≤ hZ h) (a : hFr h h' T U) (n : ∀ x j, hT h x = 10 ∨ hT h x = 11 → ¬ T x j ∧ ¬ U x j) : SpP h' p D b s := by
  obtain ⟨H1, H2, H3, H4, H5⟩ := H
  have hb : b < hZ h := by omega
  obtain ⟨a1, a2, a3, a4, a5, a6⟩ := a.2 b hb
  have := a.1
  exact ⟨by omega, a1.trans H2, (a5 0 (n b 0 (Or.inl H2)).1).trans H3, (a5 1 (n b 1 (Or.inl H2)).1).trans H4, (a5 2 (n b 2 (Or.inl H2)).1).trans H5⟩
theorem StP_f2 {h h' : tpH} {p D b : Nat} {e : mSt} {T U : Nat → Nat → Prop} (H : StP h p D b e) (hz : p + 101 ≤ hZ h) (a : hFr h h' T U) (n : ∀ x j, hT h x = 10 ∨ hT h x = 11 → ¬ T x j ∧ ¬ U x j) : StP h' p D b e := by
  obtain ⟨H1, H2, H3, H4, H5, H6, ⟨u, H7, H8⟩, v, H9, H10⟩ := H
  obtain ⟨a1, a2, a3, a4, a5, a6⟩ := a.2 b H1.2
  have := a.1
  exact ⟨by omega, a1.trans H2, (a5 0 (n b 0 (Or.inr H2)).1).trans H3, (a5 1 (n b 1 (Or.inr H2)).1).trans H4, (a5 2 (n b 2 (Or.inr H2)).1).trans H5, (a5 3 (n b 3 (Or.inr H2)).1).trans H6, ⟨u, (a6 4 (n b 4 (Or.inr H2)).2).trans H7, SpP_f2 H8 hz a n⟩, v, (a6 5 (n b 5 (Or.inr H2)).2).trans H9, SpP_f2 H10 hz a n⟩
theorem p_Sc_add {h : tpH} {p D z0 a n b : Nat} {l : List mSt} {e : mSt} (H : ScB h p D z0 a n l) (hz : p + 101 ≤ hZ h) (hl : l.length < n) (he : StP h p D b e) {R : tpH → Prop} (kk : ∀ h', ScB h' p D z0 a n (l ++ [e]) → hFr h h' (fun x _ => z0 ≤ x) (fun x _ => z0 ≤ x) → hZ h' = hZ h → hU h' = hU h → R h') : w_Sc_add a (some b) h R := by
  obtain ⟨⟨H0, H1, H2⟩, H3, H4, c, H5, H6, H7, H8, H9, H10, H11⟩ := H
  have eo : Int32.ofNat n = nI n := rfl
  refine ⟨H3, c, H5, H7, fun g => ?_, fun _ => ⟨?_, b, rfl, he.2.1, fun h10 e10 => ⟨?_, fun h2 e2 => ?_⟩⟩⟩
  · rw [H9, H4, eo] at g
    exact absurd ((nI_le_iff (by omega) (by omega)).mp g) (by omega)
  · rw [H9, H4]; exact vp_in_nI hl (by omega)
  · rw [e10]; exact H3
  · rw [H4, nI_clamp (by omega)] at e10
    have eI : hI h2 = tpu (hI h) a 1 (nI (l.length + 1)) := by
      rw [e2, e10]
      show tpu (hI h) a 1 (hI h a 1 + 1) = _
      rw [H4, nI_1]
    have eR : hR h2 = tpu (hR h) c l.length (some b) := by rw [e2, e10]; rfl
    have f : hFr h h2 (fun x j => x = a ∧ j = 1) (fun x j => x = c ∧ j = l.length) := by
      refine ⟨by rw [e2, e10]; exact Nat.le_refl _, fun x hx => ⟨by rw [e2, e10]; rfl, by rw [e2, e10]; rfl, by rw [e2, e10]; rfl, by rw [e2, e10]; rfl, fun j hj => ?_, fun j hj => ?_⟩⟩
      · rw [eI]; simp only [tpu]; rw [if_neg hj]
      · rw [eR]; simp only [tpu]; rw [if_neg hj]
    have nt : ∀ x j, hT h x = 10 ∨ hT h x = 11 → ¬ (x = a ∧ j = 1) ∧ ¬ (x = c ∧ j = l.length) := fun x j hx => by
      constructor
      · rintro ⟨rfl, _⟩; omega
      · rintro ⟨rfl, _⟩; omega
    have eZ : hZ h2 = hZ h := by rw [e2, e10]; rfl
    have eT : hT h2 = hT h := by rw [e2, e10]; rfl
    have eL : hL h2 = hL h := by rw [e2, e10]; rfl
    refine kk h2 ⟨⟨H0, H1, by omega⟩, by rw [eT]; exact H3, by rw [eI, tpu_s, List.length_append]; rfl, c, ?_, by omega, by rw [eT]; exact H7, by rw [List.length_append]; exact hl, by rw [eL]; exact H9, H10, fun j e' hj => ?_⟩ (hFr_mono f (fun x j _ g => by omega) (fun x j _ g => by omega)) eZ (by rw [e2, e10]; rfl)
    · rw [eR]
      have hac : a ≠ c := fun g => by rw [g] at H3; omega
      rw [tpu_fa _ _ _ _ _ hac]
      exact H5
    · by_cases cj : j < l.length
      · rw [List.getElem?_append_left cj] at hj
        obtain ⟨b', b1, b2⟩ := H11 j e' hj
        exact ⟨b', by rw [eR, tpu_j _ _ _ _ _ _ (by omega)]; exact b1, StP_f2 b2 hz f nt⟩
      · rw [List.getElem?_append_right (by omega)] at hj
        have hjl := (List.getElem?_eq_some_iff.mp hj).1
        have ej : j = l.length := by simp at hjl; omega
        subst ej
        rw [Nat.sub_self] at hj
        simp only [List.getElem?_cons_zero, Option.some.injEq] at hj
        subst hj
        exact ⟨b, by rw [eR, tpu_s], StP_f2 he hz f nt⟩
/-- a new script -/
theorem p_Sc_new {h : tpH} {p D n : Nat} (hD : D ≤ hZ h) (hn : n ≤ 100) {R : tpH → Prop} (kk : ∀ h', ScB h' p D (hZ h) (hZ h) n [] → hFr h h' no2 no2 → hZ h' = hZ h + 2 → hU h' = hU h + 2 + n → R h') : w_Sc_init (hZ h) (nI n) (nC h 9 0 2) R := by
  have key : ∀ t0 : Int32, t0 = nI n → w_Sc_init_14 R t0 (some (hZ h)) (nC h 9 0 2) := fun t0 e0 => by
    subst e0
    refine ⟨nI_pos (by omega), by rw [nI_clamp (by omega)]; omega, fun a3 h4 ea e4 => ⟨hZ h, rfl, ?_, fun h10 e10 => ?_⟩⟩
    · rw [e4]
      show tpn (tpn (hT h) (hZ h) 9) (hZ h + 1) 20 (hZ h) = 9
      rw [tpn_n _ _ _ _ (by omega), tpn_s]
    · have ea : a3 = hZ h + 1 := ea
      rw [nI_clamp (by omega)] at e4
      have eT : hT h10 = tpn (tpn (hT h) (hZ h) 9) (hZ h + 1) 20 := by rw [e10, e4]; rfl
      have eL : hL h10 = tpn (tpn (hL h) (hZ h) 0) (hZ h + 1) n := by rw [e10, e4]; rfl
      have eJ : hJ h10 = tpn (tpn (hJ h) (hZ h) (fun _ => 0)) (hZ h + 1) (fun _ => 0) := by rw [e10, e4]; rfl
      have eF : hF h10 = tpn (tpn (hF h) (hZ h) (fun _ => 0)) (hZ h + 1) (fun _ => 0) := by rw [e10, e4]; rfl
      have eI : hI h10 = tpn (tpn (hI h) (hZ h) (fun _ => 0)) (hZ h + 1) (fun _ => 0) := by rw [e10, e4]; rfl
      have eR : hR h10 = tpu (tpn (tpn (hR h) (hZ h) (fun _ => none)) (hZ h + 1) (fun _ => none)) (hZ h) 0 (some a3) := by rw [e10, e4]; rfl
      have eZ : hZ h10 = hZ h + 2 := by rw [e10, e4]; rfl
      refine kk h10 ⟨⟨hD, Nat.le_refl _, by omega⟩, by rw [eT, tpn_n _ _ _ _ (by omega), tpn_s], by rw [eI, tpn_n _ _ _ _ (by omega), tpn_s]; rfl, a3, by rw [eR, tpu_s], by omega, by rw [eT, ea, tpn_s], Nat.zero_le _, by rw [eL, ea, tpn_s], hn, fun j e hj => by simp at hj⟩ ?_ eZ (by rw [e10, e4]; rfl)
      refine ⟨by omega, fun b hb => ⟨by rw [eT, tpn_n _ _ _ _ (by omega), tpn_n _ _ _ _ (by omega)], by rw [eL, tpn_n _ _ _ _ (by omega), tpn_n _ _ _ _ (by omega)], by rw [eJ, tpn_n _ _ _ _ (by omega), tpn_n _ _ _ _ (by omega)], by rw [eF, tpn_n _ _ _ _ (by omega), tpn_n _ _ _ _ (by omega)], fun j _ => ?_, fun j _ => ?_⟩⟩
      · rw [eI, tpn_n _ _ _ _ (by omega), tpn_n _ _ _ _ (by omega)]
      · rw [eR, tpu_fa _ _ _ _ _ (by omega), tpn_n _ _ _ _ (by omega), tpn_n _ _ _ _ (by omega)]
  refine ⟨fun e => key 0 ?_, fun _ => key _ rfl⟩
  have : n = 0 := by
    have := (nI_le_iff (a := n) (b := 0) (by omega) (by decide)).mp e
    omega
  rw [this]; rfl
theorem p_stepAt {h : tpH} {p D a : Nat} {s : List mSt} (H : ScO h p D a s) (hs : s.length ≤ 100) {j : Nat} {e : mSt} (hj : s[j]? = some e) {R : Option Nat → tpH → Prop} (kk : ∀ b, StP h p D b e → R (some b) h) : w_Sc_stepOrNull a (nI j) h R := by
  obtain ⟨c0, c1, c2, c, c3, c4, c5, c6, c7, c8⟩ := H
  have hjl := (List.getElem?_eq_some_iff.mp hj).1
  obtain ⟨b, d1, d2⟩ := c8 j e hj
  refine ⟨fun e => absurd e (nI_pos (by omega)), fun _ => ⟨c1, fun e => ?_, fun _ => ⟨c, c3, c5, fun e => ?_, fun _ => ⟨vp_in_nI (by omega) (by omega), ?_⟩⟩⟩⟩
  · rw [c2] at e
    exact absurd ((nI_le_iff (by omega) (by omega)).mp e) (by omega)
  · exact absurd ((nI_le_iff (by omega) (by omega)).mp e) (by omega)
  · rw [nI_clamp (by omega), d1]
    exact kk b d2
/-! steps turned back -/
def bkK (k : Nat) : Nat := if k = 1 then 3 else if k = 3 then 1 else k
def tnS (e : mSt) : mSt := (bkK e.1, e.2.1, e.2.2.2.1, e.2.2.1, e.2.2.2.2.2, e.2.2.2.2.1)
def tnL (s : List mSt) : List mSt := s.reverse.map tnS
theorem p_St_turnedBack {h : tpH} {p D b : Nat} {e : mSt} (H : StP h p D b e) (hk : e.1 ≤ 3) (hz : p + 101 ≤ hZ h) (hD : D ≤ hZ h) {R : Option Nat → tpH → Prop} (kk : ∀ h', StP h' p D (hZ h) (tnS e) → hFr h h' no2 no2 → hZ h' = hZ h + 1 → hU h' = hU h + 6 → R (some (hZ h)) h') : w_St_turnedBack b h R := by
  obtain ⟨H1, H2, H3, H4, H5, H6, ⟨u, H7, H8⟩, v, H9, H10⟩ := H
  have key : ∀ t0 : Int32, t0 = nI (bkK e.1) → w_St_turnedBack_28 R b t0 h := fun t0 e0 a1 h2 ea eh => by
    subst ea
    subst eh
    subst e0
    have hne : b ≠ hZ h := by omega
    have eT : hT (nC h 11 0 6) b = 11 := by show tpn (hT h) (hZ h) 11 b = 11; rw [tpn_n _ _ _ _ hne]; exact H2
    have eI : hI (nC h 11 0 6) b = hI h b := tpn_n _ _ _ _ hne
    have eR : hR (nC h 11 0 6) b = hR h b := tpn_n _ _ _ _ hne
    refine ⟨eT, ?_⟩
    rw [eI, eR, H4, H5, H6, H7, H9]
    exact p_St_new hz hD H10 H8 kk
  refine ⟨H2, fun n1 => ⟨fun n3 => key _ ?_, fun e3 => key _ ?_⟩, fun e1 => key _ ?_⟩
  · rw [H3] at n1 n3 ⊢
    have m1 : e.1 ≠ 1 := fun g => n1 (by rw [g]; rfl)
    have m3 : e.1 ≠ 3 := fun g => n3 (by rw [g]; rfl)
    unfold bkK
    rw [if_neg m1, if_neg m3]
  · rw [H3] at n1 e3
    have m1 : e.1 ≠ 1 := fun g => n1 (by rw [g]; rfl)
    have m3 : e.1 = 3 := nI_inj (by omega) (by decide) e3
    unfold bkK
    rw [if_neg m1, if_pos m3]
    rfl
  · rw [H3] at e1
    have m1 : e.1 = 1 := nI_inj (by omega) (by decide) e1
    unfold bkK
    rw [if_pos m1]
    rfl
theorem p_tb19 {h0 : tpH} {p D o : Nat} {s : List mSt} (H0 : ScO h0 p D o s) (hs : s.length ≤ 100) (hk : ∀ e ∈ s, e.1 ≤ 3) (hz : p + 101 ≤ D) (hD : D ≤ hZ h0) {n : Nat} (hn : s.length ≤ n) {a : Nat} {R : Option Nat → tpH → Prop} (kk : ∀ h', ScB h' p D (hZ h0) a n (tnL s) → hFr h0 h' no2 no2 → hZ h' = hZ h0 + 2 + s.length → hU h' = hU h0 + 2 + n + 6 * s.length → R (some a) h') :
    ∀ (m i : Nat) (h : tpH), i < m → i ≤ s.length → ScB h p D (hZ h0) a n (((s.drop i).reverse).map tnS) → hFr h0 h no2 no2 → hZ h + i = hZ h0 + 2 + s.length → hU h + 6 * i = hU h0 + 2 + n + 6 * s.length → w_Sc_turnedBack_19 R m o (some a) (nI i - 1) h
  | 0, i, h, h1, h2, hB, f, z, u => by omega
  | m + 1, 0, h, h1, h2, hB, f, z, u => by
    refine ⟨fun _ => kk h hB f z u, fun e => absurd (show nI 0 - 1 < 0 by decide) e⟩
  | m + 1, i + 1, h, h1, h2, hB, f, z, u => by
    have e1 : nI (i + 1) - 1 = nI i := nI_pred i
    rw [e1]
    have hi := List.getElem?_eq_getElem (l := s) (i := i) (by omega)
    generalize s[i] = e at hi
    have hO : ScO h p D o s := ScO_fr H0 (by omega) f (fNT_no p D)
    have hdrop : (s.drop i).reverse.map tnS = ((s.drop (i + 1)).reverse.map tnS) ++ [tnS e] := by
      have : s.drop i = e :: s.drop (i + 1) := by
        rw [List.drop_eq_getElem_cons (show i < s.length by omega)]
        rw [List.getElem?_eq_getElem (show i < s.length by omega)] at hi
        rw [Option.some.inj hi]
      rw [this, List.reverse_cons, List.map_append]
      rfl
    refine ⟨fun g => absurd g (nI_pos (by omega)), fun _ => ⟨hO.2.1, p_stepAt hO hs hi (fun b hb => ⟨fun g => by simp at g, fun _ => ⟨b, rfl, hb.2.1, ?_⟩⟩)⟩⟩
    refine p_St_turnedBack hb (hk e (List.mem_of_getElem? hi)) (by omega) (by omega) (fun h' s1 f1 z1 u1 => ⟨a, rfl, ?_, ?_⟩)
    · exact (ScB_fr hB (by omega) f1 (fNT_no p D)).2.1
    · have hB1 := ScB_fr hB (by omega) f1 (fNT_no p D)
      have ll : (((s.drop (i + 1)).reverse).map tnS).length = s.length - (i + 1) := by rw [List.length_map, List.length_reverse, List.length_drop]
      refine p_Sc_add hB1 (by omega) (by omega) s1 (fun h2 B2 f2 z2 u2 => ?_)
      rw [← hdrop] at B2
      have ef : hFr h0 h2 no2 no2 := hFr_mono (hFr_tr (hFr_tr f f1) f2) (fun x j hx g => by
        rcases g with (g | g) | g
        · exact g
        · exact g
        · exact absurd g (by omega)) (fun x j hx g => by
        rcases g with (g | g) | g
        · exact g
        · exact g
        · exact absurd g (by omega))
      have e3 : nI i + (-1) = nI i - 1 := (Int32.sub_eq_add_neg _ _).symm
      rw [e3]
      exact p_tb19 H0 hs hk hz hD hn kk m i h2 (by omega) (by omega) B2 ef (by omega) (by rw [Nat.mul_succ] at u; omega)
theorem p_Sc_turnedBack {h : tpH} {p D o : Nat} {s : List mSt} (H0 : ScO h p D o s) (hs : s.length ≤ 100) (hk : ∀ e ∈ s, e.1 ≤ 3) (hz : p + 101 ≤ D) (hD : D ≤ hZ h) {R : Option Nat → tpH → Prop} (kk : ∀ h', ScB h' p D (hZ h) (hZ h) s.length (tnL s) → hFr h h' no2 no2 → hZ h' = hZ h + 2 + s.length → hU h' = hU h + 2 + s.length + 6 * s.length → R (some (hZ h)) h') : w_Sc_turnedBack o h R := by
  intro a1 h2 ea eh
  subst ea
  subst eh
  have ho := H0.1
  have eI : hI (nC h 9 0 2) o = hI h o := tpn_n _ _ _ _ (by omega)
  have eT : hT (nC h 9 0 2) o = hT h o := tpn_n _ _ _ _ (by omega)
  refine ⟨by rw [eT]; exact H0.2.1, ?_⟩
  rw [eI, H0.2.2.1]
  refine p_Sc_new (p := p) hD hs (fun h' B f z u => ?_)
  have hO : ScO h' p D o s := ScO_fr H0 (by omega) f (fNT_no p D)
  refine ⟨hO.2.1, s.length + 1, ?_⟩
  rw [hO.2.2.1]
  refine p_tb19 H0 hs hk hz hD (Nat.le_refl _) kk (s.length + 1) s.length h' (by omega) (Nat.le_refl _) ?_ f (by omega) (by omega)
  rw [List.drop_length]
  exact B
end BUILD
