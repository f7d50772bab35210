section FD3
/-! the class finds: what stands while it does -/
def fdT (p c _j : Nat) : Prop := (p + 20 ≤ c ∧ c < p + 35) ∨ (p + 61 ≤ c ∧ c ≤ p + 67)
def fX (h : tpH) (x p D z0 mk a mk1 b mk2 : Nat) (t u : mT) (kd idn : Nat → Int32) (P : mP) : Prop :=
  (lTP h x p ∧ (x < p ∧ p + 101 ≤ D ∧ D ≤ z0 ∧ z0 ≤ hZ h)) ∧ (MaP (hI h) p mk kd idn ∧ noP h p) ∧ (lTr h a (pO t).length mk1 ∧ mk1 ≤ 300 ∧ D ≤ a ∧ a + 19 ≤ z0 ∧ TrP (hI h) a t mk1) ∧ (lTr h b (pO u).length mk2 ∧ mk2 ≤ 300 ∧ D ≤ b ∧ b + 19 ≤ z0 ∧ TrP (hI h) b u mk2) ∧ McP (hI h) p t u P ∧ (mk ≤ 300 ∧ (∀ m, tIn t m = true → m < mk ∧ m < mk1) ∧ ∀ m, tIn u m = true → m < mk ∧ m < mk2) ∧ (tWF 300 t ∧ tWF 300 u ∧ fdP t u P)
theorem fX_fr {h h' : tpH} {x p D z0 mk a mk1 b mk2 : Nat} {t u : mT} {kd idn : Nat → Int32} {P : mP} (X : fX h x p D z0 mk a mk1 b mk2 t u kd idn P) (f : hFr h h' (fun c j => fdT p c j ∨ z0 ≤ c) (fun c _ => z0 ≤ c)) : fX h' x p D z0 mk a mk1 b mk2 t u kd idn P := by
  obtain ⟨⟨l, x1, x2, x3, x4⟩, ⟨m1, n1⟩, ⟨a1, a2, a3, a4, a5⟩, ⟨b1, b2, b3, b4, b5⟩, M, hk, rest⟩ := X
  have eI : ∀ c, c < z0 → ¬ ((p + 20 ≤ c ∧ c < p + 35) ∨ (p + 61 ≤ c ∧ c ≤ p + 67)) → hI h' c = hI h c := fun c hc hn => funext fun j => (f.2 c (by omega)).2.2.2.2.1 j (fun g => g.elim (fun q => hn q) (fun q => by omega))
  have eR : ∀ c, c < z0 → hR h' c = hR h c := fun c hc => funext fun j => (f.2 c (by omega)).2.2.2.2.2 j (fun g => by omega)
  have sm : ∀ c, c < z0 → ¬ ((p + 20 ≤ c ∧ c < p + 35) ∨ (p + 61 ≤ c ∧ c ≤ p + 67)) → hSm h h' c := fun c hc hn => ⟨(f.2 c (by omega)).1, (f.2 c (by omega)).2.1, eR c hc, eI c hc hn, (f.2 c (by omega)).2.2.1, (f.2 c (by omega)).2.2.2.1⟩
  refine ⟨⟨lTP_fr l ⟨(f.2 x (by omega)).1, eR x (by omega)⟩ (fun c c1 c2 => ⟨(f.2 c (by omega)).1, (f.2 c (by omega)).2.1, fun _ _ _ _ _ => eR c (by omega)⟩) (fun j _ => by rw [eR (p + 50) (by omega)]), x1, x2, x3, Nat.le_trans x4 f.1⟩, ⟨MaP_k m1 (fun c c1 c2 => eI c (by omega) (by omega)), fun j hj => by rw [eI (p + 68) (by omega) (by omega)]; exact n1 j hj⟩, ⟨lTr_k a1 (fun c c1 c2 => sm c (by omega) (by omega)), a2, a3, a4, TrP_kb (fun c c1 c2 => eI c (by omega) (by omega)) a5⟩, ⟨lTr_k b1 (fun c c1 c2 => sm c (by omega) (by omega)), b2, b3, b4, TrP_kb (fun c c1 c2 => eI c (by omega) (by omega)) b5⟩, ⟨fun z hz => by rw [eI (p + 52) (by omega) (by omega)]; exact M.1 z hz, fun z hz => by rw [eI (p + 54) (by omega) (by omega)]; exact M.2 z hz⟩, hk, rest⟩
theorem fX_l {h : tpH} {x p D z0 mk a mk1 b mk2 : Nat} {t u : mT} {kd idn : Nat → Int32} {P : mP} (X : fX h x p D z0 mk a mk1 b mk2 t u kd idn P) : lMa h p ∧ lBu h (p + 20) (some p) ∧ lMt h (p + 50) (some p) (some (p + 37)) ∧ lFi h (p + 61) (some p) (some (p + 20)) (some (p + 50)) := by
  obtain ⟨t0, m0, m1, c0, c1, c2, c3, c4, c5, c6, c7, l0, l1, v0, v1, f0, f1, _⟩ := X.1.1
  exact ⟨m1, c3, v1, f1⟩
theorem fX_no {h : tpH} {x p D z0 mk a mk1 b mk2 : Nat} {t u : mT} {kd idn : Nat → Int32} {P : mP} (X : fX h x p D z0 mk a mk1 b mk2 t u kd idn P) : SpP h p D (p + 68) nwh := by
  obtain ⟨_, _, _, f1⟩ := fX_l X
  obtain ⟨g0, g1, g2, g3, g4, g5, g6, g7, g8⟩ := f1
  have n1 := X.2.1.2
  exact ⟨Or.inl rfl, g8, n1 0 (by decide), n1 1 (by decide), n1 2 (by decide)⟩
theorem p_spot {h : tpH} {p D : Nat} {c : mT} {m pp : Nat} {A B : List Nat} (l : lBu h (p + 20) (some p)) (hD : p + 101 ≤ D) (hDz : D ≤ hZ h) (hB : BuP (hI h) (p + 20) c) (hw : fWF 300 c) (e : tKi c pp = A ++ m :: B) {R : Option Nat → tpH → Prop} (kk : ∀ h', SpP h' p D (hZ h) (spO c m) → hFr h h' no2 no2 → hZ h' = hZ h + 1 → hU h' = hU h + 3 → R (some (hZ h)) h') : w_Bu_spotOf (p + 20) (nI m) h R := by
  have hmk := (hw.2.1 m pp).mp (by rw [e]; exact List.mem_append_right _ List.mem_cons_self)
  have m3 := hw.1 m hmk.1
  have hpp := hw.2.2.2.2 m pp hmk.1 hmk.2
  have sm : ∀ b, b < hZ h → hSm h (nC h 10 0 3) b := fun b hb => hSm_nC h 10 0 3 b hb
  have l2 : lBu (nC h 10 0 3) (p + 20) (some p) := lBu_k l (fun b b1 b2 => sm b (by omega))
  obtain ⟨t0, r0, r1, r2, ⟨r3, s3⟩, r4, r5, ⟨r6, s6⟩, ⟨r7, s7⟩⟩ := id l2
  have eI : ∀ b, b < hZ h → hI (nC h 10 0 3) b = hI h b := fun b hb => (sm b hb).2.2.2.1
  obtain ⟨n1, n2, _⟩ := hB.2.2 m hmk.1
  have ah := bu_ah hB hpp e
  have sp := sp_at hw e
  have v1 : rAt (hI (nC h 10 0 3) (p + 20 + 6)) 300 (nI m) = nO (some pp) := by rw [rAt_n m3 (by decide), eI _ (by omega), n2, hmk.2]
  have v2 : rAt (hI (nC h 10 0 3) (p + 20 + 12)) 300 (nI m) = nO A.getLast? := by rw [rAt_n m3 (by decide), eI _ (by omega), ah.1]; rfl
  have v3 : rAt (hI (nC h 10 0 3) (p + 20 + 14)) 300 (nI m) = nO B.head? := by rw [rAt_n m3 (by decide), eI _ (by omega), ah.2]; rfl
  intro a1 h2 e1 e2
  subst e1 e2
  refine ⟨t0, p + 20 + 5, r3, s3.1, p_at s3 (by decide) ⟨t0, p + 20 + 11, r6, s6.1, p_at s6 (by decide) ⟨t0, p + 20 + 13, r7, s7.1, p_at s7 (by decide) ?_⟩⟩⟩
  rw [v1, v2, v3]
  have tn : hT (nC h 10 0 3) (hZ h) = 10 := tpn_s _ _ _
  refine ⟨tn, tn, fun h2 e2 h4 e4 h6 e6 => ?_⟩
  have eI6 : hI h6 = tpu (tpu (tpu (hI (nC h 10 0 3)) (hZ h) 0 (nO (some pp))) (hZ h) 1 (nO A.getLast?)) (hZ h) 2 (nO B.head?) := by rw [e6, e4, e2]; rfl
  have eT : hT h6 = hT (nC h 10 0 3) := by rw [e6, e4, e2]; rfl
  have eL : hL h6 = hL (nC h 10 0 3) := by rw [e6, e4, e2]; rfl
  have eR : hR h6 = hR (nC h 10 0 3) := by rw [e6, e4, e2]; rfl
  have eJ : hJ h6 = hJ (nC h 10 0 3) := by rw [e6, e4, e2]; rfl
  have eF : hF h6 = hF (nC h 10 0 3) := by rw [e6, e4, e2]; rfl
  have eZ : hZ h6 = hZ h + 1 := by rw [e6, e4, e2]; rfl
  have eU : hU h6 = hU h + 3 := by rw [e6, e4, e2]; rfl
  have f : hFr h h6 no2 no2 := ⟨by omega, fun b hb => by
    obtain ⟨q1, q2, q3, q4, q5, q6⟩ := sm b hb
    refine ⟨by rw [eT]; exact q1, by rw [eL]; exact q2, by rw [eJ]; exact q5, by rw [eF]; exact q6, fun j _ => ?_, fun j _ => by rw [eR, q3]⟩
    rw [eI6, tpu_fa _ _ _ _ _ (by omega), tpu_fa _ _ _ _ _ (by omega), tpu_fa _ _ _ _ _ (by omega), q4]⟩
  refine kk h6 ⟨Or.inr ⟨hDz, by omega⟩, by rw [eT]; exact tn, ?_, ?_, ?_⟩ f eZ eU
  · rw [eI6, tpu_o (by omega), tpu_o (by omega), tpu_s]
    show nO (some pp) = nO (tUp c m)
    rw [sp.1]
  · rw [eI6, tpu_o (by omega), tpu_s]
    show nO A.getLast? = nO (prv c m)
    rw [sp.2.1]
  · rw [eI6, tpu_s]
    show nO B.head? = nO (nxt c m)
    rw [sp.2.2]
/-! the script that grows -/
def ScT (h : tpH) (z0 a : Nat) : Prop := (z0 ≤ a ∧ a < hZ h) ∧ hT h a = 9 ∧ hI h a 1 = nI 101 ∧ ∃ c, hR h a 0 = some c ∧ (z0 ≤ c ∧ c < hZ h) ∧ hT h c = 20 ∧ hL h c = 100
def SS (h : tpH) (p D z0 a : Nat) (s : Option (List mSt)) : Prop := match s with
  | some l => ScB h p D z0 a 100 l
  | none => ScT h z0 a
def addO (l : List mSt) (e : mSt) : Option (List mSt) := if l.length < 100 then some (l ++ [e]) else none
def bz (s : Option (List mSt)) : Nat := match s with
  | some l => l.length
  | none => 101
theorem bz_add {l : List mSt} (h : l.length ≤ 100) (e : mSt) : bz (addO l e) = l.length + 1 := by
  unfold addO
  by_cases c : l.length < 100
  · rw [if_pos c]
    show (l ++ [e]).length = _
    rw [List.length_append]
    rfl
  · rw [if_neg c]
    show 101 = _
    omega
theorem p_addO {h : tpH} {p D z0 a b : Nat} {l : List mSt} {e : mSt} (H : ScB h p D z0 a 100 l) (hz : p + 101 ≤ hZ h) (he : StP h p D b e) {R : tpH → Prop} (kk : ∀ h', SS h' p D z0 a (addO l e) → hFr h h' (fun x _ => z0 ≤ x) (fun x _ => z0 ≤ x) → hZ h' = hZ h → hU h' = hU h → R h') : w_Sc_add a (some b) h R := by
  by_cases c : l.length < 100
  · refine p_Sc_add H hz c he (fun h' q1 q2 q3 q4 => kk h' ?_ q2 q3 q4)
    unfold addO
    rw [if_pos c]
    exact q1
  · obtain ⟨⟨H0, H1, H2⟩, H3, H4, c', H5, H6, H7, H8, H9, H10, H11⟩ := H
    have el : l.length = 100 := by omega
    refine ⟨H3, c', H5, H7, fun _ => ⟨H3, fun h2 e2 => ?_⟩, fun g => ?_⟩
    · have eI : hI h2 = tpu (hI h) a 1 (nI 101) := by
        rw [e2]
        show tpu (hI h) a 1 (hI h a 1 + 1) = _
        rw [H4, el, nI_1]
      have eT : hT h2 = hT h := by rw [e2]; rfl
      have eL : hL h2 = hL h := by rw [e2]; rfl
      have eR : hR h2 = hR h := by rw [e2]; rfl
      have eZ : hZ h2 = hZ h := by rw [e2]; rfl
      refine kk h2 ?_ ⟨by rw [eZ]; exact Nat.le_refl _, fun x hx => ⟨by rw [eT], by rw [eL], by rw [e2]; rfl, by rw [e2]; rfl, fun j hj => ?_, fun j _ => by rw [eR]⟩⟩ eZ (by rw [e2]; rfl)
      · unfold addO
        rw [if_neg c]
        exact ⟨⟨H1, by rw [eZ]; exact H2⟩, by rw [eT]; exact H3, by rw [eI, tpu_s], c', by rw [eR]; exact H5, ⟨H6.1, by rw [eZ]; exact H6.2⟩, by rw [eT]; exact H7, by rw [eL]; exact H9⟩
      · rw [eI, tpu_fa _ _ _ _ _ (by omega)]
    · rw [H9, H4, el] at g
      exact absurd (Int32.le_refl _) g
theorem p_too {h : tpH} {p D z0 a : Nat} {s : Option (List mSt)} (H : SS h p D z0 a s) {R : Int32 → tpH → Prop} (k0 : ∀ l, s = some l → R 0 h) (k1 : s = none → R 1 h) : w_Sc_isTooLong a h R := by
  cases s with
  | some l =>
    obtain ⟨⟨H0, H1, H2⟩, H3, H4, c', H5, H6, H7, H8, H9, H10, H11⟩ := H
    have eo : Int32.ofNat 100 = nI 100 := rfl
    refine ⟨H3, c', H5, H7, ?_⟩
    rw [H4, H9, eo]
    exact ⟨fun _ => k0 l rfl, fun g => absurd ((nI_le_iff (by omega) (by omega)).mpr H8) g⟩
  | none =>
    obtain ⟨H0, H3, H4, c', H5, H6, H7, H9⟩ := H
    have eo : Int32.ofNat 100 = nI 100 := rfl
    refine ⟨H3, c', H5, H7, ?_⟩
    rw [H4, H9, eo]
    exact ⟨fun g => absurd ((nI_le_iff (by omega) (by omega)).mp g) (by omega), fun _ => k1 rfl⟩
theorem SS_fr {h h' : tpH} {p D z0 a : Nat} {s : Option (List mSt)} (H : SS h p D z0 a s) (hz : p + 101 ≤ hZ h) (hD : p + 101 ≤ D) (hDz : D ≤ z0) (f : hFr h h' (fdT p) no2) : SS h' p D z0 a s := by
  cases s with
  | some l => exact ScB_fr H hz f (fun c j hc => ⟨fun g => by unfold fdT at g; omega, fun g => g.elim⟩)
  | none =>
    obtain ⟨⟨H0, H1⟩, H3, H4, c', H5, H6, H7, H9⟩ := H
    have z := f.1
    have q := f.2 a (by omega)
    have q' := f.2 c' (by omega)
    exact ⟨⟨H0, by omega⟩, by rw [q.1]; exact H3, by rw [q.2.2.2.2.1 1 (fun g => by unfold fdT at g; omega)]; exact H4, c', by rw [q.2.2.2.2.2 0 (fun g => g.elim)]; exact H5, ⟨H6.1, by omega⟩, by rw [q'.1]; exact H7, by rw [q'.2.1]; exact H9⟩
end FD3
