section FD8
theorem rPut_nb {F : Nat → Nat → Int32} {c n : Nat} {i v : Int32} {b : Nat} (h : b ≠ c) : rPut F c n i v b = F b := by
  unfold rPut
  by_cases c1 : i < 0
  · rw [if_pos c1]
  · by_cases c2 : Int32.ofNat n ≤ i
    · rw [if_neg c1, if_pos c2]
    · rw [if_neg c1, if_neg c2, tpu_fa _ _ _ _ _ h]
def twR (F : Nat → Nat → Int32) (p : Nat) (u : mT) (P : mP) : Prop := ∀ z, tIn u z = true → F (p + 63) (pl u z) = nI (twF P z) ∧ twF P z < 300
theorem p_rm13 {h0 : tpH} {x p D z0 mk a mk1 b mk2 : Nat} {t u : mT} {kd idn : Nat → Int32} {P : mP} {sa : Nat} {s : Option (List mSt)} {c : mT} {R : tpH → Prop} (fin : ∀ h', SS h' p D z0 sa s → fX h' x p D z0 mk a mk1 b mk2 t u kd idn P → hFr h0 h' (fdTz p z0) (fun c _ => z0 ≤ c) → hZ h' = hZ h0 → hU h' = hU h0 → BuP (hI h') (p + 20) c → hI h' (p + 20) 8 = nI (tRt c) → (s ≠ none → ∀ m, m < 300 → (hI h' (p + 65) m = 0 ↔ kpB u P m = false)) → hT h' (p + 61) = 2 ∧ (∃ a6, (hR h' (p + 61) 1) = some a6 ∧ hT h' a6 = 1 ∧ (∃ n, w_Fi_removeOthers_63 R n (p + 61) (some sa) (hI h' a6 9) (hI h' a6 8) (0 : Int32) h'))) :
    ∀ (n j : Nat) (h : tpH), j ≤ (pO u).length → (pO u).length < n + j → SS h p D z0 sa s → fX h x p D z0 mk a mk1 b mk2 t u kd idn P → hFr h0 h (fdTz p z0) (fun c _ => z0 ≤ c) → hZ h = hZ h0 → hU h = hU h0 → BuP (hI h) (p + 20) c → hI h (p + 20) 8 = nI (tRt c) → (s ≠ none → twR (hI h) p u P ∧ ∀ m, m < 300 → (hI h (p + 65) m = 0 ↔ ¬ ∃ z, tIn u z = true ∧ pl u z < j ∧ twF P z = m)) → w_Fi_removeOthers_13 R n (p + 61) (some b) (some sa) (nI j) h
  | 0, j, h, h1, h2, S, X, f, zz, uu, hB, h8, V => by omega
  | n + 1, j, h, h1, h2, S, X, f, zz, uu, hB, h8, V => by
    obtain ⟨lm, lb, lt, lf⟩ := fX_l X
    obtain ⟨⟨l0, x1, x2, x3, x4⟩, _, _, ⟨b1, b2, b3, b4, b5⟩, _, _, ⟨hw, hu, HP⟩⟩ := id X
    have l4 := pO_le hu
    obtain ⟨g0, g1, g2, g3, ⟨g4, s4⟩, ⟨g5, s5⟩, _⟩ := id lf
    refine ⟨b, rfl, b1.1, ?_⟩
    rw [b5.1]
    by_cases hj : j < (pO u).length
    · obtain ⟨z, ez, pz, hz, _⟩ := dr_cons hu hj
      refine ⟨fun g => absurd ((nI_le_iff (by omega) (by omega)).mp g) (by omega), fun _ => ⟨g0, p + 61 + 1, g4, s4.1, p_at s4 (by decide) ⟨p + 61 + 3, g5, s5.1, p_put s5 (by decide) ?_⟩⟩⟩
      have ev : rAt (hI h (p + 61 + 2)) 300 (nI j) = hI h (p + 63) j := by rw [rAt_n (by omega) (by decide), show p + 61 + 2 = p + 63 by omega]
      rw [ev, nI_1, show p + 61 + 4 = p + 65 by omega]
      have o : ∀ d, d ≠ p + 65 → rPut (hI h) (p + 65) 300 (hI h (p + 63) j) 1 d = hI h d := fun d hd => rPut_nb hd
      have f1 : hFr h (wI h (rPut (hI h) (p + 65) 300 (hI h (p + 63) j) 1)) (fdT p) no2 := hFr_w h _ (fun d k hd => by unfold fdT at hd; rw [o d (by omega)])
      refine p_rm13 fin n (j + 1) _ (by omega) (by omega) (SS_fr S (by omega) x2 x3 f1) (fX_fr X (hFr_mono f1 (fun _ _ _ g => Or.inl g) (fun _ _ _ g => g.elim))) (hFr_mono (hFr_tr f f1) (fun _ _ _ g => g.elim id Or.inl) (fun _ _ _ g => g.elim id (fun g => g.elim))) zz uu (BuP_k hB (fun d d1 d2 => o d (by omega))) (by rw [wI_I, o _ (by omega)]; exact h8) (fun ne => ?_)
      obtain ⟨W, V2⟩ := V ne
      refine ⟨fun z' hz' => by rw [wI_I, o _ (by omega)]; exact W z' hz', fun m hm => ?_⟩
      rw [wI_I, show hI h (p + 63) j = nI (twF P z) from by rw [← pz]; exact (W z hz).1, rPut_n (W z hz).2 (by decide)]
      by_cases em : m = twF P z
      · rw [em, tpu_s]
        exact ⟨fun g => absurd g (by decide), fun g => absurd ⟨z, hz, by omega, rfl⟩ g⟩
      · rw [tpu_o (by omega), V2 m hm]
        refine ⟨fun g q => g ?_, fun g q => g ?_⟩
        · obtain ⟨z', q1, q2, q3⟩ := q
          refine ⟨z', q1, ?_, q3⟩
          have : pl u z' ≠ j := fun e => em (by rw [← q3, pl_inj hu q1 hz (by omega)])
          omega
        · obtain ⟨z', q1, q2, q3⟩ := q
          exact ⟨z', q1, by omega, q3⟩
    · refine ⟨fun _ => fin h S X f zz uu hB h8 (fun ne m hm => ?_), fun g => absurd ((nI_le_iff (by omega) (by omega)).mpr (by omega)) g⟩
      rw [(V ne).2 m hm]
      constructor
      · intro g
        refine Bool.eq_false_iff.mpr (fun q => g ?_)
        obtain ⟨y, y1, y2⟩ := (kpB_iff hu).mp q
        exact ⟨y, y1, by have := pl_lt hu y1; omega, y2⟩
      · rintro g ⟨y, y1, _, y2⟩
        rw [(kpB_iff hu).mpr ⟨y, y1, y2⟩] at g
        cases g
theorem p_rm63 {h0 : tpH} {x p D z0 mk a mk1 b mk2 : Nat} {t u : mT} {kd idn : Nat → Int32} {P : mP} {sa : Nat} {s : Option (List mSt)} {c : mT} (hc : tWF 300 c) {R : tpH → Prop} {KR : (Nat → Int32) → Prop} (fin : ∀ h', SS h' p D z0 sa s → fX h' x p D z0 mk a mk1 b mk2 t u kd idn P → hFr h0 h' (fdTz p z0) (fun c _ => z0 ≤ c) → hZ h' = hZ h0 → hU h' = hU h0 → BuP (hI h') (p + 20) c → KR (hI h' (p + 65)) → (∀ j m, (pO c)[j]? = some m → hI h' (p + 67) j = nI m) → (∃ n, w_Fi_removeOthers_115 R n (p + 61) (some sa) (nI (pO c).length - (1 : Int32)) h')) :
    ∀ (n i : Nat) (h : tpH), i ≤ (pO c).length → (pO c).length < n + i → SS h p D z0 sa s → fX h x p D z0 mk a mk1 b mk2 t u kd idn P → hFr h0 h (fdTz p z0) (fun c _ => z0 ≤ c) → hZ h = hZ h0 → hU h = hU h0 → BuP (hI h) (p + 20) c → hI h (p + 20) 8 = nI (tRt c) → KR (hI h (p + 65)) → (∀ j m, j < i → (pO c)[j]? = some m → hI h (p + 67) j = nI m) → w_Fi_removeOthers_63 R n (p + 61) (some sa) (nI (pO c).length) (headO ((pO c).drop i)) (nI i) h
  | 0, i, h, h1, h2, S, X, f, zz, uu, hB, h8, kr, V => by omega
  | n + 1, i, h, h1, h2, S, X, f, zz, uu, hB, h8, kr, V => by
    obtain ⟨lm, lb, lt, lf⟩ := fX_l X
    obtain ⟨⟨l0, x1, x2, x3, x4⟩, _⟩ := id X
    have l4 := pO_le hc
    obtain ⟨g0, g1, g2, g3, g4, g5, ⟨g6, s6⟩, _⟩ := id lf
    by_cases hi : i < (pO c).length
    · obtain ⟨m, em, pm, hm, _⟩ := dr_cons hc hi
      have m3 := hc.1.1 m hm
      rw [em]
      refine ⟨fun g => absurd ((nI_le_iff (by omega) (by omega)).mp g) (by omega), fun _ => ⟨fun g => absurd g (nI_ne_m (by omega)), fun _ => ⟨g0, p + 61 + 5, g6, s6.1, p_put s6 (by decide) ?_⟩⟩⟩
      show hT h (p + 61) = 2 ∧ (∃ a9, (hR h (p + 61) 1) = some a9 ∧ hT h a9 = 1 ∧ (w_Bu_nextInOrder a9 (nI m) (rPut (hI h) (p + 61 + 6) 300 (nI i) (nI m) a9 8) (wI h (rPut (hI h) (p + 61 + 6) 300 (nI i) (nI m))) _))
      refine ⟨g0, p + 20, g2, lb.1, ?_⟩
      rw [rPut_n (by omega) (by decide), show p + 61 + 6 = p + 67 by omega, tpu_o (by omega), h8]
      have o : ∀ d, d ≠ p + 67 → tpu (hI h) (p + 67) i (nI m) d = hI h d := fun d hd => tpu_fa _ _ _ _ _ hd
      have hB1 : BuP (tpu (hI h) (p + 67) i (nI m)) (p + 20) c := BuP_k hB (fun d d1 d2 => o d (by omega))
      have f1 : hFr h (wI h (tpu (hI h) (p + 67) i (nI m))) (fdT p) no2 := hFr_w h _ (fun d k hd => by unfold fdT at hd; rw [o d (by omega)])
      have hA : tPo c (tRt c) = (pO c).take i ++ m :: (pO c).drop (i + 1) := by
        rw [← em, List.take_append_drop]
        rfl
      refine p_Bu_nextInOrder lb (BuP_L hB1) hc.1 hc.2.1 hA ?_
      rw [nI_1]
      refine p_rm63 hc fin n (i + 1) _ (by omega) (by omega) (SS_fr S (by omega) x2 x3 f1) (fX_fr X (hFr_mono f1 (fun _ _ _ g => Or.inl g) (fun _ _ _ g => g.elim))) (hFr_mono (hFr_tr f f1) (fun _ _ _ g => g.elim id Or.inl) (fun _ _ _ g => g.elim id (fun g => g.elim))) zz uu hB1 (by rw [wI_I, o _ (by omega)]; exact h8) (by rw [wI_I, o _ (by omega)]; exact kr) (fun j m' hj hm' => ?_)
      rw [wI_I]
      by_cases e : j = i
      · rw [e, tpu_s]
        have : (pO c)[i]? = some m := by rw [← pm]; exact pO_at hc hm
        rw [e, this] at hm'
        rw [Option.some.inj hm']
      · rw [tpu_o (by omega)]
        exact V j m' (by omega) hm'
    · have ei : i = (pO c).length := by omega
      have F := fin h S X f zz uu hB kr (fun j m hj => V j m (by rw [ei]; exact (List.getElem?_eq_some_iff.mp hj).1) hj)
      rw [List.drop_eq_nil_of_le (by omega)]
      exact ⟨fun _ => F, fun g => ⟨fun _ => F, fun q => absurd rfl q⟩⟩
theorem p_rmAll {h : tpH} {x p D z0 mk a mk1 b mk2 : Nat} {t u : mT} {kd idn : Nat → Int32} {P : mP} (X : fX h x p D z0 mk a mk1 b mk2 t u kd idn P) {sa : Nat} {s : Option (List mSt)} (S : SS h p D z0 sa s) {c : mT} (hc : tWF 300 c) (hB : BuP (hI h) (p + 20) c) (h8 : hI h (p + 20) 8 = nI (tRt c)) {wv : Nat → Int32} (V : s ≠ none → rmH (kpB u P) c ∧ twR (hI h) p u P ∧ ∀ m, tIn c m = true → kpB u P m = false → tWo c m = wv m) {R : tpH → Prop} (fin : ∀ h', SS h' p D z0 sa ((pO c).reverse.foldl (rmS (kpB u P) wv) (c, s)).2 → fX h' x p D z0 mk a mk1 b mk2 t u kd idn P → hFr h h' (fdTz p z0) (fun c _ => z0 ≤ c) → hZ h' + 3 * bz s ≤ hZ h + 3 * bz ((pO c).reverse.foldl (rmS (kpB u P) wv) (c, s)).2 → hU h' + 12 * bz s ≤ hU h + 12 * bz ((pO c).reverse.foldl (rmS (kpB u P) wv) (c, s)).2 → R h') : w_Fi_removeOthers (p + 61) (some b) (some sa) h R := by
  obtain ⟨lm, lb, lt, lf⟩ := fX_l X
  obtain ⟨⟨l0, x1, x2, x3, x4⟩, _⟩ := id X
  obtain ⟨g0, g1, g2, g3, g4, ⟨g5, s5⟩, _⟩ := id lf
  have z3 : (300 : Int32) = nI 300 := rfl
  refine ⟨g0, p + 61 + 3, g5, s5.1, ?_⟩
  rw [z3]
  refine p_fill s5 (by decide) (Nat.le_refl _) ⟨(pO u).length + 1, ?_⟩
  rw [show p + 61 + 4 = p + 65 by omega]
  have o : ∀ d, d ≠ p + 65 → rFill (hI h) (p + 65) 300 0 d = hI h d := fun d hd => funext fun j => by rw [rFill_ne hd]
  have f1 : hFr h (wI h (rFill (hI h) (p + 65) 300 0)) (fdT p) no2 := hFr_w h _ (fun d k hd => by unfold fdT at hd; rw [o d (by omega)])
  have f1' : hFr h (wI h (rFill (hI h) (p + 65) 300 0)) (fdTz p z0) (fun c _ => z0 ≤ c) := hFr_mono f1 (fun _ _ _ g => Or.inl g) (fun _ _ _ g => g.elim)
  have zw : hZ (wI h (rFill (hI h) (p + 65) 300 0)) = hZ h := rfl
  refine p_rm13 (h0 := h) (c := c) (fun h2 S2 X2 f2 z2 u2 hB2 h82 K2 => ?_) _ 0 _ (Nat.zero_le _) (by omega) (SS_fr S (by omega) x2 x3 f1) (fX_fr X f1') f1' rfl rfl (BuP_k hB (fun d d1 d2 => o d (by omega))) (by rw [wI_I, o _ (by omega)]; exact h8) (fun ne => ⟨fun z hz => by rw [wI_I, o _ (by omega)]; exact (V ne).2.1 z hz, fun m hm => by
    rw [wI_I, rFill_in hm]
    exact ⟨fun _ q => by obtain ⟨_, _, q, _⟩ := q; omega, fun _ => rfl⟩⟩)
  obtain ⟨lm2, lb2, lt2, lf2⟩ := fX_l X2
  refine ⟨lf2.1, p + 20, lf2.2.2.1, lb2.1, (pO c).length + 1, ?_⟩
  rw [h82, hB2.1, ← pO_len hc]
  have hd0 : nI (tRt c) = headO ((pO c).drop 0) := by
    rw [List.drop_zero]
    show nI (tRt c) = headO (tPo c (tRt c))
    rw [tPo_eq hc.1.2.2.2.1]
    rfl
  rw [hd0]
  refine p_rm63 (h0 := h) hc (KR := fun F => s ≠ none → ∀ m, m < 300 → (F m = 0 ↔ kpB u P m = false)) (fun h3 S3 X3 f3 z3 u3 hB3 K3 O3 => ⟨(pO c).length + 1, ?_⟩) _ 0 h2 (Nat.zero_le _) (by omega) S2 X2 f2 z2 u2 hB2 h82 K2 (fun j m hj => absurd hj (Nat.not_lt_zero _))
  rw [Int32.sub_eq_add_neg]
  cases s with
  | none =>
    have e0 : ((pO c).reverse.foldl (rmS (kpB u P) wv) (c, none)).2 = none := by rw [rmS_n]
    rw [e0] at fin
    have sT : hT h3 sa = 9 := S3.2.1
    have pos := pl_lt hc hc.2.1
    rw [show nI (pO c).length + (-1 : Int32) = nI ((pO c).length - 1) from nI_dn (by omega)]
    have l4 := pO_le hc
    refine ⟨fun g => absurd g (nI_pos (by omega)), fun _ => ⟨sa, rfl, sT, p_too S3 (fun l el => by cases el) (fun _ => ⟨fun _ => fin h3 S3 X3 f3 (by omega) (by omega), fun g => absurd g (by decide)⟩)⟩⟩
  | some l =>
    obtain ⟨H, W, hv⟩ := V (by intro g; cases g)
    have f0 : hFr h3 h3 (fdTz p z0) (fun c _ => z0 ≤ c) := ⟨Nat.le_refl _, fun _ _ => ⟨rfl, rfl, rfl, rfl, fun _ _ => rfl, fun _ _ => rfl⟩⟩
    have bl : bz (some l) = l.length := rfl
    exact p_rm115 (h0 := h3) (kz := 3 * l.length) (ku := 12 * l.length) H wv hv (fun h4 S4 X4 f4 z4 u4 => fin h4 S4 X4 (hFr_mono (hFr_tr f3 f4) (fun _ _ _ g => g.elim id id) (fun _ _ _ g => g.elim id id)) (by omega) (by omega)) _ (pO c).length c (some l) h3 (Nat.lt_succ_self _) (Nat.le_refl _) (by rw [List.take_length]) S3 X3 f0 (by omega) (by omega) (fun _ => ⟨rm_0 H, hB3, O3, fun m hm => K3 (by intro g; cases g) m hm⟩)
end FD8
