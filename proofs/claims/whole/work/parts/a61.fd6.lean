section FD6
theorem p_brPut {h : tpH} {x p D z0 mk a mk1 b mk2 : Nat} {t u : mT} {kd idn : Nat → Int32} {P : mP} (X : fX h x p D z0 mk a mk1 b mk2 t u kd idn P) {sa : Nat} {l : List mSt} (S : SS h p D z0 sa (some l)) {c : mT} (hB : BuP (hI h) (p + 20) c) (hw : tWF 300 c) {y r : Nat} (hy : tIn u y = true) (hn : tIn c y = false) (hr : tIn c r = true) (hrm : r < mk) {ao : Option Nat} (ha : ∀ d, ao = some d → d ∈ tKi c r) {R : tpH → Prop} (kk : ∀ h', SS h' p D z0 sa (addO l (1, y, -1, tWo u y, nwh, spO (dNode c y (tWo u y) r (loK kd r) (aK (tKi c r) ao)) y)) → BuP (hI h') (p + 20) (dNode c y (tWo u y) r (loK kd r) (aK (tKi c r) ao)) → hFr h h' (fdTz p z0) (fun c _ => z0 ≤ c) → (∀ j, hI h' (p + 63) j = if j = pl u y then nI y else hI h (p + 63) j) → hI h' (p + 20) 8 = hI h (p + 20) 8 → hZ h' = hZ h + 2 → hU h' = hU h + 9 → R h') : hT h b = 12 ∧ (w_Tr_markOf b (nI (pl u y)) h (fun v69 h68 => hT h68 (p + 61) = 2 ∧ (∃ a71, (hR h68 (p + 61) 3) = some a71 ∧ hT h68 a71 = 8 ∧ (w_Ro_put a71 (nI (pl u y)) v69 h68 (fun h74 => hT h74 (p + 61) = 2 ∧ (hT h74 b = 12 ∧ (w_Tr_worthOf b (nI (pl u y)) h74 (fun v78 h77 => ∃ a79, (hR h74 (p + 61) 1) = some a79 ∧ hT h77 a79 = 1 ∧ (w_Bu_sprout a79 v69 v78 h77 (fun h82 => hT h82 (p + 61) = 2 ∧ (∃ a84, (hR h82 (p + 61) 1) = some a84 ∧ hT h82 a84 = 1 ∧ (w_Bu_hang a84 v69 (nI r) (nO ao) h82 (fun h87 => ∀ a88 h89, a88 = hZ h87 → h89 = nC h87 11 0 6 → (hT h89 b = 12 ∧ (w_Tr_worthOf b (nI (pl u y)) h89 (fun v94 h93 => hT h93 (p + 61) = 2 ∧ (∃ a96, (hR h93 (p + 61) 1) = some a96 ∧ hT h93 a96 = 1 ∧ (w_Bu_spotOf a96 v69 h93 (fun v100 h99 => hT h99 a88 = 11 ∧ (w_St_init a88 (1 : Int32) v69 (-1 : Int32) v94 (hR h93 (p + 61) 6) v100 h99 (fun h102 => ∃ a103, some sa = some a103 ∧ hT h102 a103 = 9 ∧ (w_Sc_add a103 (some a88) h102 (fun h106 => R h106))))))))))))))))))))))) := by
  obtain ⟨lm, lb, lt, lf⟩ := fX_l X
  have x2 := X.1.2.2.1
  have x3 := X.1.2.2.2.1
  have x4 := X.1.2.2.2.2
  obtain ⟨_, _, _, ⟨b1, b2, b3, b4, b5⟩, _, _, _, hu, _⟩ := id X
  have py := pl_lt hu hy
  have l4 := pO_le hu
  have y3 := hu.1.1 y hy
  have ny : r ≠ y := fun g => by rw [g, hn] at hr; cases hr
  refine ⟨b1.1, ?_⟩
  show w_Tr_markOf b (nI (pl u y)) (wI h (hI h)) _
  rw [e_Tr_markOf b1 l4 b2, rAt_n py (by omega), (b5.2.1 y hy).1]
  obtain ⟨g0, g1, g2, g3, ⟨g4, s4⟩, _⟩ := id lf
  refine ⟨g0, p + 61 + 1, g4, s4.1, p_put (rwL_w s4) (by decide) ?_⟩
  rw [wI_I, wI_wI, rPut_n (by omega) (by decide)]
  generalize eF1 : tpu (hI h) (p + 61 + 2) (pl u y) (nI y) = F1
  have o1 : ∀ d, d ≠ p + 63 → F1 d = hI h d := fun d hd => by rw [← eF1, tpu_fa _ _ _ _ _ (by omega)]
  have r1 : ∀ j, F1 (p + 63) j = if j = pl u y then nI y else hI h (p + 63) j := fun j => by
    rw [← eF1]
    by_cases q : j = pl u y
    · rw [if_pos q, q, show p + 63 = p + 61 + 2 by omega, tpu_s]
    · rw [if_neg q, tpu_o (by omega)]
  refine ⟨g0, b1.1, ?_⟩
  rw [e_Tr_worthOf b1 l4 b2, rAt_n py (by omega), o1 (b + 4) (by omega), (b5.2.1 y hy).2.1]
  refine ⟨p + 20, g2, lb.1, ?_⟩
  rw [e_Bu_sprout lb]
  have hB1 : BuP F1 (p + 20) c := BuP_k hB (fun d d1 d2 => o1 d (by omega))
  have hB2 := bu_spr (w := tWo u y) hB1 hw.1 y3 hn
  have fr2 : ∀ d j, ¬ (p + 22 ≤ d ∧ d ≤ p + 34) → ¬ (d = p + 20 ∧ j = 9) → uSprout F1 (p + 20) (nI y) (tWo u y) d j = F1 d j := fun d j h1 h2 => spr_fr y3 (by omega) (by omega)
  generalize uSprout F1 (p + 20) (nI y) (tWo u y) = F2 at hB2 fr2
  have f2 : hFr h (wI h F2) (fdT p) no2 := hFr_w h _ (fun d j hd => by unfold fdT at hd; rw [fr2 d j (by omega) (by omega), o1 d (by omega)])
  have X2 := fX_fr X (hFr_mono f2 (fun _ _ _ g => Or.inl g) (fun _ _ _ g => g.elim))
  refine ⟨g0, p + 20, g2, lb.1, ?_⟩
  have hlo : F2 (p + 2) r < 4 ↔ loK kd r = false := by rw [← loK_iff]; exact iff_of_eq (congrArg (· < 4) (X2.2.1.1.2 r hrm).1)
  have eKr : tKi (tSpr c y (tWo u y)) r = tKi c r := mU_n _ _ ny
  refine p_cHang lb lm hB2 (fSpr hw.1 hn y3) (m := y) (r := r) (mU_s _ _ _) (mU_s _ _ _) (by show mU (tIn c) y true r = true; rw [mU_n _ _ ny]; exact hr) (a := ao) (fun d hd => by rw [eKr]; exact ha d hd) hlo (fun G hB3 fr3 => ?_)
  rw [eKr] at hB3
  have hB3' : BuP G (p + 20) (dNode c y (tWo u y) r (loK kd r) (aK (tKi c r) ao)) := hB3
  have f3 : hFr h (wI h G) (fdT p) no2 := hFr_w h _ (fun d j hd => by unfold fdT at hd; rw [fr3 d (by omega) (by omega) (by omega) (by omega) (by omega), fr2 d j (by omega) (by omega), o1 d (by omega)])
  have X3 := fX_fr X (hFr_mono f3 (fun _ _ _ g => Or.inl g) (fun _ _ _ g => g.elim))
  have i63 : ∀ j, G (p + 63) j = if j = pl u y then nI y else hI h (p + 63) j := fun j => by rw [fr3 _ (by omega) (by omega) (by omega) (by omega) (by omega), fr2 _ _ (by omega) (by omega)]; exact r1 j
  have i20 : G (p + 20) 8 = hI h (p + 20) 8 := by rw [fr3 _ (by omega) (by omega) (by omega) (by omega) (by omega), fr2 _ _ (by omega) (by omega), o1 _ (by omega)]
  generalize eh3 : wI h G = h3 at f3 X3
  have e3 : hI h3 = G := by rw [← eh3]; rfl
  have z3 : hZ h3 = hZ h := by rw [← eh3]; rfl
  have u3 : hU h3 = hU h := by rw [← eh3]; rfl
  rw [← e3] at hB3' i63 i20
  have hw' := wNode hw hn y3 hr (v := tWo u y) (loK kd r) (aK (tKi c r) ao)
  have eK' : ∃ A2 B2, tKi (dNode c y (tWo u y) r (loK kd r) (aK (tKi c r) ao)) r = A2 ++ y :: B2 := ⟨_, _, mU_s _ _ _⟩
  generalize dNode c y (tWo u y) r (loK kd r) (aK (tKi c r) ao) = c' at hB3' kk eK' hw'
  obtain ⟨A2, B2, eK'⟩ := eK'
  obtain ⟨lm3, lb3, _, lf3⟩ := fX_l X3
  intro a51 h52 e51 e52
  subst e51 e52
  have sm : ∀ d, d < hZ h3 → hSm h3 (nC h3 11 0 6) d := fun d hd => hSm_nC h3 11 0 6 d hd
  have s61 := sm (p + 61) (by omega)
  have zn : hZ (nC h3 11 0 6) = hZ h3 + 1 := rfl
  have un : hU (nC h3 11 0 6) = hU h3 + 6 := rfl
  obtain ⟨_, _, _, ⟨c1, c2, c3, c4, c5⟩, _⟩ := id X3
  have c1n : lTr (nC h3 11 0 6) b (pO u).length mk2 := lTr_k c1 (fun d d1 d2 => sm d (by omega))
  refine ⟨c1n.1, ?_⟩
  show w_Tr_worthOf b (nI (pl u y)) (wI (nC h3 11 0 6) (hI (nC h3 11 0 6))) _
  rw [e_Tr_worthOf c1n l4 b2, rAt_n py (by omega), (sm (b + 4) (by omega)).2.2.2.1, (c5.2.1 y hy).2.1]
  show hT (nC h3 11 0 6) (p + 61) = 2 ∧ _
  refine ⟨by rw [s61.1]; exact lf3.1, p + 20, by show hR (nC h3 11 0 6) (p + 61) 1 = _; rw [s61.2.2.1]; exact lf3.2.2.1, by show hT (nC h3 11 0 6) (p + 20) = 1; rw [(sm (p + 20) (by omega)).1]; exact lb3.1, ?_⟩
  show w_Bu_spotOf (p + 20) (nI y) (nC h3 11 0 6) _
  refine p_spot (lBu_k lb3 (fun d d1 d2 => sm d (by omega))) x2 (by omega) (BuP_k hB3' (fun d d1 d2 => (sm d (by omega)).2.2.2.1)) hw'.1 eK' (fun h4 s4' f4 z4 u4 => ?_)
  have f34 : hFr h3 h4 no2 no2 := hFr_mono (hFr_tr (hFr_nC h3 11 0 6 no2 no2) f4) (fun _ _ _ g => g.elim id id) (fun _ _ _ g => g.elim id id)
  have nw := SpP_fr (fX_no X3) (by omega) f34 (fNT_no p D)
  show hT h4 (hZ h3) = 11 ∧ (w_St_init (hZ h3) (1 : Int32) (nI y) (-1 : Int32) (tWo u y) (hR (nC h3 11 0 6) (p + 61) 6) (some (hZ (nC h3 11 0 6))) h4 _)
  rw [show hR (nC h3 11 0 6) (p + 61) 6 = some (p + 68) from by rw [s61.2.2.1]; exact lf3.2.2.2.2.2.2.2.1]
  refine p_St_late (h1 := h3) (k := 1) (by omega) (by omega) f4 nw s4' (fun h5 t5 f5 z5 u5 => ?_)
  have f15 : hFr h h5 (fdT p) no2 := hFr_mono (hFr_tr f3 f5) (fun _ _ _ g => g.elim id (fun g => g.elim)) (fun _ _ _ g => g.elim id id)
  have S5 : ScB h5 p D z0 sa 100 l := SS_fr (s := some l) S (by omega) x2 x3 f15
  refine ⟨sa, rfl, S5.2.1, p_addO S5 (by omega) t5 (fun h6 v1 v2 v3 v4 => kk h6 v1 ?_ ?_ ?_ ?_ (by omega) (by omega))⟩
  · exact BuP_k hB3' (fun d d1 d2 => funext fun j => ((v2.2 d (by omega)).2.2.2.2.1 j (by omega)).trans ((f5.2 d (by omega)).2.2.2.2.1 j (fun g => g.elim)))
  · exact hFr_mono (hFr_tr f15 v2) (fun d j _ g => g.elim (fun g => Or.inl g) (fun g => Or.inr g)) (fun d j _ g => g.elim (fun g => g.elim) id)
  · exact fun j => ((v2.2 _ (by omega)).2.2.2.2.1 j (by omega)).trans (((f5.2 _ (by omega)).2.2.2.2.1 j (fun g => g.elim)).trans (i63 j))
  · exact ((v2.2 _ (by omega)).2.2.2.2.1 8 (by omega)).trans (((f5.2 _ (by omega)).2.2.2.2.1 8 (fun g => g.elim)).trans i20)
theorem p_bring {h : tpH} {x p D z0 mk a mk1 b mk2 : Nat} {t u : mT} {kd idn : Nat → Int32} {P : mP} (X : fX h x p D z0 mk a mk1 b mk2 t u kd idn P) {sa : Nat} {l : List mSt} (S : SS h p D z0 sa (some l)) {c : mT} {i : Nat} (I : fdI t u P i c) (hB : BuP (hI h) (p + 20) c) (W : TW (hI h) p u P i) {y : Nat} (hy : tIn u y = true) (hl : pl u y = i) (h0 : 0 < i) {R : tpH → Prop} (kk : ∀ h', SS h' p D z0 sa (fdR (loK kd) P u c l y) → BuP (hI h') (p + 20) (fdC (loK kd) P u c y) → TW (hI h') p u P (i + 1) → hFr h h' (fdTz p z0) (fun c _ => z0 ≤ c) → hI h' (p + 20) 8 = hI h (p + 20) 8 → hZ h' + 3 * l.length ≤ hZ h + 3 * bz (fdR (loK kd) P u c l y) → hU h' + 12 * l.length ≤ hU h + 12 * bz (fdR (loK kd) P u c l y) → R h') : w_Fi_bringTwin (p + 61) (some b) (nI (pl u y)) (some sa) h R := by
  obtain ⟨lm, lb, lt, lf⟩ := fX_l X
  obtain ⟨⟨l0, x1, x2, x3, x4⟩, ⟨m1, n1⟩, _, ⟨b1, b2, b3, b4, b5⟩, M, ⟨hk, ht, hum⟩, ⟨hw, hu, HP⟩⟩ := id X
  obtain ⟨pp, A, B, hp, e, epr, hpi, lp, hpc, anc, ne, hb⟩ := fdI_at hu HP I hy hl h0
  obtain ⟨g0, g1, g2, g3, ⟨g4, s4⟩, _⟩ := id lf
  have py := pl_lt hu hy
  have ppp := pl_lt hu hpi
  have l4 := pO_le hu
  have eg : (tUp u y).getD 0 = pp := by rw [hp]; rfl
  have le := SS_le S
  have cm : ∀ m, tIn c m = true → m < mk := fun m hm => by
    rcases (I.2.2.1 m).mp hm with q | q
    · exact (ht m q).1
    · exact (hum m q.1).1
  have old : ∀ z, tIn u z = true → z ≠ y → (pl u z < i + 1 ↔ pl u z < i) := fun z hz h2 => by
    have : pl u z ≠ i := fun q => h2 (pl_inj hu hz hy (by omega))
    omega
  refine ⟨b, rfl, b1.1, ?_⟩
  show w_Tr_upOf b (nI (pl u y)) (wI h (hI h)) _
  rw [e_Tr_upOf b1 l4 b2, rAt_n py (by omega), (b5.2.1 y hy).2.2.1, hp]
  show hT h (p + 61) = 2 ∧ (∃ a7, (hR h (p + 61) 3) = some a7 ∧ hT h a7 = 8 ∧ (w_Ro_at a7 (nI (pl u pp)) h _))
  refine ⟨g0, p + 61 + 1, g4, s4.1, p_at s4 (by decide) ⟨g0, b1.1, ?_⟩⟩
  have er : rAt (hI h (p + 61 + 2)) 300 (nI (pl u pp)) = nI (twF P pp) := by
    rw [rAt_n (by omega) (by decide), show p + 61 + 2 = p + 63 by omega, W pp hpi, if_pos lp]
  rw [er]
  show w_Tr_rankOf b (nI (pl u y)) (wI h (hI h)) _
  rw [e_Tr_rankOf b1 l4 b2, rAt_n py (by omega), (b5.2.1 y hy).2.2.2.2.1, rkO_mid hu e]
  refine ⟨b1.1, ?_⟩
  have kid : ∀ Rk : Int32 → tpH → Prop, (∀ v, (prv u y = none → v = -1) → (∀ d, prv u y = some d → v = nI (pl u d)) → Rk v (wI h (hI h))) → w_Tr_kid b (nI (pl u pp)) (nI A.length - 1) (wI h (hI h)) Rk := fun Rk kR => by
    rcases snoc A with q | ⟨A', d, q⟩
    · rw [q] at epr ⊢
      rw [show nI ([] : List Nat).length - (1 : Int32) = -1 from by decide, e_Tr_kid b1 l4 b2, if_pos (by decide)]
      exact kR _ (fun _ => rfl) (fun d hd => by rw [epr] at hd; cases hd)
    · rw [q] at epr ⊢
      rw [List.length_append, show nI (A'.length + [d].length) - (1 : Int32) = nI A'.length from by rw [Int32.sub_eq_add_neg]; exact nI_dn (Nat.succ_pos _)]
      have ek : (tKi u pp)[A'.length]? = some d := by
        rw [e, q, List.append_assoc, List.getElem?_append_right (Nat.le_refl _), Nat.sub_self]
        rfl
      rw [e_kid b1 b2 hu b5 hpi ek]
      rw [List.getLast?_append] at epr
      have epr' : prv u y = some d := epr
      exact kR _ (fun g => by rw [epr'] at g; cases g) (fun d' hd => by rw [epr'] at hd; rw [Option.some.inj hd])
  refine kid _ (fun v18 hv1 hv2 => ?_)
  show ∃ a19, (hR h (p + 61) 3) = some a19 ∧ hT h a19 = 8 ∧ (w_Ro_at a19 v18 h _)
  refine ⟨p + 61 + 1, g4, s4.1, p_at s4 (by decide) ⟨g0, p + 61 + 1, g4, s4.1, p_at s4 (by decide) ?_⟩⟩
  have ea : rAt (hI h (p + 61 + 2)) 300 v18 = nO ((prv u y).map (twF P)) := by
    cases q : prv u y with
    | none => rw [hv1 q, rAt_m]; rfl
    | some d =>
      obtain ⟨_, q1, q2, _⟩ := hb d q
      have := pl_lt hu q1
      rw [hv2 d q, rAt_n (by omega) (by decide), show p + 61 + 2 = p + 63 by omega, W d q1, if_pos q2]
      rfl
  have et : rAt (hI h (p + 61 + 2)) 300 (nI (pl u y)) = nO (P.2 y) := by rw [rAt_n (by omega) (by decide), show p + 61 + 2 = p + 63 by omega, W y hy, if_neg (by omega)]
  rw [ea, et]
  have ha : ∀ d, (prv u y).map (twF P) = some d → d ∈ tKi c (twF P pp) ∧ d ≠ twF P y := fun d hd => by
    cases q : prv u y with
    | none => rw [q] at hd; cases hd
    | some d' =>
      rw [q] at hd
      have hd' : twF P d' = d := Option.some.inj hd
      obtain ⟨_, _, _, q3, q4⟩ := hb d' q
      rw [← hd']
      exact ⟨q3, q4⟩
  cases ey : P.2 y with
  | some xx =>
    have ex : twF P y = xx := twF_s ey
    rw [ex] at anc ne ha
    have hx := (HP.1.2 xx y ((HP.1.1 xx y).mpr ey)).1
    have hxc : tIn c xx = true := (I.2.2.1 xx).mpr (Or.inl hx)
    have x3' := hw.1.1 xx hx
    have eC : fdC (loK kd) P u c y = if mvB (loK kd) c xx (twF P pp) ((prv u y).map (twF P)) = true then dMove c xx (twF P pp) (loK kd (twF P pp)) (aK (tKi (tCut c xx) (twF P pp)) ((prv u y).map (twF P))) else c := by
      unfold fdC
      rw [ey, eg]
    have eE : fdE (loK kd) P u c y = if mvB (loK kd) c xx (twF P pp) ((prv u y).map (twF P)) = true then some (2, xx, -1, -1, spO c xx, spO (fdC (loK kd) P u c y) xx) else none := by
      unfold fdE
      rw [ey, eg]
    have TWk : ∀ F : Nat → Nat → Int32, F (p + 63) = hI h (p + 63) → TW F p u P (i + 1) := fun F hF z hz => by
      rw [hF, W z hz]
      by_cases ez : z = y
      · rw [ez, if_neg (by omega), if_pos (by omega), ey, ex]
        rfl
      · by_cases q : pl u z < i
        · rw [if_pos q, if_pos (by omega)]
        · rw [if_neg q, if_neg (fun g => q ((old z hz ez).mp g))]
    refine ⟨fun _ => ⟨g0, p_htm lm lb lf m1 hk hB I.1.1 hxc hpc (cm _ hpc) (fun d hd => (ha d hd).1) (fun mv => ⟨fun g => absurd g (by decide), fun _ => ?_⟩) (fun mv => ⟨fun _ => ?_, fun g => absurd rfl g⟩)⟩, fun g => absurd g (nI_ne_m (by omega))⟩
    · rw [if_pos mv] at eC eE
      have nrt : xx ≠ tRt c := fun q => by
        rw [I.2.1, ← tw_rt HP, ← ex] at q
        have := tw_inj HP hy hu.2.1 q
        rw [this, pl_rt hu] at hl
        omega
      obtain ⟨q, hq⟩ : ∃ q, tUp c xx = some q := by
        cases w : tUp c xx with
        | none => exact absurd w (I.1.2.2.2 xx hxc nrt)
        | some q => exact ⟨q, rfl⟩
      have w' : tWF 300 (dMove c xx (twF P pp) (loK kd (twF P pp)) (aK (tKi (tCut c xx) (twF P pp)) ((prv u y).map (twF P)))) := wMove I.1 hxc hpc anc _ _
      refine p_brMove X S hB I.1 hxc hq hpc (cm _ hpc) ne ha w' (fun h' v1 v2 v3 v4 v5 v6 v7 => kk h' ?_ ?_ (TWk _ v4) v3 v5 ?_ ?_)
      · rw [fdR_s eE, eC]; exact v1
      · rw [eC]; exact v2
      · rw [fdR_s eE, bz_add le]; omega
      · rw [fdR_s eE, bz_add le]; omega
    · rw [if_neg (by rw [mv]; exact Bool.false_ne_true)] at eC eE
      refine kk h ?_ ?_ (TWk _ rfl) ⟨Nat.le_refl _, fun _ _ => ⟨rfl, rfl, rfl, rfl, fun _ _ => rfl, fun _ _ => rfl⟩⟩ rfl ?_ ?_
      · rw [fdR_n eE]; exact S
      · rw [eC]; exact hB
      · rw [fdR_n eE]; exact Nat.le_refl _
      · rw [fdR_n eE]; exact Nat.le_refl _
  | none =>
    have ex : twF P y = y := twF_n ey
    rw [ex] at ha
    have ny : tIn c y = false := by
      cases q : tIn c y with
      | false => rfl
      | true =>
        rcases (I.2.2.1 y).mp q with g | g
        · rw [tw_new HP hy ey] at g; cases g
        · omega
    have eC : fdC (loK kd) P u c y = dNode c y (tWo u y) (twF P pp) (loK kd (twF P pp)) (aK (tKi c (twF P pp)) ((prv u y).map (twF P))) := by
      unfold fdC
      rw [ey, eg]
    have eE : fdE (loK kd) P u c y = some (1, y, -1, tWo u y, nwh, spO (fdC (loK kd) P u c y) y) := by
      unfold fdE
      rw [ey]
    refine ⟨fun g => absurd rfl g, fun _ => ?_⟩
    refine p_brPut X S hB I.1 hy ny hpc (cm _ hpc) (fun d hd => (ha d hd).1) (fun h' v1 v2 v3 v4 v5 v6 v7 => kk h' ?_ ?_ (fun z hz => ?_) v3 v5 ?_ ?_)
    · rw [fdR_s eE, eC]; exact v1
    · rw [eC]; exact v2
    · rw [v4]
      by_cases ez : z = y
      · rw [ez, if_pos rfl, if_pos (by omega), ex]
      · rw [if_neg (fun g => ez (pl_inj hu hz hy g)), W z hz]
        by_cases q : pl u z < i
        · rw [if_pos q, if_pos (by omega)]
        · rw [if_neg q, if_neg (fun g => q ((old z hz ez).mp g))]
    · rw [fdR_s eE, bz_add le]; omega
    · rw [fdR_s eE, bz_add le]; omega
end FD6
