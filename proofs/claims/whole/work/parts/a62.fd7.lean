section FD7
/-! what is left over goes -/
noncomputable def kpB (u : mT) (P : mP) (m : Nat) : Bool := (pO u).any (fun y => decide (twF P y = m))
theorem kpB_iff {u : mT} (hu : tWF 300 u) {P : mP} {m : Nat} : kpB u P m = true ↔ ∃ y, tIn u y = true ∧ twF P y = m := by
  unfold kpB
  rw [List.any_eq_true]
  exact ⟨fun ⟨y, h1, h2⟩ => ⟨y, (pO_mem hu).mp h1, of_decide_eq_true h2⟩, fun ⟨y, h1, h2⟩ => ⟨y, (pO_mem hu).mpr h1, decide_eq_true h2⟩⟩
def rmI (K : Nat → Bool) (c0 : mT) (i : Nat) (c : mT) : Prop := tWF 300 c ∧ tRt c = tRt c0 ∧ (∀ x, tIn c x = true ↔ (tIn c0 x = true ∧ (K x = true ∨ pl c0 x < i))) ∧ (∀ x, tIn c x = true → tUp c x = tUp c0 x) ∧ ∀ x, tIn c x = true → tWo c x = tWo c0 x
def rmH (K : Nat → Bool) (c0 : mT) : Prop := tWF 300 c0 ∧ K (tRt c0) = true ∧ ∀ x p, tIn c0 x = true → K x = true → tUp c0 x = some p → K p = true
theorem rm_leaf {K : Nat → Bool} {c0 c : mT} {i m : Nat} (H : rmH K c0) (I : rmI K c0 (i + 1) c) (hm : tIn c0 m = true) (hl : pl c0 m = i) (hk : K m = false) : tIn c m = true ∧ tKi c m = [] ∧ m ≠ tRt c ∧ tPo c m = [m] := by
  obtain ⟨hw, hr, hi, hu, hv⟩ := id I
  have im : tIn c m = true := (hi m).mpr ⟨hm, Or.inr (by omega)⟩
  have kn : tKi c m = [] := by
    cases e : tKi c m with
    | nil => rfl
    | cons k L =>
      have hk1 : k ∈ tKi c m := by rw [e]; exact List.mem_cons_self
      obtain ⟨q1, q2⟩ := (hw.1.2.1 k m).mp hk1
      rw [hu k q1] at q2
      have k0 := (hi k).mp q1
      have hk0 : k ∈ tKi c0 m := (H.1.1.2.1 k m).mpr ⟨k0.1, q2⟩
      have lt := pl_kid_lt H.1 hk0
      rcases k0.2 with g | g
      · rw [H.2.2 k m k0.1 g q2] at hk
        cases hk
      · omega
  refine ⟨im, kn, fun e => ?_, ?_⟩
  · rw [e, hr, H.2.1] at hk
    cases hk
  · rw [tPo_eq hw.1.2.2.2.1 m, kn]
    rfl
theorem rm_step {K : Nat → Bool} {c0 c : mT} {i m : Nat} (H : rmH K c0) (I : rmI K c0 (i + 1) c) (hm : tIn c0 m = true) (hl : pl c0 m = i) (hk : K m = false) : rmI K c0 i (tErs c m) := by
  obtain ⟨im, kn, nr, po⟩ := rm_leaf H I hm hl hk
  obtain ⟨hw, hr, hi, hu, hv⟩ := id I
  have inE : ∀ x, tIn (tErs c m) x = true ↔ (tIn c x = true ∧ x ≠ m) := fun x => by
    show (tIn c x && !decide (x ∈ tPo c m)) = true ↔ _
    rw [po, Bool.and_eq_true, Bool.not_eq_true', decide_eq_false_iff_not, List.mem_singleton]
  refine ⟨wErs hw im nr, hr, fun x => ?_, fun x hx => ?_, fun x hx => hv x ((inE x).mp hx).1⟩
  · rw [inE, hi x]
    constructor
    · rintro ⟨⟨g1, g2⟩, g3⟩
      refine ⟨g1, g2.elim Or.inl (fun q => Or.inr ?_)⟩
      have : pl c0 x ≠ i := fun e => g3 (pl_inj H.1 g1 hm (by omega))
      omega
    · rintro ⟨g1, g2⟩
      refine ⟨⟨g1, g2.elim Or.inl (fun q => Or.inr (by omega))⟩, fun e => ?_⟩
      rcases g2 with q | q
      · rw [e, hk] at q; cases q
      · rw [e] at q; omega
  · have hx' := (inE x).mp hx
    show mU (tUp c) m none x = _
    rw [mU_n _ _ hx'.2]
    exact hu x hx'.1
theorem rm_keep {K : Nat → Bool} {c0 c : mT} {i m : Nat} (H : rmH K c0) (I : rmI K c0 (i + 1) c) (hm : tIn c0 m = true) (hl : pl c0 m = i) (hk : K m = true) : rmI K c0 i c := by
  obtain ⟨hw, hr, hi, hu, hv⟩ := id I
  refine ⟨hw, hr, fun x => ?_, hu, hv⟩
  rw [hi x]
  constructor
  · rintro ⟨g1, g2⟩
    refine ⟨g1, g2.elim Or.inl (fun q => ?_)⟩
    by_cases e : pl c0 x = i
    · have : x = m := pl_inj H.1 g1 hm (by omega)
      rw [this]
      exact Or.inl hk
    · exact Or.inr (by omega)
  · rintro ⟨g1, g2⟩
    exact ⟨g1, g2.elim Or.inl (fun q => Or.inr (by omega))⟩
theorem rm_0 {K : Nat → Bool} {c0 : mT} (H : rmH K c0) : rmI K c0 (pO c0).length c0 :=
  ⟨H.1, rfl, fun x => ⟨fun g => ⟨g, Or.inr (pl_lt H.1 g)⟩, fun g => g.1⟩, fun _ _ => rfl, fun _ _ => rfl⟩
/-- one node of the copy, from its end: the copy, the script; the values are the old tree's -/
noncomputable def rmS (K : Nat → Bool) (wv : Nat → Int32) (st : mT × Option (List mSt)) (m : Nat) : mT × Option (List mSt) := match st.2 with
  | none => st
  | some l => if K m = true then st else (tErs st.1 m, addO l (3, m, wv m, -1, spO st.1 m, nwh))
theorem rmS_n {K : Nat → Bool} {wv : Nat → Int32} {c : mT} (L : List Nat) : (L.foldl (rmS K wv) (c, none)) = (c, none) := by
  induction L with
  | nil => rfl
  | cons m L ih => rw [List.foldl_cons]; exact ih
theorem rmS_k {K : Nat → Bool} {wv : Nat → Int32} {c : mT} {l : List mSt} {m : Nat} (h : K m = true) : rmS K wv (c, some l) m = (c, some l) := if_pos h
theorem rmS_r {K : Nat → Bool} {wv : Nat → Int32} {c : mT} {l : List mSt} {m : Nat} (h : K m = false) : rmS K wv (c, some l) m = (tErs c m, addO l (3, m, wv m, -1, spO c m, nwh)) := if_neg (by rw [h]; exact Bool.false_ne_true)
theorem p_rm115 {h0 : tpH} {x p D z0 mk a mk1 b mk2 : Nat} {t u : mT} {kd idn : Nat → Int32} {P : mP} {sa : Nat} {K : Nat → Bool} {c0 : mT} (H : rmH K c0) (wv : Nat → Int32) (hv : ∀ m, tIn c0 m = true → K m = false → tWo c0 m = wv m) {R : tpH → Prop} {S00 : Option (List mSt)} {kz ku : Nat} (fin : ∀ h', SS h' p D z0 sa S00 → fX h' x p D z0 mk a mk1 b mk2 t u kd idn P → hFr h0 h' (fdTz p z0) (fun c _ => z0 ≤ c) → hZ h' + kz ≤ hZ h0 + 3 * bz S00 → hU h' + ku ≤ hU h0 + 12 * bz S00 → R h') :
    ∀ (n i : Nat) (c : mT) (s : Option (List mSt)) (h : tpH), i < n → i ≤ (pO c0).length → (((pO c0).take i).reverse.foldl (rmS K wv) (c, s)).2 = S00 → SS h p D z0 sa s → fX h x p D z0 mk a mk1 b mk2 t u kd idn P → hFr h0 h (fdTz p z0) (fun c _ => z0 ≤ c) → hZ h + kz ≤ hZ h0 + 3 * bz s → hU h + ku ≤ hU h0 + 12 * bz s → (s ≠ none → rmI K c0 i c ∧ BuP (hI h) (p + 20) c ∧ (∀ j m, (pO c0)[j]? = some m → hI h (p + 67) j = nI m) ∧ ∀ m, m < 300 → (hI h (p + 65) m = 0 ↔ K m = false)) → w_Fi_removeOthers_115 R n (p + 61) (some sa) (nI i + (-1)) h
  | 0, i, c, s, h, h1, h2, e, S, X, f, zz, uu, V => by omega
  | n + 1, 0, c, s, h, h1, h2, e, S, X, f, zz, uu, V => by
    have e' : s = S00 := e
    rw [e'] at S zz uu
    exact ⟨fun _ => fin h S X f zz uu, fun g => absurd (by decide) g⟩
  | n + 1, i + 1, c, s, h, h1, h2, e, S, X, f, zz, uu, V => by
    have e0 : nI (i + 1) + (-1 : Int32) = nI i := nI_dn (by omega)
    have l3 := pO_le H.1
    obtain ⟨lm, lb, lt, lf⟩ := fX_l X
    have x2 := X.1.2.2.1
    have x3 := X.1.2.2.2.1
    have x4 := X.1.2.2.2.2
    have sT : hT h sa = 9 := by
      cases s with
      | none => exact S.2.1
      | some l => exact S.2.1
    rw [e0]
    refine ⟨fun g => absurd g (nI_pos (by omega)), fun _ => ⟨sa, rfl, sT, p_too S (fun l el => ⟨fun g => absurd rfl g, fun _ => ?_⟩) (fun en => ⟨fun _ => ?_, fun g => absurd g (by decide)⟩)⟩⟩
    · subst el
      obtain ⟨I, hB, od, kr⟩ := V (by intro g; cases g)
      obtain ⟨m, em, pm, hm, _⟩ := dr_cons H.1 (show i < (pO c0).length by omega)
      have m3 := H.1.1.1 m hm
      have et : (pO c0).take (i + 1) = (pO c0).take i ++ [m] := by
        rw [List.take_add_one]
        have := pO_at H.1 hm
        rw [pm] at this
        rw [this]
        rfl
      rw [et, List.reverse_append] at e
      have e' : (((pO c0).take i).reverse.foldl (rmS K wv) (rmS K wv (c, some l) m)).2 = S00 := e
      obtain ⟨g0, g1, g2, g3, g4, ⟨g5, s5⟩, ⟨g6, s6⟩, g7, g8⟩ := id lf
      refine ⟨g0, p + 61 + 5, g6, s6.1, p_at s6 (by decide) ⟨g0, p + 61 + 3, g5, s5.1, p_at s5 (by decide) ?_⟩⟩
      have eo : rAt (hI h (p + 61 + 6)) 300 (nI i) = nI m := by
        rw [rAt_n (by omega) (by decide), show p + 61 + 6 = p + 67 by omega]
        exact od i m (by rw [← pm]; exact pO_at H.1 hm)
      have ek : rAt (hI h (p + 61 + 4)) 300 (nI m) = hI h (p + 65) m := by rw [rAt_n m3 (by decide), show p + 61 + 4 = p + 65 by omega]
      rw [eo, ek]
      cases hk : K m with
      | true =>
        rw [rmS_k hk] at e'
        refine ⟨fun _ => ?_, fun g => ?_⟩
        · exact p_rm115 H wv hv fin n i c (some l) h (by omega) (by omega) e' S X f zz uu (fun _ => ⟨rm_keep H I hm pm hk, hB, od, kr⟩)
        · rw [(kr m m3).mp g] at hk
          cases hk
      | false =>
        obtain ⟨im, kn, nr, po⟩ := rm_leaf H I hm pm hk
        have I' := rm_step H I hm pm hk
        rw [rmS_r hk] at e'
        refine ⟨fun g => absurd ((kr m m3).mpr hk) g, fun _ => ?_⟩
        intro a21 h22 e21 e22
        subst e21 e22
        have sm : ∀ d, d < hZ h → hSm h (nC h 11 0 6) d := fun d hd => hSm_nC h 11 0 6 d hd
        have s61 := sm (p + 61) (by omega)
        have zn : hZ (nC h 11 0 6) = hZ h + 1 := rfl
        have un : hU (nC h 11 0 6) = hU h + 6 := rfl
        have lbn : lBu (nC h 11 0 6) (p + 20) (some p) := lBu_k lb (fun d d1 d2 => sm d (by omega))
        have hBn : BuP (hI (nC h 11 0 6)) (p + 20) c := BuP_k hB (fun d d1 d2 => (sm d (by omega)).2.2.2.1)
        have nT : hT (nC h 11 0 6) (p + 61) = 2 := by rw [s61.1]; exact g0
        have nR1 : hR (nC h 11 0 6) (p + 61) 1 = some (p + 20) := by rw [s61.2.2.1]; exact g2
        refine ⟨nT, p + 20, nR1, lbn.1, ?_⟩
        show w_Bu_worthOf (p + 20) (nI m) (wI (nC h 11 0 6) (hI (nC h 11 0 6))) _
        rw [e_Bu_worthOf lbn, rAt_n m3 n300, (hBn.2.2 m im).1, I.2.2.2.2 m im, hv m hm hk]
        show hT (nC h 11 0 6) (p + 61) = 2 ∧ _
        refine ⟨nT, p + 20, nR1, lbn.1, ?_⟩
        obtain ⟨q, hq⟩ : ∃ q, tUp c m = some q := by
          cases w : tUp c m with
          | none => exact absurd w (I.1.2.2.2 m im nr)
          | some q => exact ⟨q, rfl⟩
        obtain ⟨A1, B1, eK⟩ := List.append_of_mem ((I.1.1.2.1 m q).mpr ⟨im, hq⟩)
        show w_Bu_spotOf (p + 20) (nI m) (nC h 11 0 6) _
        refine p_spot lbn x2 (by omega) hBn I.1.1 eK (fun h4 s4' f4 z4 u4 => ?_)
        have f34 : hFr h h4 no2 no2 := hFr_mono (hFr_tr (hFr_nC h 11 0 6 no2 no2) f4) (fun _ _ _ g => g.elim id id) (fun _ _ _ g => g.elim id id)
        have nw := SpP_fr (fX_no X) (by omega) f34 (fNT_no p D)
        have X4 := fX_fr X (hFr_mono f34 (fun _ _ _ g => g.elim) (fun _ _ _ g => g.elim))
        refine ⟨(fX_l X4).2.2.2.1, ?_⟩
        rw [show hR h4 (p + 61) 6 = some (p + 68) from (fX_l X4).2.2.2.2.2.2.2.2.2.2.1]
        refine p_St_late (h1 := h) (k := 3) (by omega) (by omega) f4 s4' nw (fun h5 t5 f5 z5 u5 => ?_)
        have S5 : ScB h5 p D z0 sa 100 l := SS_fr (s := some l) S (by omega) x2 x3 (hFr_mono f5 (fun _ _ _ g => g.elim) (fun _ _ _ g => g))
        refine ⟨S5.2.1, p_addO S5 (by omega) t5 (fun h6 v1 v2 v3 v4 => ?_)⟩
        have f6 : hFr h h6 (fun d _ => z0 ≤ d) (fun d _ => z0 ≤ d) := hFr_mono (hFr_tr f5 v2) (fun _ _ _ g => g.elim (fun g => g.elim) id) (fun _ _ _ g => g.elim (fun g => g.elim) id)
        have X6 := fX_fr X (hFr_mono f6 (fun _ _ _ g => Or.inr g) (fun _ _ _ g => g))
        obtain ⟨lm6, lb6, lt6, lf6⟩ := fX_l X6
        have eI6 : ∀ d, d < z0 → hI h6 d = hI h d := fun d hd => funext fun j => (f6.2 d (by omega)).2.2.2.2.1 j (by omega)
        have hB6 : BuP (hI h6) (p + 20) c := BuP_k hB (fun d d1 d2 => eI6 d (by omega))
        refine ⟨lf6.1, p + 20, lf6.2.2.1, lb6.1, ?_⟩
        show w_Bu_erase (p + 20) (nI m) (wI h6 (hI h6)) _
        refine p_Bu_erase lb6 hB6 I.1.1 im ?_
        obtain ⟨hB7, fr7, fr7'⟩ := bu_ers hB6 I.1.1 im
        generalize uErs (hI h6) (p + 20) m c = F7 at hB7 fr7 fr7'
        have f7 : hFr h6 (wI h6 F7) (fdT p) no2 := hFr_w h6 _ (fun d j hd => by unfold fdT at hd; rw [fr7 d (by omega) (by omega) (by omega) (by omega) (by omega) (by omega) (by omega)])
        have X7 := fX_fr X6 (hFr_mono f7 (fun _ _ _ g => Or.inl g) (fun _ _ _ g => g.elim))
        have S7 := SS_fr v1 (by omega) x2 x3 f7
        have le := SS_le S
        have bzz := bz_add le (3, m, wv m, -1, spO c m, nwh)
        have i7 : ∀ d, p + 35 ≤ d → d < z0 → F7 d = hI h d := fun d d1 d2 => by rw [fr7 d (by omega) (by omega) (by omega) (by omega) (by omega) (by omega) (by omega), eI6 d d2]
        have zw : hZ (wI h6 F7) = hZ h6 := rfl
        have uw : hU (wI h6 F7) = hU h6 := rfl
        have bl : bz (some l) = l.length := rfl
        exact p_rm115 H wv hv fin n i (tErs c m) _ (wI h6 F7) (by omega) (by omega) e' S7 X7 (hFr_mono (hFr_tr f (hFr_tr f6 f7)) (fun _ _ _ g => g.elim id (fun g => g.elim (fun g => Or.inr g) (fun g => Or.inl g))) (fun _ _ _ g => g.elim id (fun g => g.elim id (fun g => g.elim)))) (by omega) (by omega) (fun _ => ⟨I', hB7, fun j m' hj => by rw [wI_I, i7 _ (by omega) (by omega)]; exact od j m' hj, fun m' hm' => by rw [wI_I, i7 _ (by omega) (by omega)]; exact kr m' hm'⟩)
    · subst en
      rw [rmS_n] at e
      have e' : none = S00 := e
      rw [← e'] at fin
      exact fin h S X f zz uu
end FD7
