section FD9
/-! finding a script, as mathematics, and the class's whole finding -/
def fu1 (t u : mT) (P : mP) (s : Option (List mSt)) (y : Nat) : Option (List mSt) := match s with
  | none => none
  | some l => fdU t u P l y
noncomputable def fuA (t u : mT) (P : mP) : Option (List mSt) := (pO u).foldl (fu1 t u P) (some [])
def fb1 (lo : Nat → Bool) (P : mP) (u : mT) (cs : mT × Option (List mSt)) (y : Nat) : mT × Option (List mSt) := match cs.2 with
  | none => cs
  | some l => (fdC lo P u cs.1 y, fdR lo P u cs.1 l y)
noncomputable def fbA (lo : Nat → Bool) (t u : mT) (P : mP) : mT × Option (List mSt) := ((pO u).drop 1).foldl (fb1 lo P u) (t, fuA t u P)
noncomputable def fdA (lo : Nat → Bool) (t u : mT) (P : mP) : Option (List mSt) := ((pO (fbA lo t u P).1).reverse.foldl (rmS (kpB u P) (tWo t)) (fbA lo t u P)).2
theorem fu1_n {t u : mT} {P : mP} : ∀ L : List Nat, L.foldl (fu1 t u P) none = none
  | [] => rfl
  | _ :: L => fu1_n L
theorem fb1_n {lo : Nat → Bool} {P : mP} {u c : mT} : ∀ L : List Nat, L.foldl (fb1 lo P u) (c, none) = (c, none)
  | [] => rfl
  | _ :: L => fb1_n L
theorem fdC_w {t u c : mT} {P : mP} (H : fdP t u P) {lo : Nat → Bool} {y : Nat} (hy : tIn u y = true) (hv : ∀ m, tIn t m = true → tWo c m = tWo t m) : ∀ m, tIn t m = true → tWo (fdC lo P u c y) m = tWo t m := by
  intro m hm
  unfold fdC
  cases e : P.2 y with
  | none =>
    have n : m ≠ y := fun q => by
      rw [q, tw_new H hy e] at hm
      cases hm
    show mU (tWo c) y (tWo u y) m = _
    rw [mU_n _ _ n]
    exact hv m hm
  | some x =>
    show tWo (if mvB lo c x (twF P ((tUp u y).getD 0)) ((prv u y).map (twF P)) = true then dMove c x (twF P ((tUp u y).getD 0)) (lo (twF P ((tUp u y).getD 0))) (aK (tKi (tCut c x) (twF P ((tUp u y).getD 0))) ((prv u y).map (twF P))) else c) m = _
    by_cases c1 : mvB lo c x (twF P ((tUp u y).getD 0)) ((prv u y).map (twF P)) = true
    · rw [if_pos c1]
      exact hv m hm
    · rw [if_neg c1]
      exact hv m hm
theorem fd_rmH {t u c : mT} {P : mP} (hu : tWF 300 u) (H : fdP t u P) (I : fdI t u P (pO u).length c) : rmH (kpB u P) c := by
  refine ⟨I.1, (kpB_iff hu).mpr ⟨tRt u, hu.2.1, by rw [tw_rt H, I.2.1]⟩, fun x p hx hk hp => ?_⟩
  obtain ⟨y, y1, y2⟩ := (kpB_iff hu).mp hk
  cases ey : tUp u y with
  | none =>
    have er := (up_rt hu y1).mp ey
    rw [er, tw_rt H, ← I.2.1] at y2
    rw [← y2, I.1.2.2.1] at hp
    cases hp
  | some q =>
    have e := I.2.2.2 y q y1 (pl_lt hu y1) ey
    rw [y2, hp] at e
    exact (kpB_iff hu).mpr ⟨q, hu.1.2.2.2.2 y q y1 ey, (Option.some.inj e).symm⟩
theorem fd_rest {t u c : mT} {P : mP} (hu : tWF 300 u) {i : Nat} (I : fdI t u P i c) {m : Nat} (hm : tIn c m = true) (hk : kpB u P m = false) : tIn t m = true := by
  rcases (I.2.2.1 m).mp hm with g | ⟨g1, g2, g3⟩
  · exact g
  · have := (kpB_iff hu).mpr ⟨m, g1, twF_n g3⟩
    rw [hk] at this
    cases this
theorem SS_T {h : tpH} {p D z0 a : Nat} {s : Option (List mSt)} (S : SS h p D z0 a s) : hT h a = 9 := by
  cases s with
  | none => exact S.2.1
  | some l => exact S.2.1
theorem SS_bz {h : tpH} {p D z0 a : Nat} {s : Option (List mSt)} (S : SS h p D z0 a s) : bz s ≤ 101 := by
  cases s with
  | none => exact Nat.le_refl _
  | some l =>
    have := SS_le S
    show l.length ≤ 101
    omega
theorem p_fs55 {h0 : tpH} {x p D z0 mk a mk1 b mk2 : Nat} {t u : mT} {kd idn : Nat → Int32} {P : mP} {sa : Nat} {E : mT × Option (List mSt)} {R : Option Nat → tpH → Prop} (fin : ∀ h', SS h' p D z0 sa E.2 → fX h' x p D z0 mk a mk1 b mk2 t u kd idn P → hFr h0 h' (fdTz p z0) (fun c _ => z0 ≤ c) → BuP (hI h') (p + 20) E.1 → hI h' (p + 20) 8 = nI (tRt t) → (tWF 300 E.1 ∧ tRt E.1 = tRt t ∧ ∀ m, tIn t m = true → tWo E.1 m = tWo t m) → (E.2 ≠ none → fdI t u P (pO u).length E.1 ∧ TW (hI h') p u P (pO u).length) → hZ h' ≤ hZ h0 + 3 * bz E.2 → hU h' ≤ hU h0 + 12 * bz E.2 → w_Fi_findScript_85 R (p + 61) (some b) (some sa) h') :
    ∀ (n i : Nat) (c : mT) (s : Option (List mSt)) (h : tpH), 0 < i → i ≤ (pO u).length → (pO u).length < n + i → ((pO u).drop i).foldl (fb1 (loK kd) P u) (c, s) = E → SS h p D z0 sa s → fX h x p D z0 mk a mk1 b mk2 t u kd idn P → hFr h0 h (fdTz p z0) (fun c _ => z0 ≤ c) → BuP (hI h) (p + 20) c → hI h (p + 20) 8 = nI (tRt t) → (tWF 300 c ∧ tRt c = tRt t ∧ ∀ m, tIn t m = true → tWo c m = tWo t m) → (s ≠ none → fdI t u P i c ∧ TW (hI h) p u P i) → hZ h ≤ hZ h0 + 3 * bz s → hU h ≤ hU h0 + 12 * bz s → w_Fi_findScript_55 R n (p + 61) (some b) (some sa) (nI i) h
  | 0, i, c, s, h, h1, h2, h3, e, S, X, f, hB, h8, W3, V, zz, uu => by omega
  | n + 1, i, c, s, h, h1, h2, h3, e, S, X, f, hB, h8, W3, V, zz, uu => by
    obtain ⟨lm, lb, lt, lf⟩ := fX_l X
    obtain ⟨⟨l0, x1, x2, x3, x4⟩, _, _, ⟨b1, b2, b3, b4, b5⟩, _, _, ⟨hw, hu, HP⟩⟩ := id X
    have l4 := pO_le hu
    refine ⟨b, rfl, b1.1, ?_⟩
    rw [b5.1]
    by_cases hi : i < (pO u).length
    · obtain ⟨z, ez, pz, hz, _⟩ := dr_cons hu hi
      rw [ez, List.foldl_cons] at e
      refine ⟨fun g => absurd ((nI_le_iff (by omega) (by omega)).mp g) (by omega), fun _ => ⟨sa, rfl, SS_T S, p_too S (fun l el => ⟨fun g => absurd rfl g, fun _ => ⟨lf.1, ?_⟩⟩) (fun en => ⟨fun _ => ?_, fun g => absurd g (by decide)⟩)⟩⟩
      · subst el
        obtain ⟨I, W⟩ := V (by intro g; cases g)
        have bl : bz (some l) = l.length := rfl
        have key := p_bring (R := fun h12 => w_Fi_findScript_55 R n (p + 61) (some b) (some sa) (nI i + 1) h12) X S I hB W hz pz h1 (fun h' v1 v2 v3 v4 v5 v6 v7 => ?_)
        · rw [pz] at key
          exact key
        · rw [nI_1]
          have I' := fdI_step hu HP I hz pz h1 (loK kd)
          exact p_fs55 fin n (i + 1) (fdC (loK kd) P u c z) (fdR (loK kd) P u c l z) h' (by omega) (by omega) (by omega) e v1 (fX_fr X v4) (hFr_mono (hFr_tr f v4) (fun _ _ _ g => g.elim id id) (fun _ _ _ g => g.elim id id)) v2 (v5.trans h8) ⟨I'.1, I'.2.1, fdC_w HP hz W3.2.2⟩ (fun _ => ⟨I', v3⟩) (by omega) (by omega)
      · subst en
        have e' : (c, none) = E := (fb1_n _).symm.trans e
        subst e'
        exact fin h S X f hB h8 W3 (fun g => absurd rfl g) zz uu
    · have ei : i = (pO u).length := by omega
      have e' : (c, s) = E := by
        rw [List.drop_eq_nil_of_le (by omega)] at e
        exact e
      subst e'
      exact ⟨fun _ => fin h S X f hB h8 W3 (fun ne => by rw [← ei]; exact V ne) zz uu, fun g => absurd ((nI_le_iff (by omega) (by omega)).mpr (by omega)) g⟩
theorem p_fs21 {h0 : tpH} {x p D z0 mk a mk1 b mk2 : Nat} {t u : mT} {kd idn : Nat → Int32} {P : mP} {sa : Nat} {S0 : Option (List mSt)} {R : Option Nat → tpH → Prop} (fin : ∀ h', SS h' p D z0 sa S0 → fX h' x p D z0 mk a mk1 b mk2 t u kd idn P → hFr h0 h' (fdTz p z0) (fun c _ => z0 ≤ c) → BuP (hI h') (p + 20) t → hI h' (p + 20) 8 = nI (tRt t) → (S0 ≠ none → TW (hI h') p u P 1) → hZ h' ≤ hZ h0 + 3 * bz S0 → hU h' ≤ hU h0 + 12 * bz S0 → ∃ n, w_Fi_findScript_55 R n (p + 61) (some b) (some sa) 1 h') :
    ∀ (n j : Nat) (s : Option (List mSt)) (h : tpH), j ≤ (pO u).length → (pO u).length < n + j → ((pO u).drop j).foldl (fu1 t u P) s = S0 → SS h p D z0 sa s → fX h x p D z0 mk a mk1 b mk2 t u kd idn P → hFr h0 h (fdTz p z0) (fun c _ => z0 ≤ c) → BuP (hI h) (p + 20) t → hI h (p + 20) 8 = nI (tRt t) → (s ≠ none → ∀ z, tIn u z = true → pl u z < j → hI h (p + 63) (pl u z) = nO (P.2 z)) → hZ h ≤ hZ h0 + 3 * bz s → hU h ≤ hU h0 + 12 * bz s → w_Fi_findScript_21 R n (p + 61) (some a) (some b) (some sa) (nI j) h
  | 0, j, s, h, h1, h2, e, S, X, f, hB, h8, V, zz, uu => by omega
  | n + 1, j, s, h, h1, h2, e, S, X, f, hB, h8, V, zz, uu => by
    obtain ⟨lm, lb, lt, lf⟩ := fX_l X
    obtain ⟨⟨l0, x1, x2, x3, x4⟩, _, _, ⟨b1, b2, b3, b4, b5⟩, _, _, ⟨hw, hu, HP⟩⟩ := id X
    have l4 := pO_le hu
    refine ⟨b, rfl, b1.1, ?_⟩
    rw [b5.1]
    by_cases hj : j < (pO u).length
    · obtain ⟨z, ez, pz, hz, _⟩ := dr_cons hu hj
      rw [ez, List.foldl_cons] at e
      refine ⟨fun g => absurd ((nI_le_iff (by omega) (by omega)).mp g) (by omega), fun _ => ⟨sa, rfl, SS_T S, p_too S (fun l el => ⟨fun g => absurd rfl g, fun _ => ⟨lf.1, ?_⟩⟩) (fun en => ⟨fun _ => ?_, fun g => absurd g (by decide)⟩)⟩⟩
      · subst el
        have bl : bz (some l) = l.length := rfl
        have V := V (by intro g; cases g)
        have key := p_name (R := fun h12 => w_Fi_findScript_21 R n (p + 61) (some a) (some b) (some sa) (nI j + 1) h12) X S hz (fun h' v1 v2 v3 v4 v5 => ?_)
        · rw [pz] at key
          exact key
        · rw [nI_1]
          have f' : hFr h h' (fdTz p z0) (fun c _ => z0 ≤ c) := hFr_mono v2 (fun c _ _ g => by unfold fsT at g; unfold fdTz fdT; omega) (fun _ _ _ g => g)
          have eI : ∀ d j', d < z0 → d ≠ p + 63 → hI h' d j' = hI h d j' := fun d j' d1 d2 => (v2.2 d (by omega)).2.2.2.2.1 j' (by unfold fsT; omega)
          refine p_fs21 fin n (j + 1) (fdU t u P l z) h' (by omega) (by omega) e v1 (fX_fr X f') (hFr_mono (hFr_tr f f') (fun _ _ _ g => g.elim id id) (fun _ _ _ g => g.elim id id)) (BuP_k hB (fun d d1 d2 => funext fun j' => eI d j' (by omega) (by omega))) ((eI _ _ (by omega) (by omega)).trans h8) (fun _ z' hz' hl => ?_) (by omega) (by omega)
          rw [v3]
          by_cases c : z' = z
          · rw [if_pos (by rw [c]), c]
          · have n1 : pl u z' ≠ pl u z := fun g => c (pl_inj hu hz' hz g)
            rw [if_neg n1]
            exact V z' hz' (by omega)
      · subst en
        have e' : none = S0 := (fu1_n _).symm.trans e
        subst e'
        exact fin h S X f hB h8 (fun g => absurd rfl g) zz uu
    · have e' : s = S0 := by
        rw [List.drop_eq_nil_of_le (by omega)] at e
        exact e
      subst e'
      refine ⟨fun _ => fin h S X f hB h8 (fun ne z hz => ?_) zz uu, fun g => absurd ((nI_le_iff (by omega) (by omega)).mpr (by omega)) g⟩
      rw [V ne z hz (by have := pl_lt hu hz; omega)]
      by_cases c : pl u z < 1
      · have er : z = tRt u := pl_inj hu hz hu.2.1 (by rw [pl_rt hu]; omega)
        rw [if_pos c, er, tw_rt HP, HP.2.2]
        rfl
      · rw [if_neg c]
theorem p_Fi_findScript {h : tpH} {x p D mk a mk1 b mk2 : Nat} {t u : mT} {kd idn : Nat → Int32} {P : mP} (X : fX h x p D (hZ h) mk a mk1 b mk2 t u kd idn P) (hlt : tLo (loK kd) t) {R : Option Nat → tpH → Prop} (kk : ∀ h', SS h' p D (hZ h) (hZ h) (fdA (loK kd) t u P) → hFr h h' (fdTz p (hZ h)) (fun c _ => hZ h ≤ c) → hZ h' ≤ hZ h + 305 → hU h' ≤ hU h + 1314 → R (some (hZ h)) h') : w_Fi_findScript (p + 61) (some a) (some b) h R := by
  obtain ⟨⟨l0, x1, x2, x3, x4⟩, ⟨m1, n1⟩, ⟨a1, a2, a3, a4, a5⟩, ⟨b1, b2, b3, b4, b5⟩, M, ⟨hk, ht, hum⟩, ⟨hw, hu, HP⟩⟩ := id X
  intro c1 h2 e1 e2
  subst e1 e2
  show w_Sc_init (hZ h) (nI 100) (nC h 9 0 2) _
  refine p_Sc_new (p := p) (D := D) x3 (Nat.le_refl _) (fun h5 S5 f5 z5 u5 => ?_)
  have X5 := fX_fr X (hFr_mono f5 (fun _ _ _ g => g.elim) (fun _ _ _ g => g.elim))
  obtain ⟨lm, lb, lt, lf⟩ := fX_l X5
  obtain ⟨_, ⟨m5, n5⟩, ⟨a51, a52, a53, a54, a55⟩, _⟩ := id X5
  refine ⟨lf.1, p + 20, lf.2.2.1, lb.1, ?_⟩
  show w_Bu_takeOver (p + 20) (some a) (wI h5 (hI h5)) _
  refine p_Bu_takeOver lb lm a51 (by omega) (by omega) hw a52 (fun m hm => (ht m hm).2) hlt a55 (fun q hq => by rw [(m5.2 q (ht q hq).1).1]; exact loK_iff kd q) (fun G g1 g2 g3 => ⟨(pO u).length + 1, ?_⟩)
  have f6 : hFr h5 (wI h5 G) (fdT p) no2 := hFr_w h5 _ (fun d j hd => by unfold fdT at hd; rw [g3 d (by omega)])
  have f6' : hFr h5 (wI h5 G) (fdTz p (hZ h)) (fun c _ => hZ h ≤ c) := hFr_mono f6 (fun _ _ _ g => Or.inl g) (fun _ _ _ g => g.elim)
  have S6 : SS (wI h5 G) p D (hZ h) (hZ h) (some []) := SS_fr (s := some []) S5 (by omega) x2 x3 f6
  have pos := pl_lt hu hu.2.1
  rw [pl_rt hu] at pos
  show w_Fi_findScript_21 R _ (p + 61) (some a) (some b) (some (hZ h)) (nI 0) (wI h5 G)
  refine p_fs21 (h0 := h5) (S0 := fuA t u P) (fun h7 S7 X7 f7 hB7 h87 W7 z7 u7 => ⟨(pO u).length + 1, ?_⟩) _ 0 (some []) (wI h5 G) (Nat.zero_le _) (by omega) (by rw [List.drop_zero]; rfl) S6 (fX_fr X5 f6') f6' g1 g2 (fun _ z hz hl => absurd hl (Nat.not_lt_zero _)) (Nat.le_refl _) (Nat.le_refl _)
  show w_Fi_findScript_55 R _ (p + 61) (some b) (some (hZ h)) (nI 1) h7
  refine p_fs55 (h0 := h5) (E := fbA (loK kd) t u P) (fun h8 S8 X8 f8 hB8 h88 W3 V8 z8 u8 => ⟨(fX_l X8).2.2.2.1, ?_⟩) _ 1 t (fuA t u P) h7 (Nat.lt_succ_self _) pos (by omega) rfl S7 X7 f7 hB7 h87 ⟨hw, rfl, fun _ _ => rfl⟩ (fun ne => ⟨fdI_1 hw hu HP, W7 ne⟩) z7 u7
  refine p_rmAll X8 S8 W3.1 hB8 (by rw [W3.2.1]; exact h88) (wv := tWo t) (fun ne => ?_) (fun h9 S9 X9 f9 z9 u9 => ?_)
  · obtain ⟨I, W⟩ := V8 ne
    refine ⟨fd_rmH hu HP I, fun z hz => ⟨?_, W3.1.1.1 _ (fdI_tw HP I hz (pl_lt hu hz))⟩, fun m hm hk => W3.2.2 m (fd_rest hu I hm hk)⟩
    rw [W z hz, if_pos (pl_lt hu hz)]
  · have b9 := SS_bz S9
    have S9' : SS h9 p D (hZ h) (hZ h) (fdA (loK kd) t u P) := S9
    exact kk h9 S9' (hFr_mono (hFr_tr f5 (hFr_tr f8 f9)) (fun _ _ _ g => g.elim (fun g => g.elim) (fun g => g.elim id id)) (fun _ _ _ g => g.elim (fun g => g.elim) (fun g => g.elim id id))) (by omega) (by omega)
end FD9
