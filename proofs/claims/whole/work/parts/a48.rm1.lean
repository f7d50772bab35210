section RM1
/-! the reference's matching -/
def RX (h : tpH) (Q q mk s s' : Nat) (t u : mT) : Prop := (lMd h Q q ∧ Q < q) ∧ (s < 42 ∧ s' < 42) ∧ mk ≤ 300 ∧ (tWF 300 t ∧ tWF 300 u) ∧ (∀ m, tIn t m = true → m < mk) ∧ ∀ m, tIn u m = true → m < mk
def RF (F : Nat → Nat → Int32) (Q q mk s s' : Nat) (t u : mT) (kd idn : Nat → Int32) : Prop := MaM F Q q mk kd idn ∧ (MtP F q s t ∧ MtP F q s' u) ∧ laP F Q q t u ∧ alR F q t u ∧ ∀ a, tIn t a = true → ∀ b, tIn u b = true → alT F q kd idn t u a b
def rmFr (q : Nat) (F G : Nat → Nat → Int32) : Prop := ∀ b j, ¬ (q + 30 ≤ b ∧ b ≤ q + 36) → G b j = F b j
theorem rmFr_tr {q : Nat} {F G H : Nat → Nat → Int32} (h1 : rmFr q F G) (h2 : rmFr q G H) : rmFr q F H := fun b j e => (h2 b j e).trans (h1 b j e)
def pmFr (q : Nat) (F G : Nat → Nat → Int32) : Prop := ∀ b j, ¬ (b = q + 31 ∨ b = q + 32) → G b j = F b j
theorem pmFr_tr {q : Nat} {F G H : Nat → Nat → Int32} (h1 : pmFr q F G) (h2 : pmFr q G H) : pmFr q F H := fun b j e => (h2 b j e).trans (h1 b j e)
theorem pmFr_s {q : Nat} {F G : Nat → Nat → Int32} (h : pmFr q F G) : rmFr q F G := fun b j e => h b j (by omega)
theorem RF_fr {h : tpH} {Q q mk s s' : Nat} {t u : mT} {kd idn : Nat → Int32} (X : RX h Q q mk s s' t u) {F G : Nat → Nat → Int32} (C : RF F Q q mk s s' t u kd idn) (f : rmFr q F G) : RF G Q q mk s s' t u kd idn := by
  obtain ⟨⟨ld, hQ⟩, _, hk, ⟨hw, hu⟩, ht, hum⟩ := X
  obtain ⟨⟨m0, m1⟩, ⟨d1, d2⟩, ⟨⟨p1, p2⟩, p3, p4⟩, ⟨r1, r2⟩, e⟩ := C
  have ff : ∀ b, b < q + 30 → G b = F b := fun b hb => funext fun j => f b j (by omega)
  refine ⟨⟨by rw [ff Q (by omega)]; exact m0, fun m hm => by rw [ff q (by omega), ff (q + 1) (by omega)]; exact m1 m hm⟩, ⟨MtP_fr d1 (fun b b1 b2 => ff b (by omega)), MtP_fr d2 (fun b b1 b2 => ff b (by omega))⟩, ⟨⟨fun j z hz => by rw [ff (q + 24) (by omega)]; exact p1 j z hz, fun j z hz => by rw [ff (q + 25) (by omega)]; exact p2 j z hz⟩, by rw [ff Q (by omega)]; exact p3, by rw [ff Q (by omega)]; exact p4⟩, ⟨fun x hx => by rw [ff (q + 28) (by omega)]; exact r1 x hx, fun y hy => by rw [ff (q + 29) (by omega)]; exact r2 y hy⟩, fun a ha b hb => ?_⟩
  show G (q + 27) _ = _
  rw [ff (q + 27) (by omega)]
  exact e a ha b hb
def McM (F : Nat → Nat → Int32) (q : Nat) (t u : mT) (P : mP) : Prop := (∀ x, tIn t x = true → F (q + 31) x = nO (P.1 x)) ∧ ∀ y, tIn u y = true → F (q + 32) y = nO (P.2 y)
theorem p_Mpair {h : tpH} {Q q mk s s' : Nat} {t u : mT} (X : RX h Q q mk s s' t u) {F : Nat → Nat → Int32} {P : mP} (M : McM F q t u P) {x y : Nat} (hx : tIn t x = true) (hy : tIn u y = true) {R : tpH → Prop} (kk : ∀ G, pmFr q F G → McM G q t u (pP P x y) → R (wI h G)) : w_Md_pair Q (nI x) (nI y) (wI h F) R := by
  obtain ⟨⟨ld, hQ⟩, _, hk, ⟨hw, hu⟩, ht, hum⟩ := X
  obtain ⟨a1, a2, a3⟩ := md_f ld (j := 31) (kd := 15) (n := 300) (f := 41) (by decide)
  obtain ⟨b1, b2, b3⟩ := md_f ld (j := 32) (kd := 15) (n := 300) (f := 42) (by decide)
  have x3 := hw.1.1 x hx
  have y3 := hu.1.1 y hy
  refine ⟨ld.1, q + 31, a3, a1, by rw [wI_L, a2]; exact vp_in_nI x3 (by decide), fun h6 e6 => ?_⟩
  rw [nI_clamp (by omega), sI_wI, wI_wI, wI_I] at e6
  subst e6
  refine ⟨q + 32, b3, b1, by rw [wI_L, b2]; exact vp_in_nI y3 (by decide), fun h6 e6 => ?_⟩
  rw [nI_clamp (by omega), sI_wI, wI_wI, wI_I] at e6
  subst e6
  refine kk _ (fun b j hb => by rw [tpu_o (by omega), tpu_o (by omega)]) ⟨fun z hz => ?_, fun z hz => ?_⟩
  · rw [tpu_o (by omega)]
    unfold pP
    by_cases c : z = x
    · rw [c, tpu_s]
      simp only [if_true]
      rfl
    · rw [tpu_o (by omega)]
      simp only [if_neg c]
      exact M.1 z hz
  · unfold pP
    by_cases c : z = y
    · rw [c, tpu_s]
      simp only [if_true]
      rfl
    · rw [tpu_o (by omega), tpu_o (by omega)]
      simp only [if_neg c]
      exact M.2 z hz
theorem nO_1 {t u : mT} (hu : tWF 300 u) {P : mP} (ok : pOK t u P) (x : Nat) : nO (P.1 x) = -1 ↔ P.1 x = none := by
  cases e : P.1 x with
  | none => exact ⟨fun _ => rfl, fun _ => rfl⟩
  | some y =>
    have := hu.1.1 y (ok.2 x y e).2
    exact ⟨fun g => absurd g (nI_ne_m (by omega)), fun g => by cases g⟩
theorem nO_2 {t u : mT} (hw : tWF 300 t) {P : mP} (ok : pOK t u P) (y : Nat) : nO (P.2 y) = -1 ↔ P.2 y = none := by
  cases e : P.2 y with
  | none => exact ⟨fun _ => rfl, fun _ => rfl⟩
  | some x =>
    have := hw.1.1 x (ok.2 x y ((ok.1 x y).mpr e)).1
    exact ⟨fun g => absurd g (nI_ne_m (by omega)), fun g => by cases g⟩
theorem p_canP {h : tpH} {Q q mk s s' : Nat} {t u : mT} {kd idn : Nat → Int32} (X : RX h Q q mk s s' t u) {F : Nat → Nat → Int32} (C : RF F Q q mk s s' t u kd idn) {P : mP} (M : McM F q t u P) (ok : pOK t u P) {x y : Nat} (hx : tIn t x = true) (hy : tIn u y = true) {R : Int32 → tpH → Prop} (k1 : mayB kd idn P x y = true → R 1 (wI h F)) (k0 : mayB kd idn P x y = false → R 0 (wI h F)) : w_Md_canPair Q (nI x) (nI y) (wI h F) R := by
  obtain ⟨⟨ld, hQ⟩, _, hk, ⟨hw, hu⟩, ht, hum⟩ := X
  obtain ⟨a1, a2, a3⟩ := md_f ld (j := 31) (kd := 15) (n := 300) (f := 41) (by decide)
  obtain ⟨b1, b2, b3⟩ := md_f ld (j := 32) (kd := 15) (n := 300) (f := 42) (by decide)
  obtain ⟨c1, c2, c3⟩ := md_f ld (j := 0) (kd := 15) (n := 300) (f := 1) (by decide)
  obtain ⟨d1, d2, d3⟩ := md_f ld (j := 1) (kd := 15) (n := 300) (f := 2) (by decide)
  have x3 := hw.1.1 x hx
  have y3 := hu.1.1 y hy
  have vx : vp_in (nI x) 300 := vp_in_nI x3 (by decide)
  have vy : vp_in (nI y) 300 := vp_in_nI y3 (by decide)
  have ex : ∀ b : Nat, hI (wI h F) b (nI x).toNatClampNeg = F b x := fun b => by rw [nI_clamp (by omega)]; rfl
  have ey : ∀ b : Nat, hI (wI h F) b (nI y).toNatClampNeg = F b y := fun b => by rw [nI_clamp (by omega)]; rfl
  have kx : F (q + 0) x = kd x := (C.1.2 x (ht x hx)).1
  have ky : F (q + 0) y = kd y := (C.1.2 y (hum y hy)).1
  have ix : F (q + 1) x = idn x := (C.1.2 x (ht x hx)).2
  have iy : F (q + 1) y = idn y := (C.1.2 y (hum y hy)).2
  refine ⟨ld.1, q + 31, a3, a1, by rw [wI_L, a2]; exact vx, ?_⟩
  rw [ex, M.1 x hx]
  refine ⟨fun g => k0 ?_, fun g1 => ⟨q + 32, b3, b1, by rw [wI_L, b2]; exact vy, ?_⟩⟩
  · unfold mayB
    rw [decide_eq_false (fun e => g ((nO_1 hu ok x).mpr e))]
    rfl
  · rw [ey, M.2 y hy]
    refine ⟨fun g => k0 ?_, fun g2 => ⟨q + 0, c3, c1, by rw [wI_L, c2]; exact vx, by rw [wI_L, c2]; exact vy, ?_⟩⟩
    · unfold mayB
      rw [decide_eq_false (fun e => g ((nO_2 hw ok y).mpr e)), Bool.false_and, Bool.and_false]
    · rw [ex, ey, kx, ky]
      have m0 : ∀ {p : Bool}, (decide (kd x = kd y) && decide (idn x = idn y)) = p → mayB kd idn P x y = p := fun {p} g => by
        unfold mayB
        rw [decide_eq_true ((nO_1 hu ok x).mp g1), decide_eq_true ((nO_2 hw ok y).mp g2), g]
        rfl
      refine ⟨fun g => ⟨fun _ => k0 (m0 (by rw [decide_eq_false g]; rfl)), fun q => absurd rfl q⟩, fun g3 => ⟨q + 1, d3, d1, by rw [wI_L, d2]; exact vx, by rw [wI_L, d2]; exact vy, ?_⟩⟩
      rw [ex, ey, ix, iy]
      exact ⟨fun g => ⟨fun _ => k0 (m0 (by rw [decide_eq_false g, Bool.and_false])), fun q => absurd rfl q⟩, fun g => ⟨fun q => absurd q (by decide), fun _ => k1 (m0 (by rw [decide_eq_true g3, decide_eq_true g]; rfl))⟩⟩
/-! its beginning -/
theorem p_mt8 {h : tpH} {Q q mk s s' : Nat} {t u : mT} (X : RX h Q q mk s s' t u) {F0 : Nat → Nat → Int32} {R : tpH → Prop} (kk : ∀ G, pmFr q F0 G → McM G q t u mt0 → ∃ n, w_Md_matchTrees_37 R n Q (nI s) (nI s') 0 (wI h G)) :
    ∀ (n i : Nat) (F : Nat → Nat → Int32), i ≤ 300 → 300 < n + i → pmFr q F0 F → (∀ j, j < i → F (q + 31) j = -1 ∧ F (q + 32) j = -1) → w_Md_matchTrees_8 R n Q (nI s) (nI s') (nI i) (wI h F)
  | 0, i, F, h1, h2, f, V => by omega
  | n + 1, i, F, h1, h2, f, V => by
    obtain ⟨⟨ld, hQ⟩, _, hk, ⟨hw, hu⟩, ht, hum⟩ := id X
    obtain ⟨a1, a2, a3⟩ := md_f ld (j := 31) (kd := 15) (n := 300) (f := 41) (by decide)
    obtain ⟨b1, b2, b3⟩ := md_f ld (j := 32) (kd := 15) (n := 300) (f := 42) (by decide)
    refine ⟨fun g => kk F f ⟨fun x hx => ?_, fun y hy => ?_⟩, fun g => ?_⟩
    · have g' := (nI_le_iff (a := 300) (b := i) (by omega) (by omega)).mp g
      exact (V x (by have := hw.1.1 x hx; omega)).1
    · have g' := (nI_le_iff (a := 300) (b := i) (by omega) (by omega)).mp g
      exact (V y (by have := hu.1.1 y hy; omega)).2
    · have hi : i < 300 := Classical.byContradiction (fun q => g ((nI_le_iff (a := 300) (b := i) (by omega) (by omega)).mpr (by omega)))
      refine ⟨ld.1, q + 31, a3, a1, by rw [wI_L, a2]; exact vp_in_nI hi (by decide), fun h6 e6 => ?_⟩
      rw [nI_clamp (by omega), sI_wI, wI_wI, wI_I] at e6
      subst e6
      refine ⟨q + 32, b3, b1, by rw [wI_L, b2]; exact vp_in_nI hi (by decide), fun h6 e6 => ?_⟩
      rw [nI_clamp (by omega), sI_wI, wI_wI, wI_I] at e6
      subst e6
      rw [nI_1]
      refine p_mt8 X kk n (i + 1) _ (by omega) (by omega) (fun b j hb => by rw [tpu_o (by omega), tpu_o (by omega)]; exact f b j hb) (fun j hj => ?_)
      by_cases c : j = i
      · rw [c, tpu_s, tpu_o (by omega), tpu_s]
        exact ⟨rfl, rfl⟩
      · rw [tpu_o (by omega), tpu_o (by omega), tpu_o (by omega), tpu_o (by omega)]
        exact V j (by omega)
theorem la_at {h : tpH} {Q q mk s s' : Nat} {t u : mT} {kd idn : Nat → Int32} (X : RX h Q q mk s s' t u) {F : Nat → Nat → Int32} (C : RF F Q q mk s s' t u kd idn) {i : Nat} (hi : i < (pO t).length) : ∃ x, (pO t).drop i = x :: (pO t).drop (i + 1) ∧ pl t x = i ∧ tIn t x = true ∧ hT h (q + 24) = 15 ∧ hR h Q 32 = some (q + 24) ∧ vp_in (nI i) (hL h (q + 24)) ∧ F (q + 24) (nI i).toNatClampNeg = nI x := by
  obtain ⟨⟨ld, hQ⟩, _, hk, ⟨hw, hu⟩, ht, hum⟩ := X
  obtain ⟨a1, a2, a3⟩ := md_f ld (j := 24) (kd := 15) (n := 300) (f := 32) (by decide)
  obtain ⟨x, ex, px, hx, _⟩ := dr_cons hw hi
  have l3 := pO_le hw
  refine ⟨x, ex, px, hx, a1, a3, by rw [a2]; exact vp_in_nI (by omega) (by decide), ?_⟩
  rw [nI_clamp (by omega)]
  exact C.2.2.1.1.1 i x (by rw [← px]; exact pO_at hw hx)
theorem lb_at {h : tpH} {Q q mk s s' : Nat} {t u : mT} {kd idn : Nat → Int32} (X : RX h Q q mk s s' t u) {F : Nat → Nat → Int32} (C : RF F Q q mk s s' t u kd idn) {i : Nat} (hi : i < (pO u).length) : ∃ x, (pO u).drop i = x :: (pO u).drop (i + 1) ∧ pl u x = i ∧ tIn u x = true ∧ hT h (q + 25) = 15 ∧ hR h Q 33 = some (q + 25) ∧ vp_in (nI i) (hL h (q + 25)) ∧ F (q + 25) (nI i).toNatClampNeg = nI x := by
  obtain ⟨⟨ld, hQ⟩, _, hk, ⟨hw, hu⟩, ht, hum⟩ := X
  obtain ⟨a1, a2, a3⟩ := md_f ld (j := 25) (kd := 15) (n := 300) (f := 33) (by decide)
  obtain ⟨x, ex, px, hx, _⟩ := dr_cons hu hi
  have l3 := pO_le hu
  refine ⟨x, ex, px, hx, a1, a3, by rw [a2]; exact vp_in_nI (by omega) (by decide), ?_⟩
  rw [nI_clamp (by omega)]
  exact C.2.2.1.1.2 i x (by rw [← px]; exact pO_at hu hx)
theorem rt_may {t u : mT} {kd idn : Nat → Int32} (hk : kd (tRt t) = kd (tRt u) ∧ idn (tRt t) = idn (tRt u)) (P : mP) : (mayB kd idn P (tRt t) (tRt u) = true → rtS t u P = pP P (tRt t) (tRt u)) ∧ (mayB kd idn P (tRt t) (tRt u) = false → rtS t u P = P) := by
  unfold mayB rtS
  rw [decide_eq_true hk.1, decide_eq_true hk.2]
  by_cases c1 : P.1 (tRt t) = none
  · by_cases c2 : P.2 (tRt u) = none
    · rw [decide_eq_true c1, decide_eq_true c2, if_pos ⟨c1, c2⟩]
      exact ⟨fun _ => rfl, fun g => by cases g⟩
    · rw [decide_eq_true c1, decide_eq_false c2, if_neg (fun g => c2 g.2)]
      exact ⟨fun g => (by cases g), fun _ => rfl⟩
  · rw [decide_eq_false c1, if_neg (fun g => c1 g.1)]
    exact ⟨fun g => (by cases g), fun _ => rfl⟩
theorem p_mt37 {h : tpH} {Q q mk s s' : Nat} {t u : mT} {kd idn : Nat → Int32} (X : RX h Q q mk s s' t u) (hr : kd (tRt t) = kd (tRt u) ∧ idn (tRt t) = idn (tRt u)) {F0 : Nat → Nat → Int32} (C0 : RF F0 Q q mk s s' t u kd idn) {R : tpH → Prop} :
    ∀ (n i : Nat) (F : Nat → Nat → Int32) (P : mP), i ≤ (pO t).length → (pO t).length < n + i → pmFr q F0 F → McM F q t u P → smI t u P → (∀ G, pmFr q F0 G → McM G q t u (rtS t u (((pO t).drop i).foldl (smS u) P)) → ∃ n, w_Md_matchTrees_118 R n Q (nI s) (nI s') 0 (wI h G)) → w_Md_matchTrees_37 R n Q (nI s) (nI s') (nI i) (wI h F)
  | 0, i, F, P, h1, h2, f, M, ok, kk => by omega
  | n + 1, i, F, P, h1, h2, f, M, ok, kk => by
    have C := RF_fr X C0 (pmFr_s f)
    obtain ⟨⟨ld, hQ⟩, ⟨hs, hs'⟩, hk, ⟨hw, hu⟩, ht, hum⟩ := id X
    have l3 := pO_le hw
    have e34 : hI (wI h F) Q 34 = nI (pO t).length := C.2.2.1.2.1
    refine ⟨ld.1, ?_⟩
    rw [e34]
    by_cases hi : i < (pO t).length
    · obtain ⟨x, ex, px, hx, a1, a3, av, ax⟩ := la_at X C hi
      rw [ex, List.foldl_cons] at kk
      refine ⟨fun g => absurd ((nI_le_iff (by omega) (by omega)).mp g) (by omega), fun _ => ⟨q + 24, a3, a1, av, ?_⟩⟩
      have ax' : hI (wI h F) (q + 24) (nI i).toNatClampNeg = nI x := ax
      rw [ax']
      have o1 := sm_inv hx ok
      refine p_hasO (o := some x) ld hs' hk C.1.1 C.2.1.2 hu hum (fun r e => by rw [← Option.some.inj e]; exact ht x hx) (fun r e hr' => ⟨fun g => absurd g (by decide), fun _ => ⟨ld.1, q + 24, a3, a1, av, av, ?_⟩⟩) (fun g => ⟨fun _ => ?_, fun g => absurd rfl g⟩)
      · have er : r = x := (Option.some.inj e).symm
        rw [er] at hr'
        have es : smS u P x = pP P x x := if_pos hr'
        rw [ax']
        refine p_Mpair X M hx hr' (fun G g1 g2 => ?_)
        rw [es] at kk o1
        rw [nI_1]
        exact p_mt37 X hr C0 n (i + 1) G _ (by omega) (by omega) (pmFr_tr f g1) g2 o1 kk
      · have es : smS u P x = P := if_neg (by rw [g x rfl]; exact Bool.false_ne_true)
        rw [es] at kk
        rw [nI_1]
        exact p_mt37 X hr C0 n (i + 1) F P (by omega) (by omega) f M ok kk
    · refine ⟨fun _ => ?_, fun g => absurd ((nI_le_iff (by omega) (by omega)).mpr (by omega)) g⟩
      rw [List.drop_eq_nil_of_le (by omega)] at kk
      have kk : ∀ G, pmFr q F0 G → McM G q t u (rtS t u P) → ∃ n, w_Md_matchTrees_118 R n Q (nI s) (nI s') 0 (wI h G) := kk
      obtain ⟨b1, b2, b3⟩ := md_f ld (j := 2) (kd := 15) (n := 42) (f := 5) (by decide)
      have v1 : vp_in (nI s) (hL h (q + 2)) := by rw [b2]; exact vp_in_nI hs (by decide)
      have v2 : vp_in (nI s') (hL h (q + 2)) := by rw [b2]; exact vp_in_nI hs' (by decide)
      have r1 : hI (wI h F) (q + 2) (nI s).toNatClampNeg = nI (tRt t) := by rw [nI_clamp (by omega)]; exact C.2.1.1.2.2.2
      have r2 : hI (wI h F) (q + 2) (nI s').toNatClampNeg = nI (tRt u) := by rw [nI_clamp (by omega)]; exact C.2.1.2.2.2.2
      have rm := rt_may hr P
      refine ⟨q + 2, b3, b1, v1, v2, ?_⟩
      rw [r1, r2]
      refine p_canP X C M ok.1 hw.2.1 hu.2.1 (fun e => ⟨fun g => absurd g (by decide), fun _ => ⟨ld.1, q + 2, b3, b1, v1, v2, ?_⟩⟩) (fun e => ⟨fun _ => kk F f (by rw [rm.2 e]; exact M), fun g => absurd rfl g⟩)
      rw [r1, r2]
      refine p_Mpair X M hw.2.1 hu.2.1 (fun G g1 g2 => kk G (pmFr_tr f g1) (by rw [rm.1 e]; exact g2))
/-! identities -/
theorem p_mt129 {h : tpH} {Q q mk s s' : Nat} {t u : mT} {kd idn : Nat → Int32} (X : RX h Q q mk s s' t u) {F0 : Nat → Nat → Int32} (C0 : RF F0 Q q mk s s' t u kd idn) {x i : Nat} (hx : tIn t x = true) (px : pl t x = i) {R : tpH → Prop} {K : Nat → Int32 → Int32 → Int32 → tpH → Prop} :
    ∀ (n j : Nat) (F : Nat → Nat → Int32) (P : mP), j ≤ (pO u).length → (pO u).length < n + j → pmFr q F0 F → McM F q t u P → pOK t u P → (∀ G, pmFr q F0 G → McM G q t u (if idn x = -1 then P else opP P x (((pO u).drop j).find? (mayB kd idn P x))) → K Q (nI s) (nI s') (nI i + 1) (wI h G)) → w_Md_matchTrees_129 R K n Q (nI s) (nI s') (nI i) (nI j) (wI h F)
  | 0, j, F, P, h1, h2, f, M, ok, kk => by omega
  | n + 1, j, F, P, h1, h2, f, M, ok, kk => by
    have C := RF_fr X C0 (pmFr_s f)
    obtain ⟨⟨ld, hQ⟩, ⟨hs, hs'⟩, hk, ⟨hw, hu⟩, ht, hum⟩ := id X
    have l4 := pO_le hu
    have e35 : hI (wI h F) Q 35 = nI (pO u).length := C.2.2.1.2.2
    refine ⟨ld.1, ?_⟩
    rw [e35]
    by_cases hj : j < (pO u).length
    · obtain ⟨x', ex', px', hx', a1, a3, av, ax⟩ := la_at X C (i := i) (by rw [← px]; exact pl_lt hw hx)
      have exx : x' = x := pl_inj hw hx' hx (by omega)
      rw [exx] at ax
      obtain ⟨y, ey, py, hy, b1, b3, bv, bx⟩ := lb_at X C hj
      have ax' : hI (wI h F) (q + 24) (nI i).toNatClampNeg = nI x := ax
      have bx' : hI (wI h F) (q + 25) (nI j).toNatClampNeg = nI y := bx
      obtain ⟨d1, d2, d3⟩ := md_f ld (j := 1) (kd := 15) (n := 300) (f := 2) (by decide)
      have x3 := hw.1.1 x hx
      have ix : hI (wI h F) (q + 1) (nI x).toNatClampNeg = idn x := by rw [nI_clamp (by omega)]; exact (C.1.2 x (ht x hx)).2
      refine ⟨fun g => absurd ((nI_le_iff (by omega) (by omega)).mp g) (by omega), fun _ => ⟨q + 24, a3, a1, av, q + 1, d3, d1, ?_, ?_⟩⟩
      · rw [ax', wI_L, d2]; exact vp_in_nI x3 (by decide)
      rw [ax', ix]
      refine ⟨fun g => kk F f (by rw [if_pos g]; exact M), fun g1 => ⟨av, q + 25, b3, b1, bv, ?_⟩⟩
      rw [if_neg g1, ey, List.find?_cons] at kk
      rw [bx']
      refine p_canP X C M ok hx hy (fun e => ⟨fun g => absurd g (by decide), fun _ => ⟨ld.1, q + 24, a3, a1, av, q + 25, b3, b1, bv, ?_⟩⟩) (fun e => ⟨fun _ => ?_, fun g => absurd rfl g⟩)
      · rw [ax', bx']
        refine p_Mpair X M hx hy (fun G k1 k2 => ?_)
        rw [e] at kk
        have kk : ∀ G, pmFr q F0 G → McM G q t u (pP P x y) → K Q (nI s) (nI s') (nI i + 1) (wI h G) := kk
        have n := mayB_n e
        rw [nI_1]
        refine p_mt129 X C0 hx px _ (j + 1) G _ (by omega) (by omega) (pmFr_tr f k1) k2 (pOK_p ok hx hy n.1 n.2) ?_
        rw [if_neg g1]
        have nf : ((pO u).drop (j + 1)).find? (mayB kd idn (pP P x y) x) = none := List.find?_eq_none.mpr (fun z _ g => by
          have q1 := (mayB_n g).1
          have q2 : (pP P x y).1 x = some y := by unfold pP; simp only [if_true]
          rw [q2] at q1
          cases q1)
        rw [nf]
        exact kk
      · rw [e] at kk
        rw [nI_1]
        refine p_mt129 X C0 hx px n (j + 1) F P (by omega) (by omega) f M ok ?_
        rw [if_neg g1]
        exact kk
    · refine ⟨fun _ => kk F f ?_, fun g => absurd ((nI_le_iff (by omega) (by omega)).mpr (by omega)) g⟩
      rw [List.drop_eq_nil_of_le (by omega)]
      by_cases g : idn x = -1
      · rw [if_pos g]; exact M
      · rw [if_neg g]; exact M
theorem idS_r {kd idn : Nat → Int32} {t u : mT} {P : mP} {x : Nat} : (if idn x = -1 then P else opP P x ((pO u).find? (mayB kd idn P x))) = idS kd idn u P x := by
  rw [idS_eq]
  by_cases c : idn x = -1
  · rw [if_pos c, if_neg (fun g => g.2 c)]
  · rw [if_neg c]
    by_cases c2 : P.1 x = none
    · rw [if_pos ⟨c2, c⟩]
    · rw [if_neg (fun g => c2 g.1), List.find?_eq_none.mpr (fun z _ g => c2 (mayB_n g).1)]
      rfl
end RM1
