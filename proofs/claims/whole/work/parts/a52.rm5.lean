section RM5
/-! the reference: all that are alike -/
theorem p_ma137 {h : tpH} {Q q mk s s' : Nat} {t u : mT} {kd idn : Nat → Int32} (X : RX h Q q mk s s' t u) {F : Nat → Nat → Int32} (C : RF F Q q mk s s' t u kd idn) {P : mP} (M : McM F q t u P) (ok : pOK t u P) (L1 : plP F (q + 33) t P.1) (L2 : plP F (q + 34) u P.2) {x k : Nat} (hx : tIn t x = true) (px : pl t x = k) {o : Option Nat} (ho : (if pnO t P x = true then (pO u).find? (fun y => pnN u P y && akB kd idn t u x y) else none) = o) {R : tpH → Prop} {K : Nat → Int32 → Int32 → Int32 → tpH → Prop} (kk : ∀ G, rmFr q F G → McM G q t u (alS kd idn t u P x) → plP G (q + 33) t (alS kd idn t u P x).1 → plP G (q + 34) u (alS kd idn t u P x).2 → K Q (nI s) (nI s') (nI k + 1) (wI h G)) : w_Md_matchAlike_137 R K Q (nI s) (nI s') (nI k) (nO o) (wI h F) := by
  obtain ⟨⟨ld, hQ⟩, ⟨hs, hs'⟩, hk, ⟨hw, hu⟩, ht, hum⟩ := id X
  obtain ⟨x', ex', px', hx', a1, a3, av, ax⟩ := la_at X C (i := k) (by rw [← px]; exact pl_lt hw hx)
  have exx : x' = x := pl_inj hw hx' hx (by omega)
  rw [exx] at ax
  have ax' : hI (wI h F) (q + 24) (nI k).toNatClampNeg = nI x := ax
  have o1 := al_inv (kd := kd) (idn := idn) hw hu hx ok
  cases o with
  | none =>
    have e : alS kd idn t u P x = P := by
      unfold alS
      by_cases c : pnO t P x = true
      · rw [if_pos c] at ho
        rw [if_pos c, ho]
        rfl
      · rw [if_neg c]
    rw [e] at kk
    exact ⟨fun _ => kk F (fun _ _ _ => rfl) M L1 L2, fun g => absurd rfl g⟩
  | some y =>
    by_cases c : pnO t P x = true
    · rw [if_pos c] at ho
      have e : alS kd idn t u P x = brS kd idn t u P x y := by
        unfold alS
        rw [if_pos c, ho]
        rfl
      obtain ⟨H, hN⟩ := alH_of hw hu hx ho
      have y3 := hu.1.1 y H.2.2.1
      rw [e] at kk o1
      refine ⟨fun g => absurd g (nI_ne_m (by omega)), fun _ => ⟨ld.1, q + 24, a3, a1, av, ?_⟩⟩
      rw [ax']
      refine p_MpB X C M H (fun G g1 g2 => ⟨ld.1, ?_⟩)
      refine p_lay2 X (RF_fr X C g1) g2 o1 (fun G2 k1 k2 k3 => kk G2 (rmFr_tr g1 (fun b j hb => k1 b j (by omega))) ⟨fun z hz => (k1 _ _ (by omega)).trans (g2.1 z hz), fun z hz => (k1 _ _ (by omega)).trans (g2.2 z hz)⟩ k2 k3)
    · rw [if_neg c] at ho
      cases ho
theorem p_ma58 {h : tpH} {Q q mk s s' : Nat} {t u : mT} {kd idn : Nat → Int32} (X : RX h Q q mk s s' t u) {F : Nat → Nat → Int32} (C : RF F Q q mk s s' t u kd idn) {P : mP} (L1 : plP F (q + 33) t P.1) (L2 : plP F (q + 34) u P.2) {x k : Nat} (hx : tIn t x = true) (px : pl t x = k) {R : tpH → Prop} {K : Nat → Int32 → Int32 → Int32 → tpH → Prop} (kk : w_Md_matchAlike_137 R K Q (nI s) (nI s') (nI k) (nO (if pnO t P x = true then (pO u).find? (fun y => pnN u P y && akB kd idn t u x y) else none)) (wI h F)) :
    ∀ (n j : Nat), j ≤ (pO u).length → (pO u).length < n + j → ((pO u).drop j).find? (fun y => pnN u P y && akB kd idn t u x y) = (pO u).find? (fun y => pnN u P y && akB kd idn t u x y) → w_Md_matchAlike_58 R K n Q (nI s) (nI s') (nI k) (-1) (nI j) (wI h F)
  | 0, j, h1, h2, e => by omega
  | n + 1, j, h1, h2, e => by
    obtain ⟨⟨ld, hQ⟩, ⟨hs, hs'⟩, hk, ⟨hw, hu⟩, ht, hum⟩ := id X
    have l3 := pO_le hw
    have l4 := pO_le hu
    have e35 : hI (wI h F) Q 35 = nI (pO u).length := C.2.2.1.2.2
    obtain ⟨x', ex', px', hx', a1, a3, av, ax⟩ := la_at X C (i := k) (by rw [← px]; exact pl_lt hw hx)
    have exx : x' = x := pl_inj hw hx' hx (by omega)
    rw [exx] at ax
    have ax' : hI (wI h F) (q + 24) (nI k).toNatClampNeg = nI x := ax
    have kl := pl_lt hw hx
    obtain ⟨p1, p2, p3⟩ := md_f ld (j := 33) (kd := 16) (n := 300) (f := 43) (by decide)
    obtain ⟨r1, r2, r3⟩ := md_f ld (j := 34) (kd := 16) (n := 300) (f := 44) (by decide)
    obtain ⟨c1, c2, c3⟩ := md_f ld (j := 27) (kd := 16) (n := 90000) (f := 37) (by decide)
    have x3 := hw.1.1 x hx
    refine ⟨ld.1, ?_⟩
    rw [e35]
    by_cases hj : j < (pO u).length
    · obtain ⟨y, ey, py, hy, b1, b3, bv, bx⟩ := lb_at X C hj
      have bx' : hI (wI h F) (q + 25) (nI j).toNatClampNeg = nI y := bx
      have y3 := hu.1.1 y hy
      rw [ey, List.find?_cons] at e
      refine ⟨fun g => absurd ((nI_le_iff (by omega) (by omega)).mp g) (by omega), fun _ => ⟨fun g => absurd rfl g, fun _ => ⟨q + 24, a3, a1, av, q + 33, p3, p1, ?_⟩⟩⟩
      rw [ax']
      have ep : hI (wI h F) (q + 33) (nI x).toNatClampNeg = if pnm t P.1 x = true then 1 else 0 := by rw [nI_clamp (by omega)]; exact L1 x hx
      refine ⟨by rw [wI_L, p2]; exact vp_in_nI x3 (by decide), ?_⟩
      rw [ep]
      by_cases cp : pnm t P.1 x = true
      · have cp' : pnO t P x = true := cp
        rw [if_pos cp'] at kk
        rw [if_pos cp]
        refine ⟨fun g => absurd g (by decide), fun _ => ⟨q + 25, b3, b1, bv, q + 34, r3, r1, ?_⟩⟩
        rw [bx']
        have en : hI (wI h F) (q + 34) (nI y).toNatClampNeg = if pnm u P.2 y = true then 1 else 0 := by rw [nI_clamp (by omega)]; exact L2 y hy
        refine ⟨by rw [wI_L, r2]; exact vp_in_nI y3 (by decide), ?_⟩
        rw [en]
        have no : (pnN u P y && akB kd idn t u x y) = false → w_Md_matchAlike_58 R K n Q (nI s) (nI s') (nI k) (-1) (nI j + 1) (wI h F) := fun g => by
          rw [g] at e
          rw [nI_1]
          exact p_ma58 X C L1 L2 hx px (by rw [if_pos cp']; exact kk) n (j + 1) (by omega) (by omega) e
        by_cases cn : pnm u P.2 y = true
        · have cn' : pnN u P y = true := cn
          rw [if_pos cn]
          refine ⟨fun g => absurd g (by decide), fun _ => ⟨q + 27, c3, c1, ?_⟩⟩
          have i3 : (300 : Int32) * nI k + nI j = nI (300 * k + j) := ix_e k j
          rw [i3, nI_clamp (by omega)]
          have ea : hI (wI h F) (q + 27) (300 * k + j) = if akB kd idn t u x y = true then 1 else 0 := by
            rw [← px, ← py]
            exact C.2.2.2.2 x hx y hy
          refine ⟨by rw [wI_L, c2]; exact vp_in_nI (by omega) (by decide), ?_⟩
          rw [ea]
          by_cases ca : akB kd idn t u x y = true
          · rw [if_pos ca]
            refine ⟨fun g => absurd g (by decide), fun _ => ⟨bv, ?_⟩⟩
            rw [cn', ca] at e
            have e' : some y = (pO u).find? (fun y => pnN u P y && akB kd idn t u x y) := e
            rw [← e'] at kk
            obtain ⟨n', hn'⟩ : ∃ n', n = n' + 1 := ⟨n - 1, by omega⟩
            rw [hn']
            refine ⟨ld.1, ?_⟩
            rw [e35]
            exact ⟨fun _ => kk, fun _ => ⟨fun _ => kk, fun g => absurd g (nI_ne_m (by omega))⟩⟩
          · rw [if_neg ca]
            exact ⟨fun _ => no (by rw [cn', Bool.eq_false_iff.mpr ca]; rfl), fun g => absurd rfl g⟩
        · rw [if_neg cn]
          exact ⟨fun _ => no (by rw [show pnN u P y = false from Bool.eq_false_iff.mpr cn]; rfl), fun g => absurd rfl g⟩
      · rw [if_neg cp]
        rw [if_neg (show ¬ pnO t P x = true from cp)] at kk
        exact ⟨fun _ => kk, fun g => absurd rfl g⟩
    · rw [List.drop_eq_nil_of_le (by omega)] at e
      have e' : none = (pO u).find? (fun y => pnN u P y && akB kd idn t u x y) := e
      rw [← e', ite_self] at kk
      exact ⟨fun _ => kk, fun g => absurd ((nI_le_iff (by omega) (by omega)).mpr (by omega)) g⟩
theorem p_ma44 {h : tpH} {Q q mk s s' : Nat} {t u : mT} {kd idn : Nat → Int32} (X : RX h Q q mk s s' t u) {F0 : Nat → Nat → Int32} (C0 : RF F0 Q q mk s s' t u kd idn) {R : tpH → Prop} :
    ∀ (n i : Nat) (F : Nat → Nat → Int32) (P : mP), i ≤ (pO t).length → (pO t).length < n + i → rmFr q F0 F → McM F q t u P → pOK t u P → plP F (q + 33) t P.1 → plP F (q + 34) u P.2 → (∀ G, rmFr q F0 G → McM G q t u (((pO t).drop i).foldl (alS kd idn t u) P) → R (wI h G)) → w_Md_matchAlike_44 R n Q (nI s) (nI s') (nI i) (wI h F)
  | 0, i, F, P, h1, h2, f, M, ok, L1, L2, kk => by omega
  | n + 1, i, F, P, h1, h2, f, M, ok, L1, L2, kk => by
    have C := RF_fr X C0 f
    obtain ⟨⟨ld, hQ⟩, ⟨hs, hs'⟩, hk, ⟨hw, hu⟩, ht, hum⟩ := id X
    have l3 := pO_le hw
    have e34 : hI (wI h F) Q 34 = nI (pO t).length := C.2.2.1.2.1
    refine ⟨ld.1, ?_⟩
    rw [e34]
    by_cases hi : i < (pO t).length
    · obtain ⟨x, ex, px, hx, nx⟩ := dr_cons hw hi
      rw [ex, List.foldl_cons] at kk
      refine ⟨fun g => absurd ((nI_le_iff (by omega) (by omega)).mp g) (by omega), fun _ => ⟨(pO u).length + 1, ?_⟩⟩
      refine p_ma58 X C L1 L2 hx px (p_ma137 X C M ok L1 L2 hx px rfl (fun G g1 g2 g3 g4 => ?_)) _ 0 (Nat.zero_le _) (by omega) (by rw [List.drop_zero])
      rw [nI_1]
      exact p_ma44 X C0 n (i + 1) G _ (by omega) (by omega) (rmFr_tr f g1) g2 (al_inv hw hu hx ok) g3 g4 kk
    · refine ⟨fun _ => kk F f ?_, fun g => absurd ((nI_le_iff (by omega) (by omega)).mpr (by omega)) g⟩
      rw [List.drop_eq_nil_of_le (by omega)]
      exact M
theorem p_Mal {h : tpH} {Q q mk s s' : Nat} {t u : mT} {kd idn : Nat → Int32} (X : RX h Q q mk s s' t u) {F : Nat → Nat → Int32} (C : RF F Q q mk s s' t u kd idn) {P : mP} (M : McM F q t u P) (ok : pOK t u P) {R : tpH → Prop} (kk : ∀ G, rmFr q F G → McM G q t u ((pO t).foldl (alS kd idn t u) P) → R (wI h G)) : w_Md_matchAlike Q (nI s) (nI s') (wI h F) R := by
  refine ⟨X.1.1.1, p_lay2 X C M ok (fun G g1 g2 g3 => ⟨(pO t).length + 1, ?_⟩)⟩
  have f : rmFr q F G := fun b j hb => g1 b j (by omega)
  exact p_ma44 X C _ 0 G P (Nat.zero_le _) (by omega) f ⟨fun x hx => (g1 _ _ (by omega)).trans (M.1 x hx), fun y hy => (g1 _ _ (by omega)).trans (M.2 y hy)⟩ ok g2 g3 kk
theorem p_mt118 {h : tpH} {Q q mk s s' : Nat} {t u : mT} {kd idn : Nat → Int32} (X : RX h Q q mk s s' t u) {F0 : Nat → Nat → Int32} (C0 : RF F0 Q q mk s s' t u kd idn) {R : tpH → Prop} {P0 : mP} (hP : (pO t).foldl (idS kd idn u) P0 = MTa kd idn t u) (kk : ∀ G, rmFr q F0 G → McM G q t u (MTd kd idn t u) → R (wI h G)) :
    ∀ (n i : Nat) (F : Nat → Nat → Int32) (P : mP), i ≤ (pO t).length → (pO t).length < n + i → pmFr q F0 F → McM F q t u P → pOK t u P → ((pO t).drop i).foldl (idS kd idn u) P = (pO t).foldl (idS kd idn u) P0 → w_Md_matchTrees_118 R n Q (nI s) (nI s') (nI i) (wI h F)
  | 0, i, F, P, h1, h2, f, M, ok, e => by omega
  | n + 1, i, F, P, h1, h2, f, M, ok, e => by
    have C := RF_fr X C0 (pmFr_s f)
    obtain ⟨⟨ld, hQ⟩, ⟨hs, hs'⟩, hk, ⟨hw, hu⟩, ht, hum⟩ := id X
    have l3 := pO_le hw
    have e34 : hI (wI h F) Q 34 = nI (pO t).length := C.2.2.1.2.1
    refine ⟨ld.1, ?_⟩
    rw [e34]
    by_cases hi : i < (pO t).length
    · obtain ⟨x, ex, px, hx, nx⟩ := dr_cons hw hi
      rw [ex, List.foldl_cons] at e
      refine ⟨fun g => absurd ((nI_le_iff (by omega) (by omega)).mp g) (by omega), fun _ => ⟨(pO u).length + 1, ?_⟩⟩
      refine p_mt129 X C hx px _ 0 F P (Nat.zero_le _) (by omega) (fun _ _ _ => rfl) M ok (fun G g1 g2 => ?_)
      rw [List.drop_zero, idS_r (t := t)] at g2
      rw [nI_1]
      exact p_mt118 X C0 hP kk n (i + 1) G _ (by omega) (by omega) (pmFr_tr f g1) g2 (id_inv hu hx ok) e
    · rw [List.drop_eq_nil_of_le (by omega), hP] at e
      have e : P = MTa kd idn t u := e
      rw [e] at M
      refine ⟨fun _ => ?_, fun g => absurd ((nI_le_iff (by omega) (by omega)).mpr (by omega)) g⟩
      refine p_Mal X C M (MTa_ok hw hu) (fun G1 f1 M1 => ⟨ld.1, (pO u).length + 1, ?_⟩)
      have g1 : rmFr q F0 G1 := rmFr_tr (pmFr_s f) f1
      refine p_mc3 (v := true) X (RF_fr X C0 g1) _ 0 G1 _ (Nat.zero_le _) (by omega) (fun _ _ _ => rfl) M1 (MTb_ok hw hu) (fun G2 f2 M2 => ⟨ld.1, (pO u).length + 1, ?_⟩)
      have g2 := rmFr_tr g1 (pmFr_s f2)
      rw [List.drop_zero] at M2
      refine p_mc3 (v := false) X (RF_fr X C0 g2) _ 0 G2 _ (Nat.zero_le _) (by omega) (fun _ _ _ => rfl) M2 (MTc1_ok hw hu) (fun G3 f3 M3 => ⟨ld.1, ld.1, (pO t).length + 1, ?_⟩)
      have g3 := rmFr_tr g2 (pmFr_s f3)
      rw [List.drop_zero] at M3
      have C3 := RF_fr X C0 g3
      have e34' : hI (wI h G3) Q 34 = nI (pO t).length := C3.2.2.1.2.1
      rw [e34', Int32.sub_eq_add_neg]
      refine p_ml7 X C3 _ (pO t).length G3 _ (Nat.le_refl _) (Nat.lt_succ_self _) (fun _ _ _ => rfl) M3 (MTc_ok hw hu) (fun G4 f4 M4 => kk G4 (rmFr_tr g3 (pmFr_s f4)) ?_)
      rw [List.take_length] at M4
      exact M4
def mtFr (Q q : Nat) (F G : Nat → Nat → Int32) : Prop := ∀ b j, ¬ ((b = Q ∧ (j = 34 ∨ j = 35)) ∨ (q + 24 ≤ b ∧ b ≤ q + 36)) → G b j = F b j
theorem p_Mtr {h : tpH} {Q q mk s s' : Nat} {t u : mT} {kd idn : Nat → Int32} (X : RX h Q q mk s s' t u) (hr : kd (tRt t) = kd (tRt u) ∧ idn (tRt t) = idn (tRt u)) {F : Nat → Nat → Int32} (hM : MaM F Q q mk kd idn) (D1 : MtP F q s t) (D2 : MtP F q s' u) {R : tpH → Prop} (kk : ∀ G, mtFr Q q F G → RF G Q q mk s s' t u kd idn → McM G q t u (MTd kd idn t u) → R (wI h G)) : w_Md_matchTrees Q (nI s) (nI s') (wI h F) R := by
  obtain ⟨⟨ld, hQ⟩, ⟨hs, hs'⟩, hk, ⟨hw, hu⟩, ht, hum⟩ := id X
  refine ⟨ld.1, p_Md_layAlike ld hQ hs hs' hk hw hu ht hum hM D1 D2 (fun G g1 g2 g3 g4 => ⟨301, ?_⟩)⟩
  have C : RF G Q q mk s s' t u kd idn := by
    refine ⟨⟨?_, fun m hm => ?_⟩, ⟨MtP_fr D1 (fun b b1 b2 => funext fun j => g1 b j (by omega)), MtP_fr D2 (fun b b1 b2 => funext fun j => g1 b j (by omega))⟩, g2, g3, g4⟩
    · rw [g1 _ _ (by omega)]; exact hM.1
    · rw [g1 _ _ (by omega), g1 _ _ (by omega)]; exact hM.2 m hm
  have z0 : (0 : Int32) = nI 0 := rfl
  have i0 : smI t u mt0 := ⟨⟨fun x y => ⟨fun g => (by cases g), fun g => (by cases g)⟩, fun x y g => (by cases g)⟩, fun x y g => (by cases g)⟩
  have i1 := f_inv (I := smI t u) (f := smS u) (pO t) mt0 (fun P x hx i => sm_inv ((pO_mem hw).mp hx) i) i0
  refine p_mt8 X (F0 := G) (fun G1 f1 M1 => ⟨(pO t).length + 1, ?_⟩) 301 0 G (by omega) (by omega) (fun _ _ _ => rfl) (fun j hj => absurd hj (Nat.not_lt_zero _))
  have C1 := RF_fr X C (pmFr_s f1)
  refine p_mt37 X hr C1 _ 0 G1 mt0 (Nat.zero_le _) (by omega) (fun _ _ _ => rfl) M1 i0 (fun G2 f2 M2 => ⟨(pO t).length + 1, ?_⟩)
  rw [List.drop_zero] at M2
  have C2 := RF_fr X C1 (pmFr_s f2)
  exact p_mt118 X C2 (P0 := rtS t u ((pO t).foldl (smS u) mt0)) rfl (fun G3 f3 M3 => kk G3 (fun b j hb => (f3 b j (by omega)).trans ((f2 b j (by omega)).trans ((f1 b j (by omega)).trans (g1 b j (by omega))))) (RF_fr X C2 f3) M3) _ 0 G2 _ (Nat.zero_le _) (by omega) (fun _ _ _ => rfl) M2 (rt_inv hw hu i1.1) (by rw [List.drop_zero])
end RM5
