section RM2
/-! the reference: children of matched nodes -/
theorem p_mc64 {h : tpH} {Q q mk s s' : Nat} {t u : mT} {kd idn : Nat → Int32} (X : RX h Q q mk s s' t u) {F : Nat → Nat → Int32} (C : RF F Q q mk s s' t u kd idn) {P : mP} (M : McM F q t u P) (ok : pOK t u P) {x c : Nat} (hx : tIn t x = true) (hc : tIn u c = true) {v : Bool} {R : tpH → Prop} {K : Nat → Int32 → Int32 → Int32 → Int32 → Int32 → Int32 → tpH → Prop} {x4 x5 : Int32} :
    ∀ (n : Nat) (L : List Nat) (w : Int32), (∀ k ∈ L, k ∈ tKi t x) → seg (fun z => F (q + 6) (300 * s + z)) w L (-1) → L.length < n → w_Md_matchChildren_140 R K Q (nI s) (nI s') (if v = true then 1 else 0) x4 x5 (nI c) (nO (L.find? (abB kd idn t u v P c))) (wI h F) → w_Md_matchChildren_64 R K n Q (nI s) (nI s') (if v = true then 1 else 0) x4 x5 (nI c) (-1) w (wI h F)
  | 0, L, w, h1, h2, h3, k => by omega
  | n + 1, [], w, h1, h2, h3, k => ⟨fun _ => k, fun g => absurd h2 g⟩
  | n + 1, z :: L, w, h1, h2, h3, k => by
    obtain ⟨⟨ld, hQ⟩, ⟨hs, hs'⟩, hk, ⟨hw, hu⟩, ht, hum⟩ := id X
    obtain ⟨e1, e2⟩ := h2
    subst e1
    have hz := ((hw.1.2.1 z x).mp (h1 z List.mem_cons_self)).1
    have z3 := hw.1.1 z hz
    have c3 := hu.1.1 c hc
    rw [List.find?_cons] at k
    have no : abB kd idn t u v P c z = false → w_Md_matchChildren_113 R (w_Md_matchChildren_64 R K n) Q (nI s) (nI s') (if v = true then 1 else 0) x4 x5 (nI c) (nI z) 0 (wI h F) := fun e => by
      rw [e] at k
      refine ⟨fun _ => ⟨ld.1, ?_⟩, fun g => absurd rfl g⟩
      rw [e_Md_nextIn ld hs z3]
      exact p_mc64 X C M ok hx hc n L _ (fun y hy => h1 y (List.mem_cons_of_mem _ hy)) e2 (by simp at h3; omega) k
    have yes : abB kd idn t u v P c z = true → w_Md_matchChildren_113 R (w_Md_matchChildren_64 R K n) Q (nI s) (nI s') (if v = true then 1 else 0) x4 x5 (nI c) (nI z) 1 (wI h F) := fun e => by
      rw [e] at k
      refine ⟨fun g => absurd g (by decide), fun _ => ⟨ld.1, ?_⟩⟩
      rw [e_Md_nextIn ld hs z3]
      obtain ⟨n', en⟩ : ∃ n', n = n' + 1 := ⟨n - 1, by simp at h3; omega⟩
      rw [en]
      exact ⟨fun _ => k, fun _ => ⟨fun _ => k, fun g => absurd g (nI_ne_m (by omega))⟩⟩
    refine ⟨fun g => absurd g (nI_ne_m (by omega)), fun _ => ⟨fun g => absurd rfl g, fun _ => ⟨ld.1, p_canP X C M ok hz hc (fun e => ⟨fun g => absurd g (by decide), fun _ => ⟨fun g => yes ?_, fun g => ⟨ld.1, ?_⟩⟩⟩) (fun e => ⟨fun _ => no ?_, fun g => absurd rfl g⟩)⟩⟩⟩
    · unfold abB
      cases v with
      | true => exact absurd g (by decide)
      | false => rw [e]; rfl
    · rw [e_Md_valueIn ld hs z3, (C.2.1.1.1 z hz).1]
      refine ⟨ld.1, ?_⟩
      rw [e_Md_valueIn ld hs' c3, (C.2.1.2.1 c hc).1]
      cases v with
      | false => exact absurd rfl g
      | true =>
        refine ⟨fun q => no ?_, fun q => yes ?_⟩
        · unfold abB
          rw [e, decide_eq_false q]; rfl
        · unfold abB
          rw [e, decide_eq_true q]; rfl
    · unfold abB
      rw [e]; rfl
theorem p_mc40 {h : tpH} {Q q mk s s' : Nat} {t u : mT} {kd idn : Nat → Int32} (X : RX h Q q mk s s' t u) {F0 : Nat → Nat → Int32} (C0 : RF F0 Q q mk s s' t u kd idn) {x y : Nat} (hx : tIn t x = true) (hy : tIn u y = true) {v : Bool} {R : tpH → Prop} {K : Nat → Int32 → Int32 → Int32 → Int32 → tpH → Prop} {x4 : Int32} :
    ∀ (n : Nat) (L : List Nat) (w : Int32) (F : Nat → Nat → Int32) (P : mP), (∀ k ∈ L, k ∈ tKi u y) → seg (fun z => F0 (q + 6) (300 * s' + z)) w L (-1) → L.length < n → pmFr q F0 F → McM F q t u P → pOK t u P → (∀ G, pmFr q F0 G → McM G q t u (L.foldl (abC kd idn t u v x) P) → K Q (nI s) (nI s') (if v = true then 1 else 0) (x4 + 1) (wI h G)) → w_Md_matchChildren_40 R K n Q (nI s) (nI s') (if v = true then 1 else 0) x4 (nI x) w (wI h F)
  | 0, L, w, F, P, h1, h2, h3, f, M, ok, kk => by omega
  | n + 1, [], w, F, P, h1, h2, h3, f, M, ok, kk => ⟨fun _ => kk F f M, fun g => absurd h2 g⟩
  | n + 1, c :: L, w, F, P, h1, h2, h3, f, M, ok, kk => by
    have C := RF_fr X C0 (pmFr_s f)
    obtain ⟨⟨ld, hQ⟩, ⟨hs, hs'⟩, hk, ⟨hw, hu⟩, ht, hum⟩ := id X
    obtain ⟨e1, e2⟩ := h2
    subst e1
    have hc := ((hu.1.2.1 c y).mp (h1 c List.mem_cons_self)).1
    have c3 := hu.1.1 c hc
    have x3 := hw.1.1 x hx
    have o1 := abC_inv (kd := kd) (idn := idn) (v := v) (x := x) hw hc ok
    rw [List.foldl_cons] at kk
    refine ⟨fun g => absurd g (nI_ne_m (by omega)), fun _ => ⟨fun g => absurd g (nI_ne_m (by omega)), fun _ => ⟨ld.1, ?_⟩⟩⟩
    rw [e_Md_firstIn ld hs x3]
    refine ⟨(tKi t x).length + 1, p_mc64 X C M ok hx hc _ (tKi t x) _ (fun k hk => hk) (C.2.1.1.1 x hx).2.2 (Nat.lt_succ_self _) ?_⟩
    have nxt : ∀ G P', pmFr q F0 G → McM G q t u P' → P' = abC kd idn t u v x P c → w_Md_matchChildren_154 R (w_Md_matchChildren_40 R K n) Q (nI s) (nI s') (if v = true then 1 else 0) x4 (nI x) (nI c) (wI h G) := fun G P' g1 g2 g3 => by
      refine ⟨ld.1, ?_⟩
      rw [e_Md_nextIn ld hs' c3, show G (q + 6) (300 * s' + c) = F0 (q + 6) (300 * s' + c) from g1 _ _ (by omega)]
      rw [g3] at g2
      exact p_mc40 X C0 hx hy n L _ G _ (fun z hz => h1 z (List.mem_cons_of_mem _ hz)) e2 (by simp at h3; omega) g1 g2 o1 kk
    cases e : (tKi t x).find? (abB kd idn t u v P c) with
    | none => exact ⟨fun _ => nxt F P f M (by unfold abC; rw [e]; rfl), fun g => absurd rfl g⟩
    | some k =>
      have hkt := ((hw.1.2.1 k x).mp (List.mem_of_find?_eq_some e)).1
      have k3 := hw.1.1 k hkt
      refine ⟨fun g => absurd g (nI_ne_m (by omega)), fun _ => ⟨ld.1, p_Mpair X M hkt hc (fun G g1 g2 => nxt G _ (pmFr_tr f g1) g2 (by unfold abC; rw [e]; rfl))⟩⟩
theorem p_mc3 {h : tpH} {Q q mk s s' : Nat} {t u : mT} {kd idn : Nat → Int32} (X : RX h Q q mk s s' t u) {F0 : Nat → Nat → Int32} (C0 : RF F0 Q q mk s s' t u kd idn) {v : Bool} {R : tpH → Prop} :
    ∀ (n i : Nat) (F : Nat → Nat → Int32) (P : mP), i ≤ (pO u).length → (pO u).length < n + i → pmFr q F0 F → McM F q t u P → pOK t u P → (∀ G, pmFr q F0 G → McM G q t u (((pO u).drop i).foldl (abS kd idn t u v) P) → R (wI h G)) → w_Md_matchChildren_3 R n Q (nI s) (nI s') (if v = true then 1 else 0) (nI i) (wI h F)
  | 0, i, F, P, h1, h2, f, M, ok, kk => by omega
  | n + 1, i, F, P, h1, h2, f, M, ok, kk => by
    have C := RF_fr X C0 (pmFr_s f)
    obtain ⟨⟨ld, hQ⟩, ⟨hs, hs'⟩, hk, ⟨hw, hu⟩, ht, hum⟩ := id X
    have l4 := pO_le hu
    have e35 : hI (wI h F) Q 35 = nI (pO u).length := C.2.2.1.2.2
    refine ⟨ld.1, ?_⟩
    rw [e35]
    by_cases hi : i < (pO u).length
    · obtain ⟨y, ey, py, hy, b1, b3, bv, bx⟩ := lb_at X C hi
      obtain ⟨d1, d2, d3⟩ := md_f ld (j := 32) (kd := 15) (n := 300) (f := 42) (by decide)
      have y3 := hu.1.1 y hy
      have bx' : hI (wI h F) (q + 25) (nI i).toNatClampNeg = nI y := bx
      rw [ey, List.foldl_cons] at kk
      have o1 := ab_inv (kd := kd) (idn := idn) (v := v) (y := y) hw hu ok
      refine ⟨fun g => absurd ((nI_le_iff (by omega) (by omega)).mp g) (by omega), fun _ => ⟨q + 25, b3, b1, bv, q + 32, d3, d1, ?_, bv, ?_⟩⟩
      · rw [bx', wI_L, d2]; exact vp_in_nI y3 (by decide)
      have em : hI (wI h F) (q + 32) (nI y).toNatClampNeg = nO (P.2 y) := by rw [nI_clamp (by omega)]; exact M.2 y hy
      rw [bx', e_Md_firstIn ld hs' y3, em]
      cases e : P.2 y with
      | none =>
        have ea : abS kd idn t u v P y = P := by unfold abS; rw [e]
        rw [ea] at kk
        have r : w_Md_matchChildren_3 R n Q (nI s) (nI s') (if v = true then 1 else 0) (nI i + 1) (wI h F) := by
          rw [nI_1]
          exact p_mc3 X C0 n (i + 1) F P (by omega) (by omega) f M ok kk
        exact ⟨1, fun _ => r, fun _ => ⟨fun _ => r, fun g => absurd rfl g⟩⟩
      | some x =>
        have hx := (ok.2 x y ((ok.1 x y).mpr e)).1
        have ea : abS kd idn t u v P y = (tKi u y).foldl (abC kd idn t u v x) P := by unfold abS; rw [e]
        refine ⟨(tKi u y).length + 1, p_mc40 X C hx hy _ (tKi u y) _ F P (fun k hk => hk) (C.2.1.2.1 y hy).2.2 (Nat.lt_succ_self _) (fun _ _ _ => rfl) M ok (fun G q1 q2 => ?_)⟩
        rw [nI_1]
        rw [← ea] at q2
        exact p_mc3 X C0 n (i + 1) G _ (by omega) (by omega) (pmFr_tr f q1) q2 o1 kk
    · refine ⟨fun _ => kk F f ?_, fun g => absurd ((nI_le_iff (by omega) (by omega)).mpr (by omega)) g⟩
      rw [List.drop_eq_nil_of_le (by omega)]
      exact M
/-! the reference: likeness -/
noncomputable def blB (t : mT) (x z : Nat) : Bool := decide (z ≠ x) && decide (z ∈ tPo t x)
theorem blw_f {t : mT} (hw : tWF 300 t) {x : Nat} (hx : tIn t x = true) : ((pO t).filter (blB t x)).length = blw t x := by
  have p : ((pO t).filter (blB t x)).Perm ((tPo t x).erase x) := by
    refine (List.perm_ext_iff_of_nodup ((pO_nd hw).filter _) ((tPo_nodup hw.1 x).erase _)).mpr (fun z => ?_)
    rw [List.mem_filter, (tPo_nodup hw.1 x).mem_erase_iff]
    unfold blB
    rw [Bool.and_eq_true, decide_eq_true_iff, decide_eq_true_iff]
    exact ⟨fun g => ⟨g.2.1, g.2.2⟩, fun g => ⟨(pO_mem hw).mpr (tPo_in hw.1 hx z g.2), g.1, g.2⟩⟩
  rw [p.length_eq, List.length_erase_of_mem (tPo_self hw.1.2.2.2.1 x)]
  rfl
theorem rt_hr {t : mT} (hw : tWF 300 t) (top : Nat) : ∀ m, tIn t m = true → tUp t m = none → m = tRt t ∨ m = top := fun m hm e => Or.inl ((up_rt hw hm).mp e)
theorem p_bm6 {h : tpH} {Q q s r f : Nat} {t : mT} (ld : lMd h Q q) (hs : s < 42) (hw : tWF 300 t) {F : Nat → Nat → Int32} (D : MtP F q s t) (r1 : hT h r = 15) (r2 : hL h r = 300) (la : ∀ (j z : Nat), (pO t)[j]? = some z → F r j = nI z) {x : Nat} (hx : tIn t x = true) {R : Int32 → tpH → Prop} (kk : R (nI (blw t x)) (wI h F)) :
    ∀ (n i c : Nat), i ≤ (pO t).length → (pO t).length < n + i → c + (((pO t).drop i).filter (blB t x)).length = blw t x → w_Md_belowMany_6 R n Q (nI s) (some r) (nI (pO t).length) (nI x) (nI c) (nI i) (wI h F)
  | 0, i, c, h1, h2, e => by omega
  | n + 1, i, c, h1, h2, e => by
    have l3 := pO_le hw
    by_cases hi : i < (pO t).length
    · obtain ⟨z, ez, pz, hz, _⟩ := dr_cons hw hi
      have z3 := hw.1.1 z hz
      have x3 := hw.1.1 x hx
      have ev : vp_in (nI i) (hL (wI h F) r) := by rw [wI_L, r2]; exact vp_in_nI (by omega) (by decide)
      have er : hI (wI h F) r (nI i).toNatClampNeg = nI z := by rw [nI_clamp (by omega)]; exact la i z (by rw [← pz]; exact pO_at hw hz)
      rw [ez, List.filter_cons] at e
      refine ⟨fun g => absurd ((nI_le_iff (by omega) (by omega)).mp g) (by omega), fun _ => ⟨r, rfl, r1, ev, ?_⟩⟩
      rw [er]
      have c0 : nI c + (0 : Int32) = nI c := Int32.add_zero _
      have no : blB t x z = false → w_Md_belowMany_6 R n Q (nI s) (some r) (nI (pO t).length) (nI x) (nI c + 0) (nI i + 1) (wI h F) := fun g => by
        rw [if_neg (by rw [g]; exact Bool.false_ne_true)] at e
        rw [c0, nI_1]
        exact p_bm6 (f := f) ld hs hw D r1 r2 la hx kk n (i + 1) c (by omega) (by omega) e
      refine ⟨fun g => no ?_, fun g => ⟨ev, ld.1, ?_⟩⟩
      · have : z = x := nI_inj (by omega) (by omega) g
        unfold blB
        rw [this, decide_eq_false (fun q => q rfl)]
        rfl
      · have nx : z ≠ x := fun q => g (by rw [q])
        refine p_Md_isWithin ld hs D.1 hw.1 D.2.1.1 (rt_hr hw x) hz x3 ?_
        by_cases m : z ∈ tPo t x
        · rw [if_pos m]
          refine ⟨fun g => absurd g (by decide), fun _ => ?_⟩
          have b : blB t x z = true := by unfold blB; rw [decide_eq_true nx, decide_eq_true m]; rfl
          rw [if_pos b, List.length_cons] at e
          rw [nI_1, nI_1]
          exact p_bm6 (f := f) ld hs hw D r1 r2 la hx kk n (i + 1) (c + 1) (by omega) (by omega) (by omega)
        · rw [if_neg m]
          refine ⟨fun _ => no ?_, fun g => absurd rfl g⟩
          unfold blB
          rw [decide_eq_false m, Bool.and_false]
    · refine ⟨fun _ => ?_, fun g => absurd ((nI_le_iff (by omega) (by omega)).mpr (by omega)) g⟩
      rw [List.drop_eq_nil_of_le (by omega)] at e
      have ec : c = blw t x := e
      rw [ec]
      exact kk
theorem p_lo38 {h : tpH} {Q q mk s s' : Nat} {t u : mT} {kd idn : Nat → Int32} (X : RX h Q q mk s s' t u) {F : Nat → Nat → Int32} (C : RF F Q q mk s s' t u kd idn) {P : mP} (M : McM F q t u P) (ok : pOK t u P) {x y : Nat} (hx : tIn t x = true) (hy : tIn u y = true) {R : UInt32 → tpH → Prop} (kk : R (lkM t u P x y) (wI h F)) :
    ∀ (n i c : Nat), i ≤ (pO t).length → (pO t).length < n + i → c + (((pO t).drop i).filter (cmB t u P x y)).length = cC t u P x y → w_Md_likenessOf_38 R n Q (nI s) (nI s') (nI x) (nI y) (nI (blw t x + blw u y)) (nI c) (nI i) (wI h F)
  | 0, i, c, h1, h2, e => by omega
  | n + 1, i, c, h1, h2, e => by
    obtain ⟨⟨ld, hQ⟩, ⟨hs, hs'⟩, hk, ⟨hw, hu⟩, ht, hum⟩ := id X
    have l3 := pO_le hw
    have b1 := blw_le hw hx
    have b2 := blw_le hu hy
    have x3 := hw.1.1 x hx
    have y3 := hu.1.1 y hy
    have e34 : hI (wI h F) Q 34 = nI (pO t).length := C.2.2.1.2.1
    refine ⟨ld.1, ?_⟩
    rw [e34]
    by_cases hi : i < (pO t).length
    · obtain ⟨z, ez, pz, hz, a1, a3, av, ax⟩ := la_at X C hi
      obtain ⟨d1, d2, d3⟩ := md_f ld (j := 31) (kd := 15) (n := 300) (f := 41) (by decide)
      have ax' : hI (wI h F) (q + 24) (nI i).toNatClampNeg = nI z := ax
      have z3 := hw.1.1 z hz
      have vz : vp_in (nI z) (hL (wI h F) (q + 31)) := by rw [wI_L, d2]; exact vp_in_nI z3 (by decide)
      have em : hI (wI h F) (q + 31) (nI z).toNatClampNeg = nO (P.1 z) := by rw [nI_clamp (by omega)]; exact M.1 z hz
      rw [ez, List.filter_cons] at e
      have c0 : nI c + (0 : Int32) = nI c := Int32.add_zero _
      have no : ¬ cmP t u P x y z → w_Md_likenessOf_38 R n Q (nI s) (nI s') (nI x) (nI y) (nI (blw t x + blw u y)) (nI c + 0) (nI i + 1) (wI h F) := fun g => by
        rw [if_neg (fun q => g (cmB_iff.mp q))] at e
        rw [c0, nI_1]
        exact p_lo38 X C M ok hx hy kk n (i + 1) c (by omega) (by omega) e
      refine ⟨fun g => absurd ((nI_le_iff (by omega) (by omega)).mp g) (by omega), fun _ => ⟨q + 24, a3, a1, av, ?_⟩⟩
      rw [ax']
      have n0 : ¬ cmP t u P x y z → w_Md_likenessOf_90 R (w_Md_likenessOf_38 R n) Q (nI s) (nI s') (nI x) (nI y) (nI (blw t x + blw u y)) (nI c) (nI i) (nI z) 0 (wI h F) := fun g => ⟨fun _ => no g, fun q => absurd rfl q⟩
      refine ⟨fun g => n0 (fun q => q.1 (nI_inj (by omega) (by omega) g)), fun g => ⟨q + 31, d3, d1, vz, ?_⟩⟩
      have nx : z ≠ x := fun q => g (by rw [q])
      rw [em]
      refine ⟨fun g => n0 (fun ⟨_, _, w, q1, _⟩ => by rw [(nO_1 hu ok z).mp g] at q1; cases q1), fun g1 => ⟨vz, ?_⟩⟩
      cases eP : P.1 z with
      | none => exact absurd ((nO_1 hu ok z).mpr eP) g1
      | some w =>
        have hwu := (ok.2 z w eP).2
        have w3 := hu.1.1 w hwu
        refine ⟨fun g => n0 (fun ⟨_, _, w', q1, q2, _⟩ => ?_), fun g2 => ⟨fun g => absurd g (by decide), fun _ => ⟨ld.1, p_Md_isWithin ld hs C.2.1.1.1 hw.1 C.2.1.1.2.1.1 (rt_hr hw x) hz x3 ?_⟩⟩⟩
        · rw [eP] at q1
          have : w = y := nI_inj (by omega) (by omega) g
          exact q2 ((Option.some.inj q1).symm.trans this)
        · have ny : w ≠ y := fun q => g2 (by rw [q]; rfl)
          by_cases m : z ∈ tPo t x
          · rw [if_pos m]
            refine ⟨fun g => absurd g (by decide), fun _ => ⟨ld.1, q + 31, d3, d1, vz, ?_⟩⟩
            rw [em, eP]
            show w_Md_isWithin Q (nI s') (nI w) (nI y) (wI h F) _
            refine p_Md_isWithin ld hs' C.2.1.2.1 hu.1 C.2.1.2.2.1.1 (rt_hr hu y) hwu y3 ?_
            by_cases m2 : w ∈ tPo u y
            · rw [if_pos m2]
              refine ⟨fun g => absurd g (by decide), fun _ => ?_⟩
              rw [if_pos (cmB_iff.mpr ⟨nx, m, w, eP, ny, m2⟩), List.length_cons] at e
              rw [nI_1, nI_1]
              exact p_lo38 X C M ok hx hy kk n (i + 1) (c + 1) (by omega) (by omega) (by omega)
            · rw [if_neg m2]
              refine ⟨fun _ => no (fun ⟨_, _, w', q1, _, q3⟩ => ?_), fun g => absurd rfl g⟩
              rw [eP] at q1
              rw [← Option.some.inj q1] at q3
              exact m2 q3
          · rw [if_neg m]
            exact ⟨fun _ => no (fun q => m q.2.1), fun g => absurd rfl g⟩
    · refine ⟨fun _ => ?_, fun g => absurd ((nI_le_iff (by omega) (by omega)).mpr (by omega)) g⟩
      rw [List.drop_eq_nil_of_le (by omega)] at e
      have ec : c = cC t u P x y := e
      have z2 : (2 : Int32) = nI 2 := rfl
      unfold lkM at kk
      rw [ec, z2, mI_mul]
      by_cases c0 : blw t x + blw u y = 0
      · rw [if_pos c0] at kk
        refine ⟨fun g => absurd (by rw [c0]; rfl) g, fun _ => kk⟩
      · rw [if_neg c0] at kk
        have c1 := cC_le hw P x y (u := u)
        refine ⟨fun _ => ⟨fq_ok (by omega) (by omega) c0, kk⟩, fun g => absurd (nI_inj (b := 0) (by omega) (by omega) g) c0⟩
theorem p_Mlike {h : tpH} {Q q mk s s' : Nat} {t u : mT} {kd idn : Nat → Int32} (X : RX h Q q mk s s' t u) {F : Nat → Nat → Int32} (C : RF F Q q mk s s' t u kd idn) {P : mP} (M : McM F q t u P) (ok : pOK t u P) {x y : Nat} (hx : tIn t x = true) (hy : tIn u y = true) {R : UInt32 → tpH → Prop} (kk : R (lkM t u P x y) (wI h F)) : w_Md_likenessOf Q (nI s) (nI s') (nI x) (nI y) (wI h F) R := by
  obtain ⟨⟨ld, hQ⟩, ⟨hs, hs'⟩, hk, ⟨hw, hu⟩, ht, hum⟩ := id X
  obtain ⟨a1, a2, a3⟩ := md_f ld (j := 24) (kd := 15) (n := 300) (f := 32) (by decide)
  obtain ⟨b1, b2, b3⟩ := md_f ld (j := 25) (kd := 15) (n := 300) (f := 33) (by decide)
  have e34 : hI (wI h F) Q 34 = nI (pO t).length := C.2.2.1.2.1
  have e35 : hI (wI h F) Q 35 = nI (pO u).length := C.2.2.1.2.2
  refine ⟨ld.1, ?_⟩
  rw [e34, wI_R, a3]
  have z0 : (0 : Int32) = nI 0 := rfl
  refine ⟨(pO t).length + 1, p_bm6 (f := 0) ld hs hw C.2.1.1 a1 a2 C.2.2.1.1.1 hx ⟨ld.1, ?_⟩ _ 0 0 (Nat.zero_le _) (by omega) (by rw [Nat.zero_add, List.drop_zero]; exact blw_f hw hx)⟩
  rw [e35, wI_R, b3]
  refine ⟨(pO u).length + 1, p_bm6 (f := 0) ld hs' hu C.2.1.2 b1 b2 C.2.2.1.1.2 hy ⟨(pO t).length + 1, ?_⟩ _ 0 0 (Nat.zero_le _) (by omega) (by rw [Nat.zero_add, List.drop_zero]; exact blw_f hu hy)⟩
  rw [nI_add]
  exact p_lo38 X C M ok hx hy kk _ 0 0 (Nat.zero_le _) (by omega) (by rw [Nat.zero_add, List.drop_zero]; rfl)
end RM2
