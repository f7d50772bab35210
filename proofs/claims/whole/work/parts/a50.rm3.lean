section RM3
/-! the reference: from below -/
theorem p_ml20 {h : tpH} {Q q mk s s' : Nat} {t u : mT} {kd idn : Nat → Int32} (X : RX h Q q mk s s' t u) {F : Nat → Nat → Int32} (C : RF F Q q mk s s' t u kd idn) {P : mP} (M : McM F q t u P) (ok : pOK t u P) {x k : Nat} (hx : tIn t x = true) (px : pl t x = k) {R : tpH → Prop} {K : Nat → Int32 → Int32 → Int32 → tpH → Prop} (kk : ∀ G, pmFr q F G → McM G q t u (beS kd idn t u P x) → K Q (nI s) (nI s') (nI k + (-1)) (wI h G)) :
    ∀ (n j : Nat) (st : Option Nat × UInt32), j ≤ (pO u).length → (pO u).length < n + j → (∀ y, st.1 = some y → tIn u y = true) → ((pO u).drop j).foldl (lsS kd idn t u P x) st = (pO u).foldl (lsS kd idn t u P x) (none, FP.fconst0) → w_Md_matchByLikeness_20 R K n Q (nI s) (nI s') (nI k) (nO st.1) st.2 (nI j) (wI h F)
  | 0, j, st, h1, h2, b, e => by omega
  | n + 1, j, st, h1, h2, b, e => by
    obtain ⟨⟨ld, hQ⟩, ⟨hs, hs'⟩, hk, ⟨hw, hu⟩, ht, hum⟩ := id X
    have l4 := pO_le hu
    have e35 : hI (wI h F) Q 35 = nI (pO u).length := C.2.2.1.2.2
    obtain ⟨x', ex', px', hx', a1, a3, av, ax⟩ := la_at X C (i := k) (by rw [← px]; exact pl_lt hw hx)
    have exx : x' = x := pl_inj hw hx' hx (by omega)
    rw [exx] at ax
    have ax' : hI (wI h F) (q + 24) (nI k).toNatClampNeg = nI x := ax
    refine ⟨ld.1, ?_⟩
    rw [e35]
    by_cases hj : j < (pO u).length
    · obtain ⟨y, ey, py, hy, b1, b3, bv, bx⟩ := lb_at X C hj
      have bx' : hI (wI h F) (q + 25) (nI j).toNatClampNeg = nI y := bx
      rw [ey, List.foldl_cons] at e
      have step : ∀ st', lsS kd idn t u P x st y = st' → (∀ y, st'.1 = some y → tIn u y = true) → w_Md_matchByLikeness_20 R K n Q (nI s) (nI s') (nI k) (nO st'.1) st'.2 (nI j + 1) (wI h F) := fun st' e1 e2 => by
        rw [e1] at e
        rw [nI_1]
        exact p_ml20 X C M ok hx px kk n (j + 1) st' (by omega) (by omega) e2 e
      have no : (mayB kd idn P x y && gtB (lkM t u P x y) st.2) = false → w_Md_matchByLikeness_20 R K n Q (nI s) (nI s') (nI k) (nO st.1) st.2 (nI j + 1) (wI h F) := fun g => step st (by unfold lsS; rw [if_neg (by rw [g]; exact Bool.false_ne_true)]) b
      refine ⟨fun g => absurd ((nI_le_iff (by omega) (by omega)).mp g) (by omega), fun _ => ⟨q + 24, a3, a1, av, q + 25, b3, b1, bv, ?_⟩⟩
      rw [ax', bx']
      refine p_canP X C M ok hx hy (fun g => ⟨fun c => absurd c (by decide), fun _ => ⟨ld.1, q + 24, a3, a1, av, q + 25, b3, b1, bv, ?_⟩⟩) (fun g => ⟨fun _ => ⟨fun _ => no (by rw [g]; rfl), fun g1 => ⟨fun _ => no (by rw [g]; rfl), fun g2 => ?_⟩⟩, fun c => absurd rfl c⟩)
      · rw [ax', bx']
        refine p_Mlike X C M ok hx hy ⟨fun c => no (by rw [gt_lo c, Bool.and_false]), fun c1 => ⟨fun c => no (by rw [gt_le c, Bool.and_false]), fun c2 => ⟨ld.1, q + 25, b3, b1, bv, ?_⟩⟩⟩
        rw [bx']
        exact step (some y, lkM t u P x y) (by unfold lsS; rw [if_pos (by rw [g, gt_y c1 c2]; rfl)]) (fun y' q => by rw [← Option.some.inj q]; exact hy)
      · exfalso
        have := gt_y g1 g2
        rw [gt_zero] at this
        cases this
    · rw [List.drop_eq_nil_of_le (by omega)] at e
      have e' : st = (pO u).foldl (lsS kd idn t u P x) (none, FP.fconst0) := e
      have el : lsK kd idn t u P x = st.1 := by unfold lsK; rw [← e']
      unfold beS at kk
      rw [el] at kk
      refine ⟨fun _ => ?_, fun g => absurd ((nI_le_iff (by omega) (by omega)).mpr (by omega)) g⟩
      cases es : st.1 with
      | none =>
        rw [es] at kk
        exact ⟨fun _ => kk F (fun _ _ _ => rfl) M, fun g => absurd rfl g⟩
      | some y =>
        rw [es] at kk
        have hy := b y es
        have y3 := hu.1.1 y hy
        refine ⟨fun g => absurd g (nI_ne_m (by omega)), fun _ => ⟨q + 24, a3, a1, av, ?_⟩⟩
        rw [ax']
        exact p_Mpair X M hx hy (fun G g1 g2 => kk G g1 g2)
theorem p_ml7 {h : tpH} {Q q mk s s' : Nat} {t u : mT} {kd idn : Nat → Int32} (X : RX h Q q mk s s' t u) {F0 : Nat → Nat → Int32} (C0 : RF F0 Q q mk s s' t u kd idn) {R : tpH → Prop} :
    ∀ (n i : Nat) (F : Nat → Nat → Int32) (P : mP), i ≤ (pO t).length → i < n → pmFr q F0 F → McM F q t u P → pOK t u P → (∀ G, pmFr q F0 G → McM G q t u (((pO t).take i).reverse.foldl (beS kd idn t u) P) → R (wI h G)) → w_Md_matchByLikeness_7 R n Q (nI s) (nI s') (nI i + (-1)) (wI h F)
  | 0, i, F, P, h1, h2, f, M, ok, kk => by omega
  | n + 1, 0, F, P, h1, h2, f, M, ok, kk => ⟨fun _ => kk F f M, fun g => absurd (by decide) g⟩
  | n + 1, i + 1, F, P, h1, h2, f, M, ok, kk => by
    have C := RF_fr X C0 (pmFr_s f)
    obtain ⟨⟨ld, hQ⟩, ⟨hs, hs'⟩, hk, ⟨hw, hu⟩, ht, hum⟩ := id X
    have l3 := pO_le hw
    obtain ⟨x, ex, px, hx, nx⟩ := dr_cons hw (show i < (pO t).length by omega)
    have et : (pO t).take (i + 1) = (pO t).take i ++ [x] := by
      rw [List.take_add_one]
      have := pO_at hw hx
      rw [px] at this
      rw [this]
      rfl
    rw [et, List.reverse_append] at kk
    have kk' : ∀ G, pmFr q F0 G → McM G q t u (((pO t).take i).reverse.foldl (beS kd idn t u) (beS kd idn t u P x)) → R (wI h G) := kk
    have e0 : nI (i + 1) + (-1 : Int32) = nI i := nI_dn (by omega)
    rw [e0]
    refine ⟨fun g => absurd g (nI_pos (by omega)), fun _ => ⟨(pO u).length + 1, ?_⟩⟩
    exact p_ml20 X C M ok hx px (fun G g1 g2 => p_ml7 X C0 n i G _ (by omega) (by omega) (pmFr_tr f g1) g2 (be_inv hu hx ok) kk') _ 0 (none, FP.fconst0) (Nat.zero_le _) (by omega) (fun y q => by cases q) (by rw [List.drop_zero])
/-! the reference: which are plain -/
def plP (F : Nat → Nat → Int32) (r : Nat) (w : mT) (m : Nat → Option Nat) : Prop := ∀ x, tIn w x = true → F r x = if pnm w m x = true then 1 else 0
theorem p_lp43 {h : tpH} {Q q s r ro : Nat} {w : mT} (ld : lMd h Q q) (hs : s < 42) (hw : tWF 300 w) {F0 : Nat → Nat → Int32} (D0 : MtP F0 q s w) (hr : q + 33 ≤ r) (r1 : hT h r = 16) (r2 : hL h r = 300) (o1 : hT h ro = 15) (o2 : hL h ro = 300) (ho : ro < q + 33) (la : ∀ (j z : Nat), (pO w)[j]? = some z → F0 ro j = nI z) (m : Nat → Option Nat) {R : tpH → Prop} (kk : ∀ G, (∀ b j, b ≠ r → G b j = F0 b j) → plP G r w m → R (wI h G)) :
    ∀ (n i : Nat) (F : Nat → Nat → Int32), 0 < i → i ≤ (pO w).length → i < n → (∀ b j, b ≠ r → F b j = F0 b j) → (∀ x, tIn w x = true → (sfV w m i x → F r x = 1) ∧ (¬ sfV w m i x → F r x = 0)) → w_Md_layPlain_43 R n Q (nI s) (some ro) (some r) (nI i + (-1)) (wI h F)
  | 0, i, F, h0, h1, h2, f, V => by omega
  | n + 1, 0, F, h0, h1, h2, f, V => by omega
  | n + 1, 1, F, h0, h1, h2, f, V => by
    refine ⟨fun _ => kk F f (fun x hx => ?_), fun g => absurd (by decide) g⟩
    have e : sfV w m 1 x ↔ pnm w m x = true := by
      rw [pnm_k hw]
      refine ⟨fun g => ⟨g.1, fun c hc => g.2 c hc ?_⟩, fun g => ⟨g.1, fun c hc _ => g.2 c hc⟩⟩
      have := pl_kid_lt hw hc
      omega
    by_cases c : pnm w m x = true
    · rw [if_pos c]; exact (V x hx).1 (e.mpr c)
    · rw [if_neg c]; exact (V x hx).2 (fun g => c (e.mp g))
  | n + 1, i + 2, F, h0, h1, h2, f, V => by
    have l4 := pO_le hw
    obtain ⟨x, ex, px, hx, nx⟩ := dr_cons hw (show i + 1 < (pO w).length by omega)
    have x3 := hw.1.1 x hx
    have e0 : nI (i + 2) + (-1 : Int32) = nI (i + 1) := nI_dn (by omega)
    have kidg : ∀ c ∈ tKi w x, i + 2 ≤ pl w c := fun c hc => by
      have := pl_kid_lt hw hc
      omega
    have vx : sfV w m (i + 2) x ↔ pnm w m x = true := by
      rw [pnm_k hw]
      exact ⟨fun g => ⟨g.1, fun c hc => g.2 c hc (kidg c hc)⟩, fun g => ⟨g.1, fun c hc _ => g.2 c hc⟩⟩
    have vs : ∀ y, (x ∉ tKi w y ∨ pnm w m x = true) → (sfV w m (i + 1) y ↔ sfV w m (i + 2) y) := fun y hy =>
      ⟨fun g => ⟨g.1, fun c hc hl => g.2 c hc (by omega)⟩, fun g => ⟨g.1, fun c hc hl => by
        by_cases e : pl w c = i + 1
        · have ec : c = x := pl_inj hw ((hw.1.2.1 c y).mp hc).1 hx (by omega)
          rcases hy with q | q
          · exact absurd (ec ▸ hc) q
          · rw [ec]; exact q
        · exact g.2 c hc (by omega)⟩⟩
    have nr : x ≠ tRt w := fun e => by
      rw [e, pl_rt hw] at px
      omega
    obtain ⟨p, hp⟩ : ∃ p, tUp w x = some p := by
      cases e : tUp w x with
      | none => exact absurd e (hw.2.2.2 x hx nr)
      | some p => exact ⟨p, rfl⟩
    have hpi := hw.1.2.2.2.2 x p hx hp
    have p3 := hw.1.1 p hpi
    have hpk : x ∈ tKi w p := (hw.1.2.1 x p).mpr ⟨hx, hp⟩
    rw [e0]
    have er : hI (wI h F) ro (nI (i + 1)).toNatClampNeg = nI x := by
      rw [nI_clamp (by omega)]
      show F ro (i + 1) = nI x
      rw [f _ _ (by omega)]
      exact la (i + 1) x (by rw [← px]; exact pO_at hw hx)
    have vi : vp_in (nI (i + 1)) (hL (wI h F) ro) := by rw [wI_L, o2]; exact vp_in_nI (by omega) (by decide)
    refine ⟨fun g => absurd ((nI_le_iff (b := 0) (by omega) (by omega)).mp g) (by omega), fun _ => ⟨ro, rfl, o1, vi, ld.1, ?_⟩⟩
    rw [er, e_Md_parentIn ld hs x3]
    have epar : F (q + 3) (300 * s + x) = nI p := by rw [f _ _ (by omega)]; exact (D0.1 x hx).2.1 p hp
    rw [epar]
    have vp : vp_in (nI p) (hL (wI h F) r) := by rw [wI_L, r2]; exact vp_in_nI p3 (by decide)
    have vxx : vp_in (nI x) (hL (wI h F) r) := by rw [wI_L, r2]; exact vp_in_nI x3 (by decide)
    have ep : hI (wI h F) r (nI p).toNatClampNeg = F r p := by rw [nI_clamp (by omega)]; rfl
    have exv : hI (wI h F) r (nI x).toNatClampNeg = F r x := by rw [nI_clamp (by omega)]; rfl
    have go : ∀ v : Int32, tpB v → ((sfV w m (i + 1) p → v = 1) ∧ (¬ sfV w m (i + 1) p → v = 0)) → w_Md_layPlain_86 R (w_Md_layPlain_43 R n) Q (nI s) (some ro) (some r) (nI (i + 1)) v (nI p) (some r) (wI h F) := fun v hb hv => by
      refine ⟨r, rfl, r1, vp, hb, fun h6 e6 => ?_⟩
      rw [nI_clamp (by omega), sI_wI, wI_wI, wI_I] at e6
      subst e6
      refine p_lp43 ld hs hw D0 hr r1 r2 o1 o2 ho la m kk n (i + 1) _ (by omega) (by omega) (by omega) (fun b j hb => by rw [tpu_o (by omega)]; exact f b j hb) (fun y hy => ?_)
      by_cases c : y = p
      · rw [c, tpu_s]; exact hv
      · rw [tpu_o (by omega), vs y (Or.inl (fun g => c (by
          have := ((hw.1.2.1 x y).mp g).2
          rw [hp] at this
          exact (Option.some.inj this).symm)))]
        exact V y hy
    refine ⟨r, rfl, r1, vp, ?_⟩
    rw [ep]
    have bit : ∀ y, tIn w y = true → (F r y = 0 → ¬ sfV w m (i + 2) y) ∧ (¬ F r y = 0 → sfV w m (i + 2) y) := fun y hy => ⟨fun g q => by
      rw [(V y hy).1 q] at g
      exact absurd g (by decide), fun g => Classical.byContradiction (fun q => g ((V y hy).2 q))⟩
    refine ⟨fun g => go 0 (Or.inl rfl) ⟨fun q => absurd ⟨q.1, fun c hc hl => q.2 c hc (by omega)⟩ ((bit p hpi).1 g), fun _ => rfl⟩, fun g => ⟨o1, vi, ?_⟩⟩
    rw [er]
    refine ⟨vxx, ?_⟩
    rw [exv]
    refine ⟨fun g2 => go 0 (Or.inl rfl) ⟨fun q => absurd (q.2 x hpk (by omega)) (fun z => (bit x hx).1 g2 (vx.mpr z)), fun _ => rfl⟩, fun g2 => go 1 (Or.inr rfl) ⟨fun _ => rfl, fun q => absurd ((vs p (Or.inr (vx.mp ((bit x hx).2 g2)))).mpr ((bit p hpi).2 g)) q⟩⟩
theorem p_lp3 {h : tpH} {Q q s r ro rm : Nat} {w : mT} (ld : lMd h Q q) (hs : s < 42) (hw : tWF 300 w) {F0 : Nat → Nat → Int32} (D0 : MtP F0 q s w) (hr : q + 33 ≤ r) (r1 : hT h r = 16) (r2 : hL h r = 300) (o1 : hT h ro = 15) (o2 : hL h ro = 300) (ho : ro < q + 33) (la : ∀ (j z : Nat), (pO w)[j]? = some z → F0 ro j = nI z) (n1 : hT h rm = 15) (n2 : hL h rm = 300) (hn : rm < q + 33) (m : Nat → Option Nat) (hm : ∀ x, tIn w x = true → (F0 rm x = -1 ↔ m x = none)) {R : tpH → Prop} (kk : ∀ G, (∀ b j, b ≠ r → G b j = F0 b j) → plP G r w m → R (wI h G)) :
    ∀ (n i : Nat) (F : Nat → Nat → Int32), i ≤ (pO w).length → (pO w).length < n + i → (∀ b j, b ≠ r → F b j = F0 b j) → (∀ x, tIn w x = true → pl w x < i → F r x = if m x = none then 1 else 0) → w_Md_layPlain_3 R n Q (nI s) (some ro) (nI (pO w).length) (some rm) (some r) (nI i) (wI h F)
  | 0, i, F, h1, h2, f, V => by omega
  | n + 1, i, F, h1, h2, f, V => by
    have l4 := pO_le hw
    by_cases hi : i < (pO w).length
    · obtain ⟨x, ex, px, hx, nx⟩ := dr_cons hw hi
      have x3 := hw.1.1 x hx
      have er : hI (wI h F) ro (nI i).toNatClampNeg = nI x := by
        rw [nI_clamp (by omega)]
        show F ro i = nI x
        rw [f _ _ (by omega)]
        exact la i x (by rw [← px]; exact pO_at hw hx)
      have vi : vp_in (nI i) (hL (wI h F) ro) := by rw [wI_L, o2]; exact vp_in_nI (by omega) (by decide)
      refine ⟨fun g => absurd ((nI_le_iff (by omega) (by omega)).mp g) (by omega), fun _ => ⟨ro, rfl, o1, vi, vi, rm, rfl, n1, ?_⟩⟩
      rw [er]
      have vm : vp_in (nI x) (hL (wI h F) rm) := by rw [wI_L, n2]; exact vp_in_nI x3 (by decide)
      have em : hI (wI h F) rm (nI x).toNatClampNeg = F0 rm x := by
        rw [nI_clamp (by omega)]
        exact f _ _ (by omega)
      refine ⟨vm, ?_⟩
      rw [em]
      have go : ∀ v : Int32, tpB v → v = (if m x = none then 1 else 0) → w_Md_layPlain_31 R (w_Md_layPlain_3 R n) Q (nI s) (some ro) (nI (pO w).length) (some rm) (some r) (nI i) v (nI x) (some r) (wI h F) := fun v hb hv => by
        refine ⟨r, rfl, r1, by rw [wI_L, r2]; exact vp_in_nI x3 (by decide), hb, fun h6 e6 => ?_⟩
        rw [nI_clamp (by omega), sI_wI, wI_wI, wI_I] at e6
        subst e6
        rw [nI_1]
        refine p_lp3 ld hs hw D0 hr r1 r2 o1 o2 ho la n1 n2 hn m hm kk n (i + 1) _ (by omega) (by omega) (fun b j hb => by rw [tpu_o (by omega)]; exact f b j hb) (fun y hy hl => ?_)
        by_cases c : y = x
        · rw [c, tpu_s]; exact hv
        · rw [tpu_o (by omega)]
          refine V y hy ?_
          have : pl w y ≠ i := fun e => c (pl_inj hw hy hx (by omega))
          omega
      exact ⟨fun g => go 0 (Or.inl rfl) (by rw [if_neg (fun q => g ((hm x hx).mpr q))]), fun g => go 1 (Or.inr rfl) (by rw [if_pos ((hm x hx).mp g)])⟩
    · refine ⟨fun _ => ⟨(pO w).length + 1, ?_⟩, fun g => absurd ((nI_le_iff (by omega) (by omega)).mpr (by omega)) g⟩
      rw [Int32.sub_eq_add_neg]
      have pos := pl_lt hw hw.2.1
      refine p_lp43 ld hs hw D0 hr r1 r2 o1 o2 ho la m kk _ (pO w).length F (by omega) (Nat.le_refl _) (Nat.lt_succ_self _) f (fun x hx => ?_)
      have lx := pl_lt hw hx
      rw [V x hx (by omega)]
      refine ⟨fun g => if_pos g.1, fun g => if_neg (fun q => g ⟨q, fun c hc hl => ?_⟩)⟩
      have := pl_lt hw ((hw.1.2.1 c x).mp hc).1
      omega
def lpFr (q : Nat) (F G : Nat → Nat → Int32) : Prop := ∀ b j, ¬ (b = q + 33 ∨ b = q + 34) → G b j = F b j
theorem p_lay2 {h : tpH} {Q q mk s s' : Nat} {t u : mT} {kd idn : Nat → Int32} (X : RX h Q q mk s s' t u) {F : Nat → Nat → Int32} (C : RF F Q q mk s s' t u kd idn) {P : mP} (M : McM F q t u P) (ok : pOK t u P) {R : tpH → Prop} (kk : ∀ G, lpFr q F G → plP G (q + 33) t P.1 → plP G (q + 34) u P.2 → R (wI h G)) : w_Md_layPlain Q (nI s) (hR (wI h F) Q 32) (hI (wI h F) Q 34) (hR (wI h F) Q 41) (hR (wI h F) Q 43) (wI h F) (fun h9 => hT h9 Q = 14 ∧ (w_Md_layPlain Q (nI s') (hR h9 Q 33) (hI h9 Q 35) (hR h9 Q 42) (hR h9 Q 44) h9 R)) := by
  obtain ⟨⟨ld, hQ⟩, ⟨hs, hs'⟩, hk, ⟨hw, hu⟩, ht, hum⟩ := id X
  obtain ⟨a1, a2, a3⟩ := md_f ld (j := 24) (kd := 15) (n := 300) (f := 32) (by decide)
  obtain ⟨b1, b2, b3⟩ := md_f ld (j := 25) (kd := 15) (n := 300) (f := 33) (by decide)
  obtain ⟨c1, c2, c3⟩ := md_f ld (j := 31) (kd := 15) (n := 300) (f := 41) (by decide)
  obtain ⟨d1, d2, d3⟩ := md_f ld (j := 32) (kd := 15) (n := 300) (f := 42) (by decide)
  obtain ⟨p1, p2, p3⟩ := md_f ld (j := 33) (kd := 16) (n := 300) (f := 43) (by decide)
  obtain ⟨r1, r2, r3⟩ := md_f ld (j := 34) (kd := 16) (n := 300) (f := 44) (by decide)
  have e34 : hI (wI h F) Q 34 = nI (pO t).length := C.2.2.1.2.1
  rw [e34, wI_R, a3, c3, p3]
  refine ⟨(pO t).length + 1, p_lp3 ld hs hw C.2.1.1 (r := q + 33) (Nat.le_refl _) p1 p2 a1 a2 (by omega) C.2.2.1.1.1 c1 c2 (by omega) P.1 (fun x hx => by rw [M.1 x hx]; exact nO_1 hu ok x) (fun G g1 g2 => ⟨ld.1, ?_⟩) _ 0 F (Nat.zero_le _) (by omega) (fun _ _ _ => rfl) (fun x hx hl => absurd hl (Nat.not_lt_zero _))⟩
  have C2 := RF_fr X C (fun b j hb => g1 b j (by omega))
  have e35 : hI (wI h G) Q 35 = nI (pO u).length := C2.2.2.1.2.2
  rw [e35, wI_R, b3, d3, r3]
  refine ⟨(pO u).length + 1, p_lp3 ld hs' hu C2.2.1.2 (r := q + 34) (by omega) r1 r2 b1 b2 (by omega) C2.2.2.1.1.2 d1 d2 (by omega) P.2 (fun x hx => by rw [g1 _ _ (by omega), M.2 x hx]; exact nO_2 hw ok x) (fun G2 k1 k2 => kk G2 (fun b j hb => (k1 b j (by omega)).trans (g1 b j (by omega))) (fun x hx => (k1 _ _ (by omega)).trans (g2 x hx)) k2) _ 0 G (Nat.zero_le _) (by omega) (fun _ _ _ => rfl) (fun x hx hl => absurd hl (Nat.not_lt_zero _))⟩
end RM3
