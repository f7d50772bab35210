section MERGED3
theorem p_im340 {h : tpH} {z c mk n : Nat} {kd idn : Nat → Int32} {rt : Nat → Bool} {dr : Option mT} {r : mRe} (H : cS h z mk kd idn rt dr r n) (ac : iA h c 64) (C : cP (hI h) c r.2.2.2.2.1) {X : String → tpH → Prop} {R : Int32 → tpH → Prop} (kk : R 1 (nC h 0 0 6)) :
    ∀ (f j : Nat), j ≤ 63 → 63 < f + j → w_Lw_isMerged_340 R X f (some z) (some c) 1 (nI j) h
  | 0, j, h1, h2 => by omega
  | f + 1, j, h1, h2 => by
    have hm := H.1
    have hP := H.2.1
    obtain ⟨c1, c2⟩ := hm.2.2.2.2.2.1
    have e1 : hL h c = 64 := ac.2
    have v0 : vp_in (0 : Int32) (hL h c) := by rw [e1]; exact vp0 (by decide) (by decide)
    have hCf := hP.2.2.2.2.2.2.2.2.2.1
    have r412 : w_Lw_isMerged_412 R X (some z) (some c) 1 h := by
      refine ⟨fun q => absurd q (by decide), fun _ => ⟨c, rfl, ac.1, v0, p_does8 ⟨hP.1.1, ?_⟩⟩⟩
      rw [show (0 : Int32).toNatClampNeg = 0 from rfl, C.1]
      refine p_TP_conflictKind hP.1 hCf c1 H.2.2.2 (fun _ => Or.inl ⟨rfl, fun q => absurd rfl q, fun _ => kk⟩) (fun v hv => ?_)
      rw [lstAt_n _ (by omega), List.getElem?_eq_none (Nat.le_refl _)] at hv
      cases hv
    refine ⟨c, rfl, ac.1, v0, ?_⟩
    rw [show (0 : Int32).toNatClampNeg = 0 from rfl, C.1, nI_le_iff (by omega) (by omega)]
    refine ⟨fun _ => r412, fun g => ⟨fun _ => r412, fun g2 => ⟨fun q => absurd q (by decide), fun _ => ⟨z, rfl, hP.1.1, ?_⟩⟩⟩⟩
    have hj : j < 63 := by
      have : ¬ 63 ≤ j := fun q => g2 ((nI_le_iff (a := 63) (by decide) (by omega)).mpr q)
      omega
    obtain ⟨e, he⟩ := ex_at (L := r.2.2.2.2.1) (i := j) (by omega)
    obtain ⟨k1, k2⟩ := c2 e (List.mem_of_getElem? he)
    have ec : hI h c (j + 1) = nI (8 * e.2 + e.1) := by
      have := C.2 j e hj he
      rw [Nat.add_comm] at this
      exact this
    have en : nI j + 1 = nI (j + 1) := nI_1 _
    have vj : vp_in (nI j + 1) (hL h c) := by rw [en, e1]; exact vp_in_nI (by omega) (by decide)
    have ek : nI (8 * e.2 + e.1) - nI (8 * e.2 + e.1) / 8 * 8 = nI e.1 := by
      rw [show (8 : Int32) = nI 8 from rfl, nI_rem (by omega) (by decide)]
      congr 1
      omega
    have em : nI (8 * e.2 + e.1) / 8 = nI e.2 := by
      rw [show (8 : Int32) = nI 8 from rfl, nI_div (by omega) (by decide)]
      congr 1
      omega
    refine p_TP_conflictKind hP.1 hCf c1 H.2.2.2 (fun q => ?_) (fun v hv => ⟨ac.1, vj, ?_⟩)
    · rw [lstAt_n _ (by omega), he] at q
      cases q
    · rw [lstAt_n _ (by omega), he] at hv
      rw [← Option.some.inj hv, en, nI_clamp (by omega), ec, ek]
      refine ⟨fun q => absurd rfl q, fun _ => ⟨hP.1.1, ?_⟩⟩
      refine p_TP_conflictMark hP.1 hCf c1 H.2.2.2 (fun q => ?_) (fun v2 hv2 => ⟨ac.1, by rw [← en]; exact vj, ?_⟩)
      · rw [lstAt_n _ (by omega), he] at q
        cases q
      · rw [lstAt_n _ (by omega), he] at hv2
        rw [← Option.some.inj hv2, ec, em]
        exact ⟨fun q => absurd rfl q, fun _ => p_im340 H ac C kk f (j + 1) (by omega) (by omega)⟩
theorem p_im314 {h : tpH} {z c mk n : Nat} {kd idn : Nat → Int32} {rt : Nat → Bool} {dr : Option mT} {r : mRe} (H : cS h z mk kd idn rt dr r n) (ac : iA h c 64) (C : cP (hI h) c r.2.2.2.2.1) {X : String → tpH → Prop} {R : Int32 → tpH → Prop} (kk : R 1 (nC h 0 0 6)) : w_Lw_isMerged_314 R X (some z) (some c) 1 h := by
  have hP := H.2.1
  refine ⟨fun q => absurd q (by decide), fun _ => ⟨z, rfl, hP.1.1, hP.1.1, z + 1 + 69, lTP_mg hP.1, (lTP_mgL hP.1).1, z + 1 + 86, (lTP_mgL hP.1).2.1, (lTP_mgL hP.1).2.2.1, c, rfl, ac.1, by rw [ac.2]; exact vp0 (by decide) (by decide), ?_⟩⟩
  rw [show (0 : Int32).toNatClampNeg = 0 from rfl, C.1, show hI h (z + 1 + 86) 1 = _ from hP.2.2.2.2.2.2.2.2.2.1.1]
  exact ⟨fun q => absurd rfl q, fun _ => ⟨64, p_im340 H ac C kk 64 0 (Nat.zero_le _) (by omega)⟩⟩
theorem aFr_rf (h : tpH) (T : Nat → Nat → Prop) : aFr h h T 0 0 := ⟨⟨Nat.le_refl _, fun _ _ => ⟨rfl, rfl, rfl, rfl, fun _ _ => rfl, fun _ _ => rfl⟩⟩, Nat.le_refl _, Nat.le_refl _⟩
theorem aFr_x (h : tpH) (T : Nat → Nat → Prop) : aFr h (nC h 0 0 6) T 1 6 := ⟨hFr_sm (Nat.le_succ _) (fun b hb => hSm_nC h 0 0 6 b hb) T _, Nat.le_refl _, Nat.le_refl _⟩
theorem f0_tr {h0 h h' : tpH} {z c u : Nat} {T : Nat → Nat → Prop} (f0 : hFr h0 h (lwT z) (fun _ _ => False)) (f : aFr h h' T c u) (n : ∀ x j, x < hZ h0 → T x j → lwT z x j) : hFr h0 h' (lwT z) (fun _ _ => False) := by
  refine ⟨Nat.le_trans f0.1 f.1.1, fun b hb => ?_⟩
  obtain ⟨p1, p2, p3, p4, p5, p6⟩ := f0.2 b hb
  obtain ⟨q1, q2, q3, q4, q5, q6⟩ := f.1.2 b (Nat.lt_of_lt_of_le hb f0.1)
  exact ⟨q1.trans p1, q2.trans p2, q3.trans p3, q4.trans p4, fun j hj => (q5 j (fun g => hj (n b j hb g))).trans (p5 j hj), fun j hj => (q6 j hj).trans (p6 j hj)⟩
theorem p_isMerged {h0 h : tpH} {z mk n i tb tl tr k g R0 : Nat} {kd idn : Nat → Int32} {rt : Nat → Bool} {dr : Option mT} {r : mRe} {b l rr : mT} {po : Nat → Int32} (H : cS h0 z mk kd idn rt dr r n) (f0 : hFr h0 h (lwT z) (fun _ _ => False)) (hmk : mk ≤ 22) (HH : mgH mk R0 b l rr) (hi : r.1[i]? = some (mgRes po mk R0 b l rr (loK kd))) (hcf : r.2.2.2.2.1 = mgCfl po mk R0 b l rr (loK kd)) (Hb : bR h (hI h) tb b) (Hl : bR h (hI h) tl l) (Hr : bR h (hI h) tr rr) (ak : iA h k 40) (ag : iA h g 6) (hg : ∀ j, j < 6 → hI h g j = po j) (hpo : ∀ j, po j = 0 ∨ po j = 1 ∨ po j = 2) (zz : tb < hZ h ∧ tl < hZ h ∧ tr < hZ h ∧ k < hZ h ∧ g < hZ h) (lb : tLo (loK kd) b) (ll : tLo (loK kd) l) (lr : tLo (loK kd) rr) (hk : ∀ m, m < mk → (hI h k m ≤ 3 ↔ loK kd m = false)) {X : String → tpH → Prop} {R : Int32 → tpH → Prop}
    (kk : ∀ h', aFr h h' nT0 3467 138800 → R 1 h') : w_Lw_isMerged (some z) (nI i) (some tb) (some tl) (some tr) (some k) (some g) (nI mk) h X R := by
  obtain ⟨I, E, lenF, c91, c601⟩ := mgF_I (po := po) HH
  have hm := H.1
  have hw : tWF 300 (mgRes po mk R0 b l rr (loK kd)) := mgTr_wf HH I E (loK kd)
  have hv : tVa (mgRes po mk R0 b l rr (loK kd)) := mgRes_v HH Hb.2.2 Hl.2.2 Hr.2.2
  have h22 : (pO (mgRes po mk R0 b l rr (loK kd))).length ≤ 22 := nd_lt (pO_nd hw) (fun x hx => by have := (I.1 x ((pO_mem hw).mp hx)).1; omega)
  intro a1 h2 e1 e2 a5 h6 e5 e6 a9 h10 e9 e10 a13 h14 e13 e14 a17 h18 e17 e18
  have f2 : aFr h h2 nT0 1 41 := by rw [e2]; exact aFr_n h 41 41 _
  have f6 : aFr h2 h6 nT0 1 64 := by rw [e6]; exact aFr_n h2 64 64 _
  have f10 : aFr h6 h10 nT0 1 42 := by rw [e10]; exact aFr_n h6 42 42 _
  have f14 : aFr h10 h14 nT0 1 41 := by rw [e14]; exact aFr_n h10 41 41 _
  have f18 : aFr h14 h18 nT0 1 40 := by rw [e18]; exact aFr_n h14 40 40 _
  have z2 : hZ h2 = hZ h + 1 := by rw [e2]; rfl
  have z6 : hZ h6 = hZ h + 2 := by rw [e6]; show hZ h2 + 1 = _; rw [z2]
  have z10 : hZ h10 = hZ h + 3 := by rw [e10]; show hZ h6 + 1 = _; rw [z6]
  have z14 : hZ h14 = hZ h + 4 := by rw [e14]; show hZ h10 + 1 = _; rw [z10]
  have z18 : hZ h18 = hZ h + 5 := by rw [e18]; show hZ h14 + 1 = _; rw [z14]
  have f : aFr h h18 nT0 5 228 := aFr_tr (aFr_tr (aFr_tr (aFr_tr f2 f6 (fun _ _ _ q => q)) f10 (fun _ _ _ q => q)) f14 (fun _ _ _ q => q)) f18 (fun _ _ _ q => q)
  have a1h2 : iA h2 a1 41 := by rw [e1, e2]; exact iA_n h 41 41
  have b1 : iA h18 a1 41 := aFr_iA f18 (by omega) (aFr_iA f14 (by omega) (aFr_iA f10 (by omega) (aFr_iA f6 (by omega) a1h2)))
  have b5 : iA h18 a5 64 := aFr_iA f18 (by omega) (aFr_iA f14 (by omega) (aFr_iA f10 (by omega) (by rw [e5, e6]; exact iA_n h2 64 64)))
  have b9 : iA h18 a9 42 := aFr_iA f18 (by omega) (aFr_iA f14 (by omega) (by rw [e9, e10]; exact iA_n h6 42 42))
  have b13 : iA h18 a13 41 := aFr_iA f18 (by omega) (by rw [e13, e14]; exact iA_n h10 41 41)
  have b17 : iA h18 a17 40 := by rw [e17, e18]; exact iA_n h14 40 40
  have zr1 : hI h18 a1 0 = 0 := by
    rw [aFr_I f18 (by omega) (fun _ q => q), aFr_I f14 (by omega) (fun _ q => q), aFr_I f10 (by omega) (fun _ q => q), aFr_I f6 (by omega) (fun _ q => q), e1, e2]
    exact nC_0 h 41 41 0
  have zr5 : hI h18 a5 0 = 0 := by
    rw [aFr_I f18 (by omega) (fun _ q => q), aFr_I f14 (by omega) (fun _ q => q), aFr_I f10 (by omega) (fun _ q => q), e5, e6]
    exact nC_0 h2 64 64 0
  obtain ⟨y1, y2, y3, y4, y5⟩ := zz
  have kI : ∀ x, x < hZ h → hI h18 x = hI h x := fun x hx => aFr_I f hx (fun _ q => q)
  have hb18 := bR_fr Hb f y1 (fun _ q => q)
  have hl18 := bR_fr Hl f y2 (fun _ q => q)
  have hr18 := bR_fr Hr f y3 (fun _ q => q)
  have ak18 := aFr_iA f y4 ak
  have ag18 := aFr_iA f y5 ag
  have hz0 := f0.1
  have P0 : rwP (hI h18) a1 [] := ⟨zr1, Nat.zero_le _, fun _ q => (by cases q), rwG_nil _ _ _ _⟩
  have T0 : rwT [] (fun m => decide (m < 0) && sIn (mg0 po b l rr mk) m) (sWo (mg0 po b l rr mk)) (sUp (mg0 po b l rr mk)) := ⟨fun m => ⟨fun q => by simp at q, fun ⟨e, q, _⟩ => by cases q⟩, fun _ q => by cases q⟩
  have C0 : cP (hI h18) a5 (cfI po b l rr 0) := ⟨zr5, fun j e _ he => by simp [cfI] at he⟩
  refine ⟨mk + 1, p_im33 (h := h18) (F0 := hI h18) HH (by omega) b5 ag18 b1 ⟨⟨by omega, by omega, by omega, by omega⟩, ⟨by omega, by omega, by omega, by omega⟩, by omega⟩ hb18 hl18 hr18 (fun j hj => by rw [kI g y5]; exact hg j hj) (hpo 0) (fun F k1 W C => ⟨fun _ => ?_, fun q => absurd (Nat.le_refl mk) (fun q2 => q ((nI_le_iff (by omega) (by omega)).mpr q2))⟩) mk 0 [] (hI h18) (Nat.zero_le _) rfl (fun _ _ _ => rfl) P0 T0 List.nodup_nil C0⟩
  -- mends
  have fF : aFr h (wI h18 F) (fun x _ => hZ h ≤ x) 5 228 := aFr_tr (aFr_mono f (fun _ _ _ q => q.elim) (Nat.le_refl _) (Nat.le_refl _)) (k' := 0) (u' := 0) (T' := fun x _ => x = a1 ∨ x = a5) (aFr_w (h := h18) (F := hI h18) (G := F) (fun x j hx => by rw [k1 x (fun q => hx (Or.inl q)) (fun q => hx (Or.inr q))])) (fun x j hx q => by omega)
  have hbF : bR (wI h18 F) F tb b := bR_k hb18 (k1 tb (by omega) (by omega))
  have I0 := mg0_I (po := po) HH
  refine ⟨cD mk b (mg0 po b l rr mk) + cO mk b (mg0 po b l rr mk) + 1 + 1, p_mends2 (h0 := wI h18 F) (s0 := mg0 po b l rr mk) HH (by omega) ⟨by omega, by omega, by omega⟩ (show a1 < hZ h18 by omega) (show a5 < hZ h18 by omega) (show tb < hZ h18 by omega) (fun h3 f3 W3 C3 => ?_) _ (mg0 po b l rr mk) (wI h18 F) 0 (Nat.lt_succ_self _) (by omega) rfl I0 c91 b1 b5 hbF W C (aFr_rf _ _)⟩
  have W3 : mRo (hI h3) a1 (mgF po mk b l rr) := W3
  have C3 : cP (hI h3) a5 (sCf (mgF po mk b l rr)) := C3
  have zF : hZ (wI h18 F) = hZ h + 5 := z18
  have f3h : aFr h h3 (fun x _ => hZ h ≤ x) 606 24268 := aFr_tr fF f3 (fun x j hx q => by omega)
  have f03 : hFr h0 h3 (lwT z) (fun _ _ => False) := f0_tr f0 f3h (fun x j hx q => by omega)
  have H3 := cS_fr H f03 (fun x j _ q => q)
  have hP3 := H3.2.1
  have hi31 : i < 40 := by
    have h1 := (List.getElem?_eq_some_iff.mp hi).1
    have h2 := hP3.2.2.2.2.1.2.1
    omega
  have g3 : gSize r.1 (nI i) = some (nI (pO (mgRes po mk R0 b l rr (loK kd))).length) := by
    unfold gSize
    rw [lstAt_n _ (by omega), hi, pO_len hw]
    rfl
  refine ⟨z, rfl, hP3.1.1, p_TP_size hP3.1 hP3.2.2.2.2.1 (mIn_wf hm) (fun q => by rw [g3] at q; cases q) (fun v hv1 => ?_)⟩
  rw [g3] at hv1
  cases hv1
  obtain ⟨L, L1, L2, L3⟩ := id W3
  have b1_3 := aFr_iA f3 (show a1 < hZ (wI h18 F) by omega) (show iA (wI h18 F) a1 41 from b1)
  have ll2 : L.length = (pO (mgRes po mk R0 b l rr (loK kd))).length := by
    have h1 : L.length = (L.map (·.1)).length := (List.length_map _).symm
    rw [h1]
    refine nd_len_eq L3 (pO_nd hw) (fun x => ?_)
    rw [List.mem_map, pO_mem hw]
    exact (L2.1 x).symm
  refine ⟨a1, rfl, b1_3.1, by rw [b1_3.2]; exact vp0 (by decide) (by decide), ?_⟩
  rw [show (0 : Int32).toNatClampNeg = 0 from rfl, L1.1, ll2]
  refine ⟨fun q => absurd rfl q, fun _ => ⟨fun q => absurd q (by decide), fun _ => ?_⟩⟩
  have b13_3 := aFr_iA f3 (show a13 < hZ (wI h18 F) by omega) (show iA (wI h18 F) a13 41 from b13)
  refine p_reads H (by omega) hi hv b13_3 (Or.inr (by omega)) f03 (fun G g1 g2 => ⟨(pO (mgRes po mk R0 b l rr (loK kd))).length + 1, ?_⟩)
  -- looking through
  have z3 := f3.1.1
  have fG : aFr h (wI h3 G) (fun x _ => hZ h ≤ x) 606 24268 := aFr_tr f3h (k' := 0) (u' := 0) (T' := fun x _ => x = a13) (aFr_w (h := h3) (F := hI h3) (G := G) (fun x j hx => by rw [g1 x hx])) (fun x j hx q => by omega)
  have nG : ∀ x, x < hZ h → ∀ j : Nat, ¬ hZ h ≤ x := fun x hx _ => by omega
  have kG : ∀ x, x < hZ h → hI (wI h3 G) x = hI h x := fun x hx => aFr_I fG hx (nG x hx)
  have XG : oC (wI h3 G) tb tl tr a1 k g b l rr (mgF po mk b l rr) po := ⟨⟨bR_fr Hb fG y1 (nG tb y1), bR_fr Hl fG y2 (nG tl y2), bR_fr Hr fG y3 (nG tr y3)⟩, ⟨b1_3, mR_k W3 (g1 a1 (by omega))⟩, aFr_iA fG y4 ak, ⟨aFr_iA fG y5 ag, fun j hj => by rw [kG g y5]; exact hg j hj⟩, by show tb < hZ h3; omega, by show tl < hZ h3; omega, by show tr < hZ h3; omega, by show a1 < hZ h3; omega, by show k < hZ h3; omega, by show g < hZ h3; omega⟩
  have bi : bR (wI h3 G) (hI (wI h3 G)) a13 (mgRes po mk R0 b l rr (loK kd)) := ⟨⟨b13_3, g2⟩, hw, hv⟩
  have b5_3 := aFr_iA f3 (show a5 < hZ (wI h18 F) by omega) (show iA (wI h18 F) a5 64 from b5)
  have b9_3 := aFr_iA f3 (show a9 < hZ (wI h18 F) by omega) (show iA (wI h18 F) a9 42 from b9)
  have b17_3 := aFr_iA f3 (show a17 < hZ (wI h18 F) by omega) (show iA (wI h18 F) a17 40 from b17)
  refine p_im119 (h1 := wI h3 G) (t := a1) (c := a5) (r := a9) (ai := a13) (al := a17) HH (by omega) XG bi b5_3 b9_3 b17_3 ⟨by show a5 < hZ h3; omega, by show a9 < hZ h3; omega, by show a13 < hZ h3; omega, by show a17 < hZ h3; omega⟩ ⟨by omega, by omega, by omega, by omega, by omega⟩ (hpo 5) lb ll lr (fun m hm2 => by rw [kG k y4]; exact hk m hm2) (fun h4 f4 C4 => ?_) _ 0 [] _ (wI h3 G) rfl rfl (Nat.lt_succ_self _) (aFr_rf _ _) ?_
  · have zG : hZ (wI h3 G) = hZ h3 := rfl
    have f4h := aFr_tr fG f4 (fun x j hx q => by omega)
    have f04 : hFr h0 h4 (lwT z) (fun _ _ => False) := f0_tr f0 f4h (fun x j hx q => by omega)
    have H4 := cS_fr H f04 (fun x j _ q => q)
    refine p_im314 H4 (aFr_iA f4 (show a5 < hZ (wI h3 G) by omega) b5_3) (by rw [hcf]; exact C4) (kk _ ?_)
    have f5 := aFr_tr f4h (aFr_x h4 (fun x _ => hZ h ≤ x)) (fun _ _ _ q => q)
    generalize hN : (pO (mgRes po mk R0 b l rr (loK kd))).length = N at f5 h22
    exact aFr_mono f5 (fun x j hx q => absurd q (by omega)) (by omega) (by omega)
  · rw [List.filter_nil, List.map_nil, List.append_nil]
    exact cP_k C3 (g1 a5 (by omega))
end MERGED3
