section GD4
theorem p_gPut {h : tpH} {Q q mk s1 s2 sc : Nat} {t u : mT} {P : mP} {kd idn : Nat → Int32} (X : GX h Q q mk s1 s2 sc t u P) {F : Nat → Nat → Int32} (C : GF F Q q mk s1 s2 t u kd idn) {l : List mSt} (S : SM F q sc l) (hl : l.length ≤ 100) {c : mT} {w : Nat → Int32} (hw : tWF 300 c) (D : MtP F q 41 (reW c w)) {y r : Nat} (hy : tIn u y = true) (hb : F (q + 32) y = -1) (hn : tIn c y = false) (hr : tIn c r = true) (hrm : r < mk) {ao : Option Nat} (ha : ∀ d, ao = some d → d ∈ tKi c r) {R : Int32 → tpH → Prop} (k1 : ∀ G, addO l (1, y, -1, tWo u y, nwh, spO (dNode c y (tWo u y) r (loK kd r) (aK (tKi c r) ao)) y) = some (l ++ [(1, y, -1, tWo u y, nwh, spO (dNode c y (tWo u y) r (loK kd r) (aK (tKi c r) ao)) y)]) → l.length < 100 → gFr Q q sc F G → (∀ z, z ≠ y → G (q + 32) z = F (q + 32) z) → G (q + 32) y = nI y → SM G q sc (l ++ [(1, y, -1, tWo u y, nwh, spO (dNode c y (tWo u y) r (loK kd r) (aK (tKi c r) ao)) y)]) → MtP G q 41 (reW (dNode c y (tWo u y) r (loK kd r) (aK (tKi c r) ao)) (mU w y (tWo u y))) → R 1 (wI h G)) (k0 : ∀ G, addO l (1, y, -1, tWo u y, nwh, spO (dNode c y (tWo u y) r (loK kd r) (aK (tKi c r) ao)) y) = none → gFr Q q sc F G → R 0 (wI h G)) : w_Md_places_45 R Q (nI s2) (nI sc) (nI y) (nI r) (nO ao) (wI h F) := by
  obtain ⟨⟨⟨M, hQ⟩, _, hk, ⟨_, hu⟩, ht, hum⟩, ⟨l1, l2, l3⟩, HP⟩ := id X
  have y3 := hu.1.1 y hy
  have hry : r ≠ y := fun g => by rw [g, hn] at hr; cases hr
  have hRy : y ≠ tRt c := fun g => by rw [g, hw.2.1] at hn; cases hn
  obtain ⟨b1, b2, b3⟩ := md_f M (j := 32) (kd := 15) (n := 300) (f := 42) (by decide)
  obtain ⟨v1, v2, v3⟩ := md_f M (j := 4) (kd := 15) (n := 12600) (f := 7) (by decide)
  obtain ⟨w1, w2, w3⟩ := md_f M (j := 5) (kd := 15) (n := 12600) (f := 8) (by decide)
  obtain ⟨g1, g2, g3⟩ := md_f M (j := 11) (kd := 15) (n := 4100) (f := 15) (by decide)
  have vy : vp_in (nI y) (hL (wI h F) (q + 32)) := by rw [wI_L, b2]; exact vp_in_nI y3 (by decide)
  have ey : hI (wI h F) (q + 32) (nI y).toNatClampNeg = -1 := by rw [nI_clamp (by omega)]; exact hb
  refine ⟨M.1, q + 32, b3, b1, vy, fun g => absurd ey g, fun _ => ?_⟩
  show w_Md_newStep Q (nI sc) (nI 1) (nI y) (wI h F) _
  by_cases hl1 : l.length < 100
  · have k1 := fun G => k1 G (addO_s hl1) hl1
    refine p_Md_newStep M (by omega) S.1 hl1 ⟨fun _ => ⟨M.1, q + 32, b3, b1, vy, fun h27 e27 => ?_⟩, fun g => absurd g (nI_ne_m (by omega))⟩
    have o1 : ∀ b jj, ¬ ((b = q + 7 ∧ jj = sc) ∨ (q + 8 ≤ b ∧ b ≤ q + 17 ∧ jj = 100 * sc + l.length)) → uNs F q sc l.length (nI 1) (nI y) b jj = F b jj := fun b jj hb => uNs_o F _ _ hb
    have q0 := uNs_0 F q sc l.length (nI 1) (nI y)
    have q1 := uNs_1 F q sc l.length (nI 1) (nI y)
    have q2 := uNs_2 F q sc l.length (nI 1) (nI y)
    have q7 := uNs_7 F q sc l.length (nI 1) (nI y)
    have q8 := uNs_8 F q sc l.length (nI 1) (nI y)
    have q9 := uNs_9 F q sc l.length (nI 1) (nI y)
    have qc := uNs_c F q sc l.length (nI 1) (nI y)
    generalize uNs F q sc l.length (nI 1) (nI y) = F1 at o1 q0 q1 q2 q7 q8 q9 qc e27
    have hk4 : 100 * sc + l.length < 4100 := by omega
    have va : vp_in (nI (100 * sc + l.length)) 4100 := vp_in_nI hk4 (by decide)
    have ca : (nI (100 * sc + l.length)).toNatClampNeg = 100 * sc + l.length := nI_clamp (by omega)
    have wc : tWF 300 (reW c w) := hw
    have D1 : MtP F1 q 41 (reW c w) := MtP_k wc D (o1 _ _ (by omega)) (fun b b1 b2 jj j1 j2 => o1 _ _ (by omega))
    rw [nI_clamp (by omega), sI_wI, wI_wI, wI_I] at e27
    subst e27
    have D2 : MtP (tpu F1 (q + 32) y (nI y)) q 41 (reW c w) := MtP_fr D1 (fun b b1 b2 => tpu_fa _ _ _ _ _ (by omega))
    have o2 : ∀ b jj, ¬ (b = q + 32 ∧ jj = y) → tpu F1 (q + 32) y (nI y) b jj = F1 b jj := fun b jj hb => tpu_o hb
    have r2 : tpu F1 (q + 32) y (nI y) (q + 32) y = nI y := tpu_s _ _ _ _
    generalize tpu F1 (q + 32) y (nI y) = F2 at D2 o2 r2
    have val : F2 (q + 4) (300 * s2 + y) = tWo u y := by rw [o2 _ _ (by omega), o1 _ _ (by omega)]; exact (C.2.1.2.1 y hy).1
    show w_Md_valueIn Q (nI s2) (nI y) (wI h F2) _
    rw [e_Md_valueIn M (by omega) y3, val]
    refine ⟨q + 4, v3, v1, by rw [wI_L, v2, ix_41]; exact ix_v (by decide) y3, fun h35 e35 => ⟨?_, ?_⟩⟩
    · rw [e35]
      exact M.1
    rw [ix_41, nI_clamp (by omega), sI_wI, wI_wI, wI_I] at e35
    subst e35
    refine ⟨q + 5, w3, w1, by rw [wI_L, w2, ix_41]; exact ix_v (by decide) y3, fun h42 e42 => ?_⟩
    rw [ix_41, nI_clamp (by omega), sI_wI, wI_wI, wI_I] at e42
    subst e42
    obtain ⟨D4, f4⟩ := mt_new D2 wc hn y3 (tWo u y)
    generalize tpu (tpu F2 (q + 4) (300 * 41 + y) (tWo u y)) (q + 5) (300 * 41 + y) (-1) = F4 at D4 f4
    have hw1 := fSpr (w := tWo u y) wc.1 hn y3
    have hiy : tIn (tSpr (reW c w) y (tWo u y)) y = true := mU_s _ _ _
    have huy : tUp (tSpr (reW c w) y (tWo u y)) y = none := mU_s _ _ _
    have hir : tIn (tSpr (reW c w) y (tWo u y)) r = true := (mU_n _ _ hry).trans hr
    have hrt : tUp (tSpr (reW c w) y (tWo u y)) (tRt c) = none := (mU_n _ _ (Ne.symm hRy)).trans hw.2.2.1
    have ekr : tKi (tSpr (reW c w) y (tWo u y)) r = tKi c r := mU_n _ _ hry
    have hyk : y ∉ tKi (tSpr (reW c w) y (tWo u y)) r := fun g => by
      have := (fKi_in hw1 g).2
      rw [huy] at this
      cases this
    have hlr : F4 q r < 4 ↔ loK kd r = false := by
      rw [f4 _ _ (by omega), o2 _ _ (by omega), o1 _ _ (by omega), (C.1.2 r hrm).1]
      exact loK_iff kd r
    obtain ⟨D5, f5⟩ := mtD_hng D4 hw1 hRy hrt hiy huy hir hry (loK kd r) (aK (tKi c r) ao)
    show w_Md_hang Q (nI 41) (nI y) (nI r) (nO ao) (wI h F4) _
    rw [← aK_last (hw.1.2.2.1 r) ha]
    refine p_Md_hang M (by decide) y3 (D4.1 r hir) hw1 (p := r) hir hyk (A := (tKi c r).take (aK (tKi c r) ao)) (B := (tKi c r).drop (aK (tKi c r) ao)) (ekr.trans (List.take_append_drop _ _).symm) hlr ⟨M.1, ?_⟩
    rw [ekr] at D5 f5 ⊢
    have D5' : MtP (uMh F4 q 41 y r (hgA (loK kd r) (tKi c r) y ((tKi c r).take (aK (tKi c r) ao))).getLast?) q 41 (reW (dNode c y (tWo u y) r (loK kd r) (aK (tKi c r) ao)) (mU w y (tWo u y))) := D5
    generalize uMh F4 q 41 y r (hgA (loK kd r) (tKi c r) y ((tKi c r).take (aK (tKi c r) ao))).getLast? = F5 at D5' f5
    have o5 : ∀ b jj, ¬ (q + 3 ≤ b ∧ b ≤ q + 6 ∧ 12300 ≤ jj ∧ jj < 12600) → F5 b jj = F2 b jj := fun b jj hb => (f5 b jj hb).trans (f4 b jj hb)
    have val5 : F5 (q + 4) (300 * s2 + y) = tWo u y := by rw [o5 _ _ (by omega)]; exact val
    show w_Md_valueIn Q (nI s2) (nI y) (wI h F5) _
    rw [e_Md_valueIn M (by omega) y3, val5]
    refine ⟨q + 11, g3, g1, by rw [wI_L, g2]; exact va, fun h52 e52 => ⟨?_, ?_⟩⟩
    · rw [e52]
      exact M.1
    rw [ca, sI_wI, wI_wI, wI_I] at e52
    subst e52
    have hw' : tWF 300 (dNode c y (tWo u y) r (loK kd r) (aK (tKi c r) ao)) := wNode hw hn y3 hr _ _
    have eK : ∃ A2 B2, tKi (dNode c y (tWo u y) r (loK kd r) (aK (tKi c r) ao)) r = A2 ++ y :: B2 := ⟨_, _, mU_s _ _ _⟩
    generalize dNode c y (tWo u y) r (loK kd r) (aK (tKi c r) ao) = c' at D5' k1 eK hw'
    obtain ⟨A2, B2, eK⟩ := eK
    have wc' : tWF 300 (reW c' (mU w y (tWo u y))) := hw'
    have eK' : tKi (reW c' (mU w y (tWo u y))) r = A2 ++ y :: B2 := eK
    have D6 : MtP (tpu F5 (q + 11) (100 * sc + l.length) (tWo u y)) q 41 (reW c' (mU w y (tWo u y))) := MtP_fr D5' (fun b b1 b2 => tpu_fa _ _ _ _ _ (by omega))
    have o6 : ∀ b jj, ¬ (b = q + 11 ∧ jj = 100 * sc + l.length) → tpu F5 (q + 11) (100 * sc + l.length) (tWo u y) b jj = F5 b jj := fun b jj hb => tpu_o hb
    have w11 : tpu F5 (q + 11) (100 * sc + l.length) (tWo u y) (q + 11) (100 * sc + l.length) = tWo u y := tpu_s _ _ _ _
    generalize tpu F5 (q + 11) (100 * sc + l.length) (tWo u y) = F6 at D6 o6 w11
    refine p_tellTo M hk4 D6.1 wc'.1 eK' ?_
    have o7 : ∀ b jj, ¬ (q + 12 ≤ b ∧ b ≤ q + 14 ∧ jj = 100 * sc + l.length) → uTt F6 q (100 * sc + l.length) (spO (reW c' (mU w y (tWo u y))) y) b jj = F6 b jj := fun b jj hb => by unfold uTt; rw [tpu_o (by omega), tpu_o (by omega), tpu_o (by omega)]
    have w12 : uTt F6 q (100 * sc + l.length) (spO (reW c' (mU w y (tWo u y))) y) (q + 12) (100 * sc + l.length) = nO (spO c' y).1 := by unfold uTt; rw [tpu_o (by omega), tpu_o (by omega), tpu_s]; rfl
    have w13 : uTt F6 q (100 * sc + l.length) (spO (reW c' (mU w y (tWo u y))) y) (q + 13) (100 * sc + l.length) = nO (spO c' y).2.1 := by unfold uTt; rw [tpu_o (by omega), tpu_s]; rfl
    have w14 : uTt F6 q (100 * sc + l.length) (spO (reW c' (mU w y (tWo u y))) y) (q + 14) (100 * sc + l.length) = nO (spO c' y).2.2 := by unfold uTt; rw [tpu_s]; rfl
    have D7 : MtP (uTt F6 q (100 * sc + l.length) (spO (reW c' (mU w y (tWo u y))) y)) q 41 (reW c' (mU w y (tWo u y))) := MtP_fr D6 (fun b b1 b2 => by unfold uTt; rw [tpu_fa _ _ _ _ _ (by omega), tpu_fa _ _ _ _ _ (by omega), tpu_fa _ _ _ _ _ (by omega)])
    generalize uTt F6 q (100 * sc + l.length) (spO (reW c' (mU w y (tWo u y))) y) = F7 at o7 w12 w13 w14 D7
    refine k1 F7 (fun b jj hb => ?_) (fun z hz => ?_) ?_ (SM_add S (fun b jj b1 b2 j1 j2 => ?_) ?_ ⟨?_, ?_, ?_, ?_, ⟨?_, ?_, ?_⟩, w12, w13, w14⟩) D7
    · rw [o7 _ _ (by omega), o6 _ _ (by omega), o5 _ _ (by omega), o2 _ _ (by omega), o1 _ _ (by omega)]
    · rw [o7 _ _ (by omega), o6 _ _ (by omega), o5 _ _ (by omega), o2 _ _ (by omega), o1 _ _ (by omega)]
    · rw [o7 _ _ (by omega), o6 _ _ (by omega), o5 _ _ (by omega)]; exact r2
    · rw [o7 _ _ (by omega), o6 _ _ (by omega), o5 _ _ (by omega), o2 _ _ (by omega), o1 _ _ (by omega)]
    · rw [o7 _ _ (by omega), o6 _ _ (by omega), o5 _ _ (by omega), o2 _ _ (by omega)]; exact qc
    · rw [o7 _ _ (by omega), o6 _ _ (by omega), o5 _ _ (by omega), o2 _ _ (by omega)]; exact q0
    · rw [o7 _ _ (by omega), o6 _ _ (by omega), o5 _ _ (by omega), o2 _ _ (by omega)]; exact q1
    · rw [o7 _ _ (by omega), o6 _ _ (by omega), o5 _ _ (by omega), o2 _ _ (by omega)]; exact q2
    · rw [o7 _ _ (by omega)]; exact w11
    · rw [o7 _ _ (by omega), o6 _ _ (by omega), o5 _ _ (by omega), o2 _ _ (by omega)]; exact q7
    · rw [o7 _ _ (by omega), o6 _ _ (by omega), o5 _ _ (by omega), o2 _ _ (by omega)]; exact q8
    · rw [o7 _ _ (by omega), o6 _ _ (by omega), o5 _ _ (by omega), o2 _ _ (by omega)]; exact q9
  · refine p_Md_newStep_no M (by omega) S.1 (by omega) (by omega) ⟨fun g => absurd rfl g, fun _ => ?_⟩
    exact k0 _ (addO_n hl1) (fun b jj hb => tpu_o (by omega))
theorem p_gPlace {h : tpH} {Q q mk s1 s2 sc : Nat} {t u : mT} {P : mP} {kd idn : Nat → Int32} (X : GX h Q q mk s1 s2 sc t u P) {F : Nat → Nat → Int32} (C : GF F Q q mk s1 s2 t u kd idn) {l : List mSt} (S : SM F q sc l) (hl : l.length ≤ 100) {c : mT} {w : Nat → Int32} {i : Nat} (I : fdI t u P i c) (D : MtP F q 41 (reW c w)) (hv : ∀ m, kpB u P m = false → w m = tWo t m) (T : GT F q u P i) {y : Nat} (hy : tIn u y = true) (hpl : pl u y = i) (h0 : 0 < i) {R : Int32 → tpH → Prop} (k1 : ∀ G l' w', fdR (loK kd) P u c l y = some l' → l'.length ≤ 100 → gFr Q q sc F G → SM G q sc l' → MtP G q 41 (reW (fdC (loK kd) P u c y) w') → (∀ m, kpB u P m = false → w' m = tWo t m) → GT G q u P (i + 1) → R 1 (wI h G)) (k0 : ∀ G, fdR (loK kd) P u c l y = none → gFr Q q sc F G → R 0 (wI h G)) : w_Md_places Q (nI s2) (nI sc) (nI y) (wI h F) R := by
  obtain ⟨⟨⟨M, hQ⟩, _, hk, ⟨hw, hu⟩, ht, hum⟩, ⟨l1, l2, l3⟩, HP⟩ := id X
  obtain ⟨pp, A, B, hp, e, epr, hpi, lp, hpc, anc, ne, hb⟩ := fdI_at hu HP I hy hpl h0
  obtain ⟨b1, b2, b3⟩ := md_f M (j := 32) (kd := 15) (n := 300) (f := 42) (by decide)
  have y3 := hu.1.1 y hy
  have p3 := hu.1.1 pp hpi
  have r3 := I.1.1.1 _ hpc
  have eg : (tUp u y).getD 0 = pp := by rw [hp]; rfl
  have cm : ∀ m, tIn c m = true → m < mk := fun m hm => by
    rcases (I.2.2.1 m).mp hm with q | q
    · exact ht m q
    · exact hum m q.1
  have old : ∀ z, tIn u z = true → z ≠ y → (pl u z < i + 1 ↔ pl u z < i) := fun z hz h2 => by
    have : pl u z ≠ i := fun q => h2 (pl_inj hu hz hy (by omega))
    omega
  have ha : ∀ d, (prv u y).map (twF P) = some d → d ∈ tKi c (twF P pp) ∧ d ≠ twF P y := fun d hd => by
    cases q : prv u y with
    | none => rw [q] at hd; cases hd
    | some d' =>
      rw [q] at hd
      have hd' : twF P d' = d := Option.some.inj hd
      obtain ⟨_, _, _, q3, q4⟩ := hb d' q
      rw [← hd']
      exact ⟨q3, q4⟩
  have go : w_Md_places_45 R Q (nI s2) (nI sc) (nI y) (nI (twF P pp)) (nO ((prv u y).map (twF P))) (wI h F) := by
    cases ey : P.2 y with
    | none =>
      have ex : twF P y = y := twF_n ey
      rw [ex] at ha
      have ny : tIn c y = false := by
        cases q : tIn c y with
        | false => rfl
        | true =>
          rcases (I.2.2.1 y).mp q with g | g
          · rw [tw_new HP hy ey] at g; cases g
          · omega
      have eC : fdC (loK kd) P u c y = dNode c y (tWo u y) (twF P pp) (loK kd (twF P pp)) (aK (tKi c (twF P pp)) ((prv u y).map (twF P))) := by
        unfold fdC
        rw [ey, eg]
      have eE : fdE (loK kd) P u c y = some (1, y, -1, tWo u y, nwh, spO (fdC (loK kd) P u c y) y) := by
        unfold fdE
        rw [ey]
      have eF := fdR_s (l := l) eE
      rw [eC] at eF k1
      refine p_gPut X C S hl I.1 D hy (by rw [T y hy, if_neg (by omega), ey]; rfl) ny hpc (cm _ hpc) (fun d hd => (ha d hd).1) (fun G q1 q2 q3 q4 q5 q6 q7 => k1 G _ _ (eF.trans q1) (by rw [List.length_append]; show l.length + 1 ≤ 100; omega) q3 q6 q7 (fun m hm => ?_) (fun z hz => ?_)) (fun G q1 q2 => k0 G (eF.trans q1) q2)
      · have n1 : m ≠ y := fun q => by
          rw [q, (kpB_iff hu).mpr ⟨y, hy, ex⟩] at hm
          cases hm
        rw [mU_n _ _ n1]
        exact hv m hm
      · by_cases ez : z = y
        · rw [ez, q5, if_pos (by omega), ex]
        · rw [q4 z ez, T z hz]
          by_cases q : pl u z < i
          · rw [if_pos q, if_pos (by omega)]
          · rw [if_neg q, if_neg (fun g => q ((old z hz ez).mp g))]
    | some x =>
      have ex : twF P y = x := twF_s ey
      rw [ex] at anc ne ha
      have hx := (HP.1.2 x y ((HP.1.1 x y).mpr ey)).1
      have hxc : tIn c x = true := (I.2.2.1 x).mpr (Or.inl hx)
      have x3 := hw.1.1 x hx
      have eC : fdC (loK kd) P u c y = if mvB (loK kd) c x (twF P pp) ((prv u y).map (twF P)) = true then dMove c x (twF P pp) (loK kd (twF P pp)) (aK (tKi (tCut c x) (twF P pp)) ((prv u y).map (twF P))) else c := by
        unfold fdC
        rw [ey, eg]
      have eE : fdE (loK kd) P u c y = if mvB (loK kd) c x (twF P pp) ((prv u y).map (twF P)) = true then some (2, x, -1, -1, spO c x, spO (fdC (loK kd) P u c y) x) else none := by
        unfold fdE
        rw [ey, eg]
      have TWk : ∀ G : Nat → Nat → Int32, G (q + 32) = F (q + 32) → GT G q u P (i + 1) := fun G hG z hz => by
        rw [hG, T z hz]
        by_cases ez : z = y
        · rw [ez, if_neg (by omega), if_pos (by omega), ey, ex]
          rfl
        · by_cases q : pl u z < i
          · rw [if_pos q, if_pos (by omega)]
          · rw [if_neg q, if_neg (fun g => q ((old z hz ez).mp g))]
      have nrt : x ≠ tRt c := fun q => by
        rw [I.2.1, ← tw_rt HP, ← ex] at q
        have := tw_inj HP hy hu.2.1 q
        rw [this, pl_rt hu] at hpl
        omega
      obtain ⟨qq, hqq⟩ := Option.ne_none_iff_exists'.mp (I.1.2.2.2 x hxc nrt)
      have qq3 := I.1.1.1 qq (I.1.1.2.2.2.2 x qq hxc hqq)
      have mvk : mvB (loK kd) c x (twF P pp) ((prv u y).map (twF P)) = true → w_Md_places_189 R Q (nI sc) (nI (twF P pp)) (nO ((prv u y).map (twF P))) (nI x) 1 (wI h F) := fun mv => by
        rw [if_pos mv] at eC eE
        have eF := fdR_s (l := l) eE
        rw [eC] at eF k1
        exact p_g189 X C S hl I.1 D hxc nrt hpc (cm _ hpc) ne ha (wMove I.1 hxc hpc anc _ _) (fun G q1 q2 q3 q4 q5 q6 => k1 G _ w (eF.trans q1) (by rw [List.length_append]; show l.length + 1 ≤ 100; omega) q3 q5 q6 hv (TWk G q4)) (fun G q1 q2 => k0 G (eF.trans q1) q2)
      have stk : mvB (loK kd) c x (twF P pp) ((prv u y).map (twF P)) = false → w_Md_places_189 R Q (nI sc) (nI (twF P pp)) (nO ((prv u y).map (twF P))) (nI x) 0 (wI h F) := fun mv => by
        rw [if_neg (by rw [mv]; exact Bool.false_ne_true)] at eC eE
        have eF := fdR_n (l := l) eE
        rw [eC] at k1
        exact ⟨fun _ => k1 F l w eF hl (fun _ _ _ => rfl) S D hv (TWk F rfl), fun g => absurd rfl g⟩
      have em : hI (wI h F) (q + 32) (nI y).toNatClampNeg = nI x := by
        rw [nI_clamp (by omega), wI_I, T y hy, if_neg (by omega), ey]
        rfl
      refine ⟨M.1, q + 32, b3, b1, by rw [wI_L, b2]; exact vp_in_nI y3 (by decide), fun _ => ?_, fun g => ?_⟩
      · rw [em]
        show w_Md_parentIn Q (nI 41) (nI x) (wI h F) _
        rw [e_Md_parentIn M (by decide) x3, (D.1 x hxc).2.1 qq hqq]
        refine ⟨fun g => mvk ?_, fun g => ⟨M.1, ?_⟩⟩
        · have n1 : tUp c x ≠ some (twF P pp) := fun z => g (by rw [hqq] at z; rw [Option.some.inj z])
          unfold mvB
          rw [decide_eq_false n1]
          rfl
        · have e1 : tUp c x = some (twF P pp) := by rw [hqq, nI_inj (by omega) (by omega) g]
          rw [e_Md_isOrdered M r3, (C.1.2 _ (cm _ hpc)).1]
          have lo := loK_iff kd (twF P pp)
          by_cases c4 : kd (twF P pp) < 4
          · have l0 := lo.mp c4
            rw [if_pos c4]
            refine ⟨fun g => absurd g (by decide), fun _ => ?_⟩
            cases ea : (prv u y).map (twF P) with
            | none =>
              rw [ea] at stk
              exact ⟨fun _ => stk (by unfold mvB; rw [decide_eq_true e1, l0]; rfl), fun g => absurd rfl g⟩
            | some d =>
              rw [ea] at stk mvk
              obtain ⟨d1, d2⟩ := ha d ea
              have d3 := I.1.1.1 d (fKi_in I.1.1 d1).1
              have hxk : x ∈ tKi c (twF P pp) := (I.1.1.2.1 x _).mpr ⟨hxc, e1⟩
              refine ⟨fun g => absurd g (nI_ne_m (by omega)), fun _ => ⟨M.1, ?_⟩⟩
              have wc : tWF 300 (reW c w) := I.1
              refine p_comes M D.1 wc.1 (r := twF P pp) hxk d1 d2 ?_
              by_cases cc : x ∈ (tKi c (twF P pp)).take ((tKi c (twF P pp)).idxOf d)
              · have cc' : x ∈ (tKi (reW c w) (twF P pp)).take ((tKi (reW c w) (twF P pp)).idxOf d) := cc
                rw [if_pos cc']
                exact ⟨fun g => absurd g (by decide), fun _ => mvk (by rw [mvB_s, decide_eq_true e1, l0, decide_eq_true cc]; rfl)⟩
              · have cc' : ¬ x ∈ (tKi (reW c w) (twF P pp)).take ((tKi (reW c w) (twF P pp)).idxOf d) := cc
                rw [if_neg cc']
                exact ⟨fun _ => stk (by rw [mvB_s, decide_eq_true e1, l0, decide_eq_false cc]; rfl), fun g => absurd rfl g⟩
          · have l0 : loK kd (twF P pp) = true := by
              cases q : loK kd (twF P pp) with
              | true => rfl
              | false => exact absurd (lo.mpr q) c4
            rw [if_neg c4]
            exact ⟨fun _ => stk (by unfold mvB; rw [decide_eq_true e1, l0]; rfl), fun g => absurd rfl g⟩
      · rw [em] at g
        exact absurd g (nI_ne_m (by omega))
  refine ⟨M.1, ?_⟩
  rw [e_Md_parentIn M (by omega) y3, (C.2.1.2.1 y hy).2.1 pp hp]
  refine ⟨q + 32, b3, b1, by rw [wI_L, b2]; exact vp_in_nI p3 (by decide), M.1, ?_⟩
  rw [e_Md_parentIn M (by omega) y3, (C.2.1.2.1 y hy).2.1 pp hp]
  have ep : hI (wI h F) (q + 32) (nI pp).toNatClampNeg = nI (twF P pp) := by
    rw [nI_clamp (by omega), wI_I, T pp hpi, if_pos lp]
  rw [ep]
  refine ⟨M.1, p_Md_sibling M (by omega) C.2.1.2.1 hu.1 e ?_⟩
  rw [show lastO A = nO (prv u y) from by rw [epr]; rfl]
  cases qe : prv u y with
  | none =>
    rw [qe] at go
    exact ⟨fun g => absurd rfl g, fun _ => go⟩
  | some d =>
    rw [qe] at go
    obtain ⟨_, d1, d2, _⟩ := hb d qe
    have d3 := hu.1.1 d d1
    have ed : hI (wI h F) (q + 32) (nO (some d)).toNatClampNeg = nI (twF P d) := by
      show F (q + 32) (nI d).toNatClampNeg = _
      rw [nI_clamp (by omega), T d d1, if_pos d2]
    refine ⟨fun _ => ⟨M.1, q + 32, b3, b1, by rw [wI_L, b2]; exact vp_in_nI d3 (by decide), ?_⟩, fun g => absurd g (nI_ne_m (by omega))⟩
    rw [ed]
    exact go
end GD4
