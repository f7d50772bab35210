section GD5
theorem cn_s (l : List mSt) : cnO (some l) = 1 := rfl
theorem p_mk162 {h : tpH} {Q q mk s1 s2 sc : Nat} {t u : mT} {P : mP} {kd idn : Nat → Int32} (X : GX h Q q mk s1 s2 sc t u P) {F0 : Nat → Nat → Int32} (C0 : GF F0 Q q mk s1 s2 t u kd idn) {E : mT × Option (List mSt)} {R : Int32 → tpH → Prop} (fin : ∀ G w, gFr Q q sc F0 G → SMo G q sc E.2 → (E.2 ≠ none → MtP G q 41 (reW E.1 w) ∧ (∀ m, kpB u P m = false → w m = tWo t m) ∧ fdI t u P (pO u).length E.1 ∧ GT G q u P (pO u).length) → w_Md_makes_197 R Q (nI sc) (cnO E.2) (wI h G)) :
    ∀ (n i : Nat) (c : mT) (s : Option (List mSt)) (F : Nat → Nat → Int32) (w : Nat → Int32), 0 < i → i ≤ (pO u).length → (pO u).length < n + i → ((pO u).drop i).foldl (fb1 (loK kd) P u) (c, s) = E → gFr Q q sc F0 F → SMo F q sc s → (s ≠ none → MtP F q 41 (reW c w) ∧ (∀ m, kpB u P m = false → w m = tWo t m) ∧ fdI t u P i c ∧ GT F q u P i) → w_Md_makes_162 R n Q (nI s2) (nI sc) (cnO s) (nI i) (wI h F)
  | 0, i, c, s, F, w, h1, h2, h3, e, f, S, V => by omega
  | n + 1, i, c, s, F, w, h1, h2, h3, e, f, S, V => by
    have C := GF_fr X C0 f
    obtain ⟨⟨⟨M, hQ⟩, _, hk, ⟨hw, hu⟩, ht, hum⟩, ⟨l1, l2, l3⟩, HP⟩ := id X
    have l4 := pO_le hu
    obtain ⟨a1, a2, a3⟩ := md_f M (j := 25) (kd := 15) (n := 300) (f := 33) (by decide)
    refine ⟨M.1, ?_⟩
    rw [wI_I, C.2.2.2]
    by_cases hi : i < (pO u).length
    · obtain ⟨z, ez, pz, hz, _⟩ := dr_cons hu hi
      rw [ez, List.foldl_cons] at e
      refine ⟨fun g => absurd ((nI_le_iff (by omega) (by omega)).mp g) (by omega), fun _ => ?_⟩
      cases s with
      | none =>
        have e' : (c, none) = E := (fb1_n _).symm.trans e
        subst e'
        exact ⟨fun _ => fin F w f trivial (fun g => absurd rfl g), fun g => absurd rfl g⟩
      | some l =>
        obtain ⟨S1, S2⟩ := id S
        obtain ⟨D, hv, I, T⟩ := V (by intro g; cases g)
        have en : F (q + 25) (nI i).toNatClampNeg = nI z := by
          rw [nI_clamp (by omega)]
          exact C.2.2.1 i z (by rw [← pz]; exact pO_at hu hz)
        refine ⟨fun g => absurd (show (1 : Int32) = 0 from g) (by decide), fun _ => ⟨q + 25, a3, a1, by rw [wI_L, a2]; exact vp_in_nI (by omega) (by decide), ?_⟩⟩
        rw [en]
        have e2 : ((pO u).drop (i + 1)).foldl (fb1 (loK kd) P u) (fdC (loK kd) P u c z, fdR (loK kd) P u c l z) = E := e
        refine p_gPlace X C S1 S2 I D hv T hz pz h1 (fun G l' w' v1 v2 v3 v4 v5 v6 v7 => ?_) (fun G v1 v2 => ?_)
        · rw [nI_1]
          rw [v1] at e2
          exact p_mk162 X C0 fin n (i + 1) _ (some l') G w' (by omega) (by omega) (by omega) e2 (gFr_tr f v3) ⟨v4, v2⟩ (fun _ => ⟨v5, v6, fdI_step hu HP I hz pz h1 (loK kd), v7⟩)
        · rw [nI_1]
          rw [v1] at e2
          exact p_mk162 X C0 fin n (i + 1) _ none G w (by omega) (by omega) (by omega) e2 (gFr_tr f v2) trivial (fun g => absurd rfl g)
    · have ei : i = (pO u).length := by omega
      have e' : (c, s) = E := by
        rw [List.drop_eq_nil_of_le (by omega)] at e
        exact e
      subst e'
      exact ⟨fun _ => fin F w f S (fun ne => by rw [← ei]; exact V ne), fun g => absurd ((nI_le_iff (by omega) (by omega)).mpr (by omega)) g⟩
theorem p_kept4 {h : tpH} {Q q mk s1 s2 sc : Nat} {t u : mT} {P : mP} {kd idn : Nat → Int32} (X : GX h Q q mk s1 s2 sc t u P) {F : Nat → Nat → Int32} (C : GF F Q q mk s1 s2 t u kd idn) (T : GT F q u P (pO u).length) (h3 : ∀ z, tIn u z = true → twF P z < 300) {m : Nat} (m3 : m < 300) {R : Int32 → tpH → Prop} (k1 : kpB u P m = true → R 1 (wI h F)) (k0 : kpB u P m = false → R 0 (wI h F)) :
    ∀ (n j : Nat) (b : Bool), j ≤ (pO u).length → (pO u).length < n + j → (b || ((pO u).drop j).any (fun y => decide (twF P y = m))) = kpB u P m → w_Md_isKept_4 R n Q (nI m) (if b = true then 1 else 0) (nI j) (wI h F)
  | 0, j, b, h1, h2, e => by omega
  | n + 1, j, b, h1, h2, e => by
    obtain ⟨⟨⟨M, hQ⟩, _, hk, ⟨hw, hu⟩, ht, hum⟩, ⟨l1, l2, l3⟩, HP⟩ := id X
    have l4 := pO_le hu
    obtain ⟨a1, a2, a3⟩ := md_f M (j := 25) (kd := 15) (n := 300) (f := 33) (by decide)
    obtain ⟨b1, b2, b3⟩ := md_f M (j := 32) (kd := 15) (n := 300) (f := 42) (by decide)
    refine ⟨M.1, ?_⟩
    rw [wI_I, C.2.2.2]
    by_cases hj : j < (pO u).length
    · obtain ⟨z, ez, pz, hz, _⟩ := dr_cons hu hj
      have z3 := hu.1.1 z hz
      rw [ez, List.any_cons] at e
      refine ⟨fun g => absurd ((nI_le_iff (by omega) (by omega)).mp g) (by omega), fun _ => ?_⟩
      rw [nI_1]
      cases b with
      | true =>
        have ih := p_kept4 X C T h3 m3 k1 k0 n (j + 1) true (by omega) (by omega) (by rw [Bool.true_or] at e ⊢; exact e)
        exact ⟨fun _ => ih, fun g => absurd g (by decide)⟩
      | false =>
        have en : F (q + 25) (nI j).toNatClampNeg = nI z := by
          rw [nI_clamp (by omega)]
          exact C.2.2.1 j z (by rw [← pz]; exact pO_at hu hz)
        refine ⟨fun g => absurd rfl g, fun _ => ⟨q + 25, a3, a1, by rw [wI_L, a2]; exact vp_in_nI (by omega) (by decide), ?_⟩⟩
        rw [en]
        refine ⟨q + 32, b3, b1, by rw [wI_L, b2]; exact vp_in_nI z3 (by decide), ?_⟩
        have em : F (q + 32) (nI z).toNatClampNeg = nI (twF P z) := by
          rw [nI_clamp (by omega), T z hz, if_pos (pl_lt hu hz)]
        rw [em]
        have t3 := h3 z hz
        refine ⟨fun g => ?_, fun g => ?_⟩
        · have n1 : twF P z ≠ m := fun q => g (by rw [q])
          rw [decide_eq_false n1, Bool.false_or, Bool.false_or] at e
          exact p_kept4 X C T h3 m3 k1 k0 n (j + 1) false (by omega) (by omega) (by rw [Bool.false_or]; exact e)
        · have n1 : twF P z = m := nI_inj (by omega) (by omega) g
          rw [decide_eq_true n1, Bool.true_or, Bool.or_true] at e
          exact p_kept4 X C T h3 m3 k1 k0 n (j + 1) true (by omega) (by omega) (by rw [Bool.true_or]; exact e)
    · rw [List.drop_eq_nil_of_le (by omega)] at e
      have e' : b = kpB u P m := by
        rw [← e]
        cases b <;> rfl
      refine ⟨fun _ => ?_, fun g => absurd ((nI_le_iff (by omega) (by omega)).mpr (by omega)) g⟩
      cases b with
      | true => exact ⟨Or.inr rfl, k1 e'.symm⟩
      | false => exact ⟨Or.inl rfl, k0 e'.symm⟩
theorem rmS_rt {K : Nat → Bool} {wv : Nat → Int32} {c0 : mT} (H : rmH K c0) (c : mT) (s : Option (List mSt)) : ((pO c0).take 1).reverse.foldl (rmS K wv) (c, s) = (c, s) := by
  have e : (pO c0).take 1 = [tRt c0] := by
    unfold pO
    rw [tPo_eq H.1.1.2.2.2.1]
    rfl
  rw [e]
  show rmS K wv (c, s) (tRt c0) = (c, s)
  cases s with
  | none => rfl
  | some l => exact rmS_k H.2.1
theorem p_mk224 {h : tpH} {Q q mk s1 s2 sc : Nat} {t u : mT} {P : mP} {kd idn : Nat → Int32} (X : GX h Q q mk s1 s2 sc t u P) {F0 : Nat → Nat → Int32} (C0 : GF F0 Q q mk s1 s2 t u kd idn) {c0 : mT} (H : rmH (kpB u P) c0) (hv0 : ∀ m, tIn c0 m = true → kpB u P m = false → tIn t m = true) (h3 : ∀ z, tIn u z = true → twF P z < 300) {S00 : Option (List mSt)} {R : Int32 → tpH → Prop} (fin : ∀ G, gFr Q q sc F0 G → SMo G q sc S00 → R (cnO S00) (wI h G)) :
    ∀ (n i : Nat) (c : mT) (s : Option (List mSt)) (F : Nat → Nat → Int32) (w : Nat → Int32), i < n → 0 < i → i ≤ (pO c0).length → (((pO c0).take i).reverse.foldl (rmS (kpB u P) (tWo t)) (c, s)).2 = S00 → gFr Q q sc F0 F → SMo F q sc s → (s ≠ none → rmI (kpB u P) c0 i c ∧ MtP F q 41 (reW c w) ∧ (∀ m, kpB u P m = false → w m = tWo t m) ∧ GT F q u P (pO u).length ∧ ∀ j m, (pO c0)[j]? = some m → F (q + 24) j = nI m) → w_Md_makes_224 R n Q (nI sc) (cnO s) (nI i + (-1)) (wI h F)
  | 0, i, c, s, F, w, h1, h0, h2, e, f, S, V => by omega
  | n + 1, 0, c, s, F, w, h1, h0, h2, e, f, S, V => by omega
  | n + 1, 1, c, s, F, w, h1, h0, h2, e, f, S, V => by
    rw [rmS_rt H] at e
    have e' : s = S00 := e
    subst e'
    refine ⟨fun _ => ⟨?_, fin F f S⟩, fun g => absurd (show nI 1 + (-1 : Int32) ≤ 0 by decide) g⟩
    cases s with
    | none => exact Or.inl rfl
    | some l => exact Or.inr rfl
  | n + 1, i + 2, c, s, F, w, h1, h0, h2, e, f, S, V => by
    have e0 : nI (i + 2) + (-1 : Int32) = nI (i + 1) := nI_dn (by omega)
    have C := GF_fr X C0 f
    obtain ⟨⟨⟨M, hQ⟩, _, hk, ⟨hw, hu⟩, ht, hum⟩, ⟨l1, l2, l3⟩, HP⟩ := id X
    have l5 := pO_le H.1
    rw [e0]
    have ng : ¬ nI (i + 1) ≤ 0 := fun g => absurd ((nI_le_iff (b := 0) (by omega) (by decide)).mp g) (by omega)
    cases s with
    | none =>
      rw [rmS_n] at e
      have e' : none = S00 := e
      subst e'
      exact ⟨fun g => absurd g ng, fun _ => ⟨fun _ => ⟨Or.inl rfl, fin F f trivial⟩, fun g => absurd rfl g⟩⟩
    | some l =>
      obtain ⟨S1, S2⟩ := id S
      obtain ⟨I, D, hv, T, od⟩ := V (by intro g; cases g)
      obtain ⟨m, em, pm, hm, _⟩ := dr_cons H.1 (show i + 1 < (pO c0).length by omega)
      have m3 := H.1.1.1 m hm
      have et : (pO c0).take (i + 2) = (pO c0).take (i + 1) ++ [m] := by
        rw [List.take_add_one]
        have := pO_at H.1 hm
        rw [pm] at this
        rw [this]
        rfl
      rw [et, List.reverse_append] at e
      have e' : (((pO c0).take (i + 1)).reverse.foldl (rmS (kpB u P) (tWo t)) (rmS (kpB u P) (tWo t) (c, some l) m)).2 = S00 := e
      obtain ⟨a1, a2, a3⟩ := md_f M (j := 24) (kd := 15) (n := 300) (f := 32) (by decide)
      have eo : F (q + 24) (nI (i + 1)).toNatClampNeg = nI m := by
        rw [nI_clamp (by omega)]
        exact od (i + 1) m (by rw [← pm]; exact pO_at H.1 hm)
      refine ⟨fun g => absurd g ng, fun _ => ⟨fun g => absurd (show (1 : Int32) = 0 from g) (by decide), fun _ => ⟨M.1, q + 24, a3, a1, by rw [wI_L, a2]; exact vp_in_nI (by omega) (by decide), ?_⟩⟩⟩
      rw [wI_I, eo]
      refine ⟨(pO u).length + 1, p_kept4 X C T h3 m3 (fun kt => ?_) (fun kf => ?_) _ 0 false (Nat.zero_le _) (by omega) (by rw [List.drop_zero]; rfl)⟩
      · rw [rmS_k kt] at e'
        refine ⟨fun _ => ?_, fun g => absurd g (by decide)⟩
        exact p_mk224 X C0 H hv0 h3 fin n (i + 1) c (some l) F w (by omega) (by omega) (by omega) e' f S (fun _ => ⟨rm_keep H I hm pm kt, D, hv, T, od⟩)
      · obtain ⟨im, kn, nr, po⟩ := rm_leaf H I hm pm kf
        have I' := rm_step H I hm pm kf
        rw [rmS_r kf] at e'
        refine ⟨fun g => absurd rfl g, fun _ => ⟨M.1, ?_⟩⟩
        show w_Md_newStep Q (nI sc) (nI 3) (nI m) (wI h F) _
        by_cases hl1 : l.length < 100
        · rw [addO_s hl1] at e'
          refine p_Md_newStep M (by omega) S1.1 hl1 ⟨fun g => absurd g (nI_ne_m (by omega)), fun _ => ⟨fun g => absurd g (by decide), fun _ => ⟨M.1, ?_⟩⟩⟩
          have o1 : ∀ b jj, ¬ ((b = q + 7 ∧ jj = sc) ∨ (q + 8 ≤ b ∧ b ≤ q + 17 ∧ jj = 100 * sc + l.length)) → uNs F q sc l.length (nI 3) (nI m) b jj = F b jj := fun b jj hb => uNs_o F _ _ hb
          have q0 := uNs_0 F q sc l.length (nI 3) (nI m)
          have q1 := uNs_1 F q sc l.length (nI 3) (nI m)
          have q3 := uNs_3 F q sc l.length (nI 3) (nI m)
          have q4 := uNs_4 F q sc l.length (nI 3) (nI m)
          have q5 := uNs_5 F q sc l.length (nI 3) (nI m)
          have q6 := uNs_6 F q sc l.length (nI 3) (nI m)
          have qc := uNs_c F q sc l.length (nI 3) (nI m)
          generalize uNs F q sc l.length (nI 3) (nI m) = F1 at o1 q0 q1 q3 q4 q5 q6 qc
          have hk4 : 100 * sc + l.length < 4100 := by omega
          have va : vp_in (nI (100 * sc + l.length)) 4100 := vp_in_nI hk4 (by decide)
          have ca : (nI (100 * sc + l.length)).toNatClampNeg = 100 * sc + l.length := nI_clamp (by omega)
          have wc : tWF 300 (reW c w) := I.1
          have D1 : MtP F1 q 41 (reW c w) := MtP_k wc D (o1 _ _ (by omega)) (fun b b1 b2 jj j1 j2 => o1 _ _ (by omega))
          obtain ⟨pp, hpp⟩ := Option.ne_none_iff_exists'.mp (I.1.2.2.2 m im nr)
          obtain ⟨A0, B0, eK⟩ := List.append_of_mem ((I.1.1.2.1 m pp).mpr ⟨im, hpp⟩)
          have eK' : tKi (reW c w) pp = A0 ++ m :: B0 := eK
          refine p_tellWas M hk4 D1.1 wc.1 eK' ⟨M.1, ?_⟩
          have D2 : MtP (uTw F1 q (100 * sc + l.length) (spO (reW c w) m)) q 41 (reW c w) := MtP_fr D1 (fun b b1 b2 => by unfold uTw; rw [tpu_fa _ _ _ _ _ (by omega), tpu_fa _ _ _ _ _ (by omega), tpu_fa _ _ _ _ _ (by omega)])
          have o2 : ∀ b jj, ¬ (q + 15 ≤ b ∧ b ≤ q + 17 ∧ jj = 100 * sc + l.length) → uTw F1 q (100 * sc + l.length) (spO (reW c w) m) b jj = F1 b jj := fun b jj hb => by unfold uTw; rw [tpu_o (by omega), tpu_o (by omega), tpu_o (by omega)]
          have w15 : uTw F1 q (100 * sc + l.length) (spO (reW c w) m) (q + 15) (100 * sc + l.length) = nO (spO c m).1 := by unfold uTw; rw [tpu_o (by omega), tpu_o (by omega), tpu_s]; rfl
          have w16 : uTw F1 q (100 * sc + l.length) (spO (reW c w) m) (q + 16) (100 * sc + l.length) = nO (spO c m).2.1 := by unfold uTw; rw [tpu_o (by omega), tpu_s]; rfl
          have w17 : uTw F1 q (100 * sc + l.length) (spO (reW c w) m) (q + 17) (100 * sc + l.length) = nO (spO c m).2.2 := by unfold uTw; rw [tpu_s]; rfl
          generalize uTw F1 q (100 * sc + l.length) (spO (reW c w) m) = F2 at D2 o2 w15 w16 w17
          obtain ⟨d1, d2, d3⟩ := md_f M (j := 10) (kd := 15) (n := 4100) (f := 14) (by decide)
          obtain ⟨u1, u2, u3⟩ := md_f M (j := 3) (kd := 15) (n := 12600) (f := 6) (by decide)
          show w_Md_valueIn Q (nI 41) (nI m) (wI h F2) _
          rw [e_Md_valueIn M (by decide) m3, (D2.1 m im).1, show tWo (reW c w) m = tWo t m from hv m kf]
          refine ⟨q + 10, d3, d1, by rw [wI_L, d2]; exact va, fun h11 e11 => ⟨?_, ?_⟩⟩
          · rw [e11]
            exact M.1
          rw [ca, sI_wI, wI_wI, wI_I] at e11
          subst e11
          have D3 : MtP (tpu F2 (q + 10) (100 * sc + l.length) (tWo t m)) q 41 (reW c w) := MtP_fr D2 (fun b b1 b2 => tpu_fa _ _ _ _ _ (by omega))
          have o3 : ∀ b jj, ¬ (b = q + 10 ∧ jj = 100 * sc + l.length) → tpu F2 (q + 10) (100 * sc + l.length) (tWo t m) b jj = F2 b jj := fun b jj hb => tpu_o hb
          have w10 : tpu F2 (q + 10) (100 * sc + l.length) (tWo t m) (q + 10) (100 * sc + l.length) = tWo t m := tpu_s _ _ _ _
          generalize tpu F2 (q + 10) (100 * sc + l.length) (tWo t m) = F3 at D3 o3 w10
          show w_Md_unhang Q (nI 41) (nI m) (wI h F3) _
          refine p_Md_unhang M (by decide) D3.1 wc.1 eK' ⟨M.1, q + 3, u3, u1, by rw [ix_41, wI_L, u2]; exact ix_v (by decide) m3, fun h20 e20 => ?_⟩
          rw [ix_41, nI_clamp (by omega), sI_wI, wI_wI, wI_I] at e20
          subst e20
          obtain ⟨D4, f4⟩ := mt_off D3 wc eK' nr
          have D5 : MtP _ q 41 (tErs (reW c w) m) := mt_one wc im kn nr D4
          have D5' : MtP (tpu (uMu F3 q 41 m pp A0.getLast?) (q + 3) (300 * 41 + m) (-2)) q 41 (reW (tErs c m) w) := D5
          generalize tpu (uMu F3 q 41 m pp A0.getLast?) (q + 3) (300 * 41 + m) (-2) = F5 at f4 D5'
          have o5 : ∀ b jj, ¬ (q + 3 ≤ b ∧ b ≤ q + 6 ∧ 12300 ≤ jj ∧ jj < 12600) → F5 b jj = F3 b jj := fun b jj hb => f4 b jj hb
          refine p_mk224 X C0 H hv0 h3 fin n (i + 1) (tErs c m) (some (l ++ [(3, m, tWo t m, -1, spO c m, nwh)])) F5 w (by omega) (by omega) (by omega) e' (gFr_tr f (fun b jj hb => ?_)) ⟨SM_add S1 (fun b jj b1 b2 j1 j2 => ?_) ?_ ⟨?_, ?_, ?_, ?_, ⟨?_, ?_, ?_⟩, ?_, ?_, ?_⟩, ?_⟩ (fun _ => ⟨I', D5', hv, fun z hz => ?_, fun j m' hj => ?_⟩)
          · rw [o5 _ _ (by omega), o3 _ _ (by omega), o2 _ _ (by omega), o1 _ _ (by omega)]
          · rw [o5 _ _ (by omega), o3 _ _ (by omega), o2 _ _ (by omega), o1 _ _ (by omega)]
          · rw [o5 _ _ (by omega), o3 _ _ (by omega), o2 _ _ (by omega)]; exact qc
          · rw [o5 _ _ (by omega), o3 _ _ (by omega), o2 _ _ (by omega)]; exact q0
          · rw [o5 _ _ (by omega), o3 _ _ (by omega), o2 _ _ (by omega)]; exact q1
          · rw [o5 _ _ (by omega)]; exact w10
          · rw [o5 _ _ (by omega), o3 _ _ (by omega), o2 _ _ (by omega)]; exact q3
          · rw [o5 _ _ (by omega), o3 _ _ (by omega)]; exact w15
          · rw [o5 _ _ (by omega), o3 _ _ (by omega)]; exact w16
          · rw [o5 _ _ (by omega), o3 _ _ (by omega)]; exact w17
          · rw [o5 _ _ (by omega), o3 _ _ (by omega), o2 _ _ (by omega)]; exact q4
          · rw [o5 _ _ (by omega), o3 _ _ (by omega), o2 _ _ (by omega)]; exact q5
          · rw [o5 _ _ (by omega), o3 _ _ (by omega), o2 _ _ (by omega)]; exact q6
          · rw [List.length_append]
            show l.length + 1 ≤ 100
            omega
          · rw [o5 _ _ (by omega), o3 _ _ (by omega), o2 _ _ (by omega), o1 _ _ (by omega)]; exact T z hz
          · rw [o5 _ _ (by omega), o3 _ _ (by omega), o2 _ _ (by omega), o1 _ _ (by omega)]; exact od j m' hj
        · rw [addO_n hl1] at e'
          refine p_Md_newStep_no M (by omega) S1.1 (by omega) (by omega) ⟨fun _ => ⟨fun _ => ?_, fun g => absurd rfl g⟩, fun g => absurd rfl g⟩
          exact p_mk224 X C0 H hv0 h3 fin n (i + 1) (tErs c m) none _ w (by omega) (by omega) (by omega) e' (gFr_tr f (fun b jj hb => tpu_o (by omega))) trivial (fun g => absurd rfl g)
theorem p_makes {h : tpH} {Q q mk s1 s2 sc : Nat} {t u : mT} {P : mP} {kd idn : Nat → Int32} (X : GX h Q q mk s1 s2 sc t u P) {F : Nat → Nat → Int32} (C : GF F Q q mk s1 s2 t u kd idn) (D : MtP F q 41 t) (T : ∀ y, tIn u y = true → F (q + 32) y = nO (P.2 y)) {R : Int32 → tpH → Prop} (kk : ∀ G, gFr Q q sc F G → SMo G q sc (fdA (loK kd) t u P) → R (cnO (fdA (loK kd) t u P)) (wI h G)) : w_Md_makes Q (nI s1) (nI s2) (nI sc) (wI h F) R := by
  obtain ⟨⟨⟨M, hQ⟩, _, hk, ⟨hw, hu⟩, ht, hum⟩, ⟨l1, l2, l3⟩, HP⟩ := id X
  obtain ⟨a1, a2, a3⟩ := md_f M (j := 7) (kd := 15) (n := 41) (f := 11) (by decide)
  obtain ⟨c1, c2, c3⟩ := md_f M (j := 24) (kd := 15) (n := 300) (f := 32) (by decide)
  have l4 := pO_le hu
  have pos := pl_lt hu hu.2.1
  rw [pl_rt hu] at pos
  refine ⟨M.1, q + 7, a3, a1, by rw [wI_L, a2]; exact vp_in_nI (by omega) (by decide), fun h6 e6 => ⟨(pO u).length + 1, ?_⟩⟩
  rw [nI_clamp (by omega), sI_wI, wI_wI, wI_I] at e6
  subst e6
  have f0 : gFr Q q sc F (tpu F (q + 7) sc 0) := fun b j hb => tpu_o (by omega)
  have D0 : MtP (tpu F (q + 7) sc 0) q 41 (reW t (tWo t)) := MtP_fr D (fun b b1 b2 => tpu_fa _ _ _ _ _ (by omega))
  refine p_mk13 X C (S0 := fuA t u P) (fun G w g1 g2 g3 g4 => ⟨(pO u).length + 1, ?_⟩) _ 0 (some []) _ (tWo t) (Nat.zero_le _) (by omega) (by rw [List.drop_zero]; rfl) f0 ⟨⟨tpu_s _ _ _ _, fun j e hj => by simp at hj⟩, Nat.zero_le _⟩ (fun _ => ⟨D0, fun _ _ => rfl⟩) (fun y hy => by rw [tpu_o (by omega)]; exact T y hy)
  refine p_mk162 X C (E := fbA (loK kd) t u P) (fun G w g5 g6 g7 => ?_) _ 1 t (fuA t u P) G w (Nat.lt_succ_self _) pos (by omega) rfl g1 g2 (fun ne => ⟨(g3 ne).1, (g3 ne).2, fdI_1 hw hu HP, fun z hz => ?_⟩)
  · have eE : fdA (loK kd) t u P = ((pO (fbA (loK kd) t u P).1).reverse.foldl (rmS (kpB u P) (tWo t)) ((fbA (loK kd) t u P).1, (fbA (loK kd) t u P).2)).2 := rfl
    generalize (fbA (loK kd) t u P).1 = c at eE g7
    generalize (fbA (loK kd) t u P).2 = s at eE g6 g7
    cases s with
    | none =>
      rw [rmS_n] at eE
      have eE : fdA (loK kd) t u P = none := eE
      rw [eE] at kk
      exact ⟨fun _ => ⟨1, fun _ => ⟨Or.inl rfl, kk G g5 trivial⟩, fun g => absurd (show (0 : Int32) - 1 ≤ 0 by decide) g⟩, fun g => absurd rfl g⟩
    | some l =>
      obtain ⟨DD, hv, I, TT⟩ := g7 (by intro g; cases g)
      have H := fd_rmH hu HP I
      have wc : tWF 300 (reW c w) := I.1
      refine ⟨fun g => absurd (show (1 : Int32) = 0 from g) (by decide), fun _ => ⟨M.1, ?_⟩⟩
      rw [wI_R, c3]
      show w_Md_layOrder Q (nI 41) (some (q + 24)) (wI h G) _
      refine p_Md_layOrder M (by decide) DD wc (Or.inr (by omega)) c1 c2 ⟨(pO c).length + 1, ?_⟩
      have epo : pO (reW c w) = pO c := rfl
      rw [epo, Int32.sub_eq_add_neg]
      have posc := pl_lt I.1 I.1.2.1
      have fl : gFr Q q sc G (lay G (q + 24) (pO c)) := fun b j hb => by rw [lay_ne _ _ (by omega)]
      refine p_mk224 X C H (fun m hm hk => fd_rest hu I hm hk) (fun z hz => I.1.1.1 _ (fdI_tw HP I hz (pl_lt hu hz))) kk _ (pO c).length c (some l) _ w (Nat.lt_succ_self _) (by omega) (Nat.le_refl _) (by rw [List.take_length]; exact eE.symm) (gFr_tr g5 fl) ⟨SM_k g6.1 (fun b b1 b2 => lay_ne _ _ (by omega)), g6.2⟩ (fun _ => ⟨rm_0 H, MtP_fr DD (fun b b1 b2 => lay_ne _ _ (by omega)), hv, fun z hz => by rw [lay_ne _ _ (by omega)]; exact TT z hz, fun j m hj => lay_at _ _ hj⟩)
  · rw [g4 z hz]
    by_cases c : pl u z < 1
    · have er : z = tRt u := pl_inj hu hz hu.2.1 (by rw [pl_rt hu]; omega)
      rw [if_pos c, er, tw_rt HP, HP.2.2]
      rfl
    · rw [if_neg c]
end GD5
