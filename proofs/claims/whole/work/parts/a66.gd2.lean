section GD2
/-! the reference makes a script: the values -/
def GX (h : tpH) (Q q mk s1 s2 sc : Nat) (t u : mT) (P : mP) : Prop := RX h Q q mk s1 s2 t u ∧ (s1 < 40 ∧ s2 < 40 ∧ sc < 40) ∧ fdP t u P
def GF (F : Nat → Nat → Int32) (Q q mk s1 s2 : Nat) (t u : mT) (kd idn : Nat → Int32) : Prop := MaM F Q q mk kd idn ∧ (MtP F q s1 t ∧ MtP F q s2 u) ∧ (∀ (j z : Nat), (pO u)[j]? = some z → F (q + 25) j = nI z) ∧ F Q 35 = nI (pO u).length
def gFr (Q q sc : Nat) (F G : Nat → Nat → Int32) : Prop := ∀ b j, ¬ ((b = q + 7 ∧ j = sc) ∨ (q + 8 ≤ b ∧ b ≤ q + 17 ∧ 100 * sc ≤ j) ∨ (q + 3 ≤ b ∧ b ≤ q + 6 ∧ 12300 ≤ j ∧ j < 12600) ∨ b = q + 24 ∨ b = q + 32) → G b j = F b j
theorem gFr_tr {Q q sc : Nat} {F G K : Nat → Nat → Int32} (a : gFr Q q sc F G) (b : gFr Q q sc G K) : gFr Q q sc F K := fun x j e => (b x j e).trans (a x j e)
theorem gFr_wk {Q q sc : Nat} {F G : Nat → Nat → Int32} (a : wkFr q F G) : gFr Q q sc F G := fun b j e => a b j (by omega)
theorem GF_fr {h : tpH} {Q q mk s1 s2 sc : Nat} {t u : mT} {P : mP} {kd idn : Nat → Int32} (X : GX h Q q mk s1 s2 sc t u P) {F G : Nat → Nat → Int32} (C : GF F Q q mk s1 s2 t u kd idn) (f : gFr Q q sc F G) : GF G Q q mk s1 s2 t u kd idn := by
  obtain ⟨⟨⟨ld, hQ⟩, _, hk, ⟨hw, hu⟩, ht, hum⟩, ⟨l1, l2, l3⟩, HP⟩ := X
  obtain ⟨m, ⟨d1, d2⟩, p, e⟩ := C
  exact ⟨MaM_fr m (f _ _ (by omega)) (fun b hb => funext fun j => f _ _ (by omega)), ⟨MtP_k hw d1 (f _ _ (by omega)) (fun b b1 b2 j j1 j2 => f _ _ (by omega)), MtP_k hu d2 (f _ _ (by omega)) (fun b b1 b2 j j1 j2 => f _ _ (by omega))⟩, fun j z hz => (f _ _ (by omega)).trans (p j z hz), (f _ _ (by omega)).trans e⟩
def SMo (F : Nat → Nat → Int32) (q sc : Nat) (s : Option (List mSt)) : Prop := match s with
  | some l => SM F q sc l ∧ l.length ≤ 100
  | none => True
def cnO (s : Option (List mSt)) : Int32 := match s with
  | some _ => 1
  | none => 0
theorem addO_s {l : List mSt} {e : mSt} (h : l.length < 100) : addO l e = some (l ++ [e]) := if_pos h
theorem addO_n {l : List mSt} {e : mSt} (h : ¬ l.length < 100) : addO l e = none := if_neg h
theorem ns_fr {Q q sc c : Nat} (F : Nat → Nat → Int32) (k m : Int32) : gFr Q q sc F (uNs F q sc c k m) := fun b j e => uNs_o F k m (by omega)
theorem u_fr {Q q sc c b : Nat} (F : Nat → Nat → Int32) (v : Int32) (hb : q + 8 ≤ b ∧ b ≤ q + 17) : gFr Q q sc F (tpu F b (100 * sc + c) v) := fun d j e => tpu_o (by omega)
theorem v_fr {Q q sc b m : Nat} (F : Nat → Nat → Int32) (v : Int32) (hb : q + 3 ≤ b ∧ b ≤ q + 6) (hm : m < 300) : gFr Q q sc F (tpu F b (300 * 41 + m) v) := fun d j e => tpu_o (by omega)
theorem p_mk13 {h : tpH} {Q q mk s1 s2 sc : Nat} {t u : mT} {P : mP} {kd idn : Nat → Int32} (X : GX h Q q mk s1 s2 sc t u P) {F0 : Nat → Nat → Int32} (C0 : GF F0 Q q mk s1 s2 t u kd idn) {S0 : Option (List mSt)} {R : Int32 → tpH → Prop} (fin : ∀ G w, gFr Q q sc F0 G → SMo G q sc S0 → (S0 ≠ none → MtP G q 41 (reW t w) ∧ ∀ m, kpB u P m = false → w m = tWo t m) → (∀ y, tIn u y = true → G (q + 32) y = nO (P.2 y)) → ∃ n, w_Md_makes_162 R n Q (nI s2) (nI sc) (cnO S0) 1 (wI h G)) :
    ∀ (n j : Nat) (s : Option (List mSt)) (F : Nat → Nat → Int32) (w : Nat → Int32), j ≤ (pO u).length → (pO u).length < n + j → ((pO u).drop j).foldl (fu1 t u P) s = S0 → gFr Q q sc F0 F → SMo F q sc s → (s ≠ none → MtP F q 41 (reW t w) ∧ ∀ m, kpB u P m = false → w m = tWo t m) → (∀ y, tIn u y = true → F (q + 32) y = nO (P.2 y)) → w_Md_makes_13 R n Q (nI s1) (nI s2) (nI sc) (cnO s) (nI j) (wI h F)
  | 0, j, s, F, w, h1, h2, e, f, S, V, T => by omega
  | n + 1, j, s, F, w, h1, h2, e, f, S, V, T => by
    have C := GF_fr X C0 f
    obtain ⟨⟨⟨M, hQ⟩, _, hk, ⟨hw, hu⟩, ht, hum⟩, ⟨l1, l2, l3⟩, HP⟩ := id X
    have l4 := pO_le hu
    obtain ⟨a1, a2, a3⟩ := md_f M (j := 25) (kd := 15) (n := 300) (f := 33) (by decide)
    obtain ⟨b1, b2, b3⟩ := md_f M (j := 32) (kd := 15) (n := 300) (f := 42) (by decide)
    obtain ⟨d1, d2, d3⟩ := md_f M (j := 10) (kd := 15) (n := 4100) (f := 14) (by decide)
    obtain ⟨g1, g2, g3⟩ := md_f M (j := 11) (kd := 15) (n := 4100) (f := 15) (by decide)
    obtain ⟨v1, v2, v3⟩ := md_f M (j := 4) (kd := 15) (n := 12600) (f := 7) (by decide)
    refine ⟨M.1, ?_⟩
    rw [wI_I, C.2.2.2]
    by_cases hj : j < (pO u).length
    · obtain ⟨z, ez, pz, hz, _⟩ := dr_cons hu hj
      rw [ez, List.foldl_cons] at e
      have z3 := hu.1.1 z hz
      refine ⟨fun g => absurd ((nI_le_iff (by omega) (by omega)).mp g) (by omega), fun _ => ?_⟩
      cases s with
      | none =>
        have e' : none = S0 := (fu1_n _).symm.trans e
        subst e'
        exact ⟨fun _ => fin F w f trivial (fun g => absurd rfl g) T, fun g => absurd rfl g⟩
      | some l =>
        obtain ⟨S1, S2⟩ := id S
        obtain ⟨D, hv⟩ := V (by intro g; cases g)
        have step : ∀ (s' : Option (List mSt)) (F' : Nat → Nat → Int32) (w' : Nat → Int32), fdU t u P l z = s' → gFr Q q sc F F' → SMo F' q sc s' → (s' ≠ none → MtP F' q 41 (reW t w') ∧ ∀ m, kpB u P m = false → w' m = tWo t m) → F' (q + 32) = F (q + 32) → w_Md_makes_13 R n Q (nI s1) (nI s2) (nI sc) (cnO s') (nI j + 1) (wI h F') := fun s' F' w' q1 q2 q3 q4 q5 => by
          rw [nI_1]
          refine p_mk13 X C0 fin n (j + 1) s' F' w' (by omega) (by omega) ?_ (gFr_tr f q2) q3 q4 (fun y hy => by rw [q5]; exact T y hy)
          rw [← q1]
          exact e
        have en : F (q + 25) (nI j).toNatClampNeg = nI z := by
          rw [nI_clamp (by omega)]
          exact C.2.2.1 j z (by rw [← pz]; exact pO_at hu hz)
        refine ⟨fun g => absurd (show (1 : Int32) = 0 from g) (by decide), fun _ => ⟨q + 25, a3, a1, by rw [wI_L, a2]; exact vp_in_nI (by omega) (by decide), ?_⟩⟩
        rw [en]
        have em : F (q + 32) (nI z).toNatClampNeg = nO (P.2 z) := by
          rw [nI_clamp (by omega)]
          exact T z hz
        refine ⟨q + 32, b3, b1, by rw [wI_L, b2]; exact vp_in_nI z3 (by decide), ?_⟩
        show (F (q + 32) (nI z).toNatClampNeg = -1 → _) ∧ (¬ F (q + 32) (nI z).toNatClampNeg = -1 → _)
        rw [em]
        cases ep : P.2 z with
        | none =>
          exact ⟨fun _ => step (some l) F w (fdU_n ep) (fun _ _ _ => rfl) S V rfl, fun g => absurd rfl g⟩
        | some x =>
          have hx := (HP.1.2 x z ((HP.1.1 x z).mpr ep)).1
          have x3 := hw.1.1 x hx
          have kx : kpB u P x = true := (kpB_iff hu).mpr ⟨z, hz, twF_s ep⟩
          refine ⟨fun g => absurd g (nI_ne_m (by omega)), fun _ => ?_⟩
          show w_Md_valueIn Q (nI s1) (nI x) (wI h F) _
          rw [e_Md_valueIn M (by omega) x3, (C.2.1.1.1 x hx).1]
          refine ⟨M.1, q + 25, a3, a1, by rw [wI_L, a2]; exact vp_in_nI (by omega) (by decide), ?_⟩
          rw [wI_I, en, e_Md_valueIn M (by omega) z3, (C.2.1.2.1 z hz).1]
          refine ⟨fun g => step (some l) F w (by rw [fdU_s ep, if_pos g]) (fun _ _ _ => rfl) S V rfl, fun g => ⟨M.1, ?_⟩⟩
          have eU : fdU t u P l z = addO l (0, x, tWo t x, tWo u z, nwh, nwh) := by rw [fdU_s ep, if_neg g]
          show w_Md_newStep Q (nI sc) (nI 0) (nI x) (wI h F) _
          by_cases hl : l.length < 100
          · refine p_Md_newStep M (by omega) S1.1 hl ⟨fun g => absurd g (nI_ne_m (by omega)), fun _ => ⟨fun g => absurd g (by decide), fun _ => ?_⟩⟩
            have va : vp_in (nI (100 * sc + l.length)) 4100 := vp_in_nI (by omega) (by decide)
            have ca : (nI (100 * sc + l.length)).toNatClampNeg = 100 * sc + l.length := nI_clamp (by omega)
            have o1 : ∀ b jj, ¬ ((b = q + 7 ∧ jj = sc) ∨ (q + 8 ≤ b ∧ b ≤ q + 17 ∧ jj = 100 * sc + l.length)) → uNs F q sc l.length (nI 0) (nI x) b jj = F b jj := fun b jj hb => uNs_o F _ _ hb
            have k0 := uNs_0 F q sc l.length (nI 0) (nI x)
            have k1 := uNs_1 F q sc l.length (nI 0) (nI x)
            have k4 := uNs_4 F q sc l.length (nI 0) (nI x)
            have k5 := uNs_5 F q sc l.length (nI 0) (nI x)
            have k6 := uNs_6 F q sc l.length (nI 0) (nI x)
            have k7 := uNs_7 F q sc l.length (nI 0) (nI x)
            have k8 := uNs_8 F q sc l.length (nI 0) (nI x)
            have k9 := uNs_9 F q sc l.length (nI 0) (nI x)
            have kc := uNs_c F q sc l.length (nI 0) (nI x)
            have fr1 : gFr Q q sc F (uNs F q sc l.length (nI 0) (nI x)) := ns_fr F _ _
            generalize uNs F q sc l.length (nI 0) (nI x) = F1 at o1 k0 k1 k4 k5 k6 k7 k8 k9 kc fr1
            refine ⟨M.1, ?_⟩
            show w_Md_valueIn Q (nI s1) (nI x) (wI h F1) _
            rw [e_Md_valueIn M (by omega) x3, o1 _ _ (by omega), (C.2.1.1.1 x hx).1]
            refine ⟨q + 10, d3, d1, by rw [wI_L, d2]; exact va, fun h9 e9 => ?_⟩
            rw [ca, sI_wI, wI_wI, wI_I] at e9
            subst e9
            refine ⟨M.1, q + 25, a3, a1, by rw [wI_L, a2]; exact vp_in_nI (by omega) (by decide), ?_⟩
            rw [wI_I, show tpu F1 (q + 10) (100 * sc + l.length) (tWo t x) (q + 25) (nI j).toNatClampNeg = nI z from by rw [tpu_o (by omega), o1 _ _ (by omega)]; exact en]
            rw [e_Md_valueIn M (by omega) z3, tpu_o (by omega), o1 _ _ (by omega), (C.2.1.2.1 z hz).1]
            refine ⟨q + 11, g3, g1, by rw [wI_L, g2]; exact va, fun h22 e22 => ?_⟩
            rw [ca, sI_wI, wI_wI, wI_I] at e22
            subst e22
            refine ⟨M.1, q + 25, a3, a1, by rw [wI_L, a2]; exact vp_in_nI (by omega) (by decide), ?_⟩
            rw [wI_I, show tpu (tpu F1 (q + 10) (100 * sc + l.length) (tWo t x)) (q + 11) (100 * sc + l.length) (tWo u z) (q + 25) (nI j).toNatClampNeg = nI z from by rw [tpu_o (by omega), tpu_o (by omega), o1 _ _ (by omega)]; exact en]
            rw [e_Md_valueIn M (by omega) z3, tpu_o (by omega), tpu_o (by omega), o1 _ _ (by omega), (C.2.1.2.1 z hz).1]
            refine ⟨q + 4, v3, v1, by rw [wI_L, v2, show nO (some x) = nI x from rfl, ix_41]; exact ix_v (by decide) x3, fun h35 e35 => ?_⟩
            rw [show nO (some x) = nI x from rfl] at e35
            rw [ix_41, nI_clamp (by omega), sI_wI, wI_wI, wI_I] at e35
            subst e35
            have D1 : MtP (tpu (tpu F1 (q + 10) (100 * sc + l.length) (tWo t x)) (q + 11) (100 * sc + l.length) (tWo u z)) q 41 (reW t w) := MtP_k hw D (by rw [tpu_o (by omega), tpu_o (by omega), o1 _ _ (by omega)]) (fun b b1 b2 jj j1 j2 => by rw [tpu_o (by omega), tpu_o (by omega), o1 _ _ (by omega)])
            have D2 := MtP_set D1 x (tWo u z)
            have fr2 : gFr Q q sc F (tpu (tpu (tpu F1 (q + 10) (100 * sc + l.length) (tWo t x)) (q + 11) (100 * sc + l.length) (tWo u z)) (q + 4) (300 * 41 + x) (tWo u z)) := gFr_tr fr1 (gFr_tr (u_fr _ _ (by omega)) (gFr_tr (u_fr _ _ (by omega)) (v_fr _ _ (by omega) x3)))
            have key := step (some (l ++ [(0, x, tWo t x, tWo u z, nwh, nwh)])) _ (mU w x (tWo u z)) (by rw [eU, addO_s hl]) fr2 ⟨SM_add S1 (fun b jj b1 b2 j1 j2 => ?_) ?_ ⟨?_, ?_, ?_, ?_, ⟨?_, ?_, ?_⟩, ?_, ?_, ?_⟩, ?_⟩ (fun _ => ⟨D2, fun m hm => ?_⟩) (funext fun jj => ?_)
            · exact key
            · rw [tpu_o (by omega), tpu_o (by omega), tpu_o (by omega), o1 _ _ (by omega)]
            · rw [tpu_o (by omega), tpu_o (by omega), tpu_o (by omega)]; exact kc
            · rw [tpu_o (by omega), tpu_o (by omega), tpu_o (by omega)]; exact k0
            · rw [tpu_o (by omega), tpu_o (by omega), tpu_o (by omega)]; exact k1
            · rw [tpu_o (by omega), tpu_o (by omega), tpu_s]
            · rw [tpu_o (by omega), tpu_s]
            · rw [tpu_o (by omega), tpu_o (by omega), tpu_o (by omega)]; exact k7
            · rw [tpu_o (by omega), tpu_o (by omega), tpu_o (by omega)]; exact k8
            · rw [tpu_o (by omega), tpu_o (by omega), tpu_o (by omega)]; exact k9
            · rw [tpu_o (by omega), tpu_o (by omega), tpu_o (by omega)]; exact k4
            · rw [tpu_o (by omega), tpu_o (by omega), tpu_o (by omega)]; exact k5
            · rw [tpu_o (by omega), tpu_o (by omega), tpu_o (by omega)]; exact k6
            · rw [List.length_append]
              show l.length + 1 ≤ 100
              omega
            · have n1 : m ≠ x := fun q => by rw [q, kx] at hm; cases hm
              show mU w x (tWo u z) m = _
              rw [mU_n _ _ n1]
              exact hv m hm
            · rw [tpu_o (by omega), tpu_o (by omega), tpu_o (by omega), o1 _ _ (by omega)]
          · refine p_Md_newStep_no M (by omega) S1.1 (by omega) (by omega) ⟨fun _ => ⟨fun _ => ?_, fun g => absurd rfl g⟩, fun g => absurd rfl g⟩
            exact step none _ w (by rw [eU, addO_n hl]) (fun b jj hb => tpu_o (by omega)) trivial (fun g => absurd rfl g) (tpu_fa _ _ _ _ _ (by omega))
    · have e' : s = S0 := by
        rw [List.drop_eq_nil_of_le (by omega)] at e
        exact e
      subst e'
      exact ⟨fun _ => fin F w f S V T, fun g => absurd ((nI_le_iff (by omega) (by omega)).mpr (by omega)) g⟩
end GD2
