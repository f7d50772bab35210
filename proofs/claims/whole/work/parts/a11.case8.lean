section CASE8
noncomputable def sameB (t u : mT) : Bool := decide (pO t = pO u) && (pO t).all (hsB t u)
theorem sameB_iff {t u : mT} : sameB t u = true ↔ sameC t u := by
  unfold sameB sameC
  rw [Bool.and_eq_true, decide_eq_true_iff, List.all_eq_true]
noncomputable def gSame (fr : List mT) (x y : Int32) : Option Int32 := (lstAt fr x).bind (fun t => (lstAt fr y).bind (fun u => some (if sameB t u = true then 1 else 0)))
theorem p_TP_areSame {h : tpH} {o p D : Nat} (l : lTP h o p) {fr : List mT} (hF : FoP h (hI h) o p D fr) (hw : ∀ (i : Nat) (t : mT), fr[i]? = some t → tWF 300 t) {x y : Int32} {X : String → tpH → Prop} {R : Int32 → tpH → Prop} (x1 : gSame fr x y = none → X "java/lang/IndexOutOfBoundsException" (nC h 0 0 6)) (kk : ∀ v, gSame fr x y = some v → (v = 0 ∨ v = 1) → R v h) : w_TP_areSame o x y h X R := by
  unfold gSame at x1 kk
  refine ⟨l.1, p_tree l hF (fun e => x1 (by rw [e]; rfl)) (fun i t a mk e hi hl ha b1 b2 b3 b4 b5 => ⟨l.1, p_tree l hF (fun e => x1 (by rw [hl, e]; rfl)) (fun j u b mk' e' hj hl' hb c1 c2 c3 c4 c5 => ⟨a, rfl, b1.1, ?_⟩)⟩)⟩
  rw [hl, hl'] at kk
  refine p_Tr_isSameAs b1 b3 c1 c3 b2 c2 (hw i t hi) (hw j u hj) b4 c4 (fun g => ⟨Or.inr rfl, ?_⟩) (fun g => ⟨Or.inl rfl, ?_⟩)
  · have := kk _ rfl
    rw [if_pos (sameB_iff.mpr g)] at this
    exact this (Or.inr rfl)
  · have := kk _ rfl
    rw [if_neg (fun e => g (sameB_iff.mp e))] at this
    exact this (Or.inl rfl)
theorem p_mSame {h : tpH} {Q q mk s s' : Nat} (M : lMd h Q q) (hs : s < 42) (hs' : s' < 42) {F : Nat → Nat → Int32} (hm : F Q 0 = nI mk) (hk : mk ≤ 300) {t u : mT} (H : MtP F q s t) (H' : MtP F q s' u) (hw : tWF 300 t) (hw' : tWF 300 u) (ht : ∀ m, tIn t m = true → m < mk) (hu : ∀ m, tIn u m = true → m < mk) {R : Int32 → tpH → Prop} (k1 : (∀ m, m < mk → smM F q s s' t u m) → R 1 (wI h F)) (k0 : ¬ (∀ m, m < mk → smM F q s s' t u m) → R 0 (wI h F)) :
    ∀ (n i : Nat), i ≤ mk → mk < n + i → (∀ m, m < i → smM F q s s' t u m) → w_Md_areSame_29 R n Q (nI s) (nI s') 1 (nI i) (wI h F)
  | 0, i, h1, h2, h3 => by omega
  | n + 1, i, h1, h2, h3 => by
    refine ⟨M.1, fun e => ?_, fun e => ⟨fun g => absurd g (by decide), fun _ => ?_⟩⟩
    · rw [wI_I, hm] at e
      have := (nI_le_iff (by omega) (by omega)).mp e
      exact ⟨Or.inr rfl, k1 (fun m g => h3 m (by omega))⟩
    · rw [wI_I, hm] at e
      have hi : i < mk := by
        refine Classical.byContradiction fun g => e ((nI_le_iff (by omega) (by omega)).mpr (by omega))
      have bad : ¬ smM F q s s' t u i → n ≠ 0 → w_Md_areSame_29 R n Q (nI s) (nI s') 0 (nI i + 1) (wI h F) := fun g hn => by
        obtain ⟨n', rfl⟩ := Nat.exists_eq_succ_of_ne_zero hn
        have k := k0 (fun a => g (a i hi))
        exact ⟨M.1, fun _ => ⟨Or.inl rfl, k⟩, fun _ => ⟨fun _ => ⟨Or.inl rfl, k⟩, fun e => absurd rfl e⟩⟩
      have good : smM F q s s' t u i → w_Md_areSame_29 R n Q (nI s) (nI s') 1 (nI i + 1) (wI h F) := fun g => by
        rw [nI_1]
        refine p_mSame M hs hs' hm hk H H' hw hw' ht hu k1 k0 n (i + 1) (by omega) (by omega) (fun m hm' => ?_)
        by_cases c : m = i
        · rw [c]; exact g
        · exact h3 m (by omega)
      have hn : n ≠ 0 := by omega
      have i3 : i < 300 := by omega
      refine p_Md_has M hs hk hm (inn := tIn t) (fun m hm' => mt_in H hw m (by omega)) ht (fun m e1 hm3 hi1 => ⟨M.1, ?_⟩) (fun g1 => ⟨M.1, ?_⟩)
      · have e2 : i = m := nI_inj (by omega) (by omega) e1
        subst e2
        refine p_Md_has M hs' hk hm (inn := tIn u) (fun m hm' => mt_in H' hw' m (by omega)) hu (fun m e1 hm3 hi2 => ?_) (fun g1 => ⟨fun _ => bad (fun g => ?_) hn, fun e => absurd e (by decide)⟩)
        · have e2 : i = m := nI_inj (by omega) (by omega) e1
          subst e2
          refine ⟨fun e => absurd rfl e, fun _ => ⟨fun e => absurd e (by decide), fun _ => ⟨M.1, ?_⟩⟩⟩
          rw [e_Md_valueIn M hs i3, (H.1 i hi1).1]
          refine ⟨M.1, ?_⟩
          rw [e_Md_valueIn M hs' i3, (H'.1 i hi2).1]
          refine ⟨fun e => bad (fun g => e (g.2 hi1).1) hn, fun ew => ⟨M.1, ?_⟩⟩
          rw [e_Md_parentIn M hs i3, mt_up H hw hi1]
          refine ⟨M.1, ?_⟩
          rw [e_Md_parentIn M hs' i3, mt_up H' hw' hi2]
          refine ⟨fun e => bad (fun g => e (by rw [(g.2 hi1).2.1])) hn, fun eu => ⟨M.1, ?_⟩⟩
          have eu := nO_inj (up3 hw hi1) (up3 hw' hi2) eu
          rw [e_Md_nextIn M hs i3]
          refine ⟨M.1, ?_⟩
          rw [e_Md_nextIn M hs' i3]
          exact ⟨fun e => bad (fun g => e (g.2 hi1).2.2) hn, fun en => good ⟨by rw [hi1, hi2], fun _ => ⟨ew, eu, en⟩⟩⟩
        · have := g1 i i3 rfl
          have e3 := g.1
          rw [hi1, this] at e3
          simp at e3
      · have f1 := g1 i i3 rfl
        refine p_Md_has M hs' hk hm (inn := tIn u) (fun m hm' => mt_in H' hw' m (by omega)) hu (fun m e1 hm3 hi2 => ?_) (fun g2 => ?_)
        · have e2 : i = m := nI_inj (by omega) (by omega) e1
          subst e2
          refine ⟨fun _ => bad (fun g => ?_) hn, fun e => absurd e (by decide)⟩
          have e3 := g.1
          rw [f1, hi2] at e3
          simp at e3
        · have f2 := g2 i i3 rfl
          exact ⟨fun e => absurd rfl e, fun _ => ⟨fun _ => good ⟨by rw [f1, f2], fun e => by rw [f1] at e; simp at e⟩, fun e => absurd rfl e⟩⟩
theorem p_Md_areSame {h : tpH} {Q q mk : Nat} (M : lMd h Q q) (hQ : Q < q) {F : Nat → Nat → Int32} (hm : F Q 0 = nI mk) (hk : mk ≤ 300) {fr : List mT} (hF : FoM F Q q fr) (hw : ∀ (i : Nat) (t : mT), fr[i]? = some t → tWF 300 t) (hmk : ∀ (i : Nat) (t : mT), fr[i]? = some t → ∀ m, tIn t m = true → m < mk) {x y : Int32} {R : Int32 → tpH → Prop}
    (x1 : gSame fr x y = none → ∀ G, G Q 31 = 1 → oFr Q q F G → R 0 (wI h G)) (kk : ∀ v, gSame fr x y = some v → ∀ G, G Q 31 = 0 → oFr Q q F G → R v (wI h G)) : w_Md_areSame Q x y (wI h F) R := by
  unfold gSame at x1 kk
  have h40 := hF.2.1
  have no : gSame fr x y = none → w_Md_areSame_22 R Q x y 0 (some Q) (wI h F) := fun g =>
    ⟨Q, rfl, M.1, p_Md_asks M F (fun g => absurd g (by decide)) (fun _ => ⟨1, M.1, fun _ => ⟨Or.inl rfl, x1 g _ (tpu_s _ _ _ _) (oFr_t F 1)⟩, fun _ => ⟨fun _ => ⟨Or.inl rfl, x1 g _ (tpu_s _ _ _ _) (oFr_t F 1)⟩, fun e => absurd rfl e⟩⟩) (Or.inl rfl)⟩
  refine ⟨M.1, ?_⟩
  rw [e_Md_isTree M hF.2.1 hF.1]
  cases e : lstAt fr x with
  | none =>
    rw [if_neg (lst_none e)]
    exact ⟨fun _ => no (by unfold gSame; rw [e]; rfl), fun g => absurd rfl g⟩
  | some t =>
    obtain ⟨c1, c2, c3⟩ := lst_some e
    rw [if_pos c1]
    refine ⟨fun g => absurd g (by decide), fun _ => ⟨M.1, ?_⟩⟩
    rw [e_Md_isTree M hF.2.1 hF.1]
    cases e2 : lstAt fr y with
    | none =>
      rw [if_neg (lst_none e2)]
      exact ⟨fun _ => no (by unfold gSame; rw [e, e2]; rfl), fun g => absurd rfl g⟩
    | some u =>
      obtain ⟨d1, d2, d3⟩ := lst_some e2
      rw [if_pos d1]
      rw [e, e2] at kk
      have kv := kk _ rfl _ (tpu_s _ _ _ _) (oFr_t F 0)
      have hP := MtP_t hQ (hF.2.2 _ t c2) (oFr_t F 0)
      have hP' := MtP_t hQ (hF.2.2 _ u d2) (oFr_t F 0)
      have hwt := hw _ t c2
      have hwu := hw _ u d2
      have iff : (∀ m, m < mk → smM (tpu F Q 31 0) q x.toInt.toNat y.toInt.toNat t u m) ↔ sameC t u := by
        rw [← sm_iff hP hP' hwt hwu]
        constructor
        · intro g m h3
          by_cases c : m < mk
          · exact g m c
          · have f1 : tIn t m = false := by
              cases e1 : tIn t m with
              | false => rfl
              | true => exact absurd (hmk _ t c2 m e1) c
            have f2 : tIn u m = false := by
              cases e1 : tIn u m with
              | false => rfl
              | true => exact absurd (hmk _ u d2 m e1) c
            exact ⟨by rw [f1, f2], fun e => by rw [f1] at e; simp at e⟩
        · exact fun g m h3 => g m (by omega)
      refine ⟨fun g => absurd g (by decide), fun _ => ⟨Q, rfl, M.1, p_Md_asks M F (fun _ => ⟨mk + 1, ?_⟩) (fun g => absurd g (by decide)) (Or.inr rfl)⟩⟩
      rw [c3, d3]
      refine p_mSame M (by omega) (by omega) (by rw [tpu_j _ _ _ _ _ _ (by decide)]; exact hm) hk hP hP' hwt hwu (hmk _ t c2) (hmk _ u d2) (fun g => ?_) (fun g => ?_) (mk + 1) 0 (by omega) (by omega) (fun m hm' => by omega)
      · rw [if_pos (sameB_iff.mpr (iff.mp g))] at kv
        exact kv
      · rw [if_neg (fun e => g (iff.mpr (sameB_iff.mp e)))] at kv
        exact kv
theorem lw_tailB {Q O : Nat} {v8 v17 : Int32} {h : tpH} {K R0 : tpH → Prop} (T : hT h Q = 14) (hc : hI h Q 31 = v8) (hO : hT h O = 17 ∧ hL h O = 1) (hv : v8 = 0 → hJ h O 0 = if v17 = 0 then 0 else 1) (k : K h) : hT h Q = 14 ∧ (w_Md_thrown Q h (fun v20 h19 => (v20 = v8 → ((¬ v8 = 0 → (K h19)) ∧ (v8 = 0 → (∃ a23, some O = some a23 ∧ hT h19 a23 = 17 ∧ (vp_in (0 : Int32) (hL h19 a23) ∧ ((v17 = 0 → (((lg_cmp (hJ h19 a23 (0 : Int32).toNatClampNeg) (0 : Int64)) = 0 → (K h19)) ∧ (¬ (lg_cmp (hJ h19 a23 (0 : Int32).toNatClampNeg) (0 : Int64)) = 0 → (R0 h19)))) ∧ (¬ v17 = 0 → (((lg_cmp (hJ h19 a23 (0 : Int32).toNatClampNeg) (1 : Int64)) = 0 → (K h19)) ∧ (¬ (lg_cmp (hJ h19 a23 (0 : Int32).toNatClampNeg) (1 : Int64)) = 0 → (R0 h19)))))))))) ∧ (¬ v20 = v8 → (R0 h19)))) := by
  refine ⟨T, T, fun _ => ⟨fun _ => k, fun e => ⟨O, rfl, hO.1, by rw [hO.2]; exact vp_in_nI (n := 0) (by decide) (by decide), fun e2 => ⟨fun _ => k, fun g => ?_⟩, fun e2 => ⟨fun _ => k, fun g => ?_⟩⟩⟩, fun g => absurd hc g⟩
  · refine absurd ?_ g
    have e3 : hJ h O (0 : Int32).toNatClampNeg = 0 := by have := hv e; rw [if_pos e2] at this; exact this
    rw [e3]
    decide
  · refine absurd ?_ g
    have e3 : hJ h O (0 : Int32).toNatClampNeg = 1 := by have := hv e; rw [if_neg e2] at this; exact this
    rw [e3]
    decide
theorem lw_putB {O : Nat} {h : tpH} {v : Int32} {R : tpH → Prop} (hO : hT h O = 17 ∧ hL h O = 1) (k : R (sJ h O 0 (if v = 0 then 0 else 1))) : (v = 0 → ∃ a7, some O = some a7 ∧ hT h a7 = 17 ∧ (vp_in (0 : Int32) (hL h a7) ∧ (∀ h11, h11 = sJ h a7 (0 : Int32).toNatClampNeg (0 : Int64) → (R h11)))) ∧ (¬ v = 0 → ∃ a7, some O = some a7 ∧ hT h a7 = 17 ∧ (vp_in (0 : Int32) (hL h a7) ∧ (∀ h11, h11 = sJ h a7 (0 : Int32).toNatClampNeg (1 : Int64) → (R h11)))) := by
  have v0 : vp_in (0 : Int32) (hL h O) := by rw [hO.2]; exact vp_in_nI (n := 0) (by decide) (by decide)
  refine ⟨fun e => ⟨O, rfl, hO.1, v0, fun h11 e2 => ?_⟩, fun e => ⟨O, rfl, hO.1, v0, fun h11 e2 => ?_⟩⟩
  · rw [if_pos e] at k; rw [e2]; exact k
  · rw [if_neg e] at k; rw [e2]; exact k

theorem lw_areSame {b L z : Nat} {xs : Nat → Int32} (hL0 : L ≤ 3072) : lwOK (lwI b L z xs) b z (z + 102) (z + 149) (z + 150) L w_Lw_law_1609 := by
  intro R K k h I h6 kk
  obtain ⟨hb, hC, mk, kd, idn, rt, dr, r, n, hm, hP, hM, hB⟩ := I
  have vp : ∀ j, j < 6 → ∀ h', lwC b L z xs h' → vp_in (nI (6 * k) + nI j) (hL h' b) := fun j hj h' hC => lw_vp hL0 hC.2.2.2.1 h6 hj
  have hz := hB.2.1
  have hwf := mIn_wf hm
  obtain ⟨hdw, hdm⟩ := mIn_dw hm
  refine ⟨b, rfl, hC.2.2.1, vp 1 (by decide) h hC, vp 2 (by decide) h hC, z, rfl, hP.1.1, ?_⟩
  rw [hC.2.2.2.2]
  generalize e1 : xs (nI (6 * k) + 1).toNatClampNeg = A1
  generalize e2 : xs (nI (6 * k) + 2).toNatClampNeg = A2
  refine p_TP_areSame hP.1 hP.2.2.2.2.1 hwf (fun e => ⟨rfl, ?_⟩) (fun v e hv => lw_putB hC.1 ?_)
  · have H := lw_exc (k := k) hb hC hm hP hM hB
    obtain ⟨-, hC7, hM7, -⟩ := id H
    refine ⟨hC7.2.2.1, vp 1 (by decide) _ hC7, vp 2 (by decide) _ hC7, z + 102, rfl, hM7.1.1, ?_⟩
    rw [hC7.2.2.2.2, e1, e2]
    exact p_Md_areSame hM7.1 (by omega) hM7.2.1.1 hm.1 hM7.2.2.2.1 hwf (mIn_mm hm) (fun _ G k1 k2 => lw_tailB hM7.1.1 k1 hC7.1 (fun e => absurd e (by decide)) (kk _ (lw_fin H (fun c j hc => k2 c j (by omega)) (stM_31 hM7 (by omega) hwf k2)))) (fun v' e' => absurd (e.symm.trans e') (by simp))
  · have H := lw_sJ (lw_same (k := k) hb hC hm hP hM hB) (z + 149) 0 (if v = 0 then 0 else 1)
    obtain ⟨-, hC7, hM7, -⟩ := id H
    refine ⟨hC7.2.2.1, vp 1 (by decide) _ hC7, vp 2 (by decide) _ hC7, z + 102, rfl, hM7.1.1, ?_⟩
    rw [hC7.2.2.2.2, e1, e2]
    exact p_Md_areSame hM7.1 (by omega) hM7.2.1.1 hm.1 hM7.2.2.2.1 hwf (mIn_mm hm) (fun e' => absurd (e.symm.trans e') (by simp)) (fun v' e' G k1 k2 => lw_tailB hM7.1.1 k1 hC7.1 (fun _ => by rw [← Option.some.inj (e.symm.trans e')]; exact tpu_s _ _ _ _) (kk _ (lw_fin H (fun c j hc => k2 c j (by omega)) (stM_31 hM7 (by omega) hwf k2))))

end CASE8
