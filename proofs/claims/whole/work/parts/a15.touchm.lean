section TOUCHM
theorem p_Md_hasSame {h : tpH} {Q q mk : Nat} (M : lMd h Q q) {F : Nat → Nat → Int32} (hm : F Q 0 = nI mk) (hk : mk ≤ 300) {fr : List mT} (hF : FoM F Q q fr) (hw : ∀ (i : Nat) (t : mT), fr[i]? = some t → tWF 300 t) (hmk : ∀ (i : Nat) (t : mT), fr[i]? = some t → ∀ m, tIn t m = true → m < mk) {vs : List mV} (hV : VsM F Q q vs) (hT : vsT fr vs) {i m : Nat} {t : mT} (ht : vT fr vs i = some t) (hi : tIn t m = true) {o : Option Nat} (ho : ∀ j, o = some j → j < vs.length) {R : Int32 → tpH → Prop} (k : R (if pwO fr vs m i o = true then 1 else 0) (wI h F)) : w_Md_hasSame Q (nI i) (nO o) (nI m) (wI h F) R := by
  obtain ⟨a1, a2, a3⟩ := md_f M (j := 20) (kd := 15) (n := 30) (f := 27) (by decide)
  have h3 := hT.1
  have h40 := hF.2.1
  have trv : ∀ j u, vT fr vs j = some u → j < vs.length ∧ ∃ s, s < 40 ∧ F (q + 20) j = nI s ∧ fr[s]? = some u := fun j u hu => by
    unfold vT at hu
    cases e : vs[j]? with
    | none => rw [e] at hu; simp at hu
    | some e0 =>
      rw [e] at hu
      have hu : fr[e0.1]? = some u := hu
      have := (List.getElem?_eq_some_iff.mp hu).1
      exact ⟨(List.getElem?_eq_some_iff.mp e).1, e0.1, by omega, (hV.2 j e0 e).1, hu⟩
  obtain ⟨hil, s, s1, s2, s3⟩ := trv i t ht
  have hwt := hw s t s3
  have m3 := hwt.1.1 m hi
  cases o with
  | none => exact ⟨fun e => absurd rfl e, fun _ => k⟩
  | some j =>
    have hj := ho j rfl
    have hju : ∃ u, vT fr vs j = some u := by
      have e := List.getElem?_eq_getElem hj
      have hl := hT.2.2 j _ e
      exact ⟨_, by unfold vT; rw [e]; exact List.getElem?_eq_getElem hl⟩
    obtain ⟨u, hu⟩ := hju
    obtain ⟨_, s', s1', s2', s3'⟩ := trv j u hu
    have hwu := hw s' u s3'
    have ev : pwO fr vs m i (some j) = hsB u t m := by
      show (match vT fr vs j with
        | none => false
        | some u => match vT fr vs i with
          | none => false
          | some t => hsB u t m) = _
      rw [hu, ht]
    rw [ev] at k
    refine ⟨fun _ => ⟨M.1, q + 20, a3, a1, by rw [wI_L, a2]; exact vp_in_nI (by omega) (by decide), by rw [wI_L, a2]; exact vp_in_nI (n := j) (by omega) (by decide), ?_⟩, fun e => absurd e (nI_ne_m (by omega))⟩
    have e1 : hI (wI h F) (q + 20) (nO (some j)).toNatClampNeg = nI s' := by
      rw [wI_I]
      show F (q + 20) (nI j).toNatClampNeg = _
      rw [nI_clamp (by omega), s2']
    have e2 : hI (wI h F) (q + 20) (nI i).toNatClampNeg = nI s := by
      rw [wI_I, nI_clamp (by omega), s2]
    rw [e1, e2]
    have H := hF.2.2 s t s3
    have H' := hF.2.2 s' u s3'
    refine p_Md_has M (by omega) hk hm (inn := tIn u) (fun m hm' => mt_in H' hwu m (by omega)) (hmk s' u s3') (fun m' em hm3 hi' => ?_) (fun g => ?_)
    · have e3 : m = m' := nI_inj (by omega) (by omega) em
      subst e3
      refine ⟨fun e => absurd e (by decide), fun _ => ⟨M.1, ?_⟩⟩
      rw [e_Md_valueIn M (by omega) m3, (H.1 m hi).1]
      refine ⟨M.1, ?_⟩
      rw [e_Md_valueIn M (by omega) m3, (H'.1 m hi').1]
      have no : ¬ hsB u t m = true → R 0 (wI h F) := fun g => by rw [if_neg g] at k; exact k
      refine ⟨fun e => no (fun g => e (hsB_iff.mp g).2.2.1.symm), fun ew => ⟨M.1, ?_⟩⟩
      rw [e_Md_parentIn M (by omega) m3, mt_up H hwt hi]
      refine ⟨M.1, ?_⟩
      rw [e_Md_parentIn M (by omega) m3, mt_up H' hwu hi']
      refine ⟨fun e => no (fun g => e (by rw [(hsB_iff.mp g).2.2.2])), fun eu => ?_⟩
      rw [if_pos (hsB_iff.mpr ⟨hi', hi, ew.symm, (nO_inj (up3 hwt hi) (up3 hwu hi') eu).symm⟩)] at k
      exact k
    · have g := g m m3 rfl
      rw [if_neg (fun e => by rw [(hsB_iff.mp e).1] at g; simp at g)] at k
      exact ⟨fun _ => k, fun e => absurd rfl e⟩
theorem p_tchM {h : tpH} {Q q mk : Nat} (M : lMd h Q q) {F : Nat → Nat → Int32} (hm : F Q 0 = nI mk) (hk : mk ≤ 300) {fr : List mT} (hF : FoM F Q q fr) (hw : ∀ (i : Nat) (t : mT), fr[i]? = some t → tWF 300 t) (hmk : ∀ (i : Nat) (t : mT), fr[i]? = some t → ∀ m, tIn t m = true → m < mk) {vs : List mV} (hV : VsM F Q q vs) (hT : vsT fr vs) {m : Nat} {R : Int32 → tpH → Prop} :
    ∀ (n i : Nat) (t : mT), i + 1 < n → vT fr vs i = some t → tIn t m = true → R (nI (tch fr vs m i i)) (wI h F) → w_Md_touched_51 R n Q (nI m) (nI i) 1 (wI h F)
  | 0, i, t, h1, h2, h3, k => by omega
  | n + 1, i, t, h1, ht, hi, k => by
    obtain ⟨b1, b2, b3⟩ := md_f M (j := 21) (kd := 15) (n := 30) (f := 28) (by decide)
    obtain ⟨c1, c2, c3⟩ := md_f M (j := 22) (kd := 15) (n := 30) (f := 29) (by decide)
    have h30 := hT.1
    obtain ⟨e0, he⟩ : ∃ e0, vs[i]? = some e0 := by
      unfold vT at ht
      cases e : vs[i]? with
      | none => rw [e] at ht; simp at ht
      | some e0 => exact ⟨e0, rfl⟩
    have hil := (List.getElem?_eq_some_iff.mp he).1
    have g := hT.2.1 i e0 he
    obtain ⟨v1, v2, v3, _⟩ := hV.2 i e0 he
    have ev1 : hI (wI h F) (q + 21) (nI i).toNatClampNeg = nO e0.2.1 := by rw [wI_I, nI_clamp (by omega), v2]
    have ev2 : hI (wI h F) (q + 22) (nI i).toNatClampNeg = nO e0.2.2 := by rw [wI_I, nI_clamp (by omega), v3]
    have vp : ∀ a, hL h a = 30 → vp_in (nI i) (hL (wI h F) a) := fun a ha => by rw [wI_L, ha]; exact vp_in_nI (by omega) (by decide)
    have ep : pwS fr vs m i = if pwO fr vs m i e0.2.1 = true then e0.2.1 else if pwO fr vs m i e0.2.2 = true then e0.2.2 else none := by
      unfold pwS; rw [he]
    have go : ∀ j, pwS fr vs m i = some j → w_Md_touched_51 R n Q (nI m) (nI j) 1 (wI h F) := fun j hj => by
      have hlt := pwS_lt hT.2.1 hj
      obtain ⟨u, hu, hiu⟩ := pwS_in hj
      refine p_tchM M hm hk hF hw hmk hV hT n j u (by omega) hu hiu ?_
      obtain ⟨d, rfl⟩ : ∃ d, i = d + 1 := ⟨i - 1, by omega⟩
      have k : R (nI (match pwS fr vs m (d + 1) with
        | none => d + 1
        | some j => tch fr vs m d j)) (wI h F) := k
      rw [hj] at k
      rw [tch_st hT.2.1 j d j (Nat.le_refl _) (by omega)]
      exact k
    have halt : pwS fr vs m i = none → w_Md_touched_51 R n Q (nI m) (nI i) 0 (wI h F) := fun hj => by
      obtain ⟨n', rfl⟩ : ∃ n', n = n' + 1 := ⟨n - 1, by omega⟩
      refine ⟨fun _ => ?_, fun e => absurd rfl e⟩
      cases i with
      | zero => exact k
      | succ d =>
        have k : R (nI (match pwS fr vs m (d + 1) with
          | none => d + 1
          | some j => tch fr vs m d j)) (wI h F) := k
        rw [hj] at k
        exact k
    refine ⟨fun e => absurd e (by decide), fun _ => ⟨M.1, q + 21, b3, b1, vp _ b2, ?_⟩⟩
    rw [ev1]
    refine p_Md_hasSame M hm hk hF hw hmk hV hT ht hi (fun j hj => by have := g.1 j hj; omega) ?_
    by_cases p1 : pwO fr vs m i e0.2.1 = true
    · rw [if_pos p1]
      refine ⟨fun _ => ⟨fun e => absurd e (by decide), fun _ => ⟨M.1, q + 21, b3, b1, vp _ b2, ?_⟩⟩, fun e => absurd e (by decide)⟩
      rw [ev1]
      rw [if_pos p1] at ep
      cases e1 : e0.2.1 with
      | none => rw [e1] at p1; exact Bool.noConfusion p1
      | some j => exact go j (by rw [ep, e1])
    · rw [if_neg p1]
      refine ⟨fun e => absurd rfl e, fun _ => ⟨M.1, q + 22, c3, c1, vp _ c2, ?_⟩⟩
      rw [ev2]
      rw [if_neg p1] at ep
      refine p_Md_hasSame M hm hk hF hw hmk hV hT ht hi (fun j hj => by have := g.2 j hj; omega) ?_
      by_cases p2 : pwO fr vs m i e0.2.2 = true
      · rw [if_pos p2]
        refine ⟨fun e => absurd e (by decide), fun _ => ⟨fun _ => ⟨fun e => absurd e (by decide), fun _ => ⟨M.1, q + 22, c3, c1, vp _ c2, ?_⟩⟩, fun e => absurd rfl e⟩⟩
        rw [ev2]
        rw [if_pos p2] at ep
        cases e1 : e0.2.2 with
        | none => rw [e1] at p2; exact Bool.noConfusion p2
        | some j => exact go j (by rw [ep, e1])
      · rw [if_neg p2]
        rw [if_neg p2] at ep
        exact ⟨fun _ => ⟨fun _ => ⟨fun _ => halt ep, fun e => absurd rfl e⟩, fun e => absurd rfl e⟩, fun e => absurd rfl e⟩
theorem p_Md_touched {h : tpH} {Q q mk : Nat} (M : lMd h Q q) (hQ : Q < q) {F : Nat → Nat → Int32} (hm : F Q 0 = nI mk) (hk : mk ≤ 300) {fr : List mT} (hF : FoM F Q q fr) (hw : ∀ (i : Nat) (t : mT), fr[i]? = some t → tWF 300 t) (hmk : ∀ (i : Nat) (t : mT), fr[i]? = some t → ∀ m, tIn t m = true → m < mk) {vs : List mV} (hV : VsM F Q q vs) (hT : vsT fr vs) {x y : Int32} {R : Int32 → tpH → Prop}
    (x1 : gTouch fr vs mk x y = none → ∀ G, G Q 31 = 1 → oFr Q q F G → R 0 (wI h G)) (kk : ∀ v, gTouch fr vs mk x y = some v → ∀ G, G Q 31 = 0 → oFr Q q F G → R v (wI h G)) : w_Md_touched Q x y (wI h F) R := by
  obtain ⟨a1, a2, a3⟩ := md_f M (j := 20) (kd := 15) (n := 30) (f := 27) (by decide)
  have h3 := hT.1
  have h40 := hF.2.1
  have no : gTouch fr vs mk x y = none → w_Md_touched_22 R Q x y 0 (some Q) (wI h F) := fun g =>
    ⟨Q, rfl, M.1, p_Md_asks M F (fun g => absurd g (by decide)) (fun _ => ⟨fun g => absurd rfl g, fun _ => x1 g _ (tpu_s _ _ _ _) (oFr_t F 1)⟩) (Or.inl rfl)⟩
  refine ⟨M.1, ?_⟩
  rw [e_Md_isVersion M (by omega) hV.1]
  cases e : lstAt vs x with
  | none =>
    rw [if_neg (lst_none e)]
    exact ⟨fun _ => no (by unfold gTouch; rw [e]; rfl), fun g => absurd rfl g⟩
  | some e0 =>
    obtain ⟨c1, c2, c3⟩ := lst_some e
    have cl := lst_cl e
    rw [if_pos c1]
    refine ⟨fun g => absurd g (by decide), fun _ => ⟨M.1, ?_⟩⟩
    rw [e_Md_isMark M hk hm]
    by_cases gy : 0 ≤ y.toInt ∧ y.toInt < mk
    · rw [if_pos gy]
      refine ⟨fun g => absurd g (by decide), fun _ => ⟨Q, rfl, M.1, p_Md_asks M F (fun _ => ⟨fun _ => ⟨M.1, q + 20, a3, a1, ?_, ?_⟩, fun g => absurd g (by decide)⟩) (fun g => absurd g (by decide)) (Or.inr rfl)⟩⟩
      · rw [wI_L, a2, c3]; exact vp_in_nI (by omega) (by decide)
      · have fr1 := oFr_t (Q := Q) (q := q) F 0
        have hF1 : FoM (tpu F Q 31 0) Q q fr := FoM_fr hF hw (tpu_j _ _ _ _ _ _ (by decide)) (fun j _ => tpu_a _ _ _ _ _ _ (by omega)) (fun b b1 b2 j _ => tpu_a _ _ _ _ _ _ (by omega))
        have hV1 : VsM (tpu F Q 31 0) Q q vs := VsM_fr hV (tpu_j _ _ _ _ _ _ (by decide)) (fun b b1 b2 i _ => tpu_a _ _ _ _ _ _ (by omega))
        have hm1 : tpu F Q 31 0 Q 0 = nI mk := by rw [tpu_j _ _ _ _ _ _ (by decide)]; exact hm
        have kv := kk _ (by unfold gTouch; rw [e]; exact if_pos gy) _ (tpu_s F Q 31 0) fr1
        have ey : y = nI y.toInt.toNat := Int32.toInt_inj.mp (by rw [nI_toInt (by omega)]; omega)
        have hmm : y.toInt.toNat < mk := by omega
        generalize y.toInt.toNat = m at ey kv hmm
        have es : hI (wI h (tpu F Q 31 0)) (q + 20) x.toNatClampNeg = nI e0.1 := by rw [wI_I, cl, (hV1.2 _ e0 c2).1]
        rw [es, ey]
        have hl := hT.2.2 _ e0 c2
        have ht := List.getElem?_eq_getElem hl
        generalize fr[e0.1] = t at ht
        rw [ht] at kv
        have kv : R (if tIn t m = true then nI (tch fr vs m 30 x.toInt.toNat) else -1) (wI h (tpu F Q 31 0)) := kv
        have hwt := hw _ t ht
        have hvT : vT fr vs x.toInt.toNat = some t := by unfold vT; rw [c2]; exact ht
        refine p_Md_has M (by omega) hk hm1 (inn := tIn t) (fun m hm' => mt_in (hF1.2.2 _ t ht) hwt m (by omega)) (hmk _ t ht) (fun m' em hm3 hi => ?_) (fun g => ?_)
        · have e3 : m = m' := nI_inj (by omega) (by omega) em
          subst e3
          rw [if_pos hi] at kv
          refine ⟨fun _ => ⟨x.toInt.toNat + 2, ?_⟩, fun e => absurd e (by decide)⟩
          rw [c3] at kv ⊢
          rw [nI_toInt (by omega)] at kv ⊢
          refine p_tchM M hm1 hk hF1 hw hmk hV1 hT _ _ t (by omega) hvT hi ?_
          rw [tch_st hT.2.1 _ 30 _ (Nat.le_refl _) (by omega)]
          exact kv
        · have g := g m (by omega) rfl
          rw [if_neg (by rw [g]; decide)] at kv
          exact ⟨fun e => absurd rfl e, fun _ => kv⟩
    · rw [if_neg gy]
      exact ⟨fun _ => no (by unfold gTouch; rw [e]; exact if_neg gy), fun g => absurd rfl g⟩
theorem mIn_vt {mk : Nat} {kd : Nat → Int32} {rt : Nat → Bool} {dr : Option mT} {r : mRe} (H : mIn mk kd rt dr r) : vsT r.1 r.2.2.2.2.2 := ⟨H.2.2.2.2.2.2.1, fun i e hi => (H.2.2.2.2.2.2.2 i e hi).2, fun i e hi => (H.2.2.2.2.2.2.2 i e hi).1⟩

theorem lw_touched {b L z : Nat} {xs : Nat → Int32} (hL0 : L ≤ 3072) : lwOK (lwI b L z xs) b z (z + 102) (z + 149) (z + 150) L w_Lw_law_2360 := by
  intro R K k h I h6 kk
  obtain ⟨hb, hC, mk, kd, idn, rt, dr, r, n, hm, hP, hM, hB⟩ := I
  have vp : ∀ j, j < 6 → ∀ h', lwC b L z xs h' → vp_in (nI (6 * k) + nI j) (hL h' b) := fun j hj h' hC => lw_vp hL0 hC.2.2.2.1 h6 hj
  have hz := hB.2.1
  have hwf := mIn_wf hm
  obtain ⟨hdw, hdm⟩ := mIn_dw hm
  refine ⟨b, rfl, hC.2.2.1, vp 1 (by decide) h hC, vp 2 (by decide) h hC, z, rfl, hP.1.1, ?_⟩
  rw [hC.2.2.2.2]
  generalize e1 : xs (nI (6 * k) + 1).toNatClampNeg = A1
  generalize e2 : xs (nI (6 * k) + 2).toNatClampNeg = A2
  refine p_TP_touched hP.1 hP.2.1.1 hm.1 hP.2.2.2.2.1 hwf hP.2.2.2.2.2.2.2.2.2.2.1 (mIn_vt hm) (fun e => ⟨rfl, ?_⟩) (fun v e => lw_put hC.1 ?_)
  · have H := lw_exc (k := k) hb hC hm hP hM hB
    obtain ⟨-, hC7, hM7, -⟩ := id H
    refine ⟨hC7.2.2.1, vp 1 (by decide) _ hC7, vp 2 (by decide) _ hC7, z + 102, rfl, hM7.1.1, ?_⟩
    rw [hC7.2.2.2.2, e1, e2]
    exact p_Md_touched hM7.1 (by omega) hM7.2.1.1 hm.1 hM7.2.2.2.1 hwf (mIn_mm hm) hM7.2.2.2.2.2.2.2.2 (mIn_vt hm) (fun _ G k1 k2 => lw_xt H hwf (by decide) k1 k2 kk) (fun v' e' => absurd (e.symm.trans e') (by simp))
  · have H := lw_sJ (lw_same (k := k) hb hC hm hP hM hB) (z + 149) 0 v.toInt64
    obtain ⟨-, hC7, hM7, -⟩ := id H
    refine ⟨hC7.2.2.1, vp 1 (by decide) _ hC7, vp 2 (by decide) _ hC7, z + 102, rfl, hM7.1.1, ?_⟩
    rw [hC7.2.2.2.2, e1, e2]
    exact p_Md_touched hM7.1 (by omega) hM7.2.1.1 hm.1 hM7.2.2.2.1 hwf (mIn_mm hm) hM7.2.2.2.2.2.2.2.2 (mIn_vt hm) (fun e' => absurd (e.symm.trans e') (by simp)) (fun v' e' G k1 k2 => lw_tail hM7.1.1 k1 hC7.1 (fun _ => by rw [← Option.some.inj (e.symm.trans e')]; exact tpu_s _ _ _ _) (kk _ (lw_fin H (fun c j hc => k2 c j (by omega)) (stM_31 hM7 (by omega) hwf k2))))

end TOUCHM
