section MATCHD
noncomputable def gMv (kd idn : Nat → Int32) (fr : List mT) (A B C : Int32) : Int32 := match lstAt fr A, lstAt fr B with
  | some t, some u => nO ((MTd kd idn t u).1 C.toInt.toNat)
  | some _, none => 0
  | none, _ => 0
theorem gC_1 {kd idn : Nat → Int32} {fr : List mT} {A B : Int32} {f : mT → mT → Bool} {t u : mT} (h1 : lstAt fr A = some t) (h2 : lstAt fr B = some u) : gC kd idn fr A B f = if f t u = true then (if rkB kd idn t u = true then 0 else 2) else 1 := by
  unfold gC
  rw [h1, h2]
theorem gC_2 {kd idn : Nat → Int32} {fr : List mT} {A B : Int32} {f : mT → mT → Bool} (h1 : lstAt fr A = none) : gC kd idn fr A B f = 1 := by
  unfold gC
  rw [h1]
theorem gC_3 {kd idn : Nat → Int32} {fr : List mT} {A B : Int32} {f : mT → mT → Bool} (h2 : lstAt fr B = none) : gC kd idn fr A B f = 1 := by
  unfold gC
  rw [h2]
  cases lstAt fr A <;> rfl
theorem p_TP_match {h : tpH} {x p D mk n : Nat} {kd idn : Nat → Int32} {dr : Option mT} {r : mRe} {rt : Nat → Bool} (hP : stP h x p D mk kd idn dr r n) (hxp : x < p) (hpD : p + 101 ≤ D) (hDz : D ≤ hZ h) (hm : mIn mk kd rt dr r) {A B C : Int32} {X : String → tpH → Prop} {R : Int32 → tpH → Prop} (x1 : gC kd idn r.1 A B (fun t _ => nIn t C) = 1 → X "java/lang/IndexOutOfBoundsException" (nC h 0 0 6)) (x2 : gC kd idn r.1 A B (fun t _ => nIn t C) = 2 → X "java/lang/IllegalStateException" (nC h 0 0 6)) (kk : gC kd idn r.1 A B (fun t _ => nIn t C) = 0 → ∀ h', stP h' x p D mk kd idn dr r n → hFr h h' (seT p) (seU p) → hZ h' = hZ h → hU h' = hU h → R (gMv kd idn r.1 A B C) h') : w_TP_match x A B C h X R := by
  have hwf := mIn_wf hm
  have hmm := mIn_mm hm
  refine ⟨hP.1.1, p_tree hP.1 hP.2.2.2.2.1 (fun e => x1 (gC_2 e)) (fun i t a mk1 e hi hl ha b1 b2 b3 b4 b5 => ⟨hP.1.1, p_tree hP.1 hP.2.2.2.2.1 (fun e' => x1 (gC_3 e')) (fun j u b mk2 e' hj hl' hb d1 d2 d3 d4 d5 => ⟨hP.1.1, ?_⟩)⟩)⟩
  have hwt := hwf i t hi
  have hwu := hwf j u hj
  have l3 := pO_le hwt
  have l4 := pO_le hwu
  have ec := gC_1 (kd := kd) (idn := idn) (f := fun t _ => nIn t C) hl hl'
  have ev : gMv kd idn r.1 A B C = nO ((MTd kd idn t u).1 C.toInt.toNat) := by
    unfold gMv
    rw [hl, hl']
  rw [ec] at x1 x2 kk
  rw [ev] at kk
  refine p_held (o := x) b1 l3 b3 hwt b2 b4 (fun g1 => ⟨hP.1.1, ?_⟩) (fun g1 => x1 (if_neg (by show ¬ nIn t C = true; rw [g1]; exact Bool.false_ne_true)))
  rw [if_pos (show (fun (t : mT) (_ : mT) => nIn t C) t u = true from g1)] at x2 kk
  refine p_lkr (D := D) hP.1 hP.2.1 hm.1 b1 b3 d1 d3 hwt hwu b2 d2 (hmm i t hi) (hmm j u hj) (fun g2 => ⟨hP.1.1, ?_⟩) (fun g2 => x2 (if_neg (by rw [g2]; exact Bool.false_ne_true)))
  have kk := kk (if_pos g2)
  have v0 : hR h x 8 = some (p + 50) ∧ hT h (p + 50) = 6 := by
    obtain ⟨t0, m0, m1, c0, c1, c2, c3, c4, c5, c6, c7, l0, l1, v0, v1, _⟩ := id hP.1
    exact ⟨v0, v1.1⟩
  refine ⟨p + 50, v0.1, v0.2, p_setS hP hxp hpD hDz hm hi hj ha hb b1 b3 b5.1 b4 d1 d3 d5.1 d4 b2 d2 (fun h' P' f' z' u' X' C' M' => ⟨P'.1.1, a, rfl, X'.2.1.1.1, ?_⟩)⟩
  rcases nIn_c hwt (C := C) with ⟨m, em, m3, hmi, hb', em2⟩ | ⟨hb', _⟩
  · have p1 := pl_lt hwt hmi
    have b4m := b4 m hmi
    show w_Tr_placeOf a C (wI h' (hI h')) _
    rw [e_Tr_placeOf X'.2.1.1 l3 b3, em, rAt_n b4m (by omega), C'.2.1.2.2 m b4m, if_pos hmi]
    have v0' : hR h' x 8 = some (p + 50) ∧ hT h' (p + 50) = 6 := by
      obtain ⟨t0, m0, m1, c0, c1, c2, c3, c4, c5, c6, c7, l0, l1, v0, v1, _⟩ := id P'.1
      exact ⟨v0, v1.1⟩
    obtain ⟨t0, e0, e1, ⟨r1, r2⟩, _⟩ := id X'.1.2.2
    refine ⟨p + 50, v0'.1, v0'.2, t0, p + 50 + 1, r1, r2.1, p_at (rwL_w r2) (by decide) ?_⟩
    have eP : rAt (hI (wI h' (hI h')) (p + 50 + 2)) 300 (nI (pl t m)) = nO (((MTd kd idn t u).1 m).map (pl u)) := by
      rw [rAt_n (by omega) (by decide)]
      exact M'.1 m hmi
    rw [eP]
    refine ⟨b, rfl, X'.2.2.1.1.1, ?_⟩
    rw [e_Tr_markOf X'.2.2.1.1 l4 d3]
    have kv := kk h' P' f' z' u'
    rw [em2] at kv
    cases eo : (MTd kd idn t u).1 m with
    | none =>
      rw [eo] at kv
      show R (rAt _ _ (-1)) _
      rw [rAt_m]
      exact kv
    | some y =>
      rw [eo] at kv
      have hy := ((MTd_ok hwt hwu).2 m y eo).2
      show R (rAt _ _ (nI (pl u y))) _
      rw [rAt_n (pl_lt hwu hy) (by omega), (C'.2.2.2.1 y hy).1]
      exact kv
  · rw [g1] at hb'
    cases hb'
/-! the reference -/
def mt2 (Q q : Nat) (F G : Nat → Nat → Int32) : Prop := ∀ b j, ¬ ((b = Q ∧ (j = 31 ∨ j = 34 ∨ j = 35)) ∨ (q + 24 ≤ b ∧ b < q + 46)) → G b j = F b j
theorem p_Mms {h : tpH} {Q q mk : Nat} {kd idn : Nat → Int32} (M : lMd h Q q) (hQ : Q < q) {F : Nat → Nat → Int32} (hM : MaM F Q q mk kd idn) (hk : mk ≤ 300) {fr : List mT} (hF : FoM F Q q fr) (hw : ∀ (i : Nat) (t : mT), fr[i]? = some t → tWF 300 t) (hmk : ∀ (i : Nat) (t : mT), fr[i]? = some t → ∀ m, tIn t m = true → m < mk) {A B t0 : Int32} {f : mT → mT → Bool} (ht0 : t0 = 0 ∨ t0 = 1) (hf : ∀ t u, lstAt fr A = some t → lstAt fr B = some u → (f t u = true ↔ t0 = 1)) {R : Int32 → tpH → Prop} (x1 : gC kd idn fr A B f = 1 → ∀ G, G Q 31 = 1 → oFr Q q F G → R 0 (wI h G)) (x2 : gC kd idn fr A B f = 2 → ∀ G, G Q 31 = 2 → oFr Q q F G → R 0 (wI h G)) (kk : gC kd idn fr A B f = 0 → ∀ G t u s s', lstAt fr A = some t → lstAt fr B = some u → A = nI s → B = nI s' → G Q 31 = 0 → mt2 Q q F G → RX h Q q mk s s' t u → RF G Q q mk s s' t u kd idn → McM G q t u (MTd kd idn t u) → R 1 (wI h G)) : w_Md_matchesTrees Q A B t0 (wI h F) R := by
  have h40 := hF.2.1
  have no1 : gC kd idn fr A B f = 1 → w_Md_matchesTrees_51 R Q A B 1 (some Q) (wI h F) := fun g => by
    refine ⟨Q, rfl, M.1, fun h4 e4 => ?_⟩
    rw [sI_wI, wI_wI, wI_I] at e4
    subst e4
    have e31 : hI (wI h (tpu F Q 31 1)) Q 31 = 1 := tpu_s _ _ _ _
    refine ⟨M.1, ?_⟩
    rw [e31]
    refine ⟨fun _ => ⟨M.1, ?_⟩, fun q => absurd q (by decide)⟩
    rw [e31]
    exact ⟨fun _ => x1 g _ (tpu_s _ _ _ _) (oFr_t F 1), fun q => absurd q (by decide)⟩
  refine ⟨M.1, ?_⟩
  rw [e_Md_isTree M hF.2.1 hF.1]
  cases e : lstAt fr A with
  | none =>
    rw [if_neg (lst_none e)]
    exact ⟨fun _ => ⟨fun _ => no1 (gC_2 e), fun g => absurd rfl g⟩, fun g => absurd rfl g⟩
  | some t =>
    obtain ⟨c1, c2, c3⟩ := lst_some e
    rw [if_pos c1]
    refine ⟨fun g => absurd g (by decide), fun _ => ⟨M.1, ?_⟩⟩
    rw [e_Md_isTree M hF.2.1 hF.1]
    cases e2 : lstAt fr B with
    | none =>
      rw [if_neg (lst_none e2)]
      exact ⟨fun _ => ⟨fun _ => no1 (gC_3 e2), fun g => absurd rfl g⟩, fun g => absurd rfl g⟩
    | some u =>
      obtain ⟨d1, d2, d3⟩ := lst_some e2
      rw [if_pos d1]
      have ec := gC_1 (kd := kd) (idn := idn) (f := f) e e2
      have hft := hf t u e e2
      have hwt := hw _ t c2
      have hwu := hw _ u d2
      refine ⟨fun g => absurd g (by decide), fun _ => ⟨fun g => absurd g (by decide), fun _ => ⟨fun ht => ⟨M.1, ?_⟩, fun ht => no1 (by rw [ec]; exact if_neg (fun q => by rw [hft.mp q] at ht; exact absurd ht (by decide)))⟩⟩⟩
      have t1 : t0 = 1 := ht0.elim (fun q => absurd q ht) id
      rw [if_pos (hft.mpr t1)] at ec
      obtain ⟨b1, b2, b3⟩ := md_f M (j := 2) (kd := 15) (n := 42) (f := 5) (by decide)
      obtain ⟨k1, k2, k3⟩ := md_f M (j := 0) (kd := 15) (n := 300) (f := 1) (by decide)
      obtain ⟨i1, i2, i3⟩ := md_f M (j := 1) (kd := 15) (n := 300) (f := 2) (by decide)
      have r1 : hI (wI h F) (q + 2) A.toNatClampNeg = nI (tRt t) := by rw [c3, nI_clamp (by omega)]; exact (hF.2.2 _ t c2).2.2.2
      have r2 : hI (wI h F) (q + 2) B.toNatClampNeg = nI (tRt u) := by rw [d3, nI_clamp (by omega)]; exact (hF.2.2 _ u d2).2.2.2
      have t3 := hwt.1.1 _ hwt.2.1
      have u3 := hwu.1.1 _ hwu.2.1
      have vt : vp_in (nI (tRt t)) 300 := vp_in_nI t3 (by decide)
      have vu : vp_in (nI (tRt u)) 300 := vp_in_nI u3 (by decide)
      have et : ∀ b : Nat, hI (wI h F) b (nI (tRt t)).toNatClampNeg = F b (tRt t) := fun b => by rw [nI_clamp (by omega)]; rfl
      have eu : ∀ b : Nat, hI (wI h F) b (nI (tRt u)).toNatClampNeg = F b (tRt u) := fun b => by rw [nI_clamp (by omega)]; rfl
      have mt := hmk _ t c2 _ hwt.2.1
      have mu := hmk _ u d2 _ hwu.2.1
      have kt : F (q + 0) (tRt t) = kd (tRt t) := (hM.2 _ mt).1
      have ku : F (q + 0) (tRt u) = kd (tRt u) := (hM.2 _ mu).1
      have it : F (q + 1) (tRt t) = idn (tRt t) := (hM.2 _ mt).2
      have iu : F (q + 1) (tRt u) = idn (tRt u) := (hM.2 _ mu).2
      have eb : rkB kd idn t u = true ↔ (kd (tRt t) = kd (tRt u) ∧ idn (tRt t) = idn (tRt u)) := by
        unfold rkB
        rw [Bool.and_eq_true, decide_eq_true_iff, decide_eq_true_iff]
      have no2 : ¬ (kd (tRt t) = kd (tRt u) ∧ idn (tRt t) = idn (tRt u)) → w_Md_matchesTrees_51 R Q A B 2 (some Q) (wI h F) := fun g => by
        rw [if_neg (fun q => g (eb.mp q))] at ec
        refine ⟨Q, rfl, M.1, fun h4 e4 => ?_⟩
        rw [sI_wI, wI_wI, wI_I] at e4
        subst e4
        have e31 : hI (wI h (tpu F Q 31 2)) Q 31 = 2 := tpu_s _ _ _ _
        refine ⟨M.1, ?_⟩
        rw [e31]
        refine ⟨fun _ => ⟨M.1, ?_⟩, fun q => absurd q (by decide)⟩
        rw [e31]
        exact ⟨fun _ => x2 ec _ (tpu_s _ _ _ _) (oFr_t F 2), fun q => absurd q (by decide)⟩
      refine ⟨M.1, q + 2, b3, b1, by rw [wI_L, b2, c3]; exact vp_in_nI (by omega) (by decide), by rw [wI_L, b2, d3]; exact vp_in_nI (by omega) (by decide), ?_⟩
      rw [r1, r2]
      refine ⟨q + 0, k3, k1, by rw [wI_L, k2]; exact vt, by rw [wI_L, k2]; exact vu, ?_⟩
      rw [et, eu, kt, ku]
      refine ⟨fun g => ⟨Or.inl rfl, fun q => absurd rfl q, fun _ => no2 (fun q => g q.1)⟩, fun g1 => ⟨q + 1, i3, i1, by rw [wI_L, i2]; exact vt, by rw [wI_L, i2]; exact vu, ?_⟩⟩
      rw [et, eu, it, iu]
      refine ⟨fun g => ⟨Or.inl rfl, fun q => absurd rfl q, fun _ => no2 (fun q => g q.2)⟩, fun g2 => ⟨Or.inr rfl, fun _ => ?_, fun q => absurd q (by decide)⟩⟩
      rw [if_pos (eb.mpr ⟨g1, g2⟩)] at ec
      refine ⟨Q, rfl, M.1, fun h4 e4 => ?_⟩
      rw [sI_wI, wI_wI, wI_I] at e4
      subst e4
      have e31 : hI (wI h (tpu F Q 31 0)) Q 31 = 0 := tpu_s _ _ _ _
      refine ⟨M.1, ?_⟩
      rw [e31]
      refine ⟨fun q => absurd rfl q, fun _ => ?_⟩
      have X : RX h Q q mk A.toInt.toNat B.toInt.toNat t u := ⟨⟨M, hQ⟩, ⟨by omega, by omega⟩, hk, ⟨hwt, hwu⟩, hmk _ t c2, hmk _ u d2⟩
      have o31 : oFr Q q F (tpu F Q 31 0) := oFr_t F 0
      have fin := p_Mtr X ⟨g1, g2⟩ (MaM_fr hM (tpu_o (by omega)) (fun b hb => tpu_fa _ _ _ _ _ (by omega))) (MtP_t hQ (hF.2.2 _ t c2) o31) (MtP_t hQ (hF.2.2 _ u d2) o31) (R := fun h8 => w_Md_matchesTrees_67 R Q h8) (fun G f1 f2 f3 => by
        have eG : hI (wI h G) Q 31 = 0 := (f1 Q 31 (by omega)).trans (tpu_s _ _ _ _)
        refine ⟨M.1, ?_⟩
        rw [eG]
        exact ⟨fun q => absurd rfl q, fun _ => kk ec G t u _ _ e e2 c3 d3 eG (fun b j hb => by rw [f1 b j (by omega), tpu_o (by omega)]) X f2 f3⟩)
      rw [← c3, ← d3] at fin
      exact fin
theorem p_Md_match {h : tpH} {Q q mk : Nat} {kd idn : Nat → Int32} (M : lMd h Q q) (hQ : Q < q) {F : Nat → Nat → Int32} (hM : MaM F Q q mk kd idn) (hk : mk ≤ 300) {fr : List mT} (hF : FoM F Q q fr) (hw : ∀ (i : Nat) (t : mT), fr[i]? = some t → tWF 300 t) (hmk : ∀ (i : Nat) (t : mT), fr[i]? = some t → ∀ m, tIn t m = true → m < mk) {A B C : Int32} {R : Int32 → tpH → Prop} (x1 : gC kd idn fr A B (fun t _ => nIn t C) = 1 → ∀ G, G Q 31 = 1 → oFr Q q F G → R 0 (wI h G)) (x2 : gC kd idn fr A B (fun t _ => nIn t C) = 2 → ∀ G, G Q 31 = 2 → oFr Q q F G → R 0 (wI h G)) (kk : gC kd idn fr A B (fun t _ => nIn t C) = 0 → ∀ G, G Q 31 = 0 → mt2 Q q F G → R (gMv kd idn fr A B C) (wI h G)) : w_Md_match Q A B C (wI h F) R := by
  have h40 := hF.2.1
  have go : ∀ t0 : Int32, (t0 = 0 ∨ t0 = 1) → (∀ t u, lstAt fr A = some t → lstAt fr B = some u → (nIn t C = true ↔ t0 = 1)) → w_Md_match_25 R Q C t0 B A (some Q) (wI h F) := fun t0 ht0 hf => by
    refine ⟨Q, rfl, M.1, p_Mms M hQ hM hk hF hw hmk ht0 (f := fun t _ => nIn t C) hf (fun g G g1 g2 => ⟨fun _ => x1 g G g1 g2, fun q => absurd rfl q⟩) (fun g G g1 g2 => ⟨fun _ => x2 g G g1 g2, fun q => absurd rfl q⟩) (fun g G t u s s' e1 e2 eA eB g1 g2 X C' M' => ⟨fun q => absurd q (by decide), fun _ => ⟨M.1, ?_⟩⟩)⟩
    obtain ⟨a1, a2, a3⟩ := md_f M (j := 31) (kd := 15) (n := 300) (f := 41) (by decide)
    have ec := gC_1 (kd := kd) (idn := idn) (f := fun t _ => nIn t C) e1 e2
    rw [g] at ec
    have hb : nIn t C = true := Classical.byContradiction (fun q => by
      rw [if_neg (show ¬ (fun (t : mT) (_ : mT) => nIn t C) t u = true from q)] at ec
      omega)
    rcases nIn_c (hw _ t (lst_some e1).2.1) (C := C) with ⟨m, em, m3, hmi, _, em2⟩ | ⟨hb', _⟩
    · have kv := kk g G g1 g2
      have ev : gMv kd idn fr A B C = nO ((MTd kd idn t u).1 m) := by
        unfold gMv
        rw [e1, e2, em2]
      rw [ev] at kv
      refine ⟨q + 31, a3, a1, by rw [wI_L, a2, em]; exact vp_in_nI m3 (by decide), ?_⟩
      have ex : hI (wI h G) (q + 31) C.toNatClampNeg = nO ((MTd kd idn t u).1 m) := by
        rw [em, nI_clamp (by omega)]
        exact M'.1 m hmi
      rw [ex]
      exact kv
    · rw [hb] at hb'
      cases hb'
  refine ⟨M.1, ?_⟩
  rw [e_Md_isTree M hF.2.1 hF.1]
  cases e : lstAt fr A with
  | none =>
    rw [if_neg (lst_none e)]
    exact ⟨fun _ => go 0 (Or.inl rfl) (fun t u e1 _ => by rw [e] at e1; cases e1), fun g => absurd rfl g⟩
  | some t =>
    obtain ⟨c1, c2, c3⟩ := lst_some e
    rw [if_pos c1]
    have hwt := hw _ t c2
    refine ⟨fun g => absurd g (by decide), fun _ => ⟨M.1, ?_⟩⟩
    have hP := hF.2.2 _ t c2
    have hasL := p_Md_has (s := A.toInt.toNat) (x := C) M (by omega) hk (mk := mk) hM.1 (inn := tIn t) (fun m' hm' => mt_in hP hwt m' (by omega)) (hmk _ t c2) (R := fun v7 h6 => (v7 = 0 → (w_Md_match_25 R Q C 0 B A (some Q) h6)) ∧ (¬ v7 = 0 → (w_Md_match_25 R Q C 1 B A (some Q) h6))) (fun m' em hm3 hi => ⟨fun g => absurd g (by decide), fun _ => go 1 (Or.inr rfl) (fun t' u e1 _ => by
      rw [e] at e1
      rw [← Option.some.inj e1]
      refine ⟨fun _ => rfl, fun _ => ?_⟩
      rcases nIn_c hwt (C := C) with ⟨m, _, _, _, hb, _⟩ | ⟨_, hno⟩
      · exact hb
      · rw [hno m' (by omega) em] at hi
        cases hi)⟩) (fun g => ⟨fun _ => go 0 (Or.inl rfl) (fun t' u e1 _ => by
      rw [e] at e1
      rw [← Option.some.inj e1]
      refine ⟨fun hb => ?_, fun q => absurd q (by decide)⟩
      rcases nIn_c hwt (C := C) with ⟨m, em, m3, hi, _, _⟩ | ⟨hb', _⟩
      · rw [g m m3 em] at hi
        cases hi
      · rw [hb] at hb'
        cases hb'), fun q => absurd rfl q⟩)
    rw [← c3] at hasL
    exact hasL
/-! the law's call -/
theorem lw_match {b L z : Nat} {xs : Nat → Int32} (hL0 : L ≤ 3072) : lwOK (lwI b L z xs) b z (z + 102) (z + 149) (z + 150) L w_Lw_law_1684 := by
  intro R K k h I h6 kk
  obtain ⟨hb, hC, mk, kd, idn, rt, dr, r, n, hm, hP, hM, hB⟩ := I
  have vp : ∀ j, j < 6 → ∀ h', lwC b L z xs h' → vp_in (nI (6 * k) + nI j) (hL h' b) := fun j hj h' hC => lw_vp hL0 hC.2.2.2.1 h6 hj
  have hz := hB.2.1
  have hwf := mIn_wf hm
  refine ⟨b, rfl, hC.2.2.1, vp 1 (by decide) h hC, vp 2 (by decide) h hC, vp 3 (by decide) h hC, z, rfl, hP.1.1, ?_⟩
  rw [hC.2.2.2.2]
  generalize e1 : xs (nI (6 * k) + 1).toNatClampNeg = A1
  generalize e2 : xs (nI (6 * k) + 2).toNatClampNeg = A2
  generalize e3 : xs (nI (6 * k) + 3).toNatClampNeg = A3
  refine p_TP_match hP (by omega) (by omega) hz hm (fun e => Or.inl ⟨rfl, ?_⟩) (fun e => Or.inr ⟨rfl, ?_⟩) (fun e h' P' f zz uu => ?_)
  · have H := lw_exc (k := k) hb hC hm hP hM hB
    obtain ⟨-, hC7, hM7, -⟩ := id H
    refine ⟨hC7.2.2.1, vp 1 (by decide) _ hC7, vp 2 (by decide) _ hC7, vp 3 (by decide) _ hC7, z + 102, rfl, hM7.1.1, ?_⟩
    rw [hC7.2.2.2.2, e1, e2, e3]
    exact p_Md_match hM7.1 (by omega) hM7.2.1 hm.1 hM7.2.2.2.1 hwf (mIn_mm hm) (fun _ G k1 k2 => lw_xt H hwf (by decide) k1 k2 kk) (fun e' => absurd (e.symm.trans e') (by decide)) (fun e' => absurd (e.symm.trans e') (by decide))
  · have H := lw_exc (k := k) hb hC hm hP hM hB
    obtain ⟨-, hC7, hM7, -⟩ := id H
    refine ⟨hC7.2.2.1, vp 1 (by decide) _ hC7, vp 2 (by decide) _ hC7, vp 3 (by decide) _ hC7, z + 102, rfl, hM7.1.1, ?_⟩
    rw [hC7.2.2.2.2, e1, e2, e3]
    exact p_Md_match hM7.1 (by omega) hM7.2.1 hm.1 hM7.2.2.2.1 hwf (mIn_mm hm) (fun e' => absurd (e.symm.trans e') (by decide)) (fun _ G k1 k2 => lw_xt H hwf (by decide) k1 k2 kk) (fun e' => absurd (e.symm.trans e') (by decide))
  · have hC' := lwC_fr hC hb hz f (fun j g => by unfold seT at g; omega)
    refine lw_put hC'.1 ?_
    have H := lw_sJ (lw_cls (k := k) hb hC hm hM hB f (fun c j g => by unfold seT at g; omega) (fun c j g => by unfold seU at g; omega) hm P' ⟨Nat.le_refl _, hB.1⟩ (by omega) (by omega)) (z + 149) 0 (gMv kd idn r.1 A1 A2 A3).toInt64
    obtain ⟨-, hC7, hM7, -⟩ := id H
    refine ⟨hC7.2.2.1, vp 1 (by decide) _ hC7, vp 2 (by decide) _ hC7, vp 3 (by decide) _ hC7, z + 102, rfl, hM7.1.1, ?_⟩
    rw [hC7.2.2.2.2, e1, e2, e3]
    exact p_Md_match hM7.1 (by omega) hM7.2.1 hm.1 hM7.2.2.2.1 hwf (mIn_mm hm) (fun e' => absurd (e.symm.trans e') (by decide)) (fun e' => absurd (e.symm.trans e') (by decide)) (fun _ G k1 k2 => lw_tail hM7.1.1 k1 hC7.1 (fun _ => tpu_s _ _ _ _) (kk _ (lw_fin H (fun c j hc => k2 c j (by omega)) (stM_al hM7 (by omega) hwf k2))))
end MATCHD
