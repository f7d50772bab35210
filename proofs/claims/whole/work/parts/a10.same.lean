section SAME
/-! what a sealed tree answers -/
theorem tr_pl {F : Nat → Nat → Int32} {a mk : Nat} {t : mT} (H : TrP F a t mk) (hk : mk ≤ 300) (hm : ∀ m, tIn t m = true → m < mk) {m : Nat} (h3 : m < 300) : rAt (F (a + 18)) mk (nI m) = if tIn t m = true then nI (pl t m) else -1 := by
  by_cases g : m < mk
  · rw [rAt_n g (by omega), H.2.2 m g]
  · rw [rAt_o (by omega) (by omega), if_neg (fun e => g (hm m e))]
theorem tr_wo {F : Nat → Nat → Int32} {a mk : Nat} {t : mT} (H : TrP F a t mk) (hw : tWF 300 t) {m : Nat} (hi : tIn t m = true) : rAt (F (a + 4)) (pO t).length (nI (pl t m)) = tWo t m := by
  have := pO_le hw
  rw [rAt_n (pl_lt hw hi) (by omega), (H.2.1 m hi).2.1]
theorem tr_um {F : Nat → Nat → Int32} {a mk : Nat} {t : mT} (H : TrP F a t mk) (hw : tWF 300 t) {m : Nat} (hi : tIn t m = true) : rAt (F (a + 2)) (pO t).length (rAt (F (a + 6)) (pO t).length (nI (pl t m))) = nO (tUp t m) := by
  have := pO_le hw
  rw [rAt_n (pl_lt hw hi) (by omega), (H.2.1 m hi).2.2.1]
  cases hu : tUp t m with
  | none => exact rAt_m
  | some u =>
    have hui := hw.1.2.2.2.2 m u hi hu
    show rAt _ _ (nI (pl t u)) = _
    rw [rAt_n (pl_lt hw hui) (by omega), (H.2.1 u hui).1]; rfl
theorem up3 {t : mT} (hw : tWF 300 t) {m : Nat} (hi : tIn t m = true) : ∀ u, tUp t m = some u → u < 2 ^ 31 := fun u hu => by
  have := hw.1.1 u (hw.1.2.2.2.2 m u hi hu)
  omega
def hsB (t u : mT) (m : Nat) : Bool := tIn t m && tIn u m && decide (tWo t m = tWo u m) && decide (tUp t m = tUp u m)
theorem hsB_iff {t u : mT} {m : Nat} : hsB t u m = true ↔ tIn t m = true ∧ tIn u m = true ∧ tWo t m = tWo u m ∧ tUp t m = tUp u m := by
  unfold hsB
  simp [Bool.and_eq_true, and_assoc]
theorem e_Tr_hasSame {h : tpH} {a n mk b n' mk' : Nat} (l : lTr h a n mk) (hn : n ≤ 300) (hk : mk ≤ 300) (l' : lTr h b n' mk') (hn' : n' ≤ 300) (hk' : mk' ≤ 300) (F : Nat → Nat → Int32) (i : Int32) (R : Int32 → tpH → Prop) : w_Tr_hasSame a (some b) i (wI h F) R =
    R (if rAt (F (a + 18)) mk i = -1 then 0 else if rAt (F (b + 18)) mk' i = -1 then 0 else if rAt (F (a + 4)) n (rAt (F (a + 18)) mk i) = rAt (F (b + 4)) n' (rAt (F (b + 18)) mk' i) then (if rAt (F (a + 2)) n (rAt (F (a + 6)) n (rAt (F (a + 18)) mk i)) = rAt (F (b + 2)) n' (rAt (F (b + 6)) n' (rAt (F (b + 18)) mk' i)) then 1 else 0) else 0) (wI h F) := by
  obtain ⟨l0, ⟨a1, b1⟩, ⟨a2, b2⟩, ⟨a3, b3⟩, -, -, -, -, -, ⟨a9, b9⟩⟩ := l
  obtain ⟨m0, ⟨c1, d1⟩, ⟨c2, d2⟩, ⟨c3, d3⟩, -, -, -, -, -, ⟨c9, d9⟩⟩ := l'
  unfold w_Tr_hasSame
  simp only [wI_T, wI_R, wI_I, l0, a1, b1.1, a2, b2.1, a3, b3.1, a9, b9.1, m0, c1, d1.1, c2, d2.1, c3, d3.1, c9, d9.1, Option.some.injEq, exists_eq_left', true_and, e_at b1 (show n < 2 ^ 31 by omega), e_at b2 (show n < 2 ^ 31 by omega), e_at b3 (show n < 2 ^ 31 by omega), e_at b9 (show mk < 2 ^ 31 by omega), e_at d1 (show n' < 2 ^ 31 by omega), e_at d2 (show n' < 2 ^ 31 by omega), e_at d3 (show n' < 2 ^ 31 by omega), e_at d9 (show mk' < 2 ^ 31 by omega)]
  by_cases q1 : rAt (F (a + 18)) mk i = -1 <;> by_cases q2 : rAt (F (b + 18)) mk' i = -1 <;> by_cases q3 : rAt (F (a + 4)) n (rAt (F (a + 18)) mk i) = rAt (F (b + 4)) n' (rAt (F (b + 18)) mk' i) <;> by_cases q4 : rAt (F (a + 2)) n (rAt (F (a + 6)) n (rAt (F (a + 18)) mk i)) = rAt (F (b + 2)) n' (rAt (F (b + 6)) n' (rAt (F (b + 18)) mk' i)) <;> simp_all
theorem p_Tr_hasSame {h : tpH} {a mk b mk' : Nat} {t u : mT} (l : lTr h a (pO t).length mk) (hk : mk ≤ 300) (l' : lTr h b (pO u).length mk') (hk' : mk' ≤ 300) {F : Nat → Nat → Int32} (H : TrP F a t mk) (H' : TrP F b u mk') (hw : tWF 300 t) (hw' : tWF 300 u) (hm : ∀ m, tIn t m = true → m < mk) (hm' : ∀ m, tIn u m = true → m < mk') {m : Nat} (h3 : m < 300) (R : Int32 → tpH → Prop) : w_Tr_hasSame a (some b) (nI m) (wI h F) R = R (if hsB t u m = true then 1 else 0) (wI h F) := by
  rw [e_Tr_hasSame l (pO_le hw) hk l' (pO_le hw') hk', tr_pl H hk hm h3, tr_pl H' hk' hm' h3]
  congr 1
  by_cases c1 : tIn t m = true
  · have n1 := pl_lt hw c1
    have n3 := pO_le hw
    rw [if_pos c1, if_neg (nI_ne_m (by omega))]
    by_cases c2 : tIn u m = true
    · have n2 := pl_lt hw' c2
      have n4 := pO_le hw'
      rw [if_pos c2, if_neg (nI_ne_m (by omega)), tr_wo H hw c1, tr_wo H' hw' c2, tr_um H hw c1, tr_um H' hw' c2]
      by_cases c3 : tWo t m = tWo u m
      · rw [if_pos c3]
        by_cases c4 : tUp t m = tUp u m
        · rw [if_pos (by rw [c4]), if_pos (hsB_iff.mpr ⟨c1, c2, c3, c4⟩)]
        · rw [if_neg (fun e => c4 (nO_inj (up3 hw c1) (up3 hw' c2) e)), if_neg (fun e => c4 (hsB_iff.mp e).2.2.2)]
      · rw [if_neg c3, if_neg (fun e => c3 (hsB_iff.mp e).2.2.1)]
    · rw [if_neg c2, if_pos rfl, if_neg (fun e => c2 (hsB_iff.mp e).2.1)]
  · rw [if_neg c1, if_pos rfl, if_neg (fun e => c1 (hsB_iff.mp e).1)]
/-! one tree against another, place by place -/
def sameC (t u : mT) : Prop := pO t = pO u ∧ ∀ m ∈ pO t, hsB t u m = true
theorem p_same15 {h : tpH} {a mk b mk' : Nat} {t u : mT} (l : lTr h a (pO t).length mk) (hk : mk ≤ 300) (l' : lTr h b (pO u).length mk') (hk' : mk' ≤ 300) (H : TrP (hI h) a t mk) (H' : TrP (hI h) b u mk') (hw : tWF 300 t) (hw' : tWF 300 u) (hm : ∀ m, tIn t m = true → m < mk) (hm' : ∀ m, tIn u m = true → m < mk') {R : Int32 → tpH → Prop} (k1 : sameC t u → R 1 h) (k0 : ¬ sameC t u → R 0 h) :
    ∀ (n : Nat) (A L L' : List Nat), pO t = A ++ L → pO u = A ++ L' → L.length = L'.length → L.length < n → (∀ m ∈ A, hsB t u m = true) → w_Tr_isSameAs_15 R n a (some b) (nI A.length) h
  | 0, A, L, L', e1, e2, e3, e4, e5 => by omega
  | n + 1, A, [], L', e1, e2, e3, e4, e5 => by
    have : L' = [] := List.length_eq_zero_iff.mp e3.symm
    subst this
    rw [List.append_nil] at e1 e2
    have h3 := pO_le hw
    refine ⟨l.1, fun _ => k1 ⟨by rw [e1, e2], fun m hm => e5 m (by rw [← e1]; exact hm)⟩, fun e => absurd ?_ e⟩
    rw [H.1, e1]
    exact Int32.le_refl _
  | n + 1, A, m :: L, [], e1, e2, e3, e4, e5 => by simp at e3
  | n + 1, A, m :: L, m' :: L', e1, e2, e3, e4, e5 => by
    have h3 := pO_le hw
    have h3' := pO_le hw'
    have hl : A.length < (pO t).length := by rw [e1, List.length_append, List.length_cons]; omega
    have hl' : A.length < (pO u).length := by rw [e2, List.length_append, List.length_cons]; omega
    have hz : (pO t)[A.length]? = some m := by rw [e1]; simp
    have hz' : (pO u)[A.length]? = some m' := by rw [e2]; simp
    obtain ⟨g1, _, _, _, hin⟩ := TrP_mark H hw hz
    obtain ⟨g1', _, _, _, hin'⟩ := TrP_mark H' hw' hz'
    have m3 := hw.1.1 m hin
    have m3' := hw'.1.1 m' hin'
    refine ⟨l.1, fun e => ?_, fun _ => ?_⟩
    · rw [H.1] at e
      exact absurd ((nI_le_iff (by omega) (by omega)).mp e) (by omega)
    · show w_Tr_markOf a (nI A.length) (wI h (hI h)) _
      rw [e_Tr_markOf l h3 hk, rAt_n hl (by omega), g1]
      refine ⟨b, rfl, l'.1, ?_⟩
      rw [e_Tr_markOf l' h3' hk', rAt_n hl' (by omega), g1']
      refine ⟨fun e => k0 (fun c => e ?_), fun e => ⟨l.1, ?_⟩⟩
      · have := c.1
        rw [e1, e2] at this
        have := List.append_cancel_left this
        simp only [List.cons.injEq] at this
        rw [this.1]
      · have em : m = m' := nI_inj (by omega) (by omega) e
        subst em
        rw [e_Tr_markOf l h3 hk, rAt_n hl (by omega), g1]
        refine ⟨l.1, ?_⟩
        rw [p_Tr_hasSame l hk l' hk' H H' hw hw' hm hm' m3]
        by_cases c : hsB t u m = true
        · rw [if_pos c]
          refine ⟨fun _ => ?_, fun e => absurd e (by decide)⟩
          have ih := p_same15 l hk l' hk' H H' hw hw' hm hm' k1 k0 n (A ++ [m]) L L' (by rw [e1]; simp) (by rw [e2]; simp) (by simpa using e3) (by simp at e4; omega) (fun x hx => by
            rcases List.mem_append.mp hx with g | g
            · exact e5 x g
            · have : x = m := by simpa using g
              rw [this]; exact c)
          rw [List.length_append] at ih
          show w_Tr_isSameAs_15 R n a (some b) (nI A.length + 1) h
          rw [nI_1]
          exact ih
        · rw [if_neg c]
          exact ⟨fun e => absurd rfl e, fun _ => k0 (fun g => c (g.2 m (by rw [e1]; simp)))⟩
theorem p_Tr_isSameAs {h : tpH} {a mk b mk' : Nat} {t u : mT} (l : lTr h a (pO t).length mk) (hk : mk ≤ 300) (l' : lTr h b (pO u).length mk') (hk' : mk' ≤ 300) (H : TrP (hI h) a t mk) (H' : TrP (hI h) b u mk') (hw : tWF 300 t) (hw' : tWF 300 u) (hm : ∀ m, tIn t m = true → m < mk) (hm' : ∀ m, tIn u m = true → m < mk') {R : Int32 → tpH → Prop} (k1 : sameC t u → R 1 h) (k0 : ¬ sameC t u → R 0 h) : w_Tr_isSameAs a (some b) h R := by
  have h3 := pO_le hw
  have h3' := pO_le hw'
  refine ⟨l.1, b, rfl, l'.1, fun e => ⟨(pO t).length + 1, ?_⟩, fun e => k0 (fun g => e ?_)⟩
  · rw [H.1, H'.1] at e
    exact p_same15 l hk l' hk' H H' hw hw' hm hm' k1 k0 _ [] (pO t) (pO u) rfl rfl (nI_inj (by omega) (by omega) e) (by omega) (fun m hm => by simp at hm)
  · rw [H.1, H'.1, g.1]
/-! the same by marks, parents and neighbours -/
theorem seg_eq {f g : Nat → Int32} : ∀ {K K' : List Nat} {s : Int32}, (∀ x ∈ K, x < 300) → (∀ x ∈ K', x < 300) → (∀ x ∈ K, f x = g x) → seg f s K (-1) → seg g s K' (-1) → K = K'
  | [], [], _, _, _, _, _, _ => rfl
  | [], y :: K', s, _, h2, _, e, e' => by
    have h3 := h2 y List.mem_cons_self
    exact absurd (e'.1.symm.trans (show s = -1 from e)) (nI_ne_m (by omega))
  | x :: K, [], s, h1, _, _, e, e' => by
    have h3 := h1 x List.mem_cons_self
    exact absurd (e.1.symm.trans (show s = -1 from e')) (nI_ne_m (by omega))
  | x :: K, y :: K', s, h1, h2, h3, e, e' => by
    have hx := h1 x List.mem_cons_self
    have hy := h2 y List.mem_cons_self
    have exy : x = y := nI_inj (by omega) (by omega) (e.1.symm.trans e'.1)
    subst exy
    have e2 := e.2
    rw [h3 x List.mem_cons_self] at e2
    rw [seg_eq (fun z hz => h1 z (List.mem_cons_of_mem _ hz)) (fun z hz => h2 z (List.mem_cons_of_mem _ hz)) (fun z hz => h3 z (List.mem_cons_of_mem _ hz)) e2 e'.2]
theorem seg_same {f g : Nat → Int32} {K K' : List Nat} {s s' : Int32} (n1 : K.Nodup) (n2 : K'.Nodup) (hm : ∀ x, x ∈ K ↔ x ∈ K') (h1 : ∀ x ∈ K, x < 300) (h3 : ∀ x ∈ K, f x = g x) (e : seg f s K (-1)) (e' : seg g s' K' (-1)) : K = K' := by
  have h2 : ∀ x ∈ K', x < 300 := fun x hx => h1 x ((hm x).mpr hx)
  cases K with
  | nil =>
    cases K' with
    | nil => rfl
    | cons y r => exact absurd ((hm y).mpr List.mem_cons_self) (by simp)
  | cons x K =>
    have hx' := (hm x).mp List.mem_cons_self
    obtain ⟨A, B, eAB⟩ := List.append_of_mem hx'
    rcases list_snoc (A := A) with rfl | ⟨A0, z, rfl⟩
    · have e1 : s' = nI x := by rw [eAB] at e'; exact e'.1
      exact seg_eq h1 h2 h3 (by rw [← e.1] at e1; exact e) (by rw [e1, ← e.1] at e'; exact e')
    · exfalso
      rw [eAB, List.append_assoc] at e'
      obtain ⟨q, _, q2⟩ := seg_app.mp e'
      have gz : g z = nI x := q2.2.1
      have hz : z ∈ x :: K := (hm z).mpr (by rw [eAB]; simp)
      rw [← h3 z hz] at gz
      obtain ⟨C, D, eCD⟩ := List.append_of_mem hz
      rw [eCD] at e n1
      have := seg_mid e
      rw [gz] at this
      have hD : ∃ D', D = x :: D' := by
        cases D with
        | nil => exact absurd this (nI_ne_m (by have := h1 x List.mem_cons_self; omega))
        | cons d D' =>
          have hd : d < 300 := h1 d (by rw [eCD]; simp)
          have hx3 := h1 x List.mem_cons_self
          exact ⟨D', by rw [nI_inj (a := x) (b := d) (by omega) (by omega) this]⟩
      obtain ⟨D', rfl⟩ := hD
      cases C with
      | nil =>
        simp only [List.nil_append, List.cons.injEq] at eCD
        rw [← eCD.1] at n1
        exact (List.nodup_cons.mp n1).1 (by simp)
      | cons c C =>
        simp only [List.cons_append, List.cons.injEq] at eCD
        rw [← eCD.1] at n1
        exact (List.nodup_cons.mp n1).1 (by simp)
def smM (F : Nat → Nat → Int32) (q s s' : Nat) (t u : mT) (m : Nat) : Prop := tIn t m = tIn u m ∧ (tIn t m = true → tWo t m = tWo u m ∧ tUp t m = tUp u m ∧ F (q + 6) (300 * s + m) = F (q + 6) (300 * s' + m))
theorem sm_iff {F : Nat → Nat → Int32} {q s s' : Nat} {t u : mT} (H : MtP F q s t) (H' : MtP F q s' u) (hw : tWF 300 t) (hw' : tWF 300 u) : (∀ m, m < 300 → smM F q s s' t u m) ↔ sameC t u := by
  constructor
  · intro g
    have hin : ∀ m, tIn t m = tIn u m := fun m => by
      by_cases c : m < 300
      · exact (g m c).1
      · cases e1 : tIn t m with
        | true => exact absurd (hw.1.1 m e1) c
        | false => cases e2 : tIn u m with
          | true => exact absurd (hw'.1.1 m e2) c
          | false => rfl
    have hk : ∀ p, tIn t p = true → tKi u p = tKi t p := fun p hp => by
      refine (seg_same (hw.1.2.2.1 p) (hw'.1.2.2.1 p) (fun x => ?_) (fun x hx => hw.1.1 x (fKi_in hw.1 hx).1) (fun x hx => ?_) (H.1 p hp).2.2 (H'.1 p (by rw [← hin]; exact hp)).2.2).symm
      · rw [hw.1.2.1 x p, hw'.1.2.1 x p, ← hin]
        constructor
        · exact fun e => ⟨e.1, by rw [← ((g x (hw.1.1 x e.1)).2 e.1).2.1]; exact e.2⟩
        · exact fun e => ⟨e.1, by rw [((g x (hw.1.1 x e.1)).2 e.1).2.1]; exact e.2⟩
      · have hi := (fKi_in hw.1 hx).1
        exact ((g x (hw.1.1 x hi)).2 hi).2.2
    have hr : tRt t = tRt u := by
      refine (up_rt hw' (by rw [← hin]; exact hw.2.1)).mp ?_
      rw [← ((g _ (hw.1.1 _ hw.2.1)).2 hw.2.1).2.1]
      exact hw.2.2.1
    have hp : pO t = pO u := by
      show tPo t (tRt t) = tPo u (tRt u)
      rw [← hr]
      exact (tPo_congr hw.1.2.2.2.1 hw'.1.2.2.2.1 (tRt t) (fun x hx => hk x ((tPo_all hw).mp hx))).symm
    exact ⟨hp, fun m hm => by
      have hi := (pO_mem hw).mp hm
      have e := (g m (hw.1.1 m hi)).2 hi
      exact hsB_iff.mpr ⟨hi, by rw [← hin]; exact hi, e.1, e.2.1⟩⟩
  · intro g m h3
    have hin : ∀ m, tIn t m = true ↔ tIn u m = true := fun m => by rw [← pO_mem hw, ← pO_mem hw', g.1]
    refine ⟨?_, fun hi => ?_⟩
    · cases e1 : tIn t m with
      | true => rw [(hin m).mp e1]
      | false => cases e2 : tIn u m with
        | true => rw [(hin m).mpr e2] at e1; simp at e1
        | false => rfl
    · obtain ⟨s1, s2, s3, s4⟩ := hsB_iff.mp (g.2 m ((pO_mem hw).mpr hi))
      refine ⟨s3, s4, ?_⟩
      have hr : tRt t = tRt u := by
        have e1 := hsB_iff.mp (g.2 _ ((pO_mem hw).mpr hw.2.1))
        exact (up_rt hw' e1.2.1).mp (by rw [← e1.2.2.2]; exact hw.2.2.1)
      by_cases em : m = tRt t
      · rw [em, H.2.1.2, hr, H'.2.1.2]
      · obtain ⟨p, hp⟩ := Option.ne_none_iff_exists'.mp (hw.2.2.2 m hi em)
        have hpi := hw.1.2.2.2.2 m p hi hp
        have hk : tKi u p = tKi t p := by
          rw [← pO_ki hw hpi, ← pO_ki hw' ((hin p).mp hpi), ← g.1]
          refine List.filter_congr fun x hx => ?_
          rw [(hsB_iff.mp (g.2 x hx)).2.2.2]
        obtain ⟨A, B, e⟩ := List.append_of_mem ((hw.1.2.1 m p).mpr ⟨hi, hp⟩)
        have c1 := (H.1 p hpi).2.2
        have c2 := (H'.1 p ((hin p).mp hpi)).2.2
        rw [e] at c1
        rw [hk, e] at c2
        have d1 := seg_mid c1
        have d2 := seg_mid c2
        exact d1.trans d2.symm
end SAME
