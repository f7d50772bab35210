section CASE11
def apFr (Q q : Nat) (F G : Nat → Nat → Int32) : Prop := ∀ b j, ¬ ((b = Q ∧ j = 22) ∨ (q + 3 ≤ b ∧ b ≤ q + 6 ∧ 12300 ≤ j ∧ j < 12600)) → G b j = F b j
theorem p_map61 {h : tpH} {Q q mk i0 : Nat} {kd idn : Nat → Int32} {rt : Nat → Bool} (M : lMd h Q q) (hQ : Q < q) (hk : mk ≤ 300) (hi0 : i0 < 40) {s : List mSt} (hs : s.length ≤ 100) (hI1 : ∀ e ∈ s, stpI mk rt e) {R : Int32 → tpH → Prop} :
    ∀ (n : Nat) (A L : List mSt) (c : Nat) (t : mT) (F : Nat → Nat → Int32), s = A ++ L → L.length < n → F (q + 7) i0 = nI s.length → (∀ (j : Nat) (e : mSt), s[j]? = some e → StM F q (100 * i0 + j) e) → MtP F q 41 t → trI mk kd rt t → MaM F Q q mk kd idn → F Q 22 = nI c → (∀ G, MtP G q 41 (mPlL (loK kd) t L).1 → G Q 22 = nI (c + (mPlL (loK kd) t L).2) → apFr Q q F G → w_Md_sealed Q (41 : Int32) (wI h G) (fun v8 h7 => R v8 h7)) → w_Md_apply_61 R n Q (nI i0) (nI A.length) (wI h F)
  | 0, A, L, c, t, F, e1, e2, h7, hS, H, hI0, hM, h22, kk => by omega
  | n + 1, A, [], c, t, F, e1, e2, h7, hS, H, hI0, hM, h22, kk => by
    obtain ⟨o1, o2, o3⟩ := md_f M (j := 7) (kd := 15) (n := 41) (f := 11) (by decide)
    rw [List.append_nil] at e1
    refine ⟨M.1, q + 7, o3, o1, by rw [wI_L, o2]; exact vp_in_nI (by omega) (by decide), ?_⟩
    rw [nI_clamp (by omega), wI_I, h7, e1]
    exact ⟨fun _ => kk F H h22 (fun _ _ _ => rfl), fun g => absurd (Int32.le_refl _) g⟩
  | n + 1, A, e :: L, c, t, F, e1, e2, h7, hS, H, hI0, hM, h22, kk => by
    obtain ⟨o1, o2, o3⟩ := md_f M (j := 7) (kd := 15) (n := 41) (f := 11) (by decide)
    have hl : A.length < s.length := by rw [e1, List.length_append, List.length_cons]; omega
    have hz1 : s[A.length]? = some e := by rw [e1]; simp
    have hes := hI1 e (List.mem_of_getElem? hz1)
    refine ⟨M.1, q + 7, o3, o1, by rw [wI_L, o2]; exact vp_in_nI (by omega) (by decide), ?_⟩
    rw [nI_clamp (by omega), wI_I, h7]
    refine ⟨fun g => absurd ((nI_le_iff (by omega) (by omega)).mp g) (by omega), fun _ => ?_⟩
    rw [ix_100]
    refine p_Md_does M hQ hM hk (by omega) (hS _ e hz1) hes H hI0 (fun G k1 k2 => ⟨M.1, fun h12 e12 => ?_⟩)
    obtain ⟨i1, i2, i3⟩ := mPl_I hI0 hk hes
    rw [h22, nI_add, sI_wI, wI_wI, wI_I] at e12
    subst e12
    have fr : apFr Q q F (tpu G Q 22 (nI (c + (mPl (loK kd) t e).2))) := fun b j hb => by
      rw [tpu_o (by omega)]
      exact k2 b j (by omega)
    have ih := p_map61 M hQ hk hi0 hs hI1 (R := R) n (A ++ [e]) L (c + (mPl (loK kd) t e).2) (mPl (loK kd) t e).1 (tpu G Q 22 (nI (c + (mPl (loK kd) t e).2))) (by rw [e1]; simp) (by simp at e2; omega) (by rw [fr _ _ (by omega)]; exact h7) (fun j e' hj => StM_fr (hS j e' hj) (fun b b1 b2 => fr _ _ (by omega))) (MtP_fr k1 (fun b b1 b2 => tpu_fa _ _ _ _ _ (by omega))) i1 (MaM_fr hM (fr _ _ (by omega)) (fun b hb => funext fun j => fr _ _ (by omega))) (tpu_s _ _ _ _) (fun G' g1 g2 g3 => ?_)
    · rw [List.length_append] at ih
      show w_Md_apply_61 R n Q (nI i0) (nI A.length + 1) _
      rw [nI_1]
      exact ih
    · exact kk G' g1 (by rw [g2, Nat.add_assoc]; rfl) (fun b j hb => (g3 b j hb).trans (fr b j hb))
def seFr (Q q n : Nat) (F G : Nat → Nat → Int32) : Prop := ∀ b j, ¬ ((b = Q ∧ j = 3) ∨ (b = q + 2 ∧ j = n) ∨ (q + 3 ≤ b ∧ b ≤ q + 6 ∧ 300 * n ≤ j ∧ j < 300 * n + 300)) → G b j = F b j
theorem p_Md_sealed {h : tpH} {Q q s : Nat} (M : lMd h Q q) (hQ : Q < q) (hs : s = 40 ∨ s = 41) {F : Nat → Nat → Int32} {fr : List mT} (hF : FoM F Q q fr) (hwf : ∀ (i : Nat) (t : mT), fr[i]? = some t → tWF 300 t) {t : mT} (H : MtP F q s t) (hw : tWF 300 t) (hlt : fr.length < 40) {R : Int32 → tpH → Prop} (kk : ∀ G, FoM G Q q (fr ++ [t]) → seFr Q q fr.length F G → R (nI fr.length) (wI h G)) : w_Md_sealed Q (nI s) (wI h F) R := by
  refine ⟨M.1, ?_⟩
  rw [wI_I, hF.1]
  refine p_Md_copyTree M (by omega) (by omega) (by omega) ⟨M.1, fun h4 e4 => ?_⟩
  have hP := MtP_cp (s' := fr.length) hw H
  have fc := fun b j (hb : ¬ ((b = q + 2 ∧ j = fr.length) ∨ (q + 3 ≤ b ∧ b ≤ q + 6 ∧ 300 * fr.length ≤ j ∧ j < 300 * fr.length + 300))) => cp_fr F (q := q) (s := s) (s' := fr.length) hb (F (q + 2) s)
  generalize hG : tpu (uCp F q s fr.length 300) (q + 2) fr.length (F (q + 2) s) = G at hP fc e4
  have e3 : hI (wI h G) Q 3 = nI fr.length := by rw [wI_I, fc _ _ (by omega), hF.1]
  rw [e3, nI_1, sI_wI, wI_wI, wI_I] at e4
  subst e4
  have er : hI (wI h (tpu G Q 3 (nI (fr.length + 1)))) Q 3 - 1 = nI fr.length := by rw [wI_I, tpu_s]; exact nI_pred _
  rw [er]
  have ff : seFr Q q fr.length F (tpu G Q 3 (nI (fr.length + 1))) := fun b j hb => by
    rw [tpu_o (by omega)]
    exact fc b j (by omega)
  refine kk _ ⟨by rw [tpu_s, List.length_append]; rfl, by rw [List.length_append]; exact hlt, fun i u hi => ?_⟩ ff
  by_cases c : i < fr.length
  · rw [List.getElem?_append_left c] at hi
    exact MtP_k (hwf i u hi) (hF.2.2 i u hi) (ff _ _ (by omega)) (fun b b1 b2 j j1 j2 => ff _ _ (by omega))
  · rw [List.getElem?_append_right (by omega)] at hi
    have hi0 : i = fr.length := by
      have := (List.getElem?_eq_some_iff.mp hi).1
      simp at this
      omega
    subst hi0
    rw [Nat.sub_self] at hi
    simp only [List.getElem?_cons_zero, Option.some.injEq] at hi
    subst hi
    exact MtP_fr hP (fun b b1 b2 => tpu_fa _ _ _ _ _ (by omega))
def apF2 (Q q n : Nat) (F G : Nat → Nat → Int32) : Prop := ∀ b j, ¬ ((b = Q ∧ (j = 3 ∨ j = 22 ∨ j = 31)) ∨ (b = q + 2 ∧ (j = n ∨ j = 41)) ∨ (q + 3 ≤ b ∧ b ≤ q + 6 ∧ ((300 * n ≤ j ∧ j < 300 * n + 300) ∨ (12300 ≤ j ∧ j < 12600)))) → G b j = F b j
theorem p_Md_apply {h : tpH} {Q q mk : Nat} {kd idn : Nat → Int32} {rt : Nat → Bool} (M : lMd h Q q) (hQ : Q < q) {F : Nat → Nat → Int32} (hM : MaM F Q q mk kd idn) (hk : mk ≤ 300) {fr : List mT} (hF : FoM F Q q fr) (htr : ∀ t ∈ fr, trI mk kd rt t) {sc : List (List mSt)} (hS : ScM F Q q sc) (h40 : sc.length ≤ 40) (hsc : ∀ s ∈ sc, s.length ≤ 100 ∧ ∀ e ∈ s, stpI mk rt e) {y w : Int32} {R : Int32 → tpH → Prop}
    (x1 : (lstAt sc y = none ∨ lstAt fr w = none) → R 0 (wI h (tpu F Q 31 1))) (x2 : ∀ s t, lstAt sc y = some s → lstAt fr w = some t → fr.length = 40 → R 0 (wI h (tpu F Q 31 2)))
    (kk : ∀ s t, lstAt sc y = some s → lstAt fr w = some t → fr.length < 40 → ∀ G, FoM G Q q (fr ++ [(mPlL (loK kd) t s).1]) → G Q 22 = nI (mPlL (loK kd) t s).2 → G Q 31 = 0 → apF2 Q q fr.length F G → R (nI fr.length) (wI h G)) : w_Md_apply Q y w (wI h F) R := by
  have f40 := hF.2.1
  have hwf : ∀ (i : Nat) (t : mT), fr[i]? = some t → tWF 300 t := fun i t hi => (htr t (List.mem_of_getElem? hi)).1
  have stop : ∀ c : Int32, ¬ c ≤ 0 → R 0 (wI h (tpu F Q 31 c)) → w_Md_apply_35 R Q y w c (some Q) (wI h F) := fun c hc hr => by
    refine ⟨Q, rfl, M.1, fun h4 e4 => ?_⟩
    rw [sI_wI, wI_wI, wI_I] at e4
    subst e4
    exact ⟨M.1, fun e => absurd (show tpu F Q 31 c Q 31 ≤ 0 from e) (by rw [tpu_s]; exact hc), fun _ => hr⟩
  refine ⟨M.1, ?_⟩
  rw [e_Md_isScript M h40 hS.1]
  cases e : lstAt sc y with
  | none =>
    rw [if_neg (lst_none e)]
    exact ⟨fun _ => stop 1 (by decide) (x1 (Or.inl e)), fun g => absurd rfl g⟩
  | some s =>
    obtain ⟨c1, c2, c3⟩ := lst_some e
    have hs := hsc s (List.mem_of_getElem? c2)
    rw [if_pos c1]
    refine ⟨fun g => absurd g (by decide), fun _ => ⟨M.1, ?_⟩⟩
    rw [e_Md_isTree M hF.2.1 hF.1]
    cases e' : lstAt fr w with
    | none =>
      rw [if_neg (lst_none e')]
      exact ⟨fun g => absurd rfl g, fun _ => stop 1 (by decide) (x1 (Or.inr e'))⟩
    | some t =>
      obtain ⟨d1, d2, d3⟩ := lst_some e'
      have ht := htr t (List.mem_of_getElem? d2)
      rw [if_pos d1]
      have e40 : (40 : Int32) = nI 40 := rfl
      refine ⟨fun _ => ⟨M.1, fun g => ?_, fun g => ?_⟩, fun g => absurd g (by decide)⟩
      · rw [wI_I, hF.1, e40] at g
        have hlt : fr.length < 40 := Nat.lt_of_le_of_ne f40 (fun g2 => g (by rw [g2]))
        refine ⟨Q, rfl, M.1, fun h4 e4 => ?_⟩
        rw [sI_wI, wI_wI, wI_I] at e4
        subst e4
        refine ⟨M.1, fun _ => ?_, fun e => absurd (show tpu F Q 31 0 Q 31 ≤ 0 by rw [tpu_s]; decide) e⟩
        have hFt := FoM_fr (G := tpu F Q 31 0) hF hwf (tpu_o (by omega)) (fun j _ => tpu_o (by omega)) (fun b b1 b2 j _ => tpu_o (by omega))
        rw [d3]
        show w_Md_copyTree Q (nI w.toInt.toNat) (nI 41) (wI h (tpu F Q 31 0)) _
        refine p_Md_copyTree M (by omega) (by omega) (by omega) ⟨M.1, fun h10 e10 => ⟨s.length + 1, ?_⟩⟩
        have hP := MtP_cp (s' := 41) ht.1 (hFt.2.2 _ t d2)
        have fc := fun b j (hb : ¬ ((b = q + 2 ∧ j = 41) ∨ (q + 3 ≤ b ∧ b ≤ q + 6 ∧ 300 * 41 ≤ j ∧ j < 300 * 41 + 300))) => cp_fr (tpu F Q 31 0) (q := q) (s := w.toInt.toNat) (s' := 41) hb (tpu F Q 31 0 (q + 2) w.toInt.toNat)
        generalize hG : tpu (uCp (tpu F Q 31 0) q w.toInt.toNat 41 300) (q + 2) 41 (tpu F Q 31 0 (q + 2) w.toInt.toNat) = G at hP fc e10
        rw [sI_wI, wI_wI, wI_I] at e10
        subst e10
        have fG : ∀ b j, ¬ ((b = Q ∧ (j = 22 ∨ j = 31)) ∨ (b = q + 2 ∧ j = 41) ∨ (q + 3 ≤ b ∧ b ≤ q + 6 ∧ 12300 ≤ j ∧ j < 12600)) → tpu G Q 22 0 b j = F b j := fun b j hb => by
          rw [tpu_o (by omega), fc b j (by omega), tpu_o (by omega)]
        have key := p_map61 (kd := kd) (idn := idn) (rt := rt) (R := R) M hQ hk (i0 := y.toInt.toNat) (by omega) hs.1 hs.2 (s.length + 1) [] s 0 t (tpu G Q 22 0) rfl (by omega) (by rw [fG _ _ (by omega)]; exact (hS.2 _ s c2).1) (fun j e hj => StM_fr ((hS.2 _ s c2).2 j e hj) (fun b b1 b2 => fG _ _ (by omega))) (MtP_fr hP (fun b b1 b2 => tpu_fa _ _ _ _ _ (by omega))) ht (MaM_fr hM (fG _ _ (by omega)) (fun b hb => funext fun j => fG _ _ (by omega))) (tpu_s _ _ _ _) (fun G' k1 k2 k3 => ?_)
        · rw [← c3] at key
          exact key
        · rw [Nat.zero_add] at k2
          obtain ⟨i1, i2, i3⟩ := mPlL_I hk s t ht hs.2
          have f2 : ∀ b j, ¬ ((b = Q ∧ (j = 22 ∨ j = 31)) ∨ (b = q + 2 ∧ j = 41) ∨ (q + 3 ≤ b ∧ b ≤ q + 6 ∧ 12300 ≤ j ∧ j < 12600)) → G' b j = F b j := fun b j hb => (k3 b j (by omega)).trans (fG b j hb)
          show w_Md_sealed Q (nI 41) (wI h G') _
          refine p_Md_sealed M hQ (Or.inr rfl) (FoM_fr hF hwf (f2 _ _ (by omega)) (fun j _ => f2 _ _ (by omega)) (fun b b1 b2 j _ => f2 _ _ (by omega))) hwf k1 i1.1 hlt (fun K q1 q2 => kk s t e e' hlt K q1 ?_ ?_ (fun b j hb => ?_))
          · rw [q2 _ _ (by omega)]; exact k2
          · rw [q2 _ _ (by omega), k3 _ _ (by omega), tpu_o (by omega), fc _ _ (by omega), tpu_s]
          · rw [q2 _ _ (by omega)]
            exact f2 b j (by omega)
      · rw [wI_I, hF.1, e40] at g
        exact stop 2 (by decide) (x2 s t e e' (nI_inj (b := 40) (by omega) (by decide) g))
theorem stP_fz {h : tpH} {x p D mk n : Nat} {kd idn : Nat → Int32} {dr : Option mT} {r : mRe} (H : stP h x p D mk kd idn dr r n) (hxp : x < p) (hpD : p + 101 ≤ D) (hDz : D ≤ hZ h) {G : Nat → Nat → Int32} (fr : ∀ b j, ¬ ((p + 20 ≤ b ∧ b < p + 35) ∨ (b = x ∧ j = 10)) → G b j = hI h b j) : stP (wI h G) x p D mk kd idn dr (r.1, r.2.1, G x 10, r.2.2.2) n ∧ hFr h (wI h G) (fun b j => (p + 20 ≤ b ∧ b < p + 35) ∨ (b = x ∧ j = 10)) no2 := by
  have f : hFr h (wI h G) (fun b j => (p + 20 ≤ b ∧ b < p + 35) ∨ (b = x ∧ j = 10)) no2 := hFr_w h _ fr
  obtain ⟨q1, q2, q3, q4, q5, q6⟩ := reP_parts H.2.2.2.2 hxp hpD hDz f (fun c j g => by unfold fSc; omega) (fun c j g => g.elim)
  have eI : ∀ c, p ≤ c → (c < p + 20 ∨ p + 35 ≤ c) → hI (wI h G) c = hI h c := fun c h1 h2 => funext fun j => fr c j (by omega)
  exact ⟨⟨H.1, MaP_k H.2.1 (fun c c1 c2 => eI c (by omega) (by omega)), DrP_k H.2.2.1 (fun c c1 c2 => eI c (by omega) (by omega)), fun j hj => by rw [eI (p + 68) (by omega) (by omega)]; exact H.2.2.2.1 j hj, q1, q2, q3, rfl, fun j hj => by rw [eI _ (by omega) (by omega)]; exact H.2.2.2.2.2.2.2.2.1 j hj, q4, q5, q6⟩, f⟩
theorem mIn_fz {mk : Nat} {kd : Nat → Int32} {rt : Nat → Bool} {dr : Option mT} {r : mRe} (H : mIn mk kd rt dr r) (v : Int32) : mIn mk kd rt dr (r.1, r.2.1, v, r.2.2.2) := H

theorem lw_apply {b L z : Nat} {xs : Nat → Int32} (hL0 : L ≤ 3072) : lwOK (lwI b L z xs) b z (z + 102) (z + 149) (z + 150) L w_Lw_law_816 := by
  intro R K k h I h6 kk
  obtain ⟨hb, hC, mk, kd, idn, rt, dr, r, n, hm, hP, hM, hB⟩ := I
  have vp : ∀ j, j < 6 → ∀ h', lwC b L z xs h' → vp_in (nI (6 * k) + nI j) (hL h' b) := fun j hj h' hC => lw_vp hL0 hC.2.2.2.1 h6 hj
  have hz := hB.2.1
  have hwf := mIn_wf hm
  obtain ⟨hdw, hdm⟩ := mIn_dw hm
  refine ⟨b, rfl, hC.2.2.1, vp 1 (by decide) h hC, vp 2 (by decide) h hC, z, rfl, hP.1.1, ?_⟩
  rw [hC.2.2.2.2]
  generalize e1 : xs (nI (6 * k) + 1).toNatClampNeg = A1
  generalize e2 : xs (nI (6 * k) + 2).toNatClampNeg = A2
  refine p_TP_apply hP.1 (by omega) (D := z + 151) (by omega) hz hP.2.2.2.2.1 hP.2.2.2.2.2.2.1 hP.2.1 hm.1 hm.2.2.1 hm.2.2.2.1 (fun e => Or.inl ⟨rfl, ?_⟩) (fun s t e e' e40 => Or.inr ⟨rfl, ?_⟩) (fun s t e e' hlt G gf g10 h' z1 u1 f1 r1 F1 => ?_)
  · have H := lw_exc (k := k) hb hC hm hP hM hB
    obtain ⟨-, hC7, hM7, -⟩ := id H
    refine ⟨hC7.2.2.1, vp 1 (by decide) _ hC7, vp 2 (by decide) _ hC7, z + 102, rfl, hM7.1.1, ?_⟩
    rw [hC7.2.2.2.2, e1, e2]
    exact p_Md_apply hM7.1 (by omega) hM7.2.1 hm.1 hM7.2.2.2.1 hm.2.2.1 hM7.2.2.2.2.1 hP.2.2.2.2.2.2.1.2.1 hm.2.2.2.1 (fun _ => lw_xt H hwf (by decide) (tpu_s _ _ _ _) (lw_x1 1) kk) (fun s t g g' => by
      rcases e with e | e
      · rw [e] at g; simp at g
      · rw [e] at g'; simp at g') (fun s t g g' => by
      rcases e with e | e
      · rw [e] at g; simp at g
      · rw [e] at g'; simp at g')
  · have H := lw_exc (k := k) hb hC hm hP hM hB
    obtain ⟨-, hC7, hM7, -⟩ := id H
    refine ⟨hC7.2.2.1, vp 1 (by decide) _ hC7, vp 2 (by decide) _ hC7, z + 102, rfl, hM7.1.1, ?_⟩
    rw [hC7.2.2.2.2, e1, e2]
    exact p_Md_apply hM7.1 (by omega) hM7.2.1 hm.1 hM7.2.2.2.1 hm.2.2.1 hM7.2.2.2.2.1 hP.2.2.2.2.2.2.1.2.1 hm.2.2.2.1 (fun g => by
      rcases g with g | g
      · rw [e] at g; simp at g
      · rw [e'] at g; simp at g) (fun _ _ _ _ _ => lw_xt H hwf (by decide) (tpu_s _ _ _ _) (lw_x1 2) kk) (fun _ _ _ _ g => absurd g (by omega))
  · obtain ⟨c1, c2, c3⟩ := lst_some e
    obtain ⟨d1, d2, d3⟩ := lst_some e'
    have hs := hm.2.2.2.1 s (List.mem_of_getElem? c2)
    have ht := hm.2.2.1 t (List.mem_of_getElem? d2)
    obtain ⟨i1, i2, i3⟩ := mPlL_I hm.1 s t ht hs.2
    obtain ⟨hP5, f5⟩ := stP_fz hP (by omega) (by omega) hz gf
    rw [g10] at hP5
    have hP7 := stP_keep hP5 (by omega) (by omega) hz f1 F1 r1 (Nat.le_refl _)
    have ff : hFr h h' (fun b j => ((z + 1 + 20 ≤ b ∧ b < z + 1 + 35) ∨ (b = z ∧ j = 10)) ∨ (b = z ∧ j = 4)) (fun b j => b = z + 1 + 35 ∧ j = r.1.length) := hFr_mono (hFr_tr f5 f1) (fun b j _ g => g) (fun b j _ g => g.elim (fun q => q.elim) id)
    refine lw_put (lwC_fr hC hb hz ff (fun j g => by omega)).1 ?_
    have H := lw_sJ (lw_cls (k := k) hb hC hm hM hB ff (fun c j g => by omega) (fun c j g => by omega) (mIn_keep (mIn_fz hm (nI (mPlL (loK kd) t s).2)) i1) hP7 ⟨Nat.le_refl _, hB.1⟩ (by omega) (by omega)) (z + 149) 0 (nI r.1.length).toInt64
    obtain ⟨-, hC7, hM7, -⟩ := id H
    refine ⟨hC7.2.2.1, vp 1 (by decide) _ hC7, vp 2 (by decide) _ hC7, z + 102, rfl, hM7.1.1, ?_⟩
    rw [hC7.2.2.2.2, e1, e2]
    refine p_Md_apply hM7.1 (by omega) hM7.2.1 hm.1 hM7.2.2.2.1 hm.2.2.1 hM7.2.2.2.2.1 hP.2.2.2.2.2.2.1.2.1 hm.2.2.2.1 (fun g => by
      rcases g with g | g
      · rw [e] at g; simp at g
      · rw [e'] at g; simp at g) (fun _ _ _ _ g => absurd g (by omega)) (fun s2 t2 g g' _ K k1 k2 k3 k4 => ?_)
    have es : s2 = s := by rw [e] at g; exact (Option.some.inj g).symm
    have et : t2 = t := by rw [e'] at g'; exact (Option.some.inj g').symm
    subst es
    subst et
    obtain ⟨m1, m2, m3, m4, m5, m6, m7, m8, m9⟩ := hM7
    have h40 := m4.2.1
    unfold apF2 at k4
    refine lw_tail m1.1 k3 hC7.1 (fun _ => tpu_s _ _ _ _) (kk _ (lw_fin H (fun c j hc => k4 c j (by omega)) ⟨m1, MaM_fr m2 (k4 _ _ (by omega)) (fun c hc => funext fun j => k4 _ _ (by omega)), ?_, k1, ScM_fr m5 (k4 _ _ (by omega)) (fun c c1 c2 => funext fun j => k4 _ _ (by omega)), k2, fun j hj => (k4 _ _ (by omega)).trans (m7 j hj), CfM_fr m8 (k4 _ _ (by omega)) (funext fun j => k4 _ _ (by omega)), VsM_fr m9 (k4 _ _ (by omega)) (fun c c1 c2 i _ => k4 _ _ (by omega))⟩))
    cases dr with
    | none => exact ⟨(k4 _ _ (by omega)).trans m3.1, fun m hm3 => (k4 _ _ (by omega)).trans (m3.2 m hm3)⟩
    | some u => exact ⟨(k4 _ _ (by omega)).trans m3.1, MtP_k (hdw u rfl) m3.2 (k4 _ _ (by omega)) (fun c c1 c2 j j1 j2 => k4 _ _ (by omega))⟩

end CASE11
