section MSEAL
/-- the reference's trees -/
def FoM (F : Nat → Nat → Int32) (Q q : Nat) (fr : List mT) : Prop := F Q 3 = nI fr.length ∧ fr.length ≤ 40 ∧ ∀ i t, fr[i]? = some t → MtP F q i t
theorem e_Md_isTree {h : tpH} {Q q n : Nat} (M : lMd h Q q) (hn : n ≤ 40) {F : Nat → Nat → Int32} (hm : F Q 3 = nI n) (x : Int32) (R : Int32 → tpH → Prop) : w_Md_isTree Q x (wI h F) R = R (if 0 ≤ x.toInt ∧ x.toInt < n then 1 else 0) (wI h F) := by
  have e0 : (0 : Int32).toInt = 0 := rfl
  have e1 : (nI n - 1).toInt = (n : Int) - 1 := pk_sub_toInt (a := n) (b := 1) (by omega) (by decide)
  unfold w_Md_isTree
  rw [wI_I, hm, e_Md_in, e0, e1]
  by_cases c : 0 ≤ x.toInt ∧ x.toInt < n
  · rw [if_pos (by omega), if_pos c]
    refine propext ⟨fun hw => hw.2.2, fun k => ⟨M.1, Or.inr rfl, k⟩⟩
  · rw [if_neg (by omega), if_neg c]
    refine propext ⟨fun hw => hw.2.2, fun k => ⟨M.1, Or.inl rfl, k⟩⟩
theorem cp_fr (F : Nat → Nat → Int32) {q s s' b j : Nat} (h : ¬ ((b = q + 2 ∧ j = s') ∨ (q + 3 ≤ b ∧ b ≤ q + 6 ∧ 300 * s' ≤ j ∧ j < 300 * s' + 300))) (v : Int32) : tpu (uCp F q s s' 300) (q + 2) s' v b j = F b j := by
  simp only [tpu, uCp]
  rw [if_neg (by omega), if_neg (by omega)]
theorem p_Md_copy {h : tpH} {Q q : Nat} (M : lMd h Q q) (hQ : Q < q) {F : Nat → Nat → Int32} {fr : List mT} (hF : FoM F Q q fr) (hw : ∀ (i : Nat) (t : mT), fr[i]? = some t → tWF 300 t) {x : Int32} {R : Int32 → tpH → Prop}
    (x1 : (∀ i, i < fr.length → x ≠ nI i) → R 0 (wI h (tpu F Q 31 1)))
    (kk : ∀ i t, x = nI i → fr[i]? = some t → ∀ G, DrM G Q q (some t) → G Q 31 = 0 → (∀ b j, ¬ ((b = Q ∧ (j = 4 ∨ j = 31)) ∨ (b = q + 2 ∧ j = 40) ∨ (q + 3 ≤ b ∧ b ≤ q + 6 ∧ 12000 ≤ j ∧ j < 12300) ∨ b = q + 24) → G b j = F b j) → R (nI (tCn t)) (wI h G)) : w_Md_copy Q x (wI h F) R := by
  obtain ⟨o1, o2, o3⟩ := md_f M (j := 24) (kd := 15) (n := 300) (f := 32) (by decide)
  obtain ⟨f1, f2, f3⟩ := hF
  refine ⟨M.1, ?_⟩
  rw [e_Md_isTree M f2 f1]
  rcases i_mark x fr.length (by omega) with ⟨i, e, hi⟩ | hno
  · subst e
    have e2 : (nI i).toInt = (i : Int) := nI_toInt (by omega)
    rw [e2, if_pos (by omega)]
    have ht : fr[i]? = some fr[i] := List.getElem?_eq_getElem hi
    have hwt := hw i _ ht
    refine ⟨fun e => absurd e (by decide), fun _ => ⟨Q, rfl, M.1, fun h4 e4 => ?_⟩⟩
    rw [sI_w] at e4
    subst e4
    refine ⟨M.1, fun _ => ?_, fun e => absurd (show tpu F Q 31 0 Q 31 ≤ 0 by rw [tpu_s]; exact Int32.le_refl 0) e⟩
    show w_Md_copyTree Q (nI i) (nI 40) (wI h (tpu F Q 31 0)) _
    refine p_Md_copyTree M (by omega) (by decide) (by omega) ⟨M.1, fun h10 e10 => ?_⟩
    rw [sI_w] at e10
    subst e10
    have hP1 : MtP (tpu F Q 31 0) q i fr[i] := MtP_fr (f3 i _ ht) (fun b b1 _ => tpu_ne (by omega))
    have hP2 := MtP_cp (s' := 40) hwt hP1
    have hP3 : MtP (tpu (tpu (uCp (tpu F Q 31 0) q i 40 300) (q + 2) 40 (tpu F Q 31 0 (q + 2) i)) Q 4 1) q 40 fr[i] := MtP_fr hP2 (fun b b1 _ => tpu_ne (by omega))
    rw [wI_R, o3]
    show w_Md_layOrder Q (nI 40) (some (q + 24)) (wI h _) _
    refine p_Md_layOrder M (by decide) hP3 hwt (Or.inr (by omega)) o1 o2 ?_
    rw [pO_len hwt]
    refine kk i _ rfl ht _ ⟨?_, MtP_fr hP3 (fun b b1 b2 => lay_ne _ _ (by omega))⟩ ?_ (fun b j hb => ?_)
    · rw [lay_ne _ _ (by omega), tpu_s]
    · rw [lay_ne _ _ (by omega), tpu_j _ _ _ _ _ _ (by decide), cp_fr _ (by omega), tpu_s]
    · rw [lay_ne _ _ (by omega)]
      have e5 : tpu (tpu (uCp (tpu F Q 31 0) q i 40 300) (q + 2) 40 (tpu F Q 31 0 (q + 2) i)) Q 4 1 b j = tpu (uCp (tpu F Q 31 0) q i 40 300) (q + 2) 40 (tpu F Q 31 0 (q + 2) i) b j := by
        generalize tpu (uCp (tpu F Q 31 0) q i 40 300) (q + 2) 40 (tpu F Q 31 0 (q + 2) i) = G
        simp only [tpu]
        rw [if_neg (by omega)]
      rw [e5, cp_fr _ (by omega)]
      simp only [tpu]
      rw [if_neg (by omega)]
  · have c : ¬ (0 ≤ x.toInt ∧ x.toInt < fr.length) := fun c => by
      refine hno x.toInt.toNat (by omega) (Int32.toInt_inj.mp ?_)
      rw [nI_toInt (by omega)]; omega
    rw [if_neg c]
    refine ⟨fun _ => ⟨Q, rfl, M.1, fun h4 e4 => ?_⟩, fun e => absurd rfl e⟩
    rw [sI_w] at e4
    subst e4
    exact ⟨M.1, fun e => absurd (by rw [wI_I, tpu_s] at e; exact e) (by decide), fun _ => x1 hno⟩
theorem p_Md_seal {h : tpH} {Q q : Nat} (M : lMd h Q q) (hQ : Q < q) {F : Nat → Nat → Int32} {fr : List mT} (hF : FoM F Q q fr) (hwf : ∀ (i : Nat) (t : mT), fr[i]? = some t → tWF 300 t) {dr : Option mT} (hD : DrM F Q q dr) (hw : ∀ t, dr = some t → tWF 300 t) {R : Int32 → tpH → Prop}
    (x1 : (dr = none ∨ fr.length = 40) → R 0 (wI h (tpu F Q 31 1)))
    (kk : ∀ t, dr = some t → fr.length < 40 → ∀ G, FoM G Q q (fr ++ [t]) → G Q 31 = 0 → (∀ b j, ¬ ((b = Q ∧ (j = 3 ∨ j = 31)) ∨ (b = q + 2 ∧ j = fr.length) ∨ (q + 3 ≤ b ∧ b ≤ q + 6 ∧ 300 * fr.length ≤ j ∧ j < 300 * fr.length + 300)) → G b j = F b j) → R (nI fr.length) (wI h G)) : w_Md_seal Q (wI h F) R := by
  obtain ⟨f1, f2, f3⟩ := hF
  have stop : R 0 (wI h (tpu F Q 31 1)) → w_Md_seal_22 R Q 1 (some Q) (wI h F) := fun hr => by
    refine ⟨Q, rfl, M.1, fun h4 e4 => ?_⟩
    rw [sI_w] at e4
    subst e4
    exact ⟨M.1, fun _ => hr, fun e => absurd (by rw [wI_I, tpu_s] at e; exact e) (show ¬ (1 : Int32) = 0 by decide)⟩
  refine ⟨M.1, ?_⟩
  cases dr with
  | none =>
    have h4 : F Q 4 = 0 := hD.1
    exact ⟨fun _ => stop (x1 (Or.inl rfl)), fun e => absurd h4 e⟩
  | some t =>
    have h4 : F Q 4 = 1 := hD.1
    have hwt := hw t rfl
    refine ⟨fun e => absurd (by rw [wI_I, h4] at e; exact e) (show ¬ (1 : Int32) = 0 by decide), fun _ => ⟨fun e => ?_, fun e => ?_⟩⟩
    · have hlt : fr.length < 40 := Nat.lt_of_le_of_ne f2 (fun e2 => e (by rw [wI_I, f1, e2]; rfl))
      refine ⟨Q, rfl, M.1, fun h4 e4 => ?_⟩
      rw [sI_w] at e4
      subst e4
      refine ⟨M.1, fun e => absurd (tpu_s F Q 31 0) e, fun _ => ⟨M.1, ?_⟩⟩
      have e3 : tpu F Q 31 0 Q 3 = nI fr.length := by rw [tpu_j _ _ _ _ _ _ (by decide)]; exact f1
      rw [wI_I, e3]
      show w_Md_copyTree Q (nI 40) (nI fr.length) (wI h (tpu F Q 31 0)) _
      have hP1 : MtP (tpu F Q 31 0) q 40 t := MtP_fr hD.2 (fun b b1 _ => tpu_ne (by omega))
      refine p_Md_copyTree M (by decide) (by omega) (by omega) ⟨M.1, fun h5 e5 => ?_⟩
      have e6 : tpu (uCp (tpu F Q 31 0) q 40 fr.length 300) (q + 2) fr.length (tpu F Q 31 0 (q + 2) 40) Q 3 = nI fr.length := by rw [cp_fr _ (by omega)]; exact e3
      rw [wI_I, e6, nI_1, sI_w] at e5
      subst e5
      rw [wI_I, tpu_s, show (1 : Int32) = nI 1 from rfl, nI_sub2 (by omega), Nat.add_sub_cancel]
      have hfr : ∀ b j, ¬ ((b = Q ∧ (j = 3 ∨ j = 31)) ∨ (b = q + 2 ∧ j = fr.length) ∨ (q + 3 ≤ b ∧ b ≤ q + 6 ∧ 300 * fr.length ≤ j ∧ j < 300 * fr.length + 300)) → tpu (tpu (uCp (tpu F Q 31 0) q 40 fr.length 300) (q + 2) fr.length (tpu F Q 31 0 (q + 2) 40)) Q 3 (nI (fr.length + 1)) b j = F b j := fun b j hb => by
        have e5 : tpu (tpu (uCp (tpu F Q 31 0) q 40 fr.length 300) (q + 2) fr.length (tpu F Q 31 0 (q + 2) 40)) Q 3 (nI (fr.length + 1)) b j = tpu (uCp (tpu F Q 31 0) q 40 fr.length 300) (q + 2) fr.length (tpu F Q 31 0 (q + 2) 40) b j := by
          generalize tpu (uCp (tpu F Q 31 0) q 40 fr.length 300) (q + 2) fr.length (tpu F Q 31 0 (q + 2) 40) = G
          simp only [tpu]
          rw [if_neg (by omega)]
        rw [e5, cp_fr _ (by omega)]
        simp only [tpu]
        rw [if_neg (by omega)]
      refine kk t rfl hlt _ ⟨by rw [tpu_s, List.length_append]; rfl, by rw [List.length_append]; simp; omega, fun i u hi => ?_⟩ ?_ hfr
      · by_cases c : i < fr.length
        · rw [List.getElem?_append_left c] at hi
          refine MtP_k (hwf i u hi) (f3 i u hi) (hfr _ _ (by omega)) (fun b b1 b2 j j1 j2 => hfr b j (by omega))
        · have hlen := (List.getElem?_eq_some_iff.mp hi).1
          rw [List.length_append] at hlen
          simp only [List.length_singleton] at hlen
          have ei : i = fr.length := by omega
          subst ei
          rw [List.getElem?_append_right (Nat.le_refl _), Nat.sub_self] at hi
          have hu : t = u := by simpa using hi
          subst hu
          exact MtP_fr (MtP_cp (s' := fr.length) hwt hP1) (fun b b1 _ => tpu_ne (by omega))
      · rw [tpu_j _ _ _ _ _ _ (by decide), cp_fr _ (by omega), tpu_s]
    · rw [wI_I, f1] at e
      exact stop (x1 (Or.inr (nI_inj (b := 40) (by omega) (by decide) e)))
end MSEAL
