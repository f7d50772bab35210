section GET2
def oFr (Q q : Nat) (F G : Nat → Nat → Int32) : Prop := ∀ c j, ¬ ((c = Q ∧ j = 31) ∨ (q + 24 ≤ c ∧ c < q + 46)) → G c j = F c j
theorem oFr_t {Q q : Nat} (F : Nat → Nat → Int32) (c : Int32) : oFr Q q F (tpu F Q 31 c) := fun b j hb => by
  simp only [tpu]
  rw [if_neg (by omega)]
theorem oFr_lay {Q q r : Nat} {F G : Nat → Nat → Int32} (H : oFr Q q F G) (hr : q + 24 ≤ r ∧ r < q + 46) (P : List Nat) : oFr Q q F (lay G r P) := fun b j hb => by
  rw [lay_ne _ _ (by omega)]
  exact H b j hb
theorem lst_some {α : Type} {l : List α} {y : Int32} {a : α} (h : lstAt l y = some a) : (0 ≤ y.toInt ∧ y.toInt < l.length) ∧ l[y.toInt.toNat]? = some a ∧ y = nI y.toInt.toNat := by
  unfold lstAt at h
  by_cases c : 0 ≤ y.toInt
  · rw [if_pos c] at h
    have hl := (List.getElem?_eq_some_iff.mp h).1
    have hy := Int32.toInt_lt y
    exact ⟨⟨c, by omega⟩, h, Int32.toInt_inj.mp (by rw [nI_toInt (by omega)]; omega)⟩
  · rw [if_neg c] at h
    simp at h
theorem lst_none {α : Type} {l : List α} {y : Int32} (h : lstAt l y = none) : ¬ (0 ≤ y.toInt ∧ y.toInt < l.length) := fun g => by
  unfold lstAt at h
  rw [if_pos g.1] at h
  have := List.getElem?_eq_none_iff.mp h
  omega
theorem nI_p1 {n : Nat} (hn : n < 2 ^ 31) : (nI n - 1).toInt = (n : Int) - 1 := by
  cases n with
  | zero => rfl
  | succ n =>
    rw [nI_pred, nI_toInt (by omega)]
    omega
theorem e_inL (h : tpH) (x : Int32) {n : Nat} (hn : n < 2 ^ 31) (R : Int32 → tpH → Prop) : w_Md_in x 0 (nI n - 1) h R = R (if 0 ≤ x.toInt ∧ x.toInt < n then 1 else 0) h := by
  have e0 : (0 : Int32).toInt = 0 := rfl
  rw [e_Md_in, nI_p1 hn, e0]
  congr 1
  by_cases c : 0 ≤ x.toInt ∧ x.toInt < n
  · rw [if_pos c, if_pos (by omega)]
  · rw [if_neg c, if_neg (by omega)]
theorem p_Md_asks {h : tpH} {Q q : Nat} (M : lMd h Q q) (F : Nat → Nat → Int32) {x : Int32} {R : Int32 → tpH → Prop} (k1 : x = 1 → R 1 (wI h (tpu F Q 31 0))) (k0 : x = 0 → R 0 (wI h (tpu F Q 31 1))) (hx : x = 0 ∨ x = 1) : w_Md_asksFor Q x (wI h F) R := by
  rcases hx with e | e
  · refine ⟨fun _ => ⟨Q, rfl, M.1, fun h4 e4 => ?_⟩, fun g => absurd e g⟩
    rw [sI_wI, wI_wI, wI_I] at e4
    subst e4
    rw [e]
    exact ⟨Or.inl rfl, k0 e⟩
  · refine ⟨fun g => absurd (e.symm.trans g) (by decide), fun _ => ⟨Q, rfl, M.1, fun h4 e4 => ?_⟩⟩
    rw [sI_wI, wI_wI, wI_I] at e4
    subst e4
    rw [e]
    exact ⟨Or.inr rfl, k1 e⟩
theorem mt_in {F : Nat → Nat → Int32} {q s : Nat} {t : mT} (H : MtP F q s t) (hw : tWF 300 t) : ∀ m, m < 300 → (F (q + 3) (300 * s + m) = -2 ↔ tIn t m = false) := fun m hm => by
  cases c : tIn t m with
  | false => exact ⟨fun _ => rfl, fun _ => H.2.2.1 m hm c⟩
  | true =>
    refine ⟨fun e => ?_, fun e => by simp at e⟩
    exfalso
    by_cases em : m = tRt t
    · rw [em, H.2.1.1] at e
      exact absurd e (by decide)
    · obtain ⟨u, hu⟩ := Option.ne_none_iff_exists'.mp (hw.2.2.2 m c em)
      rw [(H.1 m c).2.1 u hu] at e
      have := hw.1.1 u (hw.1.2.2.2.2 m u c hu)
      exact nI_ne_2 (by omega) e
theorem MtP_t {F G : Nat → Nat → Int32} {Q q s : Nat} {t : mT} (hQ : Q < q) (H : MtP F q s t) (fr : oFr Q q F G) : MtP G q s t := MtP_fr H (fun b b1 b2 => funext fun j => fr b j (by omega))
theorem p_Md_size {h : tpH} {Q q : Nat} (M : lMd h Q q) (hQ : Q < q) {F : Nat → Nat → Int32} {fr : List mT} (hF : FoM F Q q fr) (hw : ∀ (i : Nat) (t : mT), fr[i]? = some t → tWF 300 t) {x : Int32} {R : Int32 → tpH → Prop}
    (x1 : gSize fr x = none → ∀ G, G Q 31 = 1 → oFr Q q F G → R 0 (wI h G)) (kk : ∀ v, gSize fr x = some v → ∀ G, G Q 31 = 0 → oFr Q q F G → R v (wI h G)) : w_Md_size Q x (wI h F) R := by
  obtain ⟨o1, o2, o3⟩ := md_f M (j := 24) (kd := 15) (n := 300) (f := 32) (by decide)
  unfold gSize at x1 kk
  have h40 := hF.2.1
  refine ⟨M.1, ?_⟩
  rw [e_Md_isTree M hF.2.1 hF.1]
  cases e : lstAt fr x with
  | none =>
    rw [e] at x1
    rw [if_neg (lst_none e)]
    exact ⟨M.1, p_Md_asks M F (fun g => absurd g (by decide)) (fun _ => ⟨fun _ => x1 rfl _ (tpu_s _ _ _ _) (oFr_t F 1), fun g => absurd rfl g⟩) (Or.inl rfl)⟩
  | some t =>
    obtain ⟨c1, c2, c3⟩ := lst_some e
    rw [if_pos c1]
    have hwt := hw _ t c2
    rw [e] at kk
    refine ⟨M.1, p_Md_asks M F (fun _ => ⟨fun g => absurd g (by decide), fun _ => ⟨M.1, ?_⟩⟩) (fun g => absurd g (by decide)) (Or.inr rfl)⟩
    rw [wI_R, o3, c3]
    refine p_Md_layOrder M (by omega) (MtP_t hQ (hF.2.2 _ t c2) (oFr_t F 0)) hwt (Or.inr (by omega)) o1 o2 ?_
    rw [pO_len hwt]
    exact kk _ rfl _ (by rw [lay_ne _ _ (by omega), tpu_s]) (oFr_lay (oFr_t F 0) (by omega) _)
theorem p_Md_markAt {h : tpH} {Q q : Nat} (M : lMd h Q q) (hQ : Q < q) {F : Nat → Nat → Int32} {fr : List mT} (hF : FoM F Q q fr) (hw : ∀ (i : Nat) (t : mT), fr[i]? = some t → tWF 300 t) {x y : Int32} {R : Int32 → tpH → Prop}
    (x1 : gMarkAt fr x y = none → ∀ G, G Q 31 = 1 → oFr Q q F G → R 0 (wI h G)) (kk : ∀ v, gMarkAt fr x y = some v → ∀ G, G Q 31 = 0 → oFr Q q F G → R v (wI h G)) : w_Md_markAt Q x y (wI h F) R := by
  obtain ⟨o1, o2, o3⟩ := md_f M (j := 24) (kd := 15) (n := 300) (f := 32) (by decide)
  unfold gMarkAt at x1 kk
  have h40 := hF.2.1
  have no : ∀ G, oFr Q q F G → (∀ G, G Q 31 = 1 → oFr Q q F G → R 0 (wI h G)) → w_Md_markAt_47 R Q y 0 (some Q) (wI h G) := fun G fr k =>
    ⟨Q, rfl, M.1, p_Md_asks M G (fun g => absurd g (by decide)) (fun _ => ⟨fun _ => k _ (tpu_s _ _ _ _) (fun b j hb => (oFr_t (Q := Q) (q := q) G 1 b j hb).trans (fr b j hb)), fun g => absurd rfl g⟩) (Or.inl rfl)⟩
  refine ⟨M.1, ?_⟩
  rw [e_Md_isTree M hF.2.1 hF.1]
  cases e : lstAt fr x with
  | none =>
    rw [e] at x1
    rw [if_neg (lst_none e)]
    exact ⟨fun _ => ⟨fun _ => no F (fun _ _ _ => rfl) (x1 rfl), fun g => absurd rfl g⟩, fun g => absurd rfl g⟩
  | some t =>
    obtain ⟨c1, c2, c3⟩ := lst_some e
    rw [if_pos c1]
    have hwt := hw _ t c2
    have h3 := pO_le hwt
    rw [e] at kk x1
    refine ⟨fun g => absurd g (by decide), fun _ => ⟨M.1, ?_⟩⟩
    rw [wI_R, o3, c3]
    refine p_Md_layOrder M (by omega) (hF.2.2 _ t c2) hwt (Or.inr (by omega)) o1 o2 ⟨fun g => absurd g (by decide), fun _ => ?_⟩
    have f1 : oFr Q q F (lay F (q + 24) (pO t)) := oFr_lay (fun _ _ _ => rfl) (by omega) _
    rw [e_inL _ _ (by omega)]
    cases e2 : lstAt (pO t) y with
    | none =>
      rw [if_neg (lst_none e2)]
      refine ⟨fun _ => no _ f1 (x1 ?_), fun g => absurd rfl g⟩
      show (lstAt (pO t) y).map nI = none
      rw [e2]; rfl
    | some m =>
      obtain ⟨d1, d2, d3⟩ := lst_some e2
      rw [if_pos d1]
      refine ⟨fun g => absurd g (by decide), fun _ => ⟨Q, rfl, M.1, p_Md_asks M _ (fun _ => ⟨fun g => absurd g (by decide), fun _ => ⟨M.1, q + 24, o3, o1, ?_, ?_⟩⟩) (fun g => absurd g (by decide)) (Or.inr rfl)⟩⟩
      · rw [wI_L, o2, d3]
        exact vp_in_nI (by omega) (by decide)
      · have ev : hI (wI h (tpu (lay F (q + 24) (pO t)) Q 31 0)) (q + 24) y.toNatClampNeg = nI m := by
          rw [wI_I, tpu_a _ _ _ _ _ _ (by omega)]
          have : y.toNatClampNeg = y.toInt.toNat := by
            rw [d3, nI_clamp (by omega), nI_toInt (by omega)]; omega
          rw [this, lay_at _ _ d2]
        rw [ev]
        exact kk _ (by show (lstAt (pO t) y).map nI = _; rw [e2]; rfl) _ (tpu_s _ _ _ _) (fun b j hb => (oFr_t (Q := Q) (q := q) _ 0 b j hb).trans (f1 b j hb))
theorem p_Md_value {h : tpH} {Q q mk : Nat} (M : lMd h Q q) (hQ : Q < q) {F : Nat → Nat → Int32} (hm : F Q 0 = nI mk) (hk : mk ≤ 300) {fr : List mT} (hF : FoM F Q q fr) (hw : ∀ (i : Nat) (t : mT), fr[i]? = some t → tWF 300 t) (hmk : ∀ (i : Nat) (t : mT), fr[i]? = some t → ∀ m, tIn t m = true → m < mk) {x y : Int32} {R : Int32 → tpH → Prop}
    (x1 : gValue fr mk x y = none → ∀ G, G Q 31 = 1 → oFr Q q F G → R 0 (wI h G)) (kk : ∀ v, gValue fr mk x y = some v → ∀ G, G Q 31 = 0 → oFr Q q F G → R v (wI h G)) : w_Md_value Q x y (wI h F) R := by
  unfold gValue at x1 kk
  have h40 := hF.2.1
  have no : gValue fr mk x y = none → w_Md_value_22 R Q x y 0 (some Q) (wI h F) := fun g =>
    ⟨Q, rfl, M.1, p_Md_asks M F (fun g => absurd g (by decide)) (fun _ => ⟨fun g => absurd rfl g, fun _ => x1 g _ (tpu_s _ _ _ _) (oFr_t F 1)⟩) (Or.inl rfl)⟩
  refine ⟨M.1, ?_⟩
  rw [e_Md_isTree M hF.2.1 hF.1]
  cases e : lstAt fr x with
  | none =>
    rw [if_neg (lst_none e)]
    exact ⟨fun _ => no (by unfold gValue; rw [e]; rfl), fun g => absurd rfl g⟩
  | some t =>
    obtain ⟨c1, c2, c3⟩ := lst_some e
    rw [if_pos c1]
    have hwt := hw _ t c2
    refine ⟨fun g => absurd g (by decide), fun _ => ⟨M.1, ?_⟩⟩
    rw [e_Md_isMark M hk hm]
    by_cases gy : 0 ≤ y.toInt ∧ y.toInt < mk
    · rw [if_pos gy]
      rw [e] at kk
      have kv := kk _ (if_pos gy)
      clear kk
      have ey : y = nI y.toInt.toNat := Int32.toInt_inj.mp (by rw [nI_toInt (by omega)]; omega)
      have hmm : y.toInt.toNat < mk := by omega
      generalize y.toInt.toNat = m at ey kv hmm
      subst ey
      refine ⟨fun g => absurd g (by decide), fun _ => ⟨Q, rfl, M.1, p_Md_asks M F (fun _ => ⟨fun _ => ⟨M.1, ?_⟩, fun g => absurd g (by decide)⟩) (fun g => absurd g (by decide)) (Or.inr rfl)⟩⟩
      have hP := MtP_t hQ (hF.2.2 _ t c2) (oFr_t F 0)
      rw [c3]
      refine p_Md_has M (by omega) hk (mk := mk) (by rw [tpu_j _ _ _ _ _ _ (by decide)]; exact hm) (inn := tIn t) (fun m' hm' => mt_in hP hwt m' (by omega)) (hmk _ t c2) (fun m' em hm3 hi => ⟨fun g => absurd g (by decide), fun _ => ⟨M.1, ?_⟩⟩) (fun g => ⟨fun _ => ?_, fun g => absurd rfl g⟩)
      · have e1 : m = m' := nI_inj (by omega) (by omega) em
        subst e1
        rw [e_Md_valueIn M (by omega) hm3, (hP.1 m hi).1]
        rw [if_pos hi] at kv
        exact kv _ (tpu_s _ _ _ _) (oFr_t F 0)
      · have hno : ¬ tIn t m = true := by rw [g m (by omega) rfl]; decide
        rw [if_neg hno] at kv
        exact kv _ (tpu_s _ _ _ _) (oFr_t F 0)
    · rw [if_neg gy]
      exact ⟨fun _ => no (by unfold gValue; rw [e]; exact if_neg gy), fun g => absurd rfl g⟩
theorem mt_up {F : Nat → Nat → Int32} {q s : Nat} {t : mT} (H : MtP F q s t) (hw : tWF 300 t) {m : Nat} (hi : tIn t m = true) : F (q + 3) (300 * s + m) = nO (tUp t m) := by
  by_cases em : m = tRt t
  · rw [em, H.2.1.1, hw.2.2.1]; rfl
  · obtain ⟨u, hu⟩ := Option.ne_none_iff_exists'.mp (hw.2.2.2 m hi em)
    rw [(H.1 m hi).2.1 u hu, hu]; rfl
theorem p_Md_parent {h : tpH} {Q q mk : Nat} (M : lMd h Q q) (hQ : Q < q) {F : Nat → Nat → Int32} (hm : F Q 0 = nI mk) (hk : mk ≤ 300) {fr : List mT} (hF : FoM F Q q fr) (hw : ∀ (i : Nat) (t : mT), fr[i]? = some t → tWF 300 t) (hmk : ∀ (i : Nat) (t : mT), fr[i]? = some t → ∀ m, tIn t m = true → m < mk) {x y : Int32} {R : Int32 → tpH → Prop}
    (x1 : gParent fr mk x y = none → ∀ G, G Q 31 = 1 → oFr Q q F G → R 0 (wI h G)) (kk : ∀ v, gParent fr mk x y = some v → ∀ G, G Q 31 = 0 → oFr Q q F G → R v (wI h G)) : w_Md_parent Q x y (wI h F) R := by
  unfold gParent at x1 kk
  have h40 := hF.2.1
  have no : gParent fr mk x y = none → w_Md_parent_22 R Q x y 0 (some Q) (wI h F) := fun g =>
    ⟨Q, rfl, M.1, p_Md_asks M F (fun g => absurd g (by decide)) (fun _ => ⟨fun g => absurd rfl g, fun _ => x1 g _ (tpu_s _ _ _ _) (oFr_t F 1)⟩) (Or.inl rfl)⟩
  refine ⟨M.1, ?_⟩
  rw [e_Md_isTree M hF.2.1 hF.1]
  cases e : lstAt fr x with
  | none =>
    rw [if_neg (lst_none e)]
    exact ⟨fun _ => no (by unfold gParent; rw [e]; rfl), fun g => absurd rfl g⟩
  | some t =>
    obtain ⟨c1, c2, c3⟩ := lst_some e
    rw [if_pos c1]
    have hwt := hw _ t c2
    refine ⟨fun g => absurd g (by decide), fun _ => ⟨M.1, ?_⟩⟩
    rw [e_Md_isMark M hk hm]
    by_cases gy : 0 ≤ y.toInt ∧ y.toInt < mk
    · rw [if_pos gy]
      rw [e] at kk
      have kv := kk _ (if_pos gy)
      clear kk
      have ey : y = nI y.toInt.toNat := Int32.toInt_inj.mp (by rw [nI_toInt (by omega)]; omega)
      have hmm : y.toInt.toNat < mk := by omega
      generalize y.toInt.toNat = m at ey kv hmm
      subst ey
      refine ⟨fun g => absurd g (by decide), fun _ => ⟨Q, rfl, M.1, p_Md_asks M F (fun _ => ⟨fun _ => ⟨M.1, ?_⟩, fun g => absurd g (by decide)⟩) (fun g => absurd g (by decide)) (Or.inr rfl)⟩⟩
      have hP := MtP_t hQ (hF.2.2 _ t c2) (oFr_t F 0)
      rw [c3]
      refine p_Md_has M (by omega) hk (mk := mk) (by rw [tpu_j _ _ _ _ _ _ (by decide)]; exact hm) (inn := tIn t) (fun m' hm' => mt_in hP hwt m' (by omega)) (hmk _ t c2) (fun m' em hm3 hi => ⟨fun g => absurd g (by decide), fun _ => ⟨M.1, ?_⟩⟩) (fun g => ⟨fun _ => ?_, fun g => absurd rfl g⟩)
      · have e1 : m = m' := nI_inj (by omega) (by omega) em
        subst e1
        rw [e_Md_parentIn M (by omega) hm3, mt_up hP hwt hi]
        rw [if_pos hi] at kv
        exact kv _ (tpu_s _ _ _ _) (oFr_t F 0)
      · have hno : ¬ tIn t m = true := by rw [g m (by omega) rfl]; decide
        rw [if_neg hno] at kv
        exact kv _ (tpu_s _ _ _ _) (oFr_t F 0)
    · rw [if_neg gy]
      exact ⟨fun _ => no (by unfold gParent; rw [e]; exact if_neg gy), fun g => absurd rfl g⟩
end GET2
