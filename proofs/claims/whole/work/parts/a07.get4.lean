section GET4
theorem nI_div3 {k m : Nat} (hk : k < 6) (hm : m < 300) : nI (300 * k + m) / 300 = nI k := by
  have e300 : (300 : Int32).toInt = 300 := rfl
  refine Int32.toInt_inj.mp ?_
  rw [Int32.toInt_div, nI_toInt (by omega), nI_toInt (by omega), e300, Int.tdiv_eq_ediv_of_nonneg (by omega), Int.bmod_eq_of_le (by omega) (by omega)]
  omega
theorem nI_mod3 {k m : Nat} (hk : k < 6) (hm : m < 300) : nI (300 * k + m) - nI (300 * k + m) / 300 * 300 = nI m := by
  have e300 : (300 : Int32) = nI 300 := rfl
  rw [nI_div3 hk hm, e300, mI_mul, nI_sub2 (by omega)]
  congr 1
  omega
theorem e_Md_isScript {h : tpH} {Q q n : Nat} (M : lMd h Q q) (hn : n ≤ 40) {F : Nat → Nat → Int32} (hm : F Q 10 = nI n) (x : Int32) (R : Int32 → tpH → Prop) : w_Md_isScript Q x (wI h F) R = R (if 0 ≤ x.toInt ∧ x.toInt < n then 1 else 0) (wI h F) := by
  unfold w_Md_isScript
  rw [wI_I, hm, e_inL _ _ (by omega)]
  have hb : tpB (if 0 ≤ x.toInt ∧ x.toInt < (n : Int) then (1 : Int32) else 0) := by
    by_cases c : 0 ≤ x.toInt ∧ x.toInt < (n : Int)
    · rw [if_pos c]; exact Or.inr rfl
    · rw [if_neg c]; exact Or.inl rfl
  simp only [show hT (wI h F) Q = 14 from M.1, hb, true_and]
theorem e_Md_isVersion {h : tpH} {Q q n : Nat} (M : lMd h Q q) (hn : n ≤ 40) {F : Nat → Nat → Int32} (hm : F Q 26 = nI n) (x : Int32) (R : Int32 → tpH → Prop) : w_Md_isVersion Q x (wI h F) R = R (if 0 ≤ x.toInt ∧ x.toInt < n then 1 else 0) (wI h F) := by
  unfold w_Md_isVersion
  rw [wI_I, hm, e_inL _ _ (by omega)]
  have hb : tpB (if 0 ≤ x.toInt ∧ x.toInt < (n : Int) then (1 : Int32) else 0) := by
    by_cases c : 0 ≤ x.toInt ∧ x.toInt < (n : Int)
    · rw [if_pos c]; exact Or.inr rfl
    · rw [if_neg c]; exact Or.inl rfl
  simp only [show hT (wI h F) Q = 14 from M.1, hb, true_and]
theorem lst_cl {α : Type} {l : List α} {y : Int32} {a : α} (h : lstAt l y = some a) : y.toNatClampNeg = y.toInt.toNat := by
  obtain ⟨c1, c2, c3⟩ := lst_some h
  have hy := Int32.toInt_lt y
  rw [c3, nI_clamp (by omega), nI_toInt (by omega)]
  omega
theorem p_Md_steps {h : tpH} {Q q : Nat} (M : lMd h Q q) (hQ : Q < q) {F : Nat → Nat → Int32} {sc : List (List mSt)} (hS : ScM F Q q sc) (h40 : sc.length ≤ 40) {x : Int32} {R : Int32 → tpH → Prop} (x1 : gSteps sc x = none → ∀ G, G Q 31 = 1 → oFr Q q F G → R 0 (wI h G)) (kk : ∀ v, gSteps sc x = some v → ∀ G, G Q 31 = 0 → oFr Q q F G → R v (wI h G)) : w_Md_steps Q x (wI h F) R := by
  obtain ⟨o1, o2, o3⟩ := md_f M (j := 7) (kd := 15) (n := 41) (f := 11) (by decide)
  unfold gSteps at x1 kk
  refine ⟨M.1, ?_⟩
  rw [e_Md_isScript M h40 hS.1]
  cases e : lstAt sc x with
  | none =>
    rw [e] at x1
    rw [if_neg (lst_none e)]
    exact ⟨M.1, p_Md_asks M F (fun g => absurd g (by decide)) (fun _ => ⟨fun _ => x1 rfl _ (tpu_s _ _ _ _) (oFr_t F 1), fun g => absurd rfl g⟩) (Or.inl rfl)⟩
  | some s =>
    obtain ⟨c1, c2, c3⟩ := lst_some e
    have cl := lst_cl e
    rw [e] at kk
    rw [if_pos c1]
    refine ⟨M.1, p_Md_asks M F (fun _ => ⟨fun g => absurd g (by decide), fun _ => ⟨M.1, q + 7, o3, o1, ?_, ?_⟩⟩) (fun g => absurd g (by decide)) (Or.inr rfl)⟩
    · rw [wI_L, o2, c3]
      exact vp_in_nI (by omega) (by decide)
    · rw [wI_I, cl, tpu_a _ _ _ _ _ _ (by omega), (hS.2 _ s c2).1]
      exact kk _ rfl _ (tpu_s _ _ _ _) (oFr_t F 0)
/-- the step that is asked for -/
theorem p_Md_asksStep {h : tpH} {Q q : Nat} (M : lMd h Q q) (hQ : Q < q) {F : Nat → Nat → Int32} {sc : List (List mSt)} (hS : ScM F Q q sc) (h40 : sc.length ≤ 40) (h100 : ∀ s ∈ sc, s.length ≤ 100) {x y : Int32} {R : Int32 → tpH → Prop} (x1 : gStep sc x y = none → R 0 (wI h (tpu F Q 31 1))) (kk : ∀ i j e, gStep sc x y = some e → x = nI i → y = nI j → i < 40 → j < 100 → StM (tpu F Q 31 0) q (100 * i + j) e → R 1 (wI h (tpu F Q 31 0))) : w_Md_asksStep Q x y (wI h F) R := by
  obtain ⟨o1, o2, o3⟩ := md_f M (j := 7) (kd := 15) (n := 41) (f := 11) (by decide)
  have no : gStep sc x y = none → w_Md_asksStep_30 R 0 (some Q) (wI h F) := fun g => ⟨Q, rfl, M.1, p_Md_asks M F (fun g => absurd g (by decide)) (fun _ => ⟨Or.inl rfl, x1 g⟩) (Or.inl rfl)⟩
  refine ⟨M.1, ?_⟩
  rw [e_Md_isScript M h40 hS.1]
  cases e : lstAt sc x with
  | none =>
    rw [if_neg (lst_none e)]
    exact ⟨fun _ => no (by unfold gStep; rw [e]; rfl), fun g => absurd rfl g⟩
  | some s =>
    obtain ⟨c1, c2, c3⟩ := lst_some e
    have cl := lst_cl e
    have hs := h100 s (List.mem_of_getElem? c2)
    rw [if_pos c1]
    refine ⟨fun g => absurd g (by decide), fun _ => ⟨M.1, q + 7, o3, o1, ?_, ?_⟩⟩
    · rw [wI_L, o2, c3]
      exact vp_in_nI (by omega) (by decide)
    · rw [wI_I, cl, (hS.2 _ s c2).1, e_inL _ _ (by omega)]
      cases e2 : lstAt s y with
      | none =>
        rw [if_neg (lst_none e2)]
        exact ⟨fun _ => no (by unfold gStep; rw [e]; exact e2), fun g => absurd rfl g⟩
      | some d =>
        obtain ⟨d1, d2, d3⟩ := lst_some e2
        rw [if_pos d1]
        refine ⟨fun g => absurd g (by decide), fun _ => ⟨Q, rfl, M.1, p_Md_asks M F (fun _ => ⟨Or.inr rfl, ?_⟩) (fun g => absurd g (by decide)) (Or.inr rfl)⟩⟩
        exact kk x.toInt.toNat y.toInt.toNat d (by unfold gStep; rw [e]; exact e2) c3 d3 (by omega) (by omega) (StM_fr ((hS.2 _ s c2).2 _ d d2) (fun b b1 b2 => tpu_a _ _ _ _ _ _ (by omega)))
theorem ix_100 (i j : Nat) : (100 : Int32) * nI i + nI j = nI (100 * i + j) := by
  have e : (100 : Int32) = nI 100 := rfl
  rw [e, mI_mul, nI_add]
theorem p_Md_stepKind {h : tpH} {Q q : Nat} (M : lMd h Q q) (hQ : Q < q) {F : Nat → Nat → Int32} {sc : List (List mSt)} (hS : ScM F Q q sc) (h40 : sc.length ≤ 40) (h100 : ∀ s ∈ sc, s.length ≤ 100) {x y : Int32} {R : Int32 → tpH → Prop} (x1 : (gStep sc x y).map (fun e => nI e.1) = none → ∀ G, G Q 31 = 1 → oFr Q q F G → R 0 (wI h G)) (kk : ∀ v, (gStep sc x y).map (fun e => nI e.1) = some v → ∀ G, G Q 31 = 0 → oFr Q q F G → R v (wI h G)) : w_Md_stepKind Q x y (wI h F) R := by
  obtain ⟨o1, o2, o3⟩ := md_f M (j := 8) (kd := 15) (n := 4100) (f := 12) (by decide)
  refine ⟨M.1, p_Md_asksStep M hQ hS h40 h100 (fun g => ⟨fun _ => x1 (by rw [g]; rfl) _ (tpu_s _ _ _ _) (oFr_t F 1), fun g => absurd rfl g⟩) (fun i j e g ex ey hi hj hs => ⟨fun g => absurd g (by decide), fun _ => ⟨M.1, q + 8, o3, o1, ?_, ?_⟩⟩)⟩
  · rw [wI_L, o2, ex, ey, ix_100]; exact vp_in_nI (by omega) (by decide)
  · rw [wI_I, ex, ey, ix_100, nI_clamp (by omega), hs.1]
    rw [ex, ey] at g kk
    exact kk _ (by rw [g]; rfl) _ (tpu_s _ _ _ _) (oFr_t F 0)
theorem p_Md_stepMark {h : tpH} {Q q : Nat} (M : lMd h Q q) (hQ : Q < q) {F : Nat → Nat → Int32} {sc : List (List mSt)} (hS : ScM F Q q sc) (h40 : sc.length ≤ 40) (h100 : ∀ s ∈ sc, s.length ≤ 100) {x y : Int32} {R : Int32 → tpH → Prop} (x1 : (gStep sc x y).map (fun e => nI e.2.1) = none → ∀ G, G Q 31 = 1 → oFr Q q F G → R 0 (wI h G)) (kk : ∀ v, (gStep sc x y).map (fun e => nI e.2.1) = some v → ∀ G, G Q 31 = 0 → oFr Q q F G → R v (wI h G)) : w_Md_stepMark Q x y (wI h F) R := by
  obtain ⟨o1, o2, o3⟩ := md_f M (j := 9) (kd := 15) (n := 4100) (f := 13) (by decide)
  refine ⟨M.1, p_Md_asksStep M hQ hS h40 h100 (fun g => ⟨fun _ => x1 (by rw [g]; rfl) _ (tpu_s _ _ _ _) (oFr_t F 1), fun g => absurd rfl g⟩) (fun i j e g ex ey hi hj hs => ⟨fun g => absurd g (by decide), fun _ => ⟨M.1, q + 9, o3, o1, ?_, ?_⟩⟩)⟩
  · rw [wI_L, o2, ex, ey, ix_100]; exact vp_in_nI (by omega) (by decide)
  · rw [wI_I, ex, ey, ix_100, nI_clamp (by omega), hs.2.1]
    rw [ex, ey] at g kk
    exact kk _ (by rw [g]; rfl) _ (tpu_s _ _ _ _) (oFr_t F 0)
theorem p_Md_stepTo {h : tpH} {Q q : Nat} (M : lMd h Q q) (hQ : Q < q) {F : Nat → Nat → Int32} {sc : List (List mSt)} (hS : ScM F Q q sc) (h40 : sc.length ≤ 40) (h100 : ∀ s ∈ sc, s.length ≤ 100) {x y w : Int32} {R : Int32 → tpH → Prop} (x1 : (gStep sc x y).map (gTo w) = none → ∀ G, G Q 31 = 1 → oFr Q q F G → R 0 (wI h G)) (kk : ∀ v, (gStep sc x y).map (gTo w) = some v → ∀ G, G Q 31 = 0 → oFr Q q F G → R v (wI h G)) : w_Md_stepTo Q x y w (wI h F) R := by
  obtain ⟨o1, o2, o3⟩ := md_f M (j := 12) (kd := 15) (n := 4100) (f := 16) (by decide)
  obtain ⟨a1, a2, a3⟩ := md_f M (j := 13) (kd := 15) (n := 4100) (f := 17) (by decide)
  refine ⟨M.1, p_Md_asksStep M hQ hS h40 h100 (fun g => ⟨fun g => absurd rfl g, fun _ => x1 (by rw [g]; rfl) _ (tpu_s _ _ _ _) (oFr_t F 1)⟩) (fun i j e g ex ey hi hj hs => ?_)⟩
  have kv := kk (gTo w e) (by rw [g]; rfl) _ (tpu_s _ _ _ _) (oFr_t F 0)
  unfold gTo at kv
  refine ⟨fun _ => ⟨fun ew => ⟨M.1, q + 13, a3, a1, ?_, ?_⟩, fun ew => ⟨M.1, q + 12, o3, o1, ?_, ?_⟩⟩, fun g => absurd g (by decide)⟩
  · rw [wI_L, a2, ex, ey, ix_100]; exact vp_in_nI (by omega) (by decide)
  · rw [wI_I, ex, ey, ix_100, nI_clamp (by omega), hs.2.2.2.2.2.2.1]
    rw [if_pos ew] at kv
    exact kv
  · rw [wI_L, o2, ex, ey, ix_100]; exact vp_in_nI (by omega) (by decide)
  · rw [wI_I, ex, ey, ix_100, nI_clamp (by omega), hs.2.2.2.2.2.1]
    rw [if_neg ew] at kv
    exact kv
theorem p_Md_conflictKind {h : tpH} {Q q : Nat} (M : lMd h Q q) (hQ : Q < q) {F : Nat → Nat → Int32} {cf : List (Nat × Nat)} (hC : CfM F Q q cf) (h9 : cf.length ≤ 92000) (h6 : ∀ e ∈ cf, e.1 < 6 ∧ e.2 < 300) {x : Int32} {R : Int32 → tpH → Prop} (x1 : (lstAt cf x).map (fun e => nI e.1) = none → ∀ G, G Q 31 = 1 → oFr Q q F G → R 0 (wI h G)) (kk : ∀ v, (lstAt cf x).map (fun e => nI e.1) = some v → ∀ G, G Q 31 = 0 → oFr Q q F G → R v (wI h G)) : w_Md_conflictKind Q x (wI h F) R := by
  obtain ⟨o1, o2, o3⟩ := md_f M (j := 19) (kd := 15) (n := 92000) (f := 25) (by decide)
  refine ⟨M.1, ?_⟩
  rw [wI_I, hC.1, e_inL _ _ (by omega)]
  cases e : lstAt cf x with
  | none =>
    rw [e] at x1
    rw [if_neg (lst_none e)]
    exact ⟨M.1, p_Md_asks M F (fun g => absurd g (by decide)) (fun _ => ⟨fun _ => x1 rfl _ (tpu_s _ _ _ _) (oFr_t F 1), fun g => absurd rfl g⟩) (Or.inl rfl)⟩
  | some s =>
    obtain ⟨c1, c2, c3⟩ := lst_some e
    have cl := lst_cl e
    have hs := h6 s (List.mem_of_getElem? c2)
    rw [e] at kk
    rw [if_pos c1]
    refine ⟨M.1, p_Md_asks M F (fun _ => ⟨fun g => absurd g (by decide), fun _ => ⟨M.1, q + 19, o3, o1, ?_, ?_⟩⟩) (fun g => absurd g (by decide)) (Or.inr rfl)⟩
    · rw [wI_L, o2, c3]
      exact vp_in_nI (by omega) (by decide)
    · rw [wI_I, cl, tpu_a _ _ _ _ _ _ (by omega), hC.2 _ s c2, nI_div3 hs.1 hs.2]
      exact kk _ rfl _ (tpu_s _ _ _ _) (oFr_t F 0)
theorem p_Md_conflictMark {h : tpH} {Q q : Nat} (M : lMd h Q q) (hQ : Q < q) {F : Nat → Nat → Int32} {cf : List (Nat × Nat)} (hC : CfM F Q q cf) (h9 : cf.length ≤ 92000) (h6 : ∀ e ∈ cf, e.1 < 6 ∧ e.2 < 300) {x : Int32} {R : Int32 → tpH → Prop} (x1 : (lstAt cf x).map (fun e => nI e.2) = none → ∀ G, G Q 31 = 1 → oFr Q q F G → R 0 (wI h G)) (kk : ∀ v, (lstAt cf x).map (fun e => nI e.2) = some v → ∀ G, G Q 31 = 0 → oFr Q q F G → R v (wI h G)) : w_Md_conflictMark Q x (wI h F) R := by
  obtain ⟨o1, o2, o3⟩ := md_f M (j := 19) (kd := 15) (n := 92000) (f := 25) (by decide)
  refine ⟨M.1, ?_⟩
  rw [wI_I, hC.1, e_inL _ _ (by omega)]
  cases e : lstAt cf x with
  | none =>
    rw [e] at x1
    rw [if_neg (lst_none e)]
    exact ⟨M.1, p_Md_asks M F (fun g => absurd g (by decide)) (fun _ => ⟨fun _ => x1 rfl _ (tpu_s _ _ _ _) (oFr_t F 1), fun g => absurd rfl g⟩) (Or.inl rfl)⟩
  | some s =>
    obtain ⟨c1, c2, c3⟩ := lst_some e
    have cl := lst_cl e
    have hs := h6 s (List.mem_of_getElem? c2)
    rw [e] at kk
    rw [if_pos c1]
    refine ⟨M.1, p_Md_asks M F (fun _ => ⟨fun g => absurd g (by decide), fun _ => ⟨M.1, q + 19, o3, o1, ?_, ?_⟩⟩) (fun g => absurd g (by decide)) (Or.inr rfl)⟩
    · rw [wI_L, o2, c3]
      exact vp_in_nI (by omega) (by decide)
    · rw [wI_I, cl, tpu_a _ _ _ _ _ _ (by omega), hC.2 _ s c2, nI_mod3 hs.1 hs.2]
      exact kk _ rfl _ (tpu_s _ _ _ _) (oFr_t F 0)
theorem p_Md_treeOf {h : tpH} {Q q : Nat} (M : lMd h Q q) (hQ : Q < q) {F : Nat → Nat → Int32} {vs : List mV} (hV : VsM F Q q vs) (h3 : vs.length ≤ 30) {x : Int32} {R : Int32 → tpH → Prop} (x1 : (lstAt vs x).map (fun e => nI e.1) = none → ∀ G, G Q 31 = 1 → oFr Q q F G → R 0 (wI h G)) (kk : ∀ v, (lstAt vs x).map (fun e => nI e.1) = some v → ∀ G, G Q 31 = 0 → oFr Q q F G → R v (wI h G)) : w_Md_treeOf Q x (wI h F) R := by
  obtain ⟨o1, o2, o3⟩ := md_f M (j := 20) (kd := 15) (n := 30) (f := 27) (by decide)
  refine ⟨M.1, ?_⟩
  rw [e_Md_isVersion M (by omega) hV.1]
  cases e : lstAt vs x with
  | none =>
    rw [e] at x1
    rw [if_neg (lst_none e)]
    exact ⟨M.1, p_Md_asks M F (fun g => absurd g (by decide)) (fun _ => ⟨fun _ => x1 rfl _ (tpu_s _ _ _ _) (oFr_t F 1), fun g => absurd rfl g⟩) (Or.inl rfl)⟩
  | some s =>
    obtain ⟨c1, c2, c3⟩ := lst_some e
    have cl := lst_cl e
    rw [e] at kk
    rw [if_pos c1]
    refine ⟨M.1, p_Md_asks M F (fun _ => ⟨fun g => absurd g (by decide), fun _ => ⟨M.1, q + 20, o3, o1, ?_, ?_⟩⟩) (fun g => absurd g (by decide)) (Or.inr rfl)⟩
    · rw [wI_L, o2, c3]
      exact vp_in_nI (by omega) (by decide)
    · rw [wI_I, cl, tpu_a _ _ _ _ _ _ (by omega), (hV.2 _ s c2).1]
      exact kk _ rfl _ (tpu_s _ _ _ _) (oFr_t F 0)
end GET4
