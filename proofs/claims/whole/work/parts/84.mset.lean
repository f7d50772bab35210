section MSET
theorem nI_ne_2 {k : Nat} (h : k < 2 ^ 31) : nI k ≠ -2 := fun e => by
  have h1 := congrArg Int32.toInt e
  rw [nI_toInt h] at h1
  have e2 : (-2 : Int32).toInt = -2 := rfl
  omega
theorem dm_in {F : Nat → Nat → Int32} {Q q : Nat} {dr : Option mT} (hD : DrM F Q q dr) (hw : ∀ t, dr = some t → tWF 300 t) : ∀ m, m < 300 → (F (q + 3) (300 * 40 + m) = -2 ↔ drIn dr m = false) := by
  intro m hm
  cases dr with
  | none => exact ⟨fun _ => rfl, fun _ => hD.2 m hm⟩
  | some t =>
    have hwt := hw t rfl
    refine ⟨fun e => ?_, fun e => hD.2.2.2.1 m hm e⟩
    cases c : drIn (some t) m with
    | false => rfl
    | true =>
      have c : tIn t m = true := c
      exfalso
      by_cases hr : m = tRt t
      · rw [hr, hD.2.2.1.1] at e
        exact absurd e (by decide)
      · obtain ⟨p, hp⟩ := Option.ne_none_iff_exists'.mp (hwt.2.2.2 m c hr)
        rw [(hD.2.1 m c).2.1 p hp] at e
        have := hwt.1.1 p (hwt.1.2.2.2.2 m p c hp)
        exact nI_ne_2 (by omega) e
theorem MtP_set {F : Nat → Nat → Int32} {q s : Nat} {t : mT} (h : MtP F q s t) (m : Nat) (v : Int32) : MtP (tpu F (q + 4) (300 * s + m) v) q s (tSet t m v) := by
  unfold MtP MtL nodeM
  rw [tpu_ne (b := q + 2) (by omega), tpu_ne (b := q + 3) (by omega), tpu_ne (b := q + 5) (by omega), tpu_ne (b := q + 6) (by omega)]
  obtain ⟨p1, p2, p3, p4⟩ := h
  refine ⟨fun x hx => ?_, p2, p3, p4⟩
  obtain ⟨q1, q2⟩ := p1 x hx
  refine ⟨?_, q2⟩
  show _ = mU (tWo t) m v x
  rw [tpu_row2]
  by_cases c : x = m
  · rw [c, mU_s, if_pos rfl]
  · rw [mU_n _ _ c, if_neg (by omega)]; exact q1
theorem MtP_fr {F G : Nat → Nat → Int32} {q s : Nat} {t : mT} (h : MtP F q s t) (hk : ∀ b, q + 2 ≤ b → b ≤ q + 6 → G b = F b) : MtP G q s t := by
  unfold MtP MtL nodeM
  rw [hk (q + 2) (by omega) (by omega), hk (q + 3) (by omega) (by omega), hk (q + 4) (by omega) (by omega), hk (q + 5) (by omega) (by omega), hk (q + 6) (by omega) (by omega)]
  exact h
theorem p_Md_set {h : tpH} {Q q mk : Nat} (M : lMd h Q q) (hQ : Q < q) {F : Nat → Nat → Int32} (hm : F Q 0 = nI mk) (hk : mk ≤ 300) {dr : Option mT} (hD : DrM F Q q dr) (hw : ∀ t, dr = some t → tWF 300 t) (hdm : ∀ t, dr = some t → ∀ m, tIn t m = true → m < mk) {x v : Int32} {R : Int32 → tpH → Prop}
    (x1 : (∀ m, m < 300 → x = nI m → drIn dr m = false) → R 0 (wI h (tpu F Q 31 1)))
    (x2 : ∀ t m, dr = some t → x = nI m → tIn t m = true → ¬ (0 ≤ v.toInt ∧ v.toInt ≤ 99) → R 0 (wI h (tpu F Q 31 2)))
    (kk : ∀ t m, dr = some t → x = nI m → tIn t m = true → (0 ≤ v.toInt ∧ v.toInt ≤ 99) → ∀ G, DrM G Q q (some (tSet t m v)) → G Q 31 = 0 → (∀ b j, ¬ ((b = Q ∧ j = 31) ∨ (b = q + 4 ∧ 12000 ≤ j ∧ j < 12300)) → G b j = F b j) → R (tWo t m) (wI h G)) : w_Md_set Q x v (wI h F) R := by
  have e0 : (0 : Int32).toInt = 0 := rfl
  have e9 : (99 : Int32).toInt = 99 := rfl
  obtain ⟨a1, a2, a3⟩ := md_f M (j := 4) (kd := 15) (n := 12600) (f := 7) (by decide)
  have stop : ∀ c : Int32, ¬ c ≤ 0 → R 0 (wI h (tpu F Q 31 c)) → w_Md_set_30 R Q x v c (some Q) (wI h F) := fun c hc hr => by
    refine ⟨Q, rfl, M.1, fun h4 e4 => ?_⟩
    rw [sI_w] at e4
    subst e4
    exact ⟨M.1, fun e => absurd (by rw [wI_I, tpu_s] at e; exact e) hc, fun _ => hr⟩
  have hin := dm_in hD hw
  refine ⟨M.1, ?_⟩
  show w_Md_has Q (nI 40) x (wI h F) _
  refine p_Md_has M (by decide) hk hm (inn := drIn dr) (fun m hmk => hin m (by omega)) (fun m hi => ?_) (fun m e hm3 hi => ?_) (fun g => ⟨fun e => absurd rfl e, fun _ => stop 1 (by decide) (x1 g)⟩)
  · obtain ⟨t, ed, hi⟩ := dr_some hi
    exact hdm t ed m hi
  · obtain ⟨t, ed, hit⟩ := dr_some hi
    subst ed
    subst e
    refine ⟨fun _ => ?_, fun e => absurd e (by decide)⟩
    rw [e_Md_in, e0, e9]
    by_cases c : 0 ≤ v.toInt ∧ v.toInt ≤ 99
    · rw [if_pos c]
      refine ⟨fun _ => ⟨Q, rfl, M.1, fun h4 e4 => ?_⟩, fun e => absurd e (by decide)⟩
      rw [sI_w] at e4
      subst e4
      refine ⟨M.1, fun _ => ?_, fun e => absurd (show tpu F Q 31 0 Q 31 ≤ 0 by rw [tpu_s]; exact Int32.le_refl 0) e⟩
      show w_Md_valueIn Q (nI 40) (nI m) (wI h (tpu F Q 31 0)) _
      rw [e_Md_valueIn M (by decide) hm3, tpu_ne (b := q + 4) (by omega), (hD.2.1 m hit).1]
      refine ⟨M.1, q + 4, a3, a1, by rw [wI_L, a2]; show vp_in (nI 12000 + nI m) 12600; rw [nI_add]; exact vp_in_nI (by omega) (by decide), fun h15 e15 => ?_⟩
      have e15 : h15 = sI (wI h (tpu F Q 31 0)) (q + 4) (nI 12000 + nI m).toNatClampNeg v := e15
      rw [nI_add, nI_clamp (by omega), sI_w] at e15
      subst e15
      have hP : MtP (tpu F Q 31 0) q 40 t := MtP_fr hD.2 (fun b b1 _ => tpu_ne (by omega))
      refine kk t m rfl rfl hit c _ ⟨?_, MtP_set hP m v⟩ ?_ (fun b j hb => ?_)
      · rw [tpu_ne (b := Q) (by omega), tpu_j _ _ _ _ _ _ (by decide)]; exact hD.1
      · rw [tpu_ne (b := Q) (by omega), tpu_s]
      · simp only [tpu]
        rw [if_neg (by omega), if_neg (by omega)]
    · rw [if_neg c]
      exact ⟨fun e => absurd rfl e, fun _ => stop 2 (by decide) (x2 t m rfl rfl hit c)⟩
end MSET
