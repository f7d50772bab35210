section MCOPY
/-- a picture moves to another slot, or stays -/
theorem MtP_mv {F G : Nat → Nat → Int32} {q s s' : Nat} {t : mT} (hw : tWF 300 t) (h : MtP F q s t) (h2 : G (q + 2) s' = F (q + 2) s) (h3 : ∀ x, x < 300 → G (q + 3) (300 * s' + x) = F (q + 3) (300 * s + x)) (h4 : ∀ x, x < 300 → G (q + 4) (300 * s' + x) = F (q + 4) (300 * s + x))
    (h5 : ∀ x, x < 300 → G (q + 5) (300 * s' + x) = F (q + 5) (300 * s + x)) (h6 : ∀ x, x < 300 → G (q + 6) (300 * s' + x) = F (q + 6) (300 * s + x)) : MtP G q s' t := by
  obtain ⟨p1, ⟨p2, p3⟩, p4, p5⟩ := h
  have hr3 := hw.1.1 _ hw.2.1
  refine ⟨fun x hx => ?_, ⟨by rw [h3 _ hr3]; exact p2, by rw [h6 _ hr3]; exact p3⟩, fun m hm hi => by rw [h3 m hm]; exact p4 m hm hi, by rw [h2]; exact p5⟩
  have hx3 := hw.1.1 x hx
  obtain ⟨q1, q2, q3⟩ := p1 x hx
  refine ⟨by rw [h4 x hx3]; exact q1, fun p hp => by rw [h3 x hx3]; exact q2 p hp, ?_⟩
  rw [h5 x hx3]
  exact seg_congr (fun y hy => h6 y (hw.1.1 y (fKi_in hw.1 hy).1)) q3
theorem MtP_k {F G : Nat → Nat → Int32} {q s : Nat} {t : mT} (hw : tWF 300 t) (h : MtP F q s t) (h2 : G (q + 2) s = F (q + 2) s) (hk : ∀ b, q + 3 ≤ b → b ≤ q + 6 → ∀ j, 300 * s ≤ j → j < 300 * s + 300 → G b j = F b j) : MtP G q s t :=
  MtP_mv hw h h2 (fun x hx => hk _ (by omega) (by omega) _ (by omega) (by omega)) (fun x hx => hk _ (by omega) (by omega) _ (by omega) (by omega)) (fun x hx => hk _ (by omega) (by omega) _ (by omega) (by omega)) (fun x hx => hk _ (by omega) (by omega) _ (by omega) (by omega))
/-! clear -/
def uClr (F : Nat → Nat → Int32) (q s n : Nat) : Nat → Nat → Int32 := fun b j => if 300 * s ≤ j ∧ j < 300 * s + n then (if b = q + 3 then -2 else if b = q + 5 then -1 else if b = q + 6 then -1 else F b j) else F b j
theorem uClr_0 (F : Nat → Nat → Int32) (q s : Nat) : uClr F q s 0 = F := by
  funext b j
  simp only [uClr]
  rw [if_neg (by omega)]
theorem uClr_s (F : Nat → Nat → Int32) (q s n : Nat) : tpu (tpu (tpu (uClr F q s n) (q + 3) (300 * s + n) (-2)) (q + 5) (300 * s + n) (-1)) (q + 6) (300 * s + n) (-1) = uClr F q s (n + 1) := by
  funext b j
  simp only [tpu, uClr]
  by_cases c : j = 300 * s + n
  · subst c
    by_cases c6 : b = q + 6
    · subst c6; simp
    · by_cases c5 : b = q + 5
      · subst c5; simp
      · by_cases c3 : b = q + 3
        · subst c3; simp
        · simp [c6, c5, c3]
  · have e : (300 * s ≤ j ∧ j < 300 * s + (n + 1)) ↔ (300 * s ≤ j ∧ j < 300 * s + n) := by omega
    simp only [c, and_false, if_false, e]
theorem p_clr {h : tpH} {Q q s : Nat} (M : lMd h Q q) (hs : s < 42) {F : Nat → Nat → Int32} {R : tpH → Prop} (k : R (wI h (uClr F q s 300))) : ∀ (n i : Nat), i ≤ 300 → 300 < n + i → w_Md_clear_6 R n Q (nI s) (nI (300 * s + i)) (wI h (uClr F q s i)) := by
  obtain ⟨k1, k2, k3⟩ := md_f M (j := 3) (kd := 15) (n := 12600) (f := 6) (by decide)
  obtain ⟨l1, l2, l3⟩ := md_f M (j := 6) (kd := 15) (n := 12600) (f := 9) (by decide)
  obtain ⟨j1, j2, j3⟩ := md_f M (j := 5) (kd := 15) (n := 12600) (f := 8) (by decide)
  intro n
  induction n with
  | zero => intro i h1 h2; omega
  | succ n ih =>
    intro i h1 h2
    show b_Md_clear_6 R (w_Md_clear_6 R n) Q (nI s) (nI (300 * s + i)) (wI h (uClr F q s i))
    have e300 : (300 : Int32) * nI s + 300 = nI (300 * s + 300) := ix_e s 300
    unfold b_Md_clear_6
    rw [e300, nI_le_iff (by omega) (by omega)]
    refine ⟨fun e => ?_, fun e => ?_⟩
    · have e1 : i = 300 := by omega
      rw [e1]; exact k
    · have hi : i < 300 := by omega
      refine ⟨M.1, q + 3, k3, k1, by rw [wI_L, k2]; exact ix_v hs hi, fun h7 e7 => ?_⟩
      rw [ix_c hs hi, sI_w] at e7
      subst e7
      refine ⟨q + 5, j3, j1, by rw [wI_L, j2]; exact ix_v hs hi, fun h13 e13 => ?_⟩
      rw [ix_c hs hi, sI_w] at e13
      subst e13
      refine ⟨q + 6, l3, l1, by rw [wI_L, l2]; exact ix_v hs hi, fun h19 e19 => ?_⟩
      rw [ix_c hs hi, sI_w, uClr_s] at e19
      subst e19
      rw [nI_1]
      exact ih (i + 1) (by omega) (by omega)
theorem p_Md_clear {h : tpH} {Q q s : Nat} (M : lMd h Q q) (hs : s < 42) {F : Nat → Nat → Int32} {R : tpH → Prop} (k : R (wI h (uClr F q s 300))) : w_Md_clear Q (nI s) (wI h F) R := by
  have k2 := p_clr M hs k 301 0 (by omega) (by omega)
  rw [uClr_0] at k2
  refine ⟨301, ?_⟩
  have e : (300 : Int32) * nI s = nI (300 * s + 0) := by rw [← ix_e, nI_0, Int32.add_zero]
  rw [e]
  exact k2
/-! copyTree -/
def uCp (F : Nat → Nat → Int32) (q s s' n : Nat) : Nat → Nat → Int32 := fun b j => if q + 3 ≤ b ∧ b ≤ q + 6 ∧ 300 * s' ≤ j ∧ j < 300 * s' + n then F b (300 * s + (j - 300 * s')) else F b j
theorem uCp_0 (F : Nat → Nat → Int32) (q s s' : Nat) : uCp F q s s' 0 = F := by
  funext b j
  simp only [uCp]
  rw [if_neg (by omega)]
theorem uCp_r (F : Nat → Nat → Int32) {q s s' n b i : Nat} (hne : s ≠ s') (hi : i < 300) (hn : n ≤ 300) : uCp F q s s' n b (300 * s + i) = F b (300 * s + i) := by
  simp only [uCp]
  rw [if_neg (by omega)]
theorem uCp_s (F : Nat → Nat → Int32) {q s s' n : Nat} (_hn : n < 300) : tpu (tpu (tpu (tpu (uCp F q s s' n) (q + 3) (300 * s' + n) (F (q + 3) (300 * s + n))) (q + 4) (300 * s' + n) (F (q + 4) (300 * s + n))) (q + 5) (300 * s' + n) (F (q + 5) (300 * s + n))) (q + 6) (300 * s' + n) (F (q + 6) (300 * s + n)) = uCp F q s s' (n + 1) := by
  funext b j
  simp only [tpu, uCp]
  by_cases c : j = 300 * s' + n
  · subst c
    by_cases c6 : b = q + 6
    · subst c6; simp
    · by_cases c5 : b = q + 5
      · subst c5; simp
      · by_cases c4 : b = q + 4
        · subst c4; simp
        · by_cases c3 : b = q + 3
          · subst c3; simp
          · have e : ¬ (q + 3 ≤ b ∧ b ≤ q + 6) := by omega
            rw [if_neg (fun h => c6 h.1), if_neg (fun h => c5 h.1), if_neg (fun h => c4 h.1), if_neg (fun h => c3 h.1), if_neg (by omega), if_neg (by omega)]
  · have e : (q + 3 ≤ b ∧ b ≤ q + 6 ∧ 300 * s' ≤ j ∧ j < 300 * s' + (n + 1)) ↔ (q + 3 ≤ b ∧ b ≤ q + 6 ∧ 300 * s' ≤ j ∧ j < 300 * s' + n) := by omega
    simp only [c, and_false, if_false, e]
theorem p_cpy {h : tpH} {Q q s s' : Nat} (M : lMd h Q q) (hs : s < 42) (hs' : s' < 42) (hne : s ≠ s') {F : Nat → Nat → Int32} {R : tpH → Prop} (k : R (wI h (tpu (uCp F q s s' 300) (q + 2) s' (F (q + 2) s)))) : ∀ (n i : Nat), i ≤ 300 → 300 < n + i → w_Md_copyTree_2 R n Q (nI s) (nI s') (nI i) (wI h (uCp F q s s' i)) := by
  obtain ⟨r1, r2, r3⟩ := md_f M (j := 2) (kd := 15) (n := 42) (f := 5) (by decide)
  obtain ⟨k1, k2, k3⟩ := md_f M (j := 3) (kd := 15) (n := 12600) (f := 6) (by decide)
  obtain ⟨v1, v2, v3⟩ := md_f M (j := 4) (kd := 15) (n := 12600) (f := 7) (by decide)
  obtain ⟨l1, l2, l3⟩ := md_f M (j := 6) (kd := 15) (n := 12600) (f := 9) (by decide)
  obtain ⟨j1, j2, j3⟩ := md_f M (j := 5) (kd := 15) (n := 12600) (f := 8) (by decide)
  intro n
  induction n with
  | zero => intro i h1 h2; omega
  | succ n ih =>
    intro i h1 h2
    show b_Md_copyTree_2 R (w_Md_copyTree_2 R n) Q (nI s) (nI s') (nI i) (wI h (uCp F q s s' i))
    unfold b_Md_copyTree_2
    have e300 : (300 : Int32) = nI 300 := rfl
    refine ⟨fun e => ?_, fun e => ?_⟩
    · rw [e300, nI_le_iff (by omega) (by omega)] at e
      have e1 : i = 300 := by omega
      subst e1
      refine ⟨M.1, q + 2, r3, r1, by rw [wI_L, r2]; exact vp_in_nI hs (by decide), by rw [wI_L, r2]; exact vp_in_nI hs' (by decide), fun h8 e8 => ?_⟩
      rw [nI_clamp (by omega), nI_clamp (by omega), sI_w, wI_I] at e8
      have e9 : uCp F q s s' 300 (q + 2) s = F (q + 2) s := by
        simp only [uCp]
        rw [if_neg (by omega)]
      rw [e9] at e8
      subst e8
      exact k
    · have hi : i < 300 := by
        rw [e300, nI_le_iff (by omega) (by omega)] at e; omega
      refine ⟨M.1, q + 3, k3, k1, by rw [wI_L, k2, ix_e]; exact ix_v hs hi, by rw [wI_L, k2, ix_e]; exact ix_v hs' hi, fun h16 e16 => ?_⟩
      rw [ix_e, ix_e, ix_c hs hi, ix_c hs' hi, sI_w, wI_I, uCp_r F hne hi (by omega)] at e16
      subst e16
      refine ⟨q + 4, v3, v1, by rw [wI_L, v2, ix_e]; exact ix_v hs hi, by rw [wI_L, v2, ix_e]; exact ix_v hs' hi, fun h23 e23 => ?_⟩
      rw [ix_e, ix_e, ix_c hs hi, ix_c hs' hi, sI_w, wI_I, tpu_ne (b := q + 4) (by omega), uCp_r F hne hi (by omega)] at e23
      subst e23
      refine ⟨q + 5, j3, j1, by rw [wI_L, j2, ix_e]; exact ix_v hs hi, by rw [wI_L, j2, ix_e]; exact ix_v hs' hi, fun h30 e30 => ?_⟩
      rw [ix_e, ix_e, ix_c hs hi, ix_c hs' hi, sI_w, wI_I, tpu_ne (b := q + 5) (by omega), tpu_ne (b := q + 5) (by omega), uCp_r F hne hi (by omega)] at e30
      subst e30
      refine ⟨q + 6, l3, l1, by rw [wI_L, l2, ix_e]; exact ix_v hs hi, by rw [wI_L, l2, ix_e]; exact ix_v hs' hi, fun h37 e37 => ?_⟩
      rw [ix_e, ix_e, ix_c hs hi, ix_c hs' hi, sI_w, wI_I, tpu_ne (b := q + 6) (by omega), tpu_ne (b := q + 6) (by omega), tpu_ne (b := q + 6) (by omega), uCp_r F hne hi (by omega), uCp_s F hi] at e37
      subst e37
      rw [nI_1]
      exact ih (i + 1) (by omega) (by omega)
theorem p_Md_copyTree {h : tpH} {Q q s s' : Nat} (M : lMd h Q q) (hs : s < 42) (hs' : s' < 42) (hne : s ≠ s') {F : Nat → Nat → Int32} {R : tpH → Prop} (k : R (wI h (tpu (uCp F q s s' 300) (q + 2) s' (F (q + 2) s)))) : w_Md_copyTree Q (nI s) (nI s') (wI h F) R := by
  have k2 := p_cpy M hs hs' hne k 301 0 (by omega) (by omega)
  rw [uCp_0, nI_0] at k2
  exact ⟨301, k2⟩
theorem MtP_cp {F : Nat → Nat → Int32} {q s s' : Nat} {t : mT} (hw : tWF 300 t) (h : MtP F q s t) : MtP (tpu (uCp F q s s' 300) (q + 2) s' (F (q + 2) s)) q s' t := by
  have e : ∀ b x, q + 3 ≤ b → b ≤ q + 6 → x < 300 → tpu (uCp F q s s' 300) (q + 2) s' (F (q + 2) s) b (300 * s' + x) = F b (300 * s + x) := fun b x h1 h2 hx => by
    rw [tpu_ne (by omega)]
    simp only [uCp]
    rw [if_pos (by omega), show 300 * s' + x - 300 * s' = x by omega]
  exact MtP_mv hw h (tpu_s _ _ _ _) (fun x hx => e _ x (by omega) (by omega) hx) (fun x hx => e _ x (by omega) (by omega) hx) (fun x hx => e _ x (by omega) (by omega) hx) (fun x hx => e _ x (by omega) (by omega) hx)
/-! a new mark -/
def uNew (F : Nat → Nat → Int32) (Q q s k : Nat) (a v b : Int32) : Nat → Nat → Int32 :=
  tpu (tpu (tpu (tpu (tpu (tpu F (q + 0) k a) (q + 1) k b) (q + 4) (300 * s + k) v) (q + 5) (300 * s + k) (-1)) (q + 6) (300 * s + k) (-1)) Q 0 (nI (k + 1))
theorem p_Md_newMark {h : tpH} {Q q s k : Nat} (M : lMd h Q q) (hQ : Q < q) (hs : s < 42) (hk : k < 300) {F : Nat → Nat → Int32} (hm : F Q 0 = nI k) {a v b : Int32} {R : Int32 → tpH → Prop} (kk : R (nI k) (wI h (uNew F Q q s k a v b))) : w_Md_newMark Q (nI s) a v b (wI h F) R := by
  obtain ⟨a1, a2, a3⟩ := md_f M (j := 0) (kd := 15) (n := 300) (f := 1) (by decide)
  obtain ⟨b1, b2, b3⟩ := md_f M (j := 1) (kd := 15) (n := 300) (f := 2) (by decide)
  obtain ⟨v1, v2, v3⟩ := md_f M (j := 4) (kd := 15) (n := 12600) (f := 7) (by decide)
  obtain ⟨l1, l2, l3⟩ := md_f M (j := 6) (kd := 15) (n := 12600) (f := 9) (by decide)
  obtain ⟨j1, j2, j3⟩ := md_f M (j := 5) (kd := 15) (n := 12600) (f := 8) (by decide)
  unfold w_Md_newMark
  rw [wI_I, hm]
  refine ⟨M.1, q + 0, a3, a1, by rw [wI_L, a2]; exact vp_in_nI hk (by decide), fun h6 e6 => ?_⟩
  rw [nI_clamp (by omega), sI_w] at e6
  subst e6
  refine ⟨q + 1, b3, b1, by rw [wI_L, b2]; exact vp_in_nI hk (by decide), fun h12 e12 => ?_⟩
  rw [nI_clamp (by omega), sI_w] at e12
  subst e12
  refine ⟨q + 4, v3, v1, by rw [wI_L, v2, ix_e]; exact ix_v hs hk, fun h18 e18 => ?_⟩
  rw [ix_e, ix_c hs hk, sI_w] at e18
  subst e18
  refine ⟨q + 5, j3, j1, by rw [wI_L, j2, ix_e]; exact ix_v hs hk, fun h24 e24 => ?_⟩
  rw [ix_e, ix_c hs hk, sI_w] at e24
  subst e24
  refine ⟨q + 6, l3, l1, by rw [wI_L, l2, ix_e]; exact ix_v hs hk, fun h30 e30 => ?_⟩
  rw [ix_e, ix_c hs hk, sI_w] at e30
  subst e30
  intro h32 e32
  rw [wI_I, tpu_ne (b := Q) (by omega), tpu_ne (b := Q) (by omega), tpu_ne (b := Q) (by omega), tpu_ne (b := Q) (by omega), tpu_ne (b := Q) (by omega), hm, nI_1, sI_w] at e32
  subst e32
  exact kk
theorem MtL_new {F : Nat → Nat → Int32} {Q q s k : Nat} {t : mT} (hQ : Q < q) (hL : MtL F q s t) (hw : fWF 300 t) (hk : tIn t k = false) {a v b : Int32} : MtL (uNew F Q q s k a v b) q s (tSpr t k v) := by
  have r3 : uNew F Q q s k a v b (q + 3) = F (q + 3) := by
    unfold uNew
    rw [tpu_ne (by omega), tpu_ne (by omega), tpu_ne (by omega), tpu_ne (by omega), tpu_ne (by omega), tpu_ne (by omega)]
  have r4 : ∀ x, uNew F Q q s k a v b (q + 4) (300 * s + x) = if x = k then v else F (q + 4) (300 * s + x) := fun x => by
    unfold uNew
    rw [tpu_ne (b := q + 4) (by omega), tpu_ne (b := q + 4) (by omega), tpu_ne (b := q + 4) (by omega), tpu_row2, tpu_ne (b := q + 4) (by omega), tpu_ne (b := q + 4) (by omega)]
    by_cases c : x = k
    · rw [if_pos (by omega), if_pos c]
    · rw [if_neg (by omega), if_neg c]
  have r5 : ∀ x, uNew F Q q s k a v b (q + 5) (300 * s + x) = if x = k then -1 else F (q + 5) (300 * s + x) := fun x => by
    unfold uNew
    rw [tpu_ne (b := q + 5) (by omega), tpu_ne (b := q + 5) (by omega), tpu_row2, tpu_ne (b := q + 5) (by omega), tpu_ne (b := q + 5) (by omega), tpu_ne (b := q + 5) (by omega)]
    by_cases c : x = k
    · rw [if_pos (by omega), if_pos c]
    · rw [if_neg (by omega), if_neg c]
  have r6 : ∀ x, x ≠ k → uNew F Q q s k a v b (q + 6) (300 * s + x) = F (q + 6) (300 * s + x) := fun x hx => by
    unfold uNew
    rw [tpu_ne (b := q + 6) (by omega), tpu_row2, if_neg (by omega), tpu_ne (b := q + 6) (by omega), tpu_ne (b := q + 6) (by omega), tpu_ne (b := q + 6) (by omega), tpu_ne (b := q + 6) (by omega)]
  intro x hx
  have hx : mU (tIn t) k true x = true := hx
  refine ⟨?_, fun p hp => ?_, ?_⟩
  · show _ = mU (tWo t) k v x
    rw [r4]
    by_cases c : x = k
    · rw [if_pos c, c, mU_s]
    · rw [mU_n _ _ c] at hx ⊢
      rw [if_neg c]; exact (hL x hx).1
  · have hp : mU (tUp t) k none x = some p := hp
    rw [r3]
    by_cases c : x = k
    · rw [c, mU_s] at hp; simp at hp
    · rw [mU_n _ _ c] at hx hp
      exact (hL x hx).2.1 p hp
  · show seg _ _ (mU (tKi t) k [] x) (-1)
    rw [r5]
    by_cases c : x = k
    · rw [if_pos c, c, mU_s]; rfl
    · rw [mU_n _ _ c] at hx ⊢
      rw [if_neg c]
      refine seg_congr (fun y hy => r6 y (fun e => ?_)) (hL x hx).2.2
      have := (fKi_in hw hy).1
      rw [e, hk] at this; simp at this
/-! the child ahead of a place of the draft -/
theorem p_mAhe {h : tpH} {Q q : Nat} (M : lMd h Q q) {F : Nat → Nat → Int32} {R : Int32 → tpH → Prop} {K : Nat} (hK : K ≤ 300) : ∀ (n : Nat) (L A : List Nat) (v : Int32), seg (fun y => F (q + 6) (300 * 40 + y)) v L (-1) → (∀ x ∈ L, x < 300) → A.length ≤ K → K ≤ A.length + L.length → K < n + A.length → R (lastO (A ++ L.take (K - A.length))) (wI h F) → w_Md_aheadOf_14 R n Q (nI K) (lastO A) v (nI A.length) (wI h F) := by
  intro n
  induction n with
  | zero => intro L A v _ _ h1 h2 h3; omega
  | succ n ih =>
    intro L A v hv h3 h1 h2 hn k
    show b_Md_aheadOf_14 R (w_Md_aheadOf_14 R n) Q (nI K) (lastO A) v (nI A.length) (wI h F)
    unfold b_Md_aheadOf_14
    rw [nI_le_iff (by omega) (by omega)]
    refine ⟨fun e => ?_, fun e => ⟨M.1, ?_⟩⟩
    · rw [show K - A.length = 0 by omega, List.take_zero, List.append_nil] at k
      exact k
    · cases L with
      | nil => simp at h2; omega
      | cons c L =>
        obtain ⟨e2, hv⟩ := hv
        subst e2
        have hc := h3 c List.mem_cons_self
        simp only [List.length_cons] at h2
        show w_Md_nextIn Q (nI 40) (nI c) (wI h F) _
        rw [e_Md_nextIn M (by decide) hc, nI_1]
        have e3 : K - A.length = (K - (A ++ [c]).length) + 1 := by rw [List.length_append]; simp; omega
        rw [e3, List.take_succ_cons, ← List.singleton_append, ← List.append_assoc] at k
        have k2 := ih L (A ++ [c]) _ hv (fun x hx => h3 x (List.mem_cons_of_mem _ hx)) (by rw [List.length_append]; simp; omega) (by rw [List.length_append]; simp; omega) (by rw [List.length_append]; simp; omega) k
        rw [lastO_app, List.length_append] at k2
        exact k2
theorem p_Md_aheadOf {h : tpH} {Q q p : Nat} (M : lMd h Q q) {F : Nat → Nat → Int32} {t : mT} (hL : nodeM F q 40 t p) (hw : fWF 300 t) (hp : tIn t p = true) {K : Nat} (hK : K ≤ (tKi t p).length) {R : Int32 → tpH → Prop} (k : R (lastO ((tKi t p).take K)) (wI h F)) : w_Md_aheadOf Q (nI p) (nI K) (wI h F) R := by
  have h1 := ki_len hw p
  have h2 := tCn_le t
  refine ⟨M.1, ?_⟩
  show w_Md_firstIn Q (nI 40) (nI p) (wI h F) _
  rw [e_Md_firstIn M (by decide) (hw.1 p hp)]
  exact ⟨K + 1, p_mAhe M (by omega) _ (tKi t p) [] _ hL.2.2 (fun x hx => hw.1 x (fKi_in hw hx).1) (Nat.zero_le _) (by simpa using hK) (by simp) k⟩
end MCOPY
