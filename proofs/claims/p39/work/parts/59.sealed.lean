section PTREE59
def lTr (h : tpH) (a n mk : Nat) : Prop :=
  hT h a = 12 ∧
  (hR h a 1 = some (a + 1) ∧ rwL h (a + 1) (a + 2) n) ∧
  (hR h a 2 = some (a + 3) ∧ rwL h (a + 3) (a + 4) n) ∧
  (hR h a 3 = some (a + 5) ∧ rwL h (a + 5) (a + 6) n) ∧
  (hR h a 4 = some (a + 7) ∧ rwL h (a + 7) (a + 8) n) ∧
  (hR h a 5 = some (a + 9) ∧ rwL h (a + 9) (a + 10) n) ∧
  (hR h a 6 = some (a + 11) ∧ rwL h (a + 11) (a + 12) n) ∧
  (hR h a 7 = some (a + 13) ∧ rwL h (a + 13) (a + 14) n) ∧
  (hR h a 8 = some (a + 15) ∧ rwL h (a + 15) (a + 16) n) ∧
  (hR h a 9 = some (a + 17) ∧ rwL h (a + 17) (a + 18) mk)
theorem lTr_k {h h' : tpH} {a n mk : Nat} (M : lTr h a n mk) (k : ∀ b, a ≤ b → b < a + 19 → hSm h h' b) : lTr h' a n mk := by
  obtain ⟨m0, w1, w2, w3, w4, w5, w6, w7, w8, w9⟩ := M
  obtain ⟨k1, k2, k3, k4, -, -⟩ := k a (by omega) (by omega)
  exact ⟨by rw [k1]; exact m0, ⟨by rw [k3]; exact w1.1, rwL_k w1.2 (k _ (by omega) (by omega)) (k _ (by omega) (by omega))⟩, ⟨by rw [k3]; exact w2.1, rwL_k w2.2 (k _ (by omega) (by omega)) (k _ (by omega) (by omega))⟩, ⟨by rw [k3]; exact w3.1, rwL_k w3.2 (k _ (by omega) (by omega)) (k _ (by omega) (by omega))⟩, ⟨by rw [k3]; exact w4.1, rwL_k w4.2 (k _ (by omega) (by omega)) (k _ (by omega) (by omega))⟩, ⟨by rw [k3]; exact w5.1, rwL_k w5.2 (k _ (by omega) (by omega)) (k _ (by omega) (by omega))⟩, ⟨by rw [k3]; exact w6.1, rwL_k w6.2 (k _ (by omega) (by omega)) (k _ (by omega) (by omega))⟩, ⟨by rw [k3]; exact w7.1, rwL_k w7.2 (k _ (by omega) (by omega)) (k _ (by omega) (by omega))⟩, ⟨by rw [k3]; exact w8.1, rwL_k w8.2 (k _ (by omega) (by omega)) (k _ (by omega) (by omega))⟩, ⟨by rw [k3]; exact w9.1, rwL_k w9.2 (k _ (by omega) (by omega)) (k _ (by omega) (by omega))⟩⟩
theorem e_Tr_markOf {h : tpH} {a n mk : Nat} (l : lTr h a n mk) (hn : n ≤ 300) (hk : mk ≤ 300) (F : Nat → Nat → Int32) (i : Int32) (R : Int32 → tpH → Prop) : w_Tr_markOf a i (wI h F) R = R (rAt (F (a + 2)) n (i)) (wI h F) := by
  obtain ⟨l0, ⟨a1, b1⟩, -⟩ := l
  unfold w_Tr_markOf
  simp only [wI_T, wI_R, wI_I, l0, a1, b1.1, Option.some.injEq, exists_eq_left', true_and, e_at b1 (show n < 2 ^ 31 by omega)]
theorem e_Tr_worthOf {h : tpH} {a n mk : Nat} (l : lTr h a n mk) (hn : n ≤ 300) (hk : mk ≤ 300) (F : Nat → Nat → Int32) (i : Int32) (R : Int32 → tpH → Prop) : w_Tr_worthOf a i (wI h F) R = R (rAt (F (a + 4)) n (i)) (wI h F) := by
  obtain ⟨l0, -, ⟨a2, b2⟩, -⟩ := l
  unfold w_Tr_worthOf
  simp only [wI_T, wI_R, wI_I, l0, a2, b2.1, Option.some.injEq, exists_eq_left', true_and, e_at b2 (show n < 2 ^ 31 by omega)]
theorem e_Tr_upOf {h : tpH} {a n mk : Nat} (l : lTr h a n mk) (hn : n ≤ 300) (hk : mk ≤ 300) (F : Nat → Nat → Int32) (i : Int32) (R : Int32 → tpH → Prop) : w_Tr_upOf a i (wI h F) R = R (rAt (F (a + 6)) n (i)) (wI h F) := by
  obtain ⟨l0, -, -, ⟨a3, b3⟩, -⟩ := l
  unfold w_Tr_upOf
  simp only [wI_T, wI_R, wI_I, l0, a3, b3.1, Option.some.injEq, exists_eq_left', true_and, e_at b3 (show n < 2 ^ 31 by omega)]
theorem e_Tr_placeOf {h : tpH} {a n mk : Nat} (l : lTr h a n mk) (hn : n ≤ 300) (hk : mk ≤ 300) (F : Nat → Nat → Int32) (i : Int32) (R : Int32 → tpH → Prop) : w_Tr_placeOf a i (wI h F) R = R (rAt (F (a + 18)) mk (i)) (wI h F) := by
  obtain ⟨l0, -, -, -, -, -, -, -, -, ⟨a9, b9⟩⟩ := l
  unfold w_Tr_placeOf
  simp only [wI_T, wI_R, wI_I, l0, a9, b9.1, Option.some.injEq, exists_eq_left', true_and, e_at b9 (show mk < 2 ^ 31 by omega)]
theorem e_Tr_rankOf {h : tpH} {a n mk : Nat} (l : lTr h a n mk) (hn : n ≤ 300) (hk : mk ≤ 300) (F : Nat → Nat → Int32) (i : Int32) (R : Int32 → tpH → Prop) : w_Tr_rankOf a i (wI h F) R = R (rAt (F (a + 10)) n (i)) (wI h F) := by
  obtain ⟨l0, -, -, -, -, ⟨a5, b5⟩, -⟩ := l
  unfold w_Tr_rankOf
  simp only [wI_T, wI_R, wI_I, l0, a5, b5.1, Option.some.injEq, exists_eq_left', true_and, e_at b5 (show n < 2 ^ 31 by omega)]
theorem e_Tr_kidsOf {h : tpH} {a n mk : Nat} (l : lTr h a n mk) (hn : n ≤ 300) (hk : mk ≤ 300) (F : Nat → Nat → Int32) (i : Int32) (R : Int32 → tpH → Prop) : w_Tr_kidsOf a i (wI h F) R = R (rAt (F (a + 14)) n (i)) (wI h F) := by
  obtain ⟨l0, -, -, -, -, -, -, ⟨a7, b7⟩, -⟩ := l
  unfold w_Tr_kidsOf
  simp only [wI_T, wI_R, wI_I, l0, a7, b7.1, Option.some.injEq, exists_eq_left', true_and, e_at b7 (show n < 2 ^ 31 by omega)]
theorem e_Tr_holds {h : tpH} {a n mk : Nat} (l : lTr h a n mk) (hn : n ≤ 300) (hk : mk ≤ 300) (F : Nat → Nat → Int32) (i : Int32) (R : Int32 → tpH → Prop) : w_Tr_holds a i (wI h F) R = R (if rAt (F (a + 18)) mk (i) = -1 then 0 else 1) (wI h F) := by
  obtain ⟨l0, -, -, -, -, -, -, -, -, ⟨a9, b9⟩⟩ := l
  unfold w_Tr_holds
  simp only [wI_T, wI_R, wI_I, l0, a9, b9.1, Option.some.injEq, exists_eq_left', true_and, e_at b9 (show mk < 2 ^ 31 by omega)]
  by_cases c : rAt (F (a + 18)) mk (i) = -1 <;> simp [c]
theorem e_Tr_worthOfMark {h : tpH} {a n mk : Nat} (l : lTr h a n mk) (hn : n ≤ 300) (hk : mk ≤ 300) (F : Nat → Nat → Int32) (i : Int32) (R : Int32 → tpH → Prop) : w_Tr_worthOfMark a i (wI h F) R = R (rAt (F (a + 4)) n (rAt (F (a + 18)) mk (i))) (wI h F) := by
  obtain ⟨l0, -, ⟨a2, b2⟩, -, -, -, -, -, -, ⟨a9, b9⟩⟩ := l
  unfold w_Tr_worthOfMark
  simp only [wI_T, wI_R, wI_I, l0, a2, b2.1, a9, b9.1, Option.some.injEq, exists_eq_left', true_and, e_at b2 (show n < 2 ^ 31 by omega), e_at b9 (show mk < 2 ^ 31 by omega)]
theorem e_Tr_parentOfMark {h : tpH} {a n mk : Nat} (l : lTr h a n mk) (hn : n ≤ 300) (hk : mk ≤ 300) (F : Nat → Nat → Int32) (i : Int32) (R : Int32 → tpH → Prop) : w_Tr_parentOfMark a i (wI h F) R = R (rAt (F (a + 2)) n (rAt (F (a + 6)) n (rAt (F (a + 18)) mk (i)))) (wI h F) := by
  obtain ⟨l0, ⟨a1, b1⟩, -, ⟨a3, b3⟩, -, -, -, -, -, ⟨a9, b9⟩⟩ := l
  unfold w_Tr_parentOfMark
  simp only [wI_T, wI_R, wI_I, l0, a1, b1.1, a3, b3.1, a9, b9.1, Option.some.injEq, exists_eq_left', true_and, e_at b1 (show n < 2 ^ 31 by omega), e_at b3 (show n < 2 ^ 31 by omega), e_at b9 (show mk < 2 ^ 31 by omega)]
theorem e_Tr_hasUnder {h : tpH} {a n mk : Nat} (l : lTr h a n mk) (hn : n ≤ 300) (hk : mk ≤ 300) (F : Nat → Nat → Int32) (i p : Int32) (R : Int32 → tpH → Prop) : w_Tr_hasUnder a i p (wI h F) R = R (if rAt (F (a + 18)) mk (i) = -1 then 0 else if rAt (F (a + 2)) n (rAt (F (a + 6)) n (rAt (F (a + 18)) mk (i))) = p then 1 else 0) (wI h F) := by
  obtain ⟨l0, ⟨a1, b1⟩, -, ⟨a3, b3⟩, -, -, -, -, -, ⟨a9, b9⟩⟩ := l
  unfold w_Tr_hasUnder
  simp only [wI_T, wI_R, wI_I, l0, a1, b1.1, a3, b3.1, a9, b9.1, Option.some.injEq, exists_eq_left', true_and, e_at b1 (show n < 2 ^ 31 by omega), e_at b3 (show n < 2 ^ 31 by omega), e_at b9 (show mk < 2 ^ 31 by omega)]
  by_cases c : rAt (F (a + 18)) mk (i) = -1 <;> by_cases c2 : rAt (F (a + 2)) n (rAt (F (a + 6)) n (rAt (F (a + 18)) mk (i))) = p <;> simp [c, c2]
theorem e_Tr_kid {h : tpH} {a n mk : Nat} (l : lTr h a n mk) (hn : n ≤ 300) (hk : mk ≤ 300) (F : Nat → Nat → Int32) (i r : Int32) (R : Int32 → tpH → Prop) : w_Tr_kid a i r (wI h F) R = R (if r < 0 then -1 else if rAt (F (a + 14)) n (i) ≤ r then -1 else rAt (F (a + 16)) n (rAt (F (a + 12)) n (i) + r)) (wI h F) := by
  obtain ⟨l0, -, -, -, -, -, ⟨a6, b6⟩, ⟨a7, b7⟩, ⟨a8, b8⟩, -⟩ := l
  unfold w_Tr_kid
  simp only [wI_T, wI_R, wI_I, l0, a6, b6.1, a7, b7.1, a8, b8.1, Option.some.injEq, exists_eq_left', true_and, e_at b6 (show n < 2 ^ 31 by omega), e_at b7 (show n < 2 ^ 31 by omega), e_at b8 (show n < 2 ^ 31 by omega)]
  by_cases c : r < 0 <;> by_cases c2 : rAt (F (a + 14)) n (i) ≤ r <;> simp [c, c2]
def uFill (F : Nat → Nat → Int32) (a n mk : Nat) (i m w p : Int32) : Nat → Nat → Int32 :=
  let u := rAt (F (a + 18)) mk p
  let r := if u = -1 then 0 else rAt (F (a + 14)) n u
  rPut (rPut (rPut (rPut (rPut (rPut (rPut F (a + 2) n i m) (a + 4) n i w) (a + 6) n i u) (a + 10) n i r) (a + 8) n i (i + 1)) (a + 14) n u (r + 1)) (a + 18) mk m i
theorem e_Tr_fillPlace {h : tpH} {a n mk : Nat} (l : lTr h a n mk) (hn : n ≤ 300) (hk : mk ≤ 300) (F : Nat → Nat → Int32) (i m w p : Int32) (R : tpH → Prop) : w_Tr_fillPlace a i m w p (wI h F) R = R (wI h (uFill F a n mk i m w p)) := by
  have lp := @e_Tr_placeOf h a n mk l hn hk F p
  obtain ⟨l0, ⟨a1, b1⟩, ⟨a2, b2⟩, ⟨a3, b3⟩, ⟨a4, b4⟩, ⟨a5, b5⟩, -, ⟨a7, b7⟩, -, ⟨a9, b9⟩⟩ := l
  unfold w_Tr_fillPlace w_Tr_fillPlace_27 uFill
  rw [lp]
  by_cases c : rAt (F (a + 18)) mk p = -1 <;> simp only [c, if_true, if_false, wI_T, wI_R, wI_I, l0, a1, b1.1, a2, b2.1, a3, b3.1, a4, b4.1, a5, b5.1, a7, b7.1, a9, b9.1, Option.some.injEq, exists_eq_left', true_and, and_true, not_true_eq_false, not_false_eq_true, false_imp_iff, true_imp_iff, e_at b7 (show n < 2 ^ 31 by omega), e_put b1 (show n < 2 ^ 31 by omega), e_put b2 (show n < 2 ^ 31 by omega), e_put b3 (show n < 2 ^ 31 by omega), e_put b4 (show n < 2 ^ 31 by omega), e_put b5 (show n < 2 ^ 31 by omega), e_put b7 (show n < 2 ^ 31 by omega), e_put b9 (show mk < 2 ^ 31 by omega)]
def trN (sz : Nat → Nat) : Nat → Nat
  | 0 => 0
  | i + 1 => trN sz i + (2 + sz i)
def trS (g h : tpH) (o : Nat) (sz : Nat → Nat) (i : Nat) : Prop :=
  hZ h = hZ g + 2 * i ∧ hU h = hU g + trN sz i ∧ (∀ b, b < hZ g → b ≠ o → hSm g h b) ∧ hT h o = 12 ∧ (∀ j, hI h o j = hI g o j) ∧
  (∀ j, j < i → hR h o (j + 1) = some (hZ g + 2 * j) ∧ rwL h (hZ g + 2 * j) (hZ g + 2 * j + 1) (sz j) ∧ ∀ q, hI h (hZ g + 2 * j + 1) q = 0)
theorem trS_st {g h : tpH} {o : Nat} {sz : Nat → Nat} {i : Nat} (ho : o < hZ g) (H0 : trS g h o sz i) {x : Int32} (hx : x = nI (sz i)) (h0 : 0 < sz i) (h1 : sz i ≤ 1000000) {K : tpH → Prop} (k : ∀ h', trS g h' o sz (i + 1) → K h') :
    ∀ a1 h2, a1 = hZ h → h2 = nC h 8 0 2 → w_Ro_init a1 x h2 (fun h5 => hT h5 o = 12 ∧ (∀ h7, h7 = sR h5 o (i + 1) (some a1) → K h7)) := by
  intro a1 h2 e1 e2
  subst e1 e2
  obtain ⟨z, u, f, t, q, w⟩ := H0
  refine p_Ro_init hx h0 h1 (fun h5 M => ?_)
  obtain ⟨mz, mu, mf, mr, -, m0⟩ := M
  have so := mf o (by omega)
  refine ⟨so.1.trans t, fun h7 e7 => k h7 ?_⟩
  subst e7
  refine ⟨by rw [hZ_sR]; omega, by rw [hU_sR, mu, u]; show _ = hU g + (trN sz i + (2 + sz i)); omega, fun b hb hbo => hSm_tr (f b hb hbo) (hSm_tr (mf b (by omega)) (hSm_sR _ _ _ _ _ hbo)), so.1.trans t, fun j => by rw [hI_sR, so.2.2.2.1]; exact q j, fun j hj => ?_⟩
  by_cases e : j = i
  · subst e
    refine ⟨by rw [hR_sR, tpu_row2, if_pos rfl, z], ?_, fun y => ?_⟩
    · have := rwL_k mr (hSm_sR h5 o (j + 1) (some (hZ h)) _ (by omega)) (hSm_sR h5 o (j + 1) (some (hZ h)) _ (by omega))
      rw [z] at this ⊢
      exact this
    · rw [hI_sR, ← z]; exact m0 y
  · obtain ⟨w1, w2, w3⟩ := w j (by omega)
    have s1 : hSm h (sR h5 o (i + 1) (some (hZ h))) (hZ g + 2 * j) := hSm_tr (mf _ (by omega)) (hSm_sR _ _ _ _ _ (by omega))
    have s2 : hSm h (sR h5 o (i + 1) (some (hZ h))) (hZ g + 2 * j + 1) := hSm_tr (mf _ (by omega)) (hSm_sR _ _ _ _ _ (by omega))
    exact ⟨by rw [hR_sR, tpu_row2, if_neg (by omega), so.2.2.1]; exact w1, rwL_k w2 s1 s2, fun y => by rw [s2.2.2.2.1]; exact w3 y⟩
def newTr (g h : tpH) (n mk : Nat) : Prop :=
  lTr h (hZ g) n mk ∧ hZ h = hZ g + 19 ∧ hU h = hU g + (28 + 8 * n + mk) ∧ (∀ b, b < hZ g → hSm g h b) ∧ hI h (hZ g) 0 = nI n ∧ (∀ j, j < 8 → ∀ q, hI h (hZ g + 2 + 2 * j) q = 0) ∧ (∀ q, q < mk → hI h (hZ g + 18) q = -1)
theorem p_Tr_init {g : tpH} {n mk : Nat} {R : tpH → Prop} (n0 : 0 < n) (n1 : n ≤ 300) (m0 : 0 < mk) (m1 : mk ≤ 300) (k : ∀ h', newTr g h' n mk → R h') : w_Tr_init (hZ g) (nI n) (nI mk) (nC g 12 0 10) R := by
  have nn := nC_new g 12 0 10
  unfold w_Tr_init
  refine ⟨nn.1, fun h2 e2 => ?_⟩
  have z2 : hZ h2 = hZ g + 1 := by rw [e2]; rfl
  have u2 : hU h2 = hU g + 10 := by rw [e2]; rfl
  have ho : hZ g < hZ h2 := by omega
  have H0 : trS h2 h2 (hZ g) (fun j => if j = 8 then mk else n) 0 := ⟨rfl, rfl, fun b _ _ => hSm_rf _ b, by rw [e2]; exact nn.1, fun _ => rfl, fun j hj => absurd hj (Nat.not_lt_zero j)⟩
  refine trS_st ho H0 (i := 0) (show nI n = nI n from rfl) n0 (show n ≤ 1000000 by omega) (fun h0x H1 => ?_)
  clear H0
  refine trS_st ho H1 (i := 1) (show nI n = nI n from rfl) n0 (show n ≤ 1000000 by omega) (fun h1x H2 => ?_)
  clear H1
  refine trS_st ho H2 (i := 2) (show nI n = nI n from rfl) n0 (show n ≤ 1000000 by omega) (fun h2x H3 => ?_)
  clear H2
  refine trS_st ho H3 (i := 3) (show nI n = nI n from rfl) n0 (show n ≤ 1000000 by omega) (fun h3x H4 => ?_)
  clear H3
  refine trS_st ho H4 (i := 4) (show nI n = nI n from rfl) n0 (show n ≤ 1000000 by omega) (fun h4x H5 => ?_)
  clear H4
  refine trS_st ho H5 (i := 5) (show nI n = nI n from rfl) n0 (show n ≤ 1000000 by omega) (fun h5x H6 => ?_)
  clear H5
  refine trS_st ho H6 (i := 6) (show nI n = nI n from rfl) n0 (show n ≤ 1000000 by omega) (fun h6x H7 => ?_)
  clear H6
  refine trS_st ho H7 (i := 7) (show nI n = nI n from rfl) n0 (show n ≤ 1000000 by omega) (fun h7x H8 => ?_)
  clear H7
  refine trS_st ho H8 (i := 8) (show nI mk = nI mk from rfl) m0 (show mk ≤ 1000000 by omega) (fun h8x H9 => ?_)
  clear H8
  obtain ⟨z, u, f, t, q, w⟩ := H9
  have w9 := w 8 (by decide)
  refine ⟨hZ h2 + 16, w9.1, w9.2.1.1, ?_⟩
  refine p_fill (h := h8x) w9.2.1 (show (if (8 : Nat) = 8 then mk else n) < 2 ^ 31 by rw [if_pos rfl]; omega) (Nat.le_refl mk) (k _ ?_)
  refine ⟨?_, ?_, ?_, fun b hb => ?_, ?_, fun j hj y => ?_, fun y hy => ?_⟩
  · have e : ∀ j, j < 9 → hR h8x (hZ g) (j + 1) = some (hZ g + (2 * j + 1)) ∧ rwL h8x (hZ g + (2 * j + 1)) (hZ g + (2 * j + 2)) (if j = 8 then mk else n) := fun j hj => by
      have := w j hj
      rw [z2] at this
      rw [show hZ g + (2 * j + 1) = hZ g + 1 + 2 * j by omega, show hZ g + (2 * j + 2) = hZ g + 1 + 2 * j + 1 by omega]
      exact ⟨this.1, this.2.1⟩
    exact ⟨t, e 0 (by decide), e 1 (by decide), e 2 (by decide), e 3 (by decide), e 4 (by decide), e 5 (by decide), e 6 (by decide), e 7 (by decide), e 8 (by decide)⟩
  · show hZ h8x = _
    omega
  · show hU h8x = _
    have e : trN (fun j => if j = 8 then mk else n) 9 = 18 + 8 * n + mk := by
      show 0 + (2 + n) + (2 + n) + (2 + n) + (2 + n) + (2 + n) + (2 + n) + (2 + n) + (2 + n) + (2 + mk) = _
      omega
    rw [u, e, u2]; omega
  · have h1 : hSm g h8x b := by
      refine hSm_tr (hSm_nC g 12 0 10 b hb) (hSm_tr ?_ (f b (by omega) (by omega)))
      rw [e2]; exact hSm_sI _ _ _ _ _ (by omega)
    obtain ⟨c1, c2, c3, c4, c5, c6⟩ := h1
    refine ⟨c1, c2, c3, ?_, c5, c6⟩
    show rFill (hI h8x) (hZ h2 + 2 * 8 + 1) mk (-1) b = _
    rw [rFill_ne (by omega)]; exact c4
  · show rFill (hI h8x) (hZ h2 + 2 * 8 + 1) mk (-1) (hZ g) 0 = _
    rw [rFill_ne (by omega), q 0, e2]
    exact tpu_s _ _ _ _
  · show rFill (hI h8x) (hZ h2 + 2 * 8 + 1) mk (-1) (hZ g + 2 + 2 * j) y = 0
    have := (w j (by omega)).2.2 y
    rw [rFill_ne (by omega), show hZ g + 2 + 2 * j = hZ h2 + 2 * j + 1 by omega]
    exact this
  · show rFill (hI h8x) (hZ h2 + 2 * 8 + 1) mk (-1) (hZ g + 18) y = -1
    rw [show hZ g + 18 = hZ h2 + 2 * 8 + 1 by omega]
    exact rFill_in hy
end PTREE59
