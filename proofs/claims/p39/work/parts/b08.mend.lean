section MMEND
def rsP (F : Nat → Nat → Int32) (p i : Nat) (s : mgS) : Prop := ∀ m, m < i → F (p + 73) m = (if sIn s m = true then 1 else 0) ∧ (sIn s m = true → F (p + 75) m = sWo s m) ∧ F (p + 77) m = nO (sUp s m)
theorem rsP_k {F G : Nat → Nat → Int32} {p i : Nat} {s : mgS} (H : rsP F p i s) (k : ∀ c, c = p + 73 ∨ c = p + 75 ∨ c = p + 77 → G c = F c) : rsP G p i s := fun m hm => by
  rw [k (p + 73) (by omega), k (p + 75) (by omega), k (p + 77) (by omega)]
  exact H m hm
theorem find_rg {p : Nat → Bool} : ∀ (w i : Nat), i < w → p i = true → (∀ j, j < i → p j = false) → (List.range w).find? p = some i
  | 0, i, h1, h2, h3 => by omega
  | w + 1, i, h1, h2, h3 => by
    rw [List.range_succ, List.find?_append]
    by_cases c : i < w
    · rw [find_rg w i c h2 h3]
      rfl
    · have e : i = w := by omega
      have n : (List.range w).find? p = none := List.find?_eq_none.mpr (fun x hx => by
        rw [h3 x (by have := List.mem_range.mp hx; omega)]
        exact Bool.false_ne_true)
      rw [n, ← e, List.find?_cons, h2]
      rfl
theorem find_rn {p : Nat → Bool} {mk : Nat} (h : ∀ j, j < mk → p j = false) : (List.range mk).find? p = none := List.find?_eq_none.mpr (fun x hx => by
  rw [h x (List.mem_range.mp hx)]
  exact Bool.false_ne_true)
theorem up_lt {mk R : Nat} {po : Nat → Int32} {b l r : mT} (H : mgH mk R b l r) {s : mgS} (I : mgI mk R po b l r s) {m q : Nat} (h : sUp s m = some q) : q < mk := by
  rcases mg_par H (I.2.2.1 m q h) with g | g | g
  · exact H.2.2.2.1 q g
  · exact H.2.2.2.2.1 q g
  · exact H.2.2.2.2.2 q g
theorem it_lt {mk R : Nat} {po : Nat → Int32} {b l r : mT} (H : mgH mk R b l r) {s : mgS} (I : mgI mk R po b l r s) {m : Nat} (hm : m < mk) : ∀ n x, itU (sUp s) n m = some x → x < mk
  | 0, x, h => by
    have h : some m = some x := h
    rw [← Option.some.inj h]
    exact hm
  | n + 1, x, h => by
    rw [itU_1] at h
    cases e : itU (sUp s) n m with
    | none => rw [e] at h; cases h
    | some y => rw [e] at h; exact up_lt H I h
variable {x p D z0 mk e0 e1 a1 k1 a2 k2 a3 k3 : Nat} {kd idn po : Nat → Int32} {b l r : mT}
theorem p_lost2 {h : tpH} {s : mgS} {R0 : Nat} (X : mX h x p D z0 mk e0 e1 kd idn po) (HH : mgH mk R0 b l r) (I : mgI mk R0 po b l r s) (W : rsP (hI h) p mk s) {R : Int32 → tpH → Prop} (k1' : ∀ m q, orpO mk s = some m → sUp s m = some q → R (nI q) h) (k0 : orpO mk s = none → R (-1) h) : ∀ (n i : Nat), i ≤ mk → mk < n + i → (∀ j, j < i → orpB s j = false) → w_Mg_lowestLost_2 R n (p + 69) (nI i) h
  | 0, i, h1, h2, A => by omega
  | n + 1, i, h1, h2, A => by
    obtain ⟨g0, ⟨rm, lm⟩, _, ⟨r3, w3⟩, _, ⟨r5, w5⟩, _⟩ := mgRw X.1.1
    have hk := X.2.2.1
    refine ⟨g0, p, rm, lm.1, ?_⟩
    rw [X.2.1.1]
    by_cases hi : i < mk
    · obtain ⟨w1, _, w2⟩ := W i hi
      refine ⟨fun g => absurd ((nI_le_iff (by omega) (by omega)).mp g) (by omega), fun _ => ⟨p + 76, r5, w5.1, p_at w5 (by decide) ⟨g0, p + 72, r3, w3.1, p_at w3 (by decide) ?_⟩⟩⟩
      rw [rAt_n (by omega) (by decide), rAt_n (by omega) (by decide), w1, w2, nI_1]
      have next : orpB s i = false → w_Mg_lowestLost_2 R n (p + 69) (nI (i + 1)) h := fun e => p_lost2 X HH I W k1' k0 n (i + 1) (by omega) (by omega) (fun j hj => by
        by_cases c : j = i
        · rw [c]; exact e
        · exact A j (by omega))
      cases ei : sIn s i with
      | false =>
        rw [if_neg Bool.false_ne_true]
        exact ⟨fun _ => next (by unfold orpB; rw [ei]; rfl), fun g => absurd g (by decide)⟩
      | true =>
        rw [if_pos rfl]
        refine ⟨fun g => absurd rfl g, fun _ => ?_⟩
        cases eu : sUp s i with
        | none => exact ⟨fun _ => next (by unfold orpB; rw [ei, eu]; rfl), fun g => absurd rfl g⟩
        | some q =>
          have q1 := up_lt HH I eu
          refine ⟨fun g => absurd g (nI_ne_m (by omega)), fun _ => ⟨g0, p + 72, r3, w3.1, p_at w3 (by decide) ?_⟩⟩
          show (rAt (hI h (p + 73)) 300 (nI q) = 1 → _) ∧ (¬ rAt (hI h (p + 73)) 300 (nI q) = 1 → R (nI q) h)
          rw [rAt_n (by omega) (by decide), (W q q1).1]
          cases eq : sIn s q with
          | true =>
            rw [if_pos rfl]
            exact ⟨fun _ => next (by unfold orpB; rw [ei, eu]; show (true && !sIn s q) = false; rw [eq]; rfl), fun g => absurd rfl g⟩
          | false =>
            rw [if_neg Bool.false_ne_true]
            refine ⟨fun g => absurd g (by decide), fun _ => k1' i q (find_rg mk i hi ?_ A) eu⟩
            unfold orpB
            rw [ei, eu]
            show (true && !sIn s q) = true
            rw [eq]
            rfl
    · exact ⟨fun _ => k0 (find_rn (fun j hj => A j (by omega))), fun g => absurd ((nI_le_iff (by omega) (by omega)).mpr (by omega)) g⟩
theorem p_ring11 {h : tpH} {s : mgS} {R0 m : Nat} (X : mX h x p D z0 mk e0 e1 kd idn po) (HH : mgH mk R0 b l r) (I : mgI mk R0 po b l r s) (W : rsP (hI h) p mk s) (hm : m < mk) {R : Int32 → tpH → Prop} (k1' : isRg (sUp s) m → R 1 h) (k0 : ¬ isRg (sUp s) m → R 0 h) : ∀ (n i : Nat), i ≤ 300 → 300 < n + i → (∀ j, j < i → itU (sUp s) (j + 1) m ≠ some m) → w_Mg_isInRing_11 R n (p + 69) (nI m) (nO (itU (sUp s) (i + 1) m)) (nI i) h
  | 0, i, h1, h2, A => by omega
  | n + 1, i, h1, h2, A => by
    obtain ⟨g0, _, _, _, _, ⟨r5, w5⟩, _⟩ := mgRw X.1.1
    have hk := X.2.2.1
    have lt := it_lt HH I hm
    have e3 : (300 : Int32) = nI 300 := rfl
    by_cases hi : i < 300
    · refine ⟨fun g => absurd ((nI_le_iff (a := 300) (by decide) (by omega)).mp g) (by omega), fun _ => ?_⟩
      cases e : itU (sUp s) (i + 1) m with
      | none =>
        refine ⟨fun _ => k0 (fun q => ?_), fun g => absurd rfl g⟩
        obtain ⟨k, k1, k2, _⟩ := ring_bd q lt
        by_cases c : k < i
        · exact A k c k2
        · have e2 := itU_add (up := sUp s) (i + 1) (k - i) m
          rw [show i + 1 + (k - i) = k + 1 by omega, k2, e] at e2
          cases e2
      | some y =>
        have y1 := lt _ y e
        refine ⟨fun g => absurd g (nI_ne_m (by omega)), fun _ => ⟨fun g => ⟨g0, p + 76, r5, w5.1, p_at w5 (by decide) ?_⟩, fun g => k1' ⟨i, ?_⟩⟩⟩
        · show w_Mg_isInRing_11 R n (p + 69) (nI m) (rAt (hI h (p + 77)) 300 (nI y)) (nI i + 1) h
          rw [rAt_n (by omega) (by decide), (W y y1).2.2, nI_1]
          have en : itU (sUp s) (i + 1 + 1) m = sUp s y := by rw [itU_1, e]; rfl
          rw [← en]
          refine p_ring11 X HH I W hm k1' k0 n (i + 1) (by omega) (by omega) (fun j hj => ?_)
          by_cases c : j = i
          · rw [c, e]
            exact fun z => g (by rw [Option.some.inj z]; rfl)
          · exact A j (by omega)
        · have : y = m := nI_inj (by omega) (by omega) g
          rw [e, this]
    · refine ⟨fun _ => k0 (fun q => ?_), fun g => absurd ((nI_le_iff (a := 300) (by decide) (by omega)).mpr (by omega)) g⟩
      obtain ⟨k, k1, k2, _⟩ := ring_bd q lt
      exact A k (by omega) k2
theorem p_rlow2 {h : tpH} {s : mgS} {R0 : Nat} (X : mX h x p D z0 mk e0 e1 kd idn po) (HH : mgH mk R0 b l r) (I : mgI mk R0 po b l r s) (W : rsP (hI h) p mk s) {R : Int32 → tpH → Prop} (k1' : ∀ m, rngO mk s = some m → R (nI m) h) (k0 : rngO mk s = none → R (-1) h) : ∀ (n i : Nat), i ≤ mk → mk < n + i → (∀ j, j < i → (sIn s j && rgB (sUp s) j) = false) → w_Mg_lowestInRing_2 R n (p + 69) (nI i) h
  | 0, i, h1, h2, A => by omega
  | n + 1, i, h1, h2, A => by
    obtain ⟨g0, ⟨rm, lm⟩, _, ⟨r3, w3⟩, _, ⟨r5, w5⟩, _⟩ := mgRw X.1.1
    have hk := X.2.2.1
    refine ⟨g0, p, rm, lm.1, ?_⟩
    rw [X.2.1.1]
    by_cases hi : i < mk
    · obtain ⟨w1, _, w2⟩ := W i hi
      refine ⟨fun g => absurd ((nI_le_iff (by omega) (by omega)).mp g) (by omega), fun _ => ⟨p + 72, r3, w3.1, p_at w3 (by decide) ?_⟩⟩
      rw [rAt_n (by omega) (by decide), w1, nI_1]
      have next : (sIn s i && rgB (sUp s) i) = false → w_Mg_lowestInRing_2 R n (p + 69) (nI (i + 1)) h := fun e => p_rlow2 X HH I W k1' k0 n (i + 1) (by omega) (by omega) (fun j hj => by
        by_cases c : j = i
        · rw [c]; exact e
        · exact A j (by omega))
      cases ei : sIn s i with
      | false =>
        rw [if_neg Bool.false_ne_true]
        exact ⟨fun _ => next (by rw [ei]; rfl), fun g => absurd g (by decide)⟩
      | true =>
        rw [if_pos rfl]
        refine ⟨fun g => absurd rfl g, fun _ => ⟨g0, g0, p + 76, r5, w5.1, p_at w5 (by decide) ⟨301, ?_⟩⟩⟩
        rw [rAt_n (by omega) (by decide), w2]
        have en : itU (sUp s) (0 + 1) i = sUp s i := by rw [itU_1]; rfl
        rw [← en]
        refine p_ring11 X HH I W hi (fun q => ⟨fun g => absurd g (by decide), fun _ => k1' i (find_rg mk i hi ?_ A)⟩) (fun q => ⟨fun _ => next ?_, fun g => absurd rfl g⟩) _ 0 (by omega) (by omega) (fun j hj => absurd hj (Nat.not_lt_zero _))
        · rw [ei, rgB_iff.mpr q]
          rfl
        · rw [ei, Bool.true_and]
          exact Bool.eq_false_iff.mpr (fun z => q (rgB_iff.mp z))
    · exact ⟨fun _ => k0 (find_rn (fun j hj => A j (by omega))), fun g => absurd ((nI_le_iff (by omega) (by omega)).mpr (by omega)) g⟩
theorem p_brk16 {h0 : tpH} {s : mgS} {R0 m k0 : Nat} (HH : mgH mk R0 b l r) (I : mgI mk R0 po b l r s) (hm : m < mk) (hk0 : k0 < mk) (q2 : itU (sUp s) (k0 + 1) m = some m) (q4 : ∀ i j, i < j → j ≤ k0 → itU (sUp s) i m ≠ itU (sUp s) j m) (X0 : mX h0 x p D z0 mk e0 e1 kd idn po) (W0 : rsP (hI h0) p mk s) {R : tpH → Prop} (fin : ∀ F, (∀ c, c ≠ p + 79 → F c = hI h0 c) → (∀ y, y < 300 → F (p + 79) y = if rgC (sUp s) m y = true then 1 else 0) → ∃ n, w_Mg_breakRing_62 R n (p + 69) (some a1) (0 : Int32) (wI h0 F)) : ∀ (n i : Nat) (F : Nat → Nat → Int32), i ≤ k0 + 1 → k0 + 1 < n + i → (∀ c, c ≠ p + 79 → F c = hI h0 c) → (∀ y, y < 300 → (F (p + 79) y = 1 ∧ ∃ j, j < i ∧ itU (sUp s) j m = some y) ∨ (F (p + 79) y = 0 ∧ ¬ ∃ j, j < i ∧ itU (sUp s) j m = some y)) → w_Mg_breakRing_16 R n (p + 69) (some a1) (nO (itU (sUp s) i m)) (nI i) (wI h0 F)
  | 0, i, F, h1, h2, fr, A => by omega
  | n + 1, i, F, h1, h2, fr, A => by
    obtain ⟨g0, _, _, _, _, ⟨r5, w5⟩, ⟨r6, w6⟩, _⟩ := mgRw X0.1.1
    have hk := X0.2.2.1
    have lt := it_lt HH I hm
    have e3 : (300 : Int32) = nI 300 := rfl
    have done : i = k0 + 1 → ∃ n, w_Mg_breakRing_62 R n (p + 69) (some a1) (0 : Int32) (wI h0 F) := fun ei => by
      refine fin F fr (fun y hy => ?_)
      rcases A y hy with ⟨g1, j, g2, g3⟩ | ⟨g1, g2⟩
      · rw [g1, if_pos (rgC_iff.mpr ⟨j, g3⟩)]
      · rw [g1, if_neg (fun q => ?_)]
        obtain ⟨nn, hn⟩ := rgC_iff.mp q
        obtain ⟨j, j1, j2⟩ := rgC_lt q2 (nn + 1) nn (Nat.lt_succ_self _) hn
        exact g2 ⟨j, by omega, j2⟩
    obtain ⟨y, hy⟩ : ∃ y, itU (sUp s) i m = some y := by
      have e := itU_add (up := sUp s) i (k0 + 1 - i) m
      rw [show i + (k0 + 1 - i) = k0 + 1 by omega, q2] at e
      cases q : itU (sUp s) i m with
      | none => rw [q] at e; cases e
      | some y => exact ⟨y, rfl⟩
    have y1 := lt i y hy
    rw [hy]
    refine ⟨fun g => ?_, fun g => ⟨g0, p + 78, r6, w6.1, p_at (rwL_w w6) (by decide) ?_⟩⟩
    · have := (nI_le_iff (a := 300) (by decide) (by omega)).mp g
      exact done (by omega)
    · show (¬ rAt (F (p + 79)) 300 (nI y) = 0 → _) ∧ (rAt (F (p + 79)) 300 (nI y) = 0 → _)
      rw [rAt_n (by omega) (by decide)]
      have i3 : i < 300 := Classical.byContradiction (fun q => g ((nI_le_iff (a := 300) (by decide) (by omega)).mpr (by omega)))
      by_cases ei : i = k0 + 1
      · refine ⟨fun _ => done ei, fun q => ?_⟩
        exfalso
        rw [ei, q2] at hy
        rcases A y (by omega) with ⟨g1, _⟩ | ⟨g1, g2⟩
        · rw [g1] at q
          exact absurd q (by decide)
        · exact g2 ⟨0, by omega, hy⟩
      · have nv : F (p + 79) y = 0 := by
          rcases A y (by omega) with ⟨g1, j, g2, g3⟩ | ⟨g1, g2⟩
          · exact absurd (g3.trans hy.symm) (q4 j i g2 (by omega))
          · exact g1
        refine ⟨fun q => absurd nv q, fun _ => ⟨g0, p + 78, r6, w6.1, p_put (rwL_w w6) (by decide) ⟨g0, p + 76, r5, w5.1, p_at (rwL_w (rwL_w w5)) (by decide) ?_⟩⟩⟩
        rw [show nO (some y) = nI y from rfl, wI_wI, wI_I, wI_I, rPut_n (by omega) (by decide), nI_1]
        rw [rAt_n (by omega) (by decide), tpu_o (by omega), fr _ (by omega), (W0 y y1).2.2]
        have en : itU (sUp s) (i + 1) m = sUp s y := by rw [itU_1, hy]; rfl
        rw [← en]
        refine p_brk16 HH I hm hk0 q2 q4 X0 W0 fin n (i + 1) _ (by omega) (by omega) (fun c hc => by rw [tpu_fa _ _ _ _ _ hc]; exact fr c hc) (fun y' hy' => ?_)
        by_cases c : y' = y
        · rw [c, tpu_s]
          exact Or.inl ⟨rfl, i, by omega, hy⟩
        · rw [tpu_o (by omega)]
          rcases A y' hy' with ⟨g1, j, g2, g3⟩ | ⟨g1, g2⟩
          · exact Or.inl ⟨g1, j, by omega, g3⟩
          · refine Or.inr ⟨g1, fun ⟨j, j1, j2⟩ => ?_⟩
            by_cases cj : j = i
            · rw [cj, hy] at j2
              exact c (Option.some.inj j2).symm
            · exact g2 ⟨j, by omega, j2⟩
end MMEND
