section PBUSHW
def BuL (F : Nat → Nat → Int32) (d : Nat) (t : mT) : Prop := F d 9 = nI (tCn t) ∧ ∀ m, tIn t m = true → nodeP F d t m
theorem BuP_L {F : Nat → Nat → Int32} {d : Nat} {t : mT} (h : BuP F d t) : BuL F d t := ⟨h.1, h.2.2⟩
theorem ki_len {t : mT} (hw : fWF 300 t) (p : Nat) : (tKi t p).length ≤ tCn t :=
  nd_len (hw.2.2.1 p) (fun x hx => List.mem_filter.mpr ⟨List.mem_range.mpr (hw.1 x (fKi_in hw hx).1), (fKi_in hw hx).1⟩)
theorem nI3_le {a b : Nat} (ha : a ≤ 600) (hb : b ≤ 600) : nI a ≤ nI b ↔ a ≤ b := nI_le_iff (by omega) (by omega)
theorem m1_le {a : Nat} (ha : a ≤ 600) : (-1 : Int32) ≤ nI a := by
  rw [Int32.le_iff_toInt_le, nI_toInt (by omega)]
  have e : (-1 : Int32).toInt = -1 := rfl
  omega
def lowA (l : List Nat) (m : Nat) : List Nat := (l.reverse.dropWhile (fun c => decide (m < c))).reverse
def lowB (l : List Nat) (m : Nat) : List Nat := (l.reverse.takeWhile (fun c => decide (m < c))).reverse
theorem low_app (l : List Nat) (m : Nat) : lowA l m ++ lowB l m = l := by
  unfold lowA lowB
  rw [← List.reverse_append, List.takeWhile_append_dropWhile, List.reverse_reverse]
theorem p_low {h : tpH} {d : Nat} {x : Option Nat} (l : lBu h d x) {F : Nat → Nat → Int32} {C m : Nat} (hC : F d 9 = nI C) (hC3 : C ≤ 300) (hm : m < 300) {R : Int32 → tpH → Prop} : ∀ (n : Nat) (L : List Nat) (s : Int32) (i : Nat), seg (F (d + 12)) s L (-1) → (∀ x ∈ L, x < 300) → L.length + i ≤ C → L.length < n → R (headO (L.dropWhile (fun c => decide (m < c)))) (wI h F) → w_Bu_lowerChild_12 R n d (nI m) s (nI i) (wI h F) := by
  obtain ⟨l0, -, -, -, -, -, -, ⟨a6, b6⟩, -⟩ := l
  intro n
  induction n with
  | zero => intro L s i _ _ _ hn; omega
  | succ n ih =>
    intro L s i hs h3 hi hn k
    show b_Bu_lowerChild_12 R (w_Bu_lowerChild_12 R n) d (nI m) s (nI i) (wI h F)
    unfold b_Bu_lowerChild_12
    simp only [wI_T, wI_R, wI_I, l0, a6, b6.1, Option.some.injEq, exists_eq_left', true_and, e_at b6 n300, hC]
    rw [nI3_le (by omega) (by omega)]
    cases L with
    | nil =>
      have hs : s = -1 := hs
      subst hs
      refine ⟨fun _ => k, fun _ => ⟨fun _ => k, fun e => absurd (m1_le (by omega)) e⟩⟩
    | cons c L =>
      obtain ⟨e, hs⟩ := hs
      subst e
      have hc := h3 c List.mem_cons_self
      rw [nI3_le (by omega) (by omega)]
      simp only [List.length_cons] at hi hn
      refine ⟨fun e => by omega, fun _ => ⟨fun e => ?_, fun e => ?_⟩⟩
      · have e2 : (c :: L).dropWhile (fun c => decide (m < c)) = c :: L := List.dropWhile_cons_of_neg (by simp; omega)
        rw [e2] at k
        exact k
      · have e2 : (c :: L).dropWhile (fun c => decide (m < c)) = L.dropWhile (fun c => decide (m < c)) := List.dropWhile_cons_of_pos (by simp; omega)
        rw [e2] at k
        rw [rAt_n hc n300, nI_1]
        exact ih L _ (i + 1) hs (fun x hx => h3 x (List.mem_cons_of_mem _ hx)) (by omega) (by omega) k
theorem p_Bu_lowerChild {h : tpH} {d : Nat} {x : Option Nat} (l : lBu h d x) {F : Nat → Nat → Int32} {t : mT} (hB : BuL F d t) (hw : fWF 300 t) {p m : Nat} (hp : tIn t p = true) (hm : m < 300) {R : Int32 → tpH → Prop} (k : R (lastO (lowA (tKi t p) m)) (wI h F)) : w_Bu_lowerChild d (nI p) (nI m) (wI h F) R := by
  have hl := @p_low h d x l F (tCn t) m hB.1 (tCn_le t) hm R
  obtain ⟨l0, -, -, -, -, -, ⟨a5, b5⟩, -⟩ := l
  unfold w_Bu_lowerChild
  simp only [wI_T, wI_R, wI_I, l0, a5, b5.1, Option.some.injEq, exists_eq_left', true_and, e_at b5 n300]
  rw [rAt_n (hw.1 p hp) n300]
  obtain ⟨q1, q2, q3, q4, q5⟩ := hB.2 p hp
  have h1 := ki_len hw p
  refine ⟨(tKi t p).reverse.length + 1, hl _ _ _ 0 q4 (fun x hx => hw.1 x (fKi_in hw (List.mem_reverse.mp hx)).1) (by rw [List.length_reverse]; exact h1) (Nat.lt_succ_self _) ?_⟩
  rw [← headO_rev] at k
  unfold lowA at k
  rw [List.reverse_reverse] at k
  exact k
theorem p_chA {h : tpH} {d : Nat} {x : Option Nat} (l : lBu h d x) {F : Nat → Nat → Int32} {C : Nat} (hC : F d 9 = nI C) (hC3 : C ≤ 300) {R : Int32 → tpH → Prop} {pl : Int32} {K : Nat} (hpl : ∀ j, j ≤ 300 → (pl ≤ nI j ↔ K ≤ j)) : ∀ (n : Nat) (L A : List Nat) (s : Int32), seg (F (d + 14)) s L (-1) → (∀ x ∈ L, x < 300) → A.length + L.length ≤ C → A.length ≤ K → L.length < n → R (lastO (A ++ L.take (K - A.length))) (wI h F) → w_Bu_childAhead_15 R n d pl (lastO A) s (nI A.length) (wI h F) := by
  obtain ⟨l0, -, -, -, -, -, -, -, ⟨a7, b7⟩⟩ := l
  intro n
  induction n with
  | zero => intro L A s _ _ _ _ hn; omega
  | succ n ih =>
    intro L A s hs h3 hi hA hn k
    show b_Bu_childAhead_15 R (w_Bu_childAhead_15 R n) d pl (lastO A) s (nI A.length) (wI h F)
    unfold b_Bu_childAhead_15
    simp only [wI_T, wI_R, wI_I, l0, a7, b7.1, Option.some.injEq, exists_eq_left', true_and, e_at b7 n300, hC]
    rw [nI3_le (by omega) (by omega), hpl A.length (by omega)]
    cases L with
    | nil =>
      have hs : s = -1 := hs
      subst hs
      rw [List.take_nil, List.append_nil] at k
      exact ⟨fun _ => k, fun _ => ⟨fun _ => k, fun _ => ⟨fun _ => k, fun e => absurd rfl e⟩⟩⟩
    | cons c L =>
      obtain ⟨e, hs⟩ := hs
      subst e
      have hc := h3 c List.mem_cons_self
      simp only [List.length_cons] at hi hn
      refine ⟨fun e => ?_, fun e0 => ⟨fun e => by omega, fun _ => ⟨fun e => absurd e (nI_ne_m (by omega)), fun _ => ?_⟩⟩⟩
      · have e2 : K - A.length = 0 := by omega
        rw [e2, List.take_zero, List.append_nil] at k
        exact k
      · have e2 : K - A.length = (K - (A ++ [c]).length) + 1 := by rw [List.length_append]; simp; omega
        rw [e2, List.take_succ_cons, ← List.singleton_append, ← List.append_assoc] at k
        have k2 := ih L (A ++ [c]) (F (d + 14) c) hs (fun x hx => h3 x (List.mem_cons_of_mem _ hx)) (by rw [List.length_append]; simp; omega) (by rw [List.length_append]; simp; omega) (by omega) k
        rw [rAt_n hc n300, nI_1]
        rw [lastO_app, List.length_append] at k2
        exact k2
theorem p_Bu_childAhead {h : tpH} {d : Nat} {x : Option Nat} (l : lBu h d x) {F : Nat → Nat → Int32} {t : mT} (hB : BuL F d t) (hw : fWF 300 t) {p : Nat} (hp : tIn t p = true) {pl : Int32} {K : Nat} (hpl : ∀ j, j ≤ 300 → (pl ≤ nI j ↔ K ≤ j)) {R : Int32 → tpH → Prop} (k : R (lastO ((tKi t p).take K)) (wI h F)) : w_Bu_childAhead d (nI p) pl (wI h F) R := by
  have hl := @p_chA h d x l F (tCn t) hB.1 (tCn_le t) R pl K hpl
  obtain ⟨l0, -, -, -, -, ⟨a4, b4⟩, -⟩ := l
  unfold w_Bu_childAhead
  simp only [wI_T, wI_R, wI_I, l0, a4, b4.1, Option.some.injEq, exists_eq_left', true_and, e_at b4 n300]
  rw [rAt_n (hw.1 p hp) n300]
  obtain ⟨q1, q2, q3, q4, q5⟩ := hB.2 p hp
  have h1 := ki_len hw p
  exact ⟨(tKi t p).length + 1, hl _ (tKi t p) [] _ q3 (fun x hx => hw.1 x (fKi_in hw hx).1) (by simpa using h1) (Nat.zero_le _) (Nat.lt_succ_self _) k⟩
theorem p_coC {h : tpH} {d : Nat} {x : Option Nat} (l : lBu h d x) {F : Nat → Nat → Int32} {C : Nat} (hC : F d 9 = nI C) (hC3 : C ≤ 300) {R : Int32 → tpH → Prop} : ∀ (n : Nat) (L : List Nat) (i : Nat) (s : Int32), seg (F (d + 14)) s L (-1) → (∀ x ∈ L, x < 300) → i + L.length ≤ C → L.length < n → R (nI (i + L.length)) (wI h F) → w_Bu_countChildren_11 R n d (nI i) s (wI h F) := by
  obtain ⟨l0, -, -, -, -, -, -, -, ⟨a7, b7⟩⟩ := l
  intro n
  induction n with
  | zero => intro L i s _ _ _ hn; omega
  | succ n ih =>
    intro L i s hs h3 hi hn k
    show b_Bu_countChildren_11 R (w_Bu_countChildren_11 R n) d (nI i) s (wI h F)
    unfold b_Bu_countChildren_11
    simp only [wI_T, wI_R, wI_I, l0, a7, b7.1, Option.some.injEq, exists_eq_left', true_and, e_at b7 n300, hC]
    rw [nI3_le (by omega) (by omega)]
    cases L with
    | nil =>
      have hs : s = -1 := hs
      subst hs
      exact ⟨fun _ => k, fun e => absurd rfl e⟩
    | cons c L =>
      obtain ⟨e, hs⟩ := hs
      subst e
      have hc := h3 c List.mem_cons_self
      simp only [List.length_cons] at hi hn k
      refine ⟨fun e => absurd e (nI_ne_m (by omega)), fun _ => ⟨fun e => by omega, fun _ => ?_⟩⟩
      rw [rAt_n hc n300, nI_1]
      exact ih L (i + 1) _ hs (fun x hx => h3 x (List.mem_cons_of_mem _ hx)) (by omega) (by omega) (by rw [show i + 1 + L.length = i + (L.length + 1) by omega]; exact k)
theorem p_Bu_countChildren {h : tpH} {d : Nat} {x : Option Nat} (l : lBu h d x) {F : Nat → Nat → Int32} {t : mT} (hB : BuL F d t) (hw : fWF 300 t) {p : Nat} (hp : tIn t p = true) {R : Int32 → tpH → Prop} (k : R (nI (tKi t p).length) (wI h F)) : w_Bu_countChildren d (nI p) (wI h F) R := by
  have hl := @p_coC h d x l F (tCn t) hB.1 (tCn_le t) R
  obtain ⟨l0, -, -, -, -, ⟨a4, b4⟩, -⟩ := l
  unfold w_Bu_countChildren
  simp only [wI_T, wI_R, wI_I, l0, a4, b4.1, Option.some.injEq, exists_eq_left', true_and, e_at b4 n300]
  rw [rAt_n (hw.1 p hp) n300]
  obtain ⟨q1, q2, q3, q4, q5⟩ := hB.2 p hp
  have h1 := ki_len hw p
  exact ⟨(tKi t p).length + 1, hl _ (tKi t p) 0 _ q3 (fun x hx => hw.1 x (fKi_in hw hx).1) (by omega) (Nat.lt_succ_self _) (by rw [Nat.zero_add]; exact k)⟩
end PBUSHW
