section MG2
def itU (up : Nat → Option Nat) : Nat → Nat → Option Nat
  | 0, m => some m
  | n + 1, m => match up m with
    | none => none
    | some p => itU up n p
theorem itU_s {up : Nat → Option Nat} {m p : Nat} (h : up m = some p) (n : Nat) : itU up (n + 1) m = itU up n p := by
  show (match up m with
    | none => none
    | some p => itU up n p) = _
  rw [h]
theorem itU_no {up : Nat → Option Nat} {m : Nat} (h : up m = none) (n : Nat) : itU up (n + 1) m = none := by
  show (match up m with
    | none => none
    | some p => itU up n p) = _
  rw [h]
theorem itU_add {up : Nat → Option Nat} : ∀ (i j m : Nat), itU up (i + j) m = (itU up i m).bind (itU up j)
  | 0, j, m => by rw [Nat.zero_add]; rfl
  | i + 1, j, m => by
    rw [show i + 1 + j = (i + j) + 1 by omega]
    cases e : up m with
    | none => rw [itU_no e, itU_no e]; rfl
    | some p => rw [itU_s e, itU_s e]; exact itU_add i j p
theorem itU_1 {up : Nat → Option Nat} (n m : Nat) : itU up (n + 1) m = (itU up n m).bind up := by
  rw [itU_add n 1 m]
  congr 1
  funext x
  show (match up x with
    | none => none
    | some p => some p) = up x
  cases up x <;> rfl
def isRg (up : Nat → Option Nat) (m : Nat) : Prop := ∃ n, itU up (n + 1) m = some m
noncomputable def rgB (up : Nat → Option Nat) (m : Nat) : Bool := @decide (isRg up m) (Classical.propDecidable _)
theorem rgB_iff {up : Nat → Option Nat} {m : Nat} : rgB up m = true ↔ isRg up m := by
  unfold rgB
  exact ⟨fun h => @of_decide_eq_true _ (Classical.propDecidable _) h, fun h => @decide_eq_true _ (Classical.propDecidable _) h⟩
theorem leastN {Q : Nat → Prop} : ∀ (N n : Nat), n < N → Q n → ∃ k, k ≤ n ∧ Q k ∧ ∀ j, j < k → ¬ Q j
  | 0, n, h, q => by omega
  | N + 1, n, h, q => by
    by_cases c : ∃ j, j < n ∧ Q j
    · obtain ⟨j, j1, j2⟩ := c
      obtain ⟨k, k1, k2, k3⟩ := leastN N j (by omega) j2
      exact ⟨k, by omega, k2, k3⟩
    · exact ⟨n, Nat.le_refl _, q, fun j hj g => c ⟨j, hj, g⟩⟩
theorem range_nd {n mk : Nat} {f : Nat → Nat} (h1 : ∀ i, i < n → f i < mk) (h2 : ∀ i j, i < j → j < n → f i ≠ f j) : n ≤ mk := by
  have nd : ((List.range n).map f).Nodup := by
    unfold List.Nodup
    rw [List.pairwise_map]
    refine List.Pairwise.imp_of_mem (fun {a b} ha hb hab => ?_) List.pairwise_lt_range
    exact h2 a b hab (List.mem_range.mp hb)
  have sub : ∀ x ∈ (List.range n).map f, x ∈ List.range mk := fun x hx => by
    obtain ⟨i, i1, i2⟩ := List.mem_map.mp hx
    rw [List.mem_range, ← i2]
    exact h1 i (List.mem_range.mp i1)
  have := nd.length_le_of_subset sub
  rw [List.length_map, List.length_range, List.length_range] at this
  exact this
/-- a ring closes within mk steps, all its marks are different until then -/
theorem ring_bd {up : Nat → Option Nat} {mk m : Nat} (h : isRg up m) (hb : ∀ n x, itU up n m = some x → x < mk) : ∃ k, k < mk ∧ itU up (k + 1) m = some m ∧ (∀ j, j < k → itU up (j + 1) m ≠ some m) ∧ ∀ i j, i < j → j ≤ k → itU up i m ≠ itU up j m := by
  obtain ⟨n, hn⟩ := h
  obtain ⟨k, k1, k2, k3⟩ := leastN (Q := fun n => itU up (n + 1) m = some m) (n + 1) n (Nat.lt_succ_self _) hn
  have sm : ∀ i, i ≤ k + 1 → ∃ x, itU up i m = some x := fun i hi => by
    have e := itU_add (up := up) i (k + 1 - i) m
    rw [show i + (k + 1 - i) = k + 1 by omega, k2] at e
    cases q : itU up i m with
    | none => rw [q] at e; cases e
    | some x => exact ⟨x, rfl⟩
  have ne : ∀ i j, i < j → j ≤ k → itU up i m ≠ itU up j m := fun i j hij hj e => by
    have e1 := itU_add (up := up) j (k + 1 - j) m
    have e2 := itU_add (up := up) i (k + 1 - j) m
    rw [← e] at e1
    rw [← e1, show j + (k + 1 - j) = k + 1 by omega, k2] at e2
    refine k3 (i + (k + 1 - j) - 1) (by omega) ?_
    rw [show i + (k + 1 - j) - 1 + 1 = i + (k + 1 - j) by omega]
    exact e2
  refine ⟨k, ?_, k2, k3, ne⟩
  have := range_nd (n := k + 1) (mk := mk) (f := fun i => (itU up i m).getD 0) (fun i hi => ?_) (fun i j hij hj => ?_)
  · omega
  · obtain ⟨x, hx⟩ := sm i (by omega)
    show (itU up i m).getD 0 < mk
    rw [hx]
    exact hb i x hx
  · obtain ⟨x, hx⟩ := sm i (by omega)
    obtain ⟨y, hy⟩ := sm j (by omega)
    show (itU up i m).getD 0 ≠ (itU up j m).getD 0
    rw [hx, hy]
    intro g
    have g : x = y := g
    exact ne i j hij (by omega) (by rw [hx, hy, g])
/-- without a ring, climbing ends -/
theorem noring_nd {up : Nat → Option Nat} {mk : Nat} (hb : ∀ m p, up m = some p → p < mk) (hn : ∀ m, m < mk → ¬ isRg up m) : ∀ (n m x : Nat), m < mk → itU up n m = some x → n < mk := by
  intro n m x hm hx
  have sm : ∀ i, i ≤ n → ∃ y, itU up i m = some y ∧ y < mk := fun i hi => by
    have e := itU_add (up := up) i (n - i) m
    rw [show i + (n - i) = n by omega, hx] at e
    cases q : itU up i m with
    | none => rw [q] at e; cases e
    | some y =>
      refine ⟨y, rfl, ?_⟩
      cases i with
      | zero =>
        have q : some m = some y := q
        rw [← Option.some.inj q]
        exact hm
      | succ i =>
        rw [itU_1] at q
        cases q2 : itU up i m with
        | none => rw [q2] at q; cases q
        | some z =>
          rw [q2] at q
          exact hb z y q
  have := range_nd (n := n + 1) (mk := mk) (f := fun i => (itU up i m).getD 0) (fun i hi => ?_) (fun i j hij hj => ?_)
  · omega
  · obtain ⟨y, hy, hy2⟩ := sm i (by omega)
    show (itU up i m).getD 0 < mk
    rw [hy]
    exact hy2
  · obtain ⟨y, hy, y2⟩ := sm i (by omega)
    obtain ⟨z, hz, _⟩ := sm j (by omega)
    show (itU up i m).getD 0 ≠ (itU up j m).getD 0
    rw [hy, hz]
    intro g
    have g : y = z := g
    refine hn y y2 ⟨j - i - 1, ?_⟩
    have e := itU_add (up := up) i (j - i) m
    rw [show i + (j - i) = j by omega, hz, hy] at e
    have e : some z = itU up (j - i) y := e
    rw [show j - i - 1 + 1 = j - i by omega, ← e, g]
/-- the marks of a ring -/
noncomputable def rgC (up : Nat → Option Nat) (m k : Nat) : Bool := @decide (∃ n, itU up n m = some k) (Classical.propDecidable _)
theorem rgC_iff {up : Nat → Option Nat} {m k : Nat} : rgC up m k = true ↔ ∃ n, itU up n m = some k := by
  unfold rgC
  exact ⟨fun h => @of_decide_eq_true _ (Classical.propDecidable _) h, fun h => @decide_eq_true _ (Classical.propDecidable _) h⟩
theorem rgC_lt {up : Nat → Option Nat} {m k k0 : Nat} (h : itU up (k0 + 1) m = some m) : ∀ (N n : Nat), n < N → itU up n m = some k → ∃ j, j ≤ k0 ∧ itU up j m = some k
  | 0, n, h1, h2 => by omega
  | N + 1, n, h1, h2 => by
    by_cases c : n ≤ k0
    · exact ⟨n, c, h2⟩
    · have e := itU_add (up := up) (k0 + 1) (n - (k0 + 1)) m
      rw [show k0 + 1 + (n - (k0 + 1)) = n by omega, h2, h] at e
      exact rgC_lt h N (n - (k0 + 1)) (by omega) e.symm
/-- each mark of a ring is in one itself -/
theorem ring_all {up : Nat → Option Nat} {m : Nat} (h : isRg up m) {n x : Nat} (hx : itU up n m = some x) : ∃ y, up x = some y ∧ ∃ j, itU up j m = some y := by
  obtain ⟨k, hk⟩ := h
  have key : ∀ (N n : Nat), ∃ x, itU up n m = some x := by
    intro N n
    obtain ⟨q, r, e, hr⟩ : ∃ q r, n = (k + 1) * q + r ∧ r < k + 1 := ⟨n / (k + 1), n % (k + 1), (Nat.div_add_mod n (k + 1)).symm, Nat.mod_lt _ (by omega)⟩
    have rep : ∀ q, itU up ((k + 1) * q) m = some m := fun q => by
      induction q with
      | zero => rfl
      | succ q ih => rw [Nat.mul_succ, itU_add, ih]; exact hk
    rw [e, itU_add, rep q]
    have e2 := itU_add (up := up) r (k + 1 - r) m
    rw [show r + (k + 1 - r) = k + 1 by omega, hk] at e2
    show ∃ x, itU up r m = some x
    cases w : itU up r m with
    | none => rw [w] at e2; cases e2
    | some x => exact ⟨x, rfl⟩
  obtain ⟨y, hy⟩ := key 0 (n + 1)
  refine ⟨y, ?_, n + 1, hy⟩
  rw [itU_1, hx] at hy
  exact hy
/-- a ring is no part of a tree -/
theorem ring_no {t : mT} (hw : fWF 300 t) {up : Nat → Option Nat} {m : Nat} (h : isRg up m) (hu : ∀ n x, itU up n m = some x → tIn t x = true ∧ tUp t x = up x) : False := by
  obtain ⟨k, hk⟩ := h
  obtain ⟨rk, hrk⟩ := hw.2.2.2.1
  have key : ∀ n x, itU up (n + 1) m = some x → rk m < rk x := by
    intro n
    induction n with
    | zero =>
      intro x hx
      obtain ⟨i1, i2⟩ := hu 0 m rfl
      rw [itU_1] at hx
      have hx : up m = some x := hx
      exact hrk m x ((hw.2.1 m x).mpr ⟨i1, i2.trans hx⟩)
    | succ n ih =>
      intro x hx
      rw [itU_1] at hx
      cases e : itU up (n + 1) m with
      | none => rw [e] at hx; cases hx
      | some y =>
        rw [e] at hx
        have hx : up y = some x := hx
        obtain ⟨i1, i2⟩ := hu (n + 1) y e
        have := hrk y x ((hw.2.1 y x).mpr ⟨i1, i2.trans hx⟩)
        have := ih y e
        omega
  have := key k m hk
  omega
end MG2
