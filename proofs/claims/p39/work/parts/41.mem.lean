section PMEM
def wI (h : tpH) (F : Nat → Nat → Int32) : tpH := (hT h, hL h, hR h, F, hJ h, hF h, hZ h, hU h)
theorem wI_T (h : tpH) (F : Nat → Nat → Int32) : hT (wI h F) = hT h := rfl
theorem wI_L (h : tpH) (F : Nat → Nat → Int32) : hL (wI h F) = hL h := rfl
theorem wI_R (h : tpH) (F : Nat → Nat → Int32) : hR (wI h F) = hR h := rfl
theorem wI_I (h : tpH) (F : Nat → Nat → Int32) : hI (wI h F) = F := rfl
theorem wI_J (h : tpH) (F : Nat → Nat → Int32) : hJ (wI h F) = hJ h := rfl
theorem wI_F (h : tpH) (F : Nat → Nat → Int32) : hF (wI h F) = hF h := rfl
theorem wI_Z (h : tpH) (F : Nat → Nat → Int32) : hZ (wI h F) = hZ h := rfl
theorem wI_wI (h : tpH) (F G : Nat → Nat → Int32) : wI (wI h F) G = wI h G := rfl
theorem wI_self (h : tpH) : wI h (hI h) = h := rfl
theorem sI_wI (h : tpH) (a j : Nat) (v : Int32) : sI h a j v = wI h (tpu (hI h) a j v) := rfl
theorem nI_ne_m {k : Nat} (h : k < 2 ^ 31) : nI k ≠ -1 := by
  intro e
  have h1 := nI_toInt h
  rw [e] at h1
  have h2 : (-1 : Int32).toInt = -1 := by decide
  omega
theorem nI_inj {a b : Nat} (ha : a < 2 ^ 31) (hb : b < 2 ^ 31) (h : nI a = nI b) : a = b := (nI_eq ha hb).mp h
theorem nI_lt_iff {a b : Nat} (ha : a < 2 ^ 31) (hb : b < 2 ^ 31) : nI a < nI b ↔ a < b := nI_ltI ha hb
theorem nI_le_iff {a b : Nat} (ha : a < 2 ^ 31) (hb : b < 2 ^ 31) : nI a ≤ nI b ↔ a ≤ b := nI_leI ha hb
/-- a mark, or none -/
def nO : Option Nat → Int32
  | none => -1
  | some k => nI k
theorem nO_none : nO none = -1 := rfl
theorem nO_inj {a b : Option Nat} (ha : ∀ k, a = some k → k < 2 ^ 31) (hb : ∀ k, b = some k → k < 2 ^ 31) (h : nO a = nO b) : a = b := by
  cases a with
  | none =>
    cases b with
    | none => rfl
    | some b => exact absurd h.symm (nI_ne_m (hb b rfl))
  | some a =>
    cases b with
    | none => exact absurd h (nI_ne_m (ha a rfl))
    | some b => rw [nI_inj (ha a rfl) (hb b rfl) h]
def rwL (h : tpH) (r c n : Nat) : Prop := hT h r = 8 ∧ hR h r 0 = some c ∧ hT h c = 15 ∧ hL h c = n
theorem rwL_w {h : tpH} {F : Nat → Nat → Int32} {r c n : Nat} (H : rwL h r c n) : rwL (wI h F) r c n := H
def rAt (f : Nat → Int32) (n : Nat) (i : Int32) : Int32 := if i < 0 then -1 else if Int32.ofNat n ≤ i then -1 else f i.toNatClampNeg
theorem rAt_n {f : Nat → Int32} {n k : Nat} (hk : k < n) (hn : n < 2 ^ 31) : rAt f n (nI k) = f k := by
  have h1 : ¬ nI k < 0 := nI_pos (by omega)
  have h2 : ¬ Int32.ofNat n ≤ nI k := nI_ge hk hn
  rw [rAt, if_neg h1, if_neg h2, nI_clamp (by omega)]
theorem rAt_m {f : Nat → Int32} {n : Nat} : rAt f n (-1) = -1 := by
  rw [rAt, if_pos (by decide)]
theorem rAt_o {f : Nat → Int32} {n k : Nat} (hk : n ≤ k) (hn : k < 2 ^ 31) : rAt f n (nI k) = -1 := by
  have h1 : ¬ nI k < 0 := nI_pos (by omega)
  have h2 : Int32.ofNat n ≤ nI k := nI_le hk hn
  rw [rAt, if_neg h1, if_pos h2]
def rPut (F : Nat → Nat → Int32) (c n : Nat) (i v : Int32) : Nat → Nat → Int32 := if i < 0 then F else if Int32.ofNat n ≤ i then F else tpu F c i.toNatClampNeg v
theorem rPut_n {F : Nat → Nat → Int32} {c n k : Nat} {v : Int32} (hk : k < n) (hn : n < 2 ^ 31) : rPut F c n (nI k) v = tpu F c k v := by
  have h1 : ¬ nI k < 0 := nI_pos (by omega)
  have h2 : ¬ Int32.ofNat n ≤ nI k := nI_ge hk hn
  rw [rPut, if_neg h1, if_neg h2, nI_clamp (by omega)]
theorem rPut_m {F : Nat → Nat → Int32} {c n : Nat} {v : Int32} : rPut F c n (-1) v = F := by
  rw [rPut, if_pos (by decide)]
theorem tpu_ne {F : Nat → Nat → Int32} {c k : Nat} {v : Int32} {b : Nat} (h : b ≠ c) : tpu F c k v b = F b := tpu_fa F c k b v h
theorem vp_in_c {x : Int32} {n : Nat} (hn : n < 2 ^ 31) (h1 : ¬ x < 0) (h2 : ¬ Int32.ofNat n ≤ x) : vp_in x n := by
  obtain ⟨j, hj, rfl⟩ := nI_of h1
  refine vp_in_nI ?_ hn
  rcases Nat.lt_or_ge j n with h | h
  · exact h
  · exact absurd (nI_le h hj) h2
theorem p_at {h : tpH} {r c n : Nat} {i : Int32} {R : Int32 → tpH → Prop} (hr : rwL h r c n) (hn : n < 2 ^ 31) (k : R (rAt (hI h c) n i) h) : w_Ro_at r i h R := by
  obtain ⟨h1, h2, h3, h4⟩ := hr
  unfold w_Ro_at
  refine ⟨fun c1 => ?_, fun c1 => ⟨h1, c, h2, h3, fun c2 => ?_, fun c2 => ⟨?_, ?_⟩⟩⟩
  · rw [rAt, if_pos c1] at k; exact k
  · rw [h4] at c2; rw [rAt, if_neg c1, if_pos c2] at k; exact k
  · rw [h4] at c2 ⊢; exact vp_in_c hn c1 c2
  · rw [h4] at c2; rw [rAt, if_neg c1, if_neg c2] at k; exact k
theorem p_put {h : tpH} {r c n : Nat} {i v : Int32} {R : tpH → Prop} (hr : rwL h r c n) (hn : n < 2 ^ 31) (k : R (wI h (rPut (hI h) c n i v))) : w_Ro_put r i v h R := by
  obtain ⟨h1, h2, h3, h4⟩ := hr
  unfold w_Ro_put
  refine ⟨fun c1 => ?_, fun c1 => ⟨h1, c, h2, h3, fun c2 => ?_, fun c2 => ⟨?_, fun h8 e8 => ?_⟩⟩⟩
  · rw [rPut, if_pos c1] at k; exact k
  · rw [h4] at c2; rw [rPut, if_neg c1, if_pos c2] at k; exact k
  · rw [h4] at c2 ⊢; exact vp_in_c hn c1 c2
  · rw [h4] at c2; rw [rPut, if_neg c1, if_neg c2] at k; rw [e8]; exact k
def rFill (F : Nat → Nat → Int32) (c n : Nat) (v : Int32) : Nat → Nat → Int32 := fun b j => if b = c ∧ j < n then v else F b j
theorem rFill_0 (F : Nat → Nat → Int32) (c : Nat) (v : Int32) : rFill F c 0 v = F := by
  funext b j
  simp [rFill]
theorem rFill_s (F : Nat → Nat → Int32) (c k : Nat) (v : Int32) : tpu (rFill F c k v) c k v = rFill F c (k + 1) v := by
  funext b j
  unfold tpu rFill
  by_cases hb : b = c
  · by_cases hj : j = k
    · simp [hb, hj]
    · by_cases h2 : j < k
      · have h3 : j < k + 1 := by omega
        simp [hb, hj, h2, h3]
      · have h3 : ¬ j < k + 1 := by omega
        simp [hb, hj, h2, h3]
  · simp [hb]
theorem rFill_ne {F : Nat → Nat → Int32} {c n : Nat} {v : Int32} {b : Nat} (h : b ≠ c) : rFill F c n v b = F b := by
  funext j
  simp [rFill, h]
theorem rFill_in {F : Nat → Nat → Int32} {c n j : Nat} {v : Int32} (h : j < n) : rFill F c n v c j = v := by simp [rFill, h]
theorem p_fill {h : tpH} {r c n len : Nat} {v : Int32} {R : tpH → Prop} (hr : rwL h r c n) (hn : n < 2 ^ 31) (hl : len ≤ n) (k : R (wI h (rFill (hI h) c len v))) : w_Ro_fill r (nI len) v h R := by
  have key : ∀ (m q : Nat), q ≤ len → len - q < m → w_Ro_fill_2 R m r (nI len) v (nI q) (wI h (rFill (hI h) c q v)) := by
    intro m
    induction m with
    | zero => intro q _ h2; omega
    | succ m ih =>
      intro q hq hm
      change b_Ro_fill_2 R (w_Ro_fill_2 R m) r (nI len) v (nI q) (wI h (rFill (hI h) c q v))
      unfold b_Ro_fill_2
      obtain ⟨h1, h2, h3, h4⟩ := hr
      refine ⟨fun c1 => ?_, fun c1 => ⟨h1, c, h2, h3, fun c2 => ?_, fun c2 => ⟨?_, fun h8 e8 => ?_⟩⟩⟩
      · have := (nI_le_iff (by omega) (by omega)).mp c1
        have e : q = len := by omega
        rw [e]; exact k
      · have c3 := (nI_le_iff (a := hL h c) (b := q) (by omega) (by omega)).mp c2
        have c4 : ¬ len ≤ q := fun h => c1 (nI_le h (by omega))
        omega
      · refine vp_in_nI ?_ (by rw [wI_L, h4]; omega)
        have c4 : ¬ len ≤ q := fun h => c1 (nI_le h (by omega))
        rw [wI_L, h4]; omega
      · have c4 : ¬ len ≤ q := fun h => c1 (nI_le h (by omega))
        rw [e8, sI_wI, wI_I, wI_wI, nI_clamp (by omega), rFill_s, nI_1]
        exact ih (q + 1) (by omega) (by omega)
  refine ⟨len + 1, ?_⟩
  have h9 := key (len + 1) 0 (Nat.zero_le _) (by omega)
  rw [rFill_0, wI_self] at h9
  exact h9
end PMEM
