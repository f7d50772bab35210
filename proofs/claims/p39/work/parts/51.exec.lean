section PEXEC
theorem e_at {h : tpH} {r c n : Nat} (hr : rwL h r c n) (hn : n < 2 ^ 31) (F : Nat → Nat → Int32) (i : Int32) (R : Int32 → tpH → Prop) : w_Ro_at r i (wI h F) R = R (rAt (F c) n i) (wI h F) := by
  refine propext ⟨fun hw => ?_, fun k => p_at (h := wI h F) hr hn k⟩
  unfold w_Ro_at at hw
  obtain ⟨h1, h2, h3, h4⟩ := hr
  unfold rAt
  by_cases c1 : i < 0
  · rw [if_pos c1]; exact hw.1 c1
  · obtain ⟨-, c', e', -, g1, g2⟩ := hw.2 c1
    rw [wI_R, h2] at e'
    cases e'
    rw [wI_L, h4] at g1 g2
    rw [if_neg c1]
    by_cases c2 : Int32.ofNat n ≤ i
    · rw [if_pos c2]; exact g1 c2
    · rw [if_neg c2]; exact (g2 c2).2
theorem e_put {h : tpH} {r c n : Nat} (hr : rwL h r c n) (hn : n < 2 ^ 31) (F : Nat → Nat → Int32) (i v : Int32) (R : tpH → Prop) : w_Ro_put r i v (wI h F) R = R (wI h (rPut F c n i v)) := by
  refine propext ⟨fun hw => ?_, fun k => p_put (h := wI h F) hr hn k⟩
  unfold w_Ro_put at hw
  obtain ⟨h1, h2, h3, h4⟩ := hr
  unfold rPut
  by_cases c1 : i < 0
  · rw [if_pos c1]; exact hw.1 c1
  · obtain ⟨-, c', e', -, g1, g2⟩ := hw.2 c1
    rw [wI_R, h2] at e'
    cases e'
    rw [wI_L, h4] at g1 g2
    rw [if_neg c1]
    by_cases c2 : Int32.ofNat n ≤ i
    · rw [if_pos c2]; exact g1 c2
    · rw [if_neg c2]; exact (g2 c2).2 _ rfl
theorem sI_w (h : tpH) (F : Nat → Nat → Int32) (a j : Nat) (v : Int32) : sI (wI h F) a j v = wI h (tpu F a j v) := rfl
def seg (nx : Nat → Int32) : Int32 → List Nat → Int32 → Prop
  | s, [], e => s = e
  | s, m :: l, e => s = nI m ∧ seg nx (nx m) l e
theorem seg_app {nx : Nat → Int32} : ∀ {A B : List Nat} {s e : Int32}, seg nx s (A ++ B) e ↔ ∃ q, seg nx s A q ∧ seg nx q B e
  | [], B, s, e => by
    constructor
    · intro h; exact ⟨s, rfl, h⟩
    · rintro ⟨q, h1, h2⟩; have : s = q := h1; rw [this]; exact h2
  | m :: A, B, s, e => by
    show s = nI m ∧ seg nx (nx m) (A ++ B) e ↔ ∃ q, (s = nI m ∧ seg nx (nx m) A q) ∧ seg nx q B e
    rw [seg_app]
    constructor
    · rintro ⟨h1, q, h2, h3⟩; exact ⟨q, ⟨h1, h2⟩, h3⟩
    · rintro ⟨q, ⟨h1, h2⟩, h3⟩; exact ⟨h1, q, h2, h3⟩
theorem seg_congr {nx nx' : Nat → Int32} : ∀ {l : List Nat} {s e : Int32}, (∀ x ∈ l, nx' x = nx x) → seg nx s l e → seg nx' s l e
  | [], _, _, _, h => h
  | m :: l, s, e, hc, h => by
    refine ⟨h.1, ?_⟩
    rw [hc m List.mem_cons_self]
    exact seg_congr (fun x hx => hc x (List.mem_cons_of_mem _ hx)) h.2
/-- the mark ahead of a place among children, or -1 -/
def lastO (A : List Nat) : Int32 := nO A.getLast?
def headO (A : List Nat) : Int32 := nO A.head?
theorem seg_head {nx : Nat → Int32} {s : Int32} {l : List Nat} (h : seg nx s l (-1)) : s = headO l := by
  cases l with
  | nil => exact h
  | cons m l => exact h.1
theorem lastO_app (A : List Nat) (b : Nat) : lastO (A ++ [b]) = nI b := by simp [lastO, nO]
theorem lastO_nil : lastO [] = -1 := rfl
theorem headO_cons (b : Nat) (A : List Nat) : headO (b :: A) = nI b := rfl
theorem list_snoc {A : List Nat} : A = [] ∨ ∃ A' b, A = A' ++ [b] := by
  rcases List.eq_nil_or_concat A with h | ⟨A', b, h⟩
  · exact Or.inl h
  · exact Or.inr ⟨A', b, by rw [h, List.concat_eq_append]⟩
/-- a mark comes in behind A and ahead of B -/
theorem seg_ins {nx nx' : Nat → Int32} {s s' : Int32} {A B : List Nat} {m : Nat} (h : seg nx s (A ++ B) (-1)) (hm : m ∉ A ++ B) (hn : (A ++ B).Nodup)
    (h1 : nx' m = headO B) (h2 : ∀ b, A.getLast? = some b → nx' b = nI m) (h3 : ∀ x, x ≠ m → A.getLast? ≠ some x → nx' x = nx x) (h4 : s' = if A = [] then nI m else s) : seg nx' s' (A ++ m :: B) (-1) := by
  have hmA : m ∉ A := fun h => hm (List.mem_append_left _ h)
  have hmB : m ∉ B := fun h => hm (List.mem_append_right _ h)
  rcases list_snoc (A := A) with rfl | ⟨A', b, rfl⟩
  · rw [if_pos rfl] at h4
    refine ⟨h4, ?_⟩
    have hB : seg nx (headO B) B (-1) := by
      have h0 : seg nx s B (-1) := h
      rw [← seg_head h0]; exact h0
    rw [h1]
    exact seg_congr (fun x hx => h3 x (fun e => hmB (by rw [← e]; exact hx)) (by simp)) hB
  · rw [if_neg (by simp)] at h4
    subst h4
    obtain ⟨q, hA, hB⟩ := seg_app.mp h
    have hq : q = headO B := seg_head hB
    obtain ⟨q2, hA', hb⟩ := seg_app.mp hA
    have hl : (A' ++ [b]).getLast? = some b := by simp
    have hbA : b ∉ A' := fun hb => by
      have := (List.nodup_append.mp (List.nodup_append.mp hn).1).2.2 b hb b (by simp)
      exact this rfl
    have hbB : b ∉ B := fun hb => (List.nodup_append.mp hn).2.2 b (by simp) b hb rfl
    refine seg_app.mpr ⟨nI m, seg_app.mpr ⟨q2, seg_congr (fun x hx => h3 x (fun e => hmA (List.mem_append_left _ (by rw [← e]; exact hx))) (fun e => hbA (by rw [hl] at e; rw [Option.some.inj e]; exact hx))) hA', hb.1, h2 b hl⟩, rfl, ?_⟩
    rw [h1, ← hq]
    exact seg_congr (fun x hx => h3 x (fun e => hmB (by rw [← e]; exact hx)) (fun e => hbB (by rw [hl] at e; rw [Option.some.inj e]; exact hx))) hB
/-- a mark goes out -/
theorem seg_del {nx nx' : Nat → Int32} {s s' : Int32} {A B : List Nat} {m : Nat} (h : seg nx s (A ++ m :: B) (-1)) (hn : (A ++ m :: B).Nodup)
    (h2 : ∀ b, A.getLast? = some b → nx' b = headO B) (h3 : ∀ x, x ≠ m → A.getLast? ≠ some x → nx' x = nx x) (h4 : s' = if A = [] then headO B else s) : seg nx' s' (A ++ B) (-1) := by
  obtain ⟨hA0, hB0, hd⟩ := List.nodup_append.mp hn
  have hmB : m ∉ B := (List.nodup_cons.mp hB0).1
  rcases list_snoc (A := A) with rfl | ⟨A', b, rfl⟩
  · rw [if_pos rfl] at h4
    have h0 : seg nx (nx m) B (-1) := h.2
    rw [seg_head h0] at h0
    rw [h4]
    exact seg_congr (fun x hx => h3 x (fun e => hmB (by rw [← e]; exact hx)) (by simp)) h0
  · rw [if_neg (by simp)] at h4
    subst h4
    obtain ⟨q, hA, hB⟩ := seg_app.mp h
    have hB1 : seg nx (nx m) B (-1) := hB.2
    have hq : nx m = headO B := seg_head hB1
    obtain ⟨q2, hA', hb⟩ := seg_app.mp hA
    have hl : (A' ++ [b]).getLast? = some b := by simp
    have hbA : b ∉ A' := fun hb => by
      have := (List.nodup_append.mp hA0).2.2 b hb b (by simp)
      exact this rfl
    have hbB : b ∉ B := fun hb => hd b (by simp) b (List.mem_cons_of_mem _ hb) rfl
    have hmA : ∀ x ∈ A', x ≠ m := fun x hx e => hd x (List.mem_append_left _ hx) m List.mem_cons_self e
    refine seg_app.mpr ⟨headO B, seg_app.mpr ⟨q2, seg_congr (fun x hx => h3 x (hmA x hx) (fun e => hbA (by rw [hl] at e; rw [Option.some.inj e]; exact hx))) hA', hb.1, h2 b hl⟩, ?_⟩
    rw [hq] at hB1
    exact seg_congr (fun x hx => h3 x (fun e => hmB (by rw [← e]; exact hx)) (fun e => hbB (by rw [hl] at e; rw [Option.some.inj e]; exact hx))) hB1
end PEXEC
