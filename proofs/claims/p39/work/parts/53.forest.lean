section FOREST
def mU {α : Type} (f : Nat → α) (m : Nat) (v : α) : Nat → α := fun x => if x = m then v else f x
theorem mU_s {α : Type} (f : Nat → α) (m : Nat) (v : α) : mU f m v m = v := if_pos rfl
theorem mU_n {α : Type} (f : Nat → α) {m x : Nat} (v : α) (h : x ≠ m) : mU f m v x = f x := if_neg h
def tSpr (t : mT) (m : Nat) (w : Int32) : mT := (tRt t, mU (tWo t) m w, mU (tKi t) m [], mU (tUp t) m none, mU (tIn t) m true)
def tHng (t : mT) (m p : Nat) (l : List Nat) : mT := (tRt t, tWo t, mU (tKi t) p l, mU (tUp t) m (some p), tIn t)
def tCut (t : mT) (m : Nat) : mT := (tRt t, tWo t, fun p => (tKi t p).erase m, mU (tUp t) m none, tIn t)
def tSet (t : mT) (m : Nat) (w : Int32) : mT := (tRt t, mU (tWo t) m w, tKi t, tUp t, tIn t)
noncomputable def tErs (t : mT) (m : Nat) : mT := (tRt t, tWo t, fun p => if p ∈ tPo t m then [] else (tKi t p).erase m, mU (tUp t) m none, fun x => tIn t x && !decide (x ∈ tPo t m))
theorem fKi_in {N : Nat} {t : mT} (hw : fWF N t) {x p : Nat} (h : x ∈ tKi t p) : tIn t x = true ∧ tUp t x = some p := (hw.2.1 x p).mp h
theorem fKi_p {N : Nat} {t : mT} (hw : fWF N t) {x p : Nat} (h : x ∈ tKi t p) : tIn t p = true := hw.2.2.2.2 x p (fKi_in hw h).1 (fKi_in hw h).2
theorem fSpr {N : Nat} {t : mT} (hw : fWF N t) {m : Nat} {w : Int32} (hm : tIn t m = false) (hN : m < N) : fWF N (tSpr t m w) := by
  refine ⟨fun x hx => ?_, fun x p => ?_, fun p => ?_, ?_, fun x p hx hp => ?_⟩
  · by_cases e : x = m
    · rw [e]; exact hN
    · exact hw.1 x (by rw [← mU_n (tIn t) true e]; exact hx)
  · show x ∈ mU (tKi t) m [] p ↔ mU (tIn t) m true x = true ∧ mU (tUp t) m none x = some p
    by_cases e : x = m
    · subst e
      rw [mU_s (tUp t)]
      refine ⟨fun h => ?_, fun h => by simp at h⟩
      by_cases e2 : p = x
      · subst e2; rw [mU_s] at h; simp at h
      · rw [mU_n _ _ e2] at h
        rw [(fKi_in hw h).1] at hm; simp at hm
    · rw [mU_n (tIn t) _ e, mU_n (tUp t) _ e]
      by_cases e2 : p = m
      · subst e2
        rw [mU_s]
        refine ⟨fun h => by simp at h, fun h => ?_⟩
        rw [hw.2.2.2.2 x p h.1 h.2] at hm; simp at hm
      · rw [mU_n _ _ e2]; exact hw.2.1 x p
  · show (mU (tKi t) m [] p).Nodup
    by_cases e2 : p = m
    · rw [e2, mU_s]; exact List.nodup_nil
    · rw [mU_n _ _ e2]; exact hw.2.2.1 p
  · obtain ⟨rk, hrk⟩ := hw.2.2.2.1
    refine ⟨rk, fun x p hx => hrk x p ?_⟩
    have hx : x ∈ mU (tKi t) m [] p := hx
    by_cases e2 : p = m
    · rw [e2, mU_s] at hx; simp at hx
    · rw [mU_n _ _ e2] at hx; exact hx
  · have hx : mU (tIn t) m true x = true := hx
    have hp : mU (tUp t) m none x = some p := hp
    show mU (tIn t) m true p = true
    by_cases e : x = m
    · rw [e, mU_s] at hp; simp at hp
    · rw [mU_n _ _ e] at hp hx
      have := hw.2.2.2.2 x p hx hp
      by_cases e2 : p = m
      · rw [e2, mU_s]
      · rw [mU_n _ _ e2]; exact this
theorem fHng {N : Nat} {t : mT} (hw : fWF N t) {m p : Nat} {A B : List Nat} (hm : tIn t m = true) (hu : tUp t m = none) (hp : tIn t p = true) (hc : p ∉ tPo t m) (hk : tKi t p = A ++ B) : fWF N (tHng t m p (A ++ m :: B)) := by
  have hmk : ∀ q, m ∉ tKi t q := fun q h => by have := (fKi_in hw h).2; rw [hu] at this; simp at this
  refine ⟨hw.1, fun x q => ?_, fun q => ?_, ?_, fun x q hx hq => ?_⟩
  · show x ∈ mU (tKi t) p (A ++ m :: B) q ↔ tIn t x = true ∧ mU (tUp t) m (some p) x = some q
    by_cases e : x = m
    · subst e
      rw [mU_s]
      by_cases e2 : q = p
      · subst e2; rw [mU_s]; simp [hm]
      · rw [mU_n _ _ e2]
        refine ⟨fun h => absurd h (hmk q), fun h => absurd (Option.some.inj h.2).symm e2⟩
    · rw [mU_n _ _ e]
      by_cases e2 : q = p
      · subst e2; rw [mU_s, ← hw.2.1 x q, hk]; simp [e]
      · rw [mU_n _ _ e2]; exact hw.2.1 x q
  · show (mU (tKi t) p (A ++ m :: B) q).Nodup
    by_cases e2 : q = p
    · rw [e2, mU_s]
      have h1 := hw.2.2.1 p
      have h2 := hmk p
      rw [hk] at h1 h2
      exact (List.perm_middle.nodup_iff).mpr (List.nodup_cons.mpr ⟨h2, h1⟩)
    · rw [mU_n _ _ e2]; exact hw.2.2.1 q
  · have hr := hw.2.2.2.1
    obtain ⟨rk, hrk⟩ := id hr
    refine ⟨fun x => if x ∈ tPo t m then rk x else rk x + (rk m + 1), fun x q hx => ?_⟩
    have hx : x ∈ mU (tKi t) p (A ++ m :: B) q := hx
    have old : x ∈ tKi t q → (if x ∈ tPo t m then rk x else rk x + (rk m + 1)) < (if q ∈ tPo t m then rk q else rk q + (rk m + 1)) := by
      intro hx
      have h1 := hrk x q hx
      by_cases c1 : q ∈ tPo t m
      · rw [if_pos c1, if_pos (tPo_kid hr hx m c1)]; exact h1
      · rw [if_neg c1]; split <;> omega
    by_cases e2 : q = p
    · subst e2
      rw [mU_s] at hx
      by_cases e : x = m
      · subst e
        show (if x ∈ tPo t x then rk x else rk x + (rk x + 1)) < (if q ∈ tPo t x then rk q else rk q + (rk x + 1))
        rw [if_pos (tPo_self hr x), if_neg hc]; omega
      · exact old (by rw [hk]; simpa [e] using hx)
    · rw [mU_n _ _ e2] at hx; exact old hx
  · have hq : mU (tUp t) m (some p) x = some q := hq
    by_cases e : x = m
    · rw [e, mU_s] at hq
      rw [← Option.some.inj hq]; exact hp
    · rw [mU_n _ _ e] at hq; exact hw.2.2.2.2 x q hx hq
theorem fCut {N : Nat} {t : mT} (hw : fWF N t) (m : Nat) : fWF N (tCut t m) := by
  refine ⟨hw.1, fun x q => ?_, fun q => (hw.2.2.1 q).erase m, ?_, fun x q hx hq => ?_⟩
  · show x ∈ (tKi t q).erase m ↔ tIn t x = true ∧ mU (tUp t) m none x = some q
    rw [(hw.2.2.1 q).mem_erase_iff, hw.2.1 x q]
    by_cases e : x = m
    · rw [e, mU_s]; simp
    · rw [mU_n _ _ e]; simp [e]
  · obtain ⟨rk, hrk⟩ := hw.2.2.2.1
    exact ⟨rk, fun x q hx => hrk x q (List.mem_of_mem_erase hx)⟩
  · have hq : mU (tUp t) m none x = some q := hq
    by_cases e : x = m
    · rw [e, mU_s] at hq; simp at hq
    · rw [mU_n _ _ e] at hq; exact hw.2.2.2.2 x q hx hq
theorem fErs {N : Nat} {t : mT} (hw : fWF N t) (m : Nat) : fWF N (tErs t m) := by
  have hr := hw.2.2.2.1
  have hin : ∀ x, tIn (tErs t m) x = true ↔ tIn t x = true ∧ x ∉ tPo t m := by
    intro x
    show (tIn t x && !decide (x ∈ tPo t m)) = true ↔ _
    simp
  refine ⟨fun x hx => hw.1 x ((hin x).mp hx).1, fun x q => ?_, fun q => ?_, ?_, fun x q hx hq => ?_⟩
  · rw [hin]
    show x ∈ (if q ∈ tPo t m then [] else (tKi t q).erase m) ↔ (tIn t x = true ∧ x ∉ tPo t m) ∧ mU (tUp t) m none x = some q
    by_cases c : q ∈ tPo t m
    · rw [if_pos c]
      refine ⟨fun h => by simp at h, fun h => ?_⟩
      by_cases e : x = m
      · have h2 := h.2; rw [e, mU_s] at h2; simp at h2
      · have h2 := h.2
        rw [mU_n _ _ e] at h2
        exact absurd (tPo_kid hr ((hw.2.1 x q).mpr ⟨h.1.1, h2⟩) m c) h.1.2
    · rw [if_neg c, (hw.2.2.1 q).mem_erase_iff]
      constructor
      · rintro ⟨h1, h2⟩
        refine ⟨⟨(fKi_in hw h2).1, fun h3 => ?_⟩, ?_⟩
        · rcases tPo_up hr m h3 with e | ⟨p, hp, hpm⟩
          · exact h1 e
          · rw [tUp_of hw hp h2] at hpm; exact c hpm
        · rw [mU_n _ _ h1]; exact (fKi_in hw h2).2
      · rintro ⟨⟨h1, h3⟩, h2⟩
        have e : x ≠ m := fun e => h3 (by rw [e]; exact tPo_self hr m)
        rw [mU_n _ _ e] at h2
        exact ⟨e, (hw.2.1 x q).mpr ⟨h1, h2⟩⟩
  · show (if q ∈ tPo t m then [] else (tKi t q).erase m).Nodup
    split
    · exact List.nodup_nil
    · exact (hw.2.2.1 q).erase m
  · obtain ⟨rk, hrk⟩ := hr
    refine ⟨rk, fun x q hx => ?_⟩
    have hx : x ∈ (if q ∈ tPo t m then [] else (tKi t q).erase m) := hx
    by_cases c : q ∈ tPo t m
    · rw [if_pos c] at hx; simp at hx
    · rw [if_neg c] at hx; exact hrk x q (List.mem_of_mem_erase hx)
  · have hq : mU (tUp t) m none x = some q := hq
    have h1 := (hin x).mp hx
    have e : x ≠ m := fun e => h1.2 (by rw [e]; exact tPo_self hr m)
    rw [mU_n _ _ e] at hq
    refine (hin q).mpr ⟨hw.2.2.2.2 x q h1.1 hq, fun h => h1.2 (tPo_kid hr ((hw.2.1 x q).mpr ⟨h1.1, hq⟩) m h)⟩
def tCn (t : mT) : Nat := ((List.range 300).filter (fun m => tIn t m)).length
theorem tCn_le (t : mT) : tCn t ≤ 300 := by
  have h := List.length_filter_le (fun m => tIn t m) (List.range 300)
  rw [List.length_range] at h; exact h
theorem tCn_nd {t : mT} {l : List Nat} (hN : ∀ m, tIn t m = true → m < 300) (h1 : l.Nodup) (h2 : ∀ x, x ∈ l ↔ tIn t x = true) : l.length = tCn t := by
  refine nd_len_eq h1 (List.nodup_range.filter _) (fun x => ?_)
  rw [List.mem_filter, List.mem_range, h2]
  exact ⟨fun h => ⟨hN x h, h⟩, fun h => h.2⟩
theorem tCn_po {t : mT} (hw : tWF 300 t) : (tPo t (tRt t)).length = tCn t := tCn_nd hw.1.1 (tPo_nodup hw.1 _) (fun _ => tPo_all hw)
theorem tCn_spr {N : Nat} {t : mT} {m : Nat} {w : Int32} (hw : fWF N t) (hm : tIn t m = false) (hN : m < 300) : tCn (tSpr t m w) = tCn t + 1 := by
  have h1 : ((List.range 300).filter (fun x => tIn (tSpr t m w) x)).length = (m :: (List.range 300).filter (fun x => tIn t x)).length := by
    refine nd_len_eq (List.nodup_range.filter _) (List.nodup_cons.mpr ⟨fun h => ?_, List.nodup_range.filter _⟩) (fun x => ?_)
    · rw [List.mem_filter, hm] at h; simp at h
    · show x ∈ List.filter (fun x => mU (tIn t) m true x) (List.range 300) ↔ _
      rw [List.mem_filter, List.mem_cons, List.mem_filter, List.mem_range]
      by_cases e : x = m
      · subst e; rw [mU_s]; simp [hN]
      · rw [mU_n _ _ e]; simp [e]
  exact h1
theorem tCn_ers {N : Nat} {t : mT} {m : Nat} (hw : fWF N t) (hN : N ≤ 300) (hm : tIn t m = true) : tCn (tErs t m) + (tPo t m).length = tCn t := by
  have h1 : ((List.range 300).filter (fun x => tIn (tErs t m) x) ++ tPo t m).length = tCn t := by
    refine nd_len_eq (List.nodup_append.mpr ⟨List.nodup_range.filter _, tPo_nodup hw m, fun a ha b hb e => ?_⟩) (List.nodup_range.filter _) (fun x => ?_)
    · subst e
      have h2 : (tIn t a && !decide (a ∈ tPo t m)) = true := (List.mem_filter.mp ha).2
      simp [hb] at h2
    · rw [List.mem_append, List.mem_filter, List.mem_filter, List.mem_range]
      have h2 : tIn (tErs t m) x = (tIn t x && !decide (x ∈ tPo t m)) := rfl
      rw [h2]
      constructor
      · rintro (h | h)
        · exact ⟨h.1, by simp at h; exact h.2.1⟩
        · have := tPo_in hw hm x h
          exact ⟨Nat.lt_of_lt_of_le (hw.1 x this) hN, this⟩
      · rintro ⟨h3, h4⟩
        by_cases c : x ∈ tPo t m
        · exact Or.inr c
        · exact Or.inl ⟨h3, by simp [h4, c]⟩
  rw [List.length_append] at h1
  exact h1
end FOREST
