section CASE21
theorem dr_cons {w : mT} (hw : tWF 300 w) {i : Nat} (hi : i < (pO w).length) : ∃ x, (pO w).drop i = x :: (pO w).drop (i + 1) ∧ pl w x = i ∧ tIn w x = true ∧ x ∉ (pO w).drop (i + 1) := by
  have e := List.drop_eq_getElem_cons hi
  obtain ⟨q1, q2⟩ := pl_at hw (List.getElem?_eq_getElem hi)
  refine ⟨_, e, q1, q2, ?_⟩
  have nd := List.Pairwise.sublist (List.drop_sublist i (pO w)) (pO_nd hw)
  rw [e] at nd
  exact (List.nodup_cons.mp nd).1
end CASE21
