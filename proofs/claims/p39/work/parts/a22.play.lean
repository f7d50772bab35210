section PLAY
theorem idx_split {l : List Nat} (hn : l.Nodup) {x : Nat} {A B : List Nat} (e : l = A ++ x :: B) : l.idxOf x = A.length := by
  rw [e]
  refine ix_mid (fun g => ?_)
  rw [e] at hn
  exact (List.nodup_append.mp hn).2.2 x g x List.mem_cons_self rfl
theorem take_ix1 {l : List Nat} (hn : l.Nodup) {x : Nat} (h : x ∈ l) : (l.take (l.idxOf x + 1)).getLast? = some x := by
  obtain ⟨A, B, e⟩ := List.append_of_mem h
  rw [idx_split hn e, e, show A ++ x :: B = (A ++ [x]) ++ B by simp, List.take_append_of_le_length (by simp), List.take_of_length_le (by simp)]
  simp
end PLAY
