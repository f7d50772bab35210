section MHANG
theorem lowA_snoc (A : List Nat) (c m : Nat) : lowA (A ++ [c]) m = if m < c then lowA A m else A ++ [c] := by
  unfold lowA
  rw [List.reverse_append]
  show (List.dropWhile _ (c :: A.reverse)).reverse = _
  by_cases h : m < c
  · rw [if_pos h, List.dropWhile_cons_of_pos (by simpa using h)]
  · rw [if_neg h, List.dropWhile_cons_of_neg (by simpa using h)]
    simp
end MHANG
