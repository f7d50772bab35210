section RM4
theorem snoc {α : Type} : ∀ S : List α, S = [] ∨ ∃ S0 e, S = S0 ++ [e]
  | [] => Or.inl rfl
  | a :: l => by
    rcases snoc l with h | ⟨S0, e, h⟩
    · exact Or.inr ⟨[], a, by rw [h]; rfl⟩
    · exact Or.inr ⟨a :: S0, e, by rw [h]; rfl⟩
end RM4
