section TURN
theorem tpu_o {F : Nat → Nat → Int32} {a k b j : Nat} {v : Int32} (h : ¬ (b = a ∧ j = k)) : tpu F a k v b j = F b j := by
  simp only [tpu]
  rw [if_neg h]
end TURN
