section MMTREE
theorem mI_mul (a : Nat) : ∀ b : Nat, nI a * nI b = nI (a * b)
  | 0 => by rw [nI_0, Int32.mul_zero, Nat.mul_zero, nI_0]
  | b + 1 => by rw [← nI_1, Int32.mul_add, mI_mul a b, Int32.mul_one, nI_add, Nat.mul_succ]
end MMTREE
