section MT1
theorem TrP_kb {a mk : Nat} {F G : Nat → Nat → Int32} {t : mT} (f : ∀ b, a ≤ b → b < a + 19 → G b = F b) (H : TrP F a t mk) : TrP G a t mk := by
  unfold TrP at H ⊢
  rw [f a (by omega) (by omega), f (a + 2) (by omega) (by omega), f (a + 4) (by omega) (by omega), f (a + 6) (by omega) (by omega), f (a + 8) (by omega) (by omega), f (a + 10) (by omega) (by omega), f (a + 12) (by omega) (by omega), f (a + 14) (by omega) (by omega), f (a + 16) (by omega) (by omega), f (a + 18) (by omega) (by omega)]
  exact H
end MT1
