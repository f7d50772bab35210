section FLT
theorem vf_ok {r : UInt32} (h : Jvm.FP.Core.val32 r ≠ Jvm.FP.Core.Datum.nan) : vf_n32 r := by
  unfold vf_n32
  rw [UInt32.le_iff_toNat_le, UInt32.toNat_and]
  have e1 : (0x7fffffff : UInt32).toNat = 2 ^ 31 - 1 := by decide
  have e2 : (0x7f800000 : UInt32).toNat = 255 * 2 ^ 23 := by decide
  rw [e1, e2, Nat.and_two_pow_sub_one_eq_mod]
  refine Nat.le_of_not_lt fun g => h ?_
  have q1 : Jvm.FP.Core.b32.tails = 2 ^ 23 := by decide
  have q2 : Jvm.FP.Core.b32.exps = 2 ^ 8 := by decide
  unfold Jvm.FP.Core.val32 Jvm.FP.Core.decode Jvm.FP.Core.fieldE Jvm.FP.Core.fieldT
  rw [q1, q2]
  generalize r.toNat = n at g
  rw [if_pos (by omega), if_neg (by omega)]
/-- a whole number as a float -/
theorem fI_ok {n : Nat} (h : n < 2 ^ 31) : ∃ c q, Jvm.FP.Core.val32 (fI n) = Jvm.FP.Core.roundRatio Jvm.FP.Core.b32 false n 1 0 ∧ c = n ∧ q = n := by
  refine ⟨n, n, ?_, rfl, rfl⟩
  unfold fI
  show Jvm.FP.Core.val32 (Jvm.FP.Core.i2f (nI n)) = _
  rw [Jvm.FP.Core.val32_i2f, nI_toInt h]
  unfold Jvm.FP.Core.ofInt Jvm.FP.Core.round
  rw [decide_eq_false (by omega)]
  rfl
theorem rr_nn (s : Bool) (a b : Nat) (e : Int) : Jvm.FP.Core.roundRatio Jvm.FP.Core.b32 s a b e ≠ Jvm.FP.Core.Datum.nan := by
  unfold Jvm.FP.Core.roundRatio Jvm.FP.Core.roundAt Jvm.FP.Core.settle Jvm.FP.Core.bound
  repeat' split
  all_goals (intro g; cases g)
end FLT
