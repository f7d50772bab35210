section FD5
theorem spr_fr {F : Nat → Nat → Int32} {d m : Nat} {w : Int32} (hm : m < 300) {b j : Nat} (h1 : ¬ (d + 2 ≤ b ∧ b ≤ d + 14)) (h2 : ¬ (b = d ∧ j = 9)) : uSprout F d (nI m) w b j = F b j := by
  unfold uSprout
  simp only [rPut_n hm n300]
  rw [tpu_o h2, tpu_o (by omega), tpu_o (by omega), tpu_o (by omega), tpu_o (by omega), tpu_o (by omega), tpu_o (by omega), tpu_o (by omega)]
end FD5
