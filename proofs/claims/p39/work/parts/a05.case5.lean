section CASE5
theorem lTP_mg {h : tpH} {x p : Nat} (l : lTP h x p) : hR h x 11 = some (p + 69) := by
  obtain ⟨t0, r0, o0, r1, o1, r2, o2, r3, o3, r5, o5, r7, o7, r8, o8, r9, o9, r11, o11, r12, o12⟩ := l
  exact r11
theorem lTP_mgF {h : tpH} {x p : Nat} (l : lTP h x p) : lMg h (p + 69) (some (p + 0)) (some (p + 20)) := by
  obtain ⟨t0, r0, o0, r1, o1, r2, o2, r3, o3, r5, o5, r7, o7, r8, o8, r9, o9, r11, o11, r12, o12⟩ := l
  exact o11
theorem lTP_mgL {h : tpH} {x p : Nat} (l : lTP h x p) : hT h (p + 69) = 7 ∧ hR h (p + 69) 10 = some (p + 86) ∧ hT h (p + 86) = 8 ∧ hR h (p + 69) 11 = some (p + 88) ∧ hT h (p + 88) = 8 ∧ hR h (p + 69) 2 = some (p + 70) ∧ rwL h (p + 70) (p + 71) 6 := by
  obtain ⟨g0, g1, g2, v1, v2, v3, v4, v5, v6, v7, v8, v9, v10⟩ := lTP_mgF l
  exact ⟨g0, v9.1, v9.2, v10.1, v10.2, v1.1, v1.2⟩
end CASE5
