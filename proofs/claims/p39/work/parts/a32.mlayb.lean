section MLAYB
theorem pl_at {v : mT} (hv : tWF 300 v) {i x : Nat} (hi : (pO v)[i]? = some x) : pl v x = i ∧ tIn v x = true := by
  have hil := (List.getElem?_eq_some_iff.mp hi).1
  refine ⟨?_, (pO_mem hv).mp (List.mem_of_getElem? hi)⟩
  obtain ⟨m, hm, em⟩ := pl_of hv hil
  obtain ⟨A, B, eAB⟩ := pO_split hv hm
  have := pl_mid hv eAB
  rw [eAB, ← em, this] at hi
  rw [List.getElem?_append_right (Nat.le_refl _), Nat.sub_self] at hi
  simp only [List.getElem?_cons_zero, Option.some.injEq] at hi
  rw [← hi]; exact em
theorem pO_at {v : mT} (hv : tWF 300 v) {x : Nat} (hx : tIn v x = true) : (pO v)[pl v x]? = some x := by
  obtain ⟨A, B, eAB⟩ := pO_split hv hx
  rw [pl_mid hv eAB, eAB]
  simp
end MLAYB
