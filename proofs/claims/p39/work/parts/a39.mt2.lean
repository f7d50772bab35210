section MT2
theorem e_kid {h : tpH} {a mk : Nat} {w : mT} (l : lTr h a (pO w).length mk) (hk : mk ≤ 300) (hw : tWF 300 w) {F : Nat → Nat → Int32} (H : TrP F a w mk) {m j k : Nat} (hm : tIn w m = true) (e : (tKi w m)[j]? = some k) (R : Int32 → tpH → Prop) : w_Tr_kid a (nI (pl w m)) (nI j) (wI h F) R = R (nI (pl w k)) (wI h F) := by
  have hj := (List.getElem?_eq_some_iff.mp e).1
  have ek := (List.getElem?_eq_some_iff.mp e).2
  have hkm : k ∈ tKi w m := List.mem_of_getElem? e
  have eK : tKi w m = (tKi w m).take j ++ k :: (tKi w m).drop (j + 1) := by
    rw [← ek, ← List.drop_eq_getElem_cons hj, List.take_append_drop]
  have hl : ((tKi w m).take j).length = j := by rw [List.length_take]; omega
  have erk : rkO w k = j := by rw [rkO_mid hw eK, hl]
  obtain ⟨_, _, _, _, _, q6, q7, q8⟩ := H.2.1 m hm
  have q9 := q8 k hkm
  rw [erk] at q9
  have hpl := pl_lt hw hm
  have ple := pO_le hw
  have hkf := kfO_le hw hm
  rw [e_Tr_kid l ple hk, if_neg (nI_pos (by omega)), rAt_n hpl (by omega), q7, if_neg (fun g => absurd ((nI_le_iff (by omega) (by omega)).mp g) (by omega)), rAt_n hpl (by omega), q6, nI_add, rAt_n (by omega) (by omega), q9]
end MT2
