section SAME
theorem tr_pl {F : Nat → Nat → Int32} {a mk : Nat} {t : mT} (H : TrP F a t mk) (hk : mk ≤ 300) (hm : ∀ m, tIn t m = true → m < mk) {m : Nat} (h3 : m < 300) : rAt (F (a + 18)) mk (nI m) = if tIn t m = true then nI (pl t m) else -1 := by
  by_cases g : m < mk
  · rw [rAt_n g (by omega), H.2.2 m g]
  · rw [rAt_o (by omega) (by omega), if_neg (fun e => g (hm m e))]
theorem tr_wo {F : Nat → Nat → Int32} {a mk : Nat} {t : mT} (H : TrP F a t mk) (hw : tWF 300 t) {m : Nat} (hi : tIn t m = true) : rAt (F (a + 4)) (pO t).length (nI (pl t m)) = tWo t m := by
  have := pO_le hw
  rw [rAt_n (pl_lt hw hi) (by omega), (H.2.1 m hi).2.1]
theorem tr_um {F : Nat → Nat → Int32} {a mk : Nat} {t : mT} (H : TrP F a t mk) (hw : tWF 300 t) {m : Nat} (hi : tIn t m = true) : rAt (F (a + 2)) (pO t).length (rAt (F (a + 6)) (pO t).length (nI (pl t m))) = nO (tUp t m) := by
  have := pO_le hw
  rw [rAt_n (pl_lt hw hi) (by omega), (H.2.1 m hi).2.2.1]
  cases hu : tUp t m with
  | none => exact rAt_m
  | some u =>
    have hui := hw.1.2.2.2.2 m u hi hu
    show rAt _ _ (nI (pl t u)) = _
    rw [rAt_n (pl_lt hw hui) (by omega), (H.2.1 u hui).1]; rfl
theorem up3 {t : mT} (hw : tWF 300 t) {m : Nat} (hi : tIn t m = true) : ∀ u, tUp t m = some u → u < 2 ^ 31 := fun u hu => by
  have := hw.1.1 u (hw.1.2.2.2.2 m u hi hu)
  omega
def hsB (t u : mT) (m : Nat) : Bool := tIn t m && tIn u m && decide (tWo t m = tWo u m) && decide (tUp t m = tUp u m)
theorem hsB_iff {t u : mT} {m : Nat} : hsB t u m = true ↔ tIn t m = true ∧ tIn u m = true ∧ tWo t m = tWo u m ∧ tUp t m = tUp u m := by
  unfold hsB
  simp [Bool.and_eq_true, and_assoc]
theorem e_Tr_hasSame {h : tpH} {a n mk b n' mk' : Nat} (l : lTr h a n mk) (hn : n ≤ 300) (hk : mk ≤ 300) (l' : lTr h b n' mk') (hn' : n' ≤ 300) (hk' : mk' ≤ 300) (F : Nat → Nat → Int32) (i : Int32) (R : Int32 → tpH → Prop) : w_Tr_hasSame a (some b) i (wI h F) R =
    R (if rAt (F (a + 18)) mk i = -1 then 0 else if rAt (F (b + 18)) mk' i = -1 then 0 else if rAt (F (a + 4)) n (rAt (F (a + 18)) mk i) = rAt (F (b + 4)) n' (rAt (F (b + 18)) mk' i) then (if rAt (F (a + 2)) n (rAt (F (a + 6)) n (rAt (F (a + 18)) mk i)) = rAt (F (b + 2)) n' (rAt (F (b + 6)) n' (rAt (F (b + 18)) mk' i)) then 1 else 0) else 0) (wI h F) := by
  obtain ⟨l0, ⟨a1, b1⟩, ⟨a2, b2⟩, ⟨a3, b3⟩, -, -, -, -, -, ⟨a9, b9⟩⟩ := l
  obtain ⟨m0, ⟨c1, d1⟩, ⟨c2, d2⟩, ⟨c3, d3⟩, -, -, -, -, -, ⟨c9, d9⟩⟩ := l'
  unfold w_Tr_hasSame
  simp only [wI_T, wI_R, wI_I, l0, a1, b1.1, a2, b2.1, a3, b3.1, a9, b9.1, m0, c1, d1.1, c2, d2.1, c3, d3.1, c9, d9.1, Option.some.injEq, exists_eq_left', true_and, e_at b1 (show n < 2 ^ 31 by omega), e_at b2 (show n < 2 ^ 31 by omega), e_at b3 (show n < 2 ^ 31 by omega), e_at b9 (show mk < 2 ^ 31 by omega), e_at d1 (show n' < 2 ^ 31 by omega), e_at d2 (show n' < 2 ^ 31 by omega), e_at d3 (show n' < 2 ^ 31 by omega), e_at d9 (show mk' < 2 ^ 31 by omega)]
  by_cases q1 : rAt (F (a + 18)) mk i = -1 <;> by_cases q2 : rAt (F (b + 18)) mk' i = -1 <;> by_cases q3 : rAt (F (a + 4)) n (rAt (F (a + 18)) mk i) = rAt (F (b + 4)) n' (rAt (F (b + 18)) mk' i) <;> by_cases q4 : rAt (F (a + 2)) n (rAt (F (a + 6)) n (rAt (F (a + 18)) mk i)) = rAt (F (b + 2)) n' (rAt (F (b + 6)) n' (rAt (F (b + 18)) mk' i)) <;> simp_all
theorem p_Tr_hasSame {h : tpH} {a mk b mk' : Nat} {t u : mT} (l : lTr h a (pO t).length mk) (hk : mk ≤ 300) (l' : lTr h b (pO u).length mk') (hk' : mk' ≤ 300) {F : Nat → Nat → Int32} (H : TrP F a t mk) (H' : TrP F b u mk') (hw : tWF 300 t) (hw' : tWF 300 u) (hm : ∀ m, tIn t m = true → m < mk) (hm' : ∀ m, tIn u m = true → m < mk') {m : Nat} (h3 : m < 300) (R : Int32 → tpH → Prop) : w_Tr_hasSame a (some b) (nI m) (wI h F) R = R (if hsB t u m = true then 1 else 0) (wI h F) := by
  rw [e_Tr_hasSame l (pO_le hw) hk l' (pO_le hw') hk', tr_pl H hk hm h3, tr_pl H' hk' hm' h3]
  congr 1
  by_cases c1 : tIn t m = true
  · have n1 := pl_lt hw c1
    have n3 := pO_le hw
    rw [if_pos c1, if_neg (nI_ne_m (by omega))]
    by_cases c2 : tIn u m = true
    · have n2 := pl_lt hw' c2
      have n4 := pO_le hw'
      rw [if_pos c2, if_neg (nI_ne_m (by omega)), tr_wo H hw c1, tr_wo H' hw' c2, tr_um H hw c1, tr_um H' hw' c2]
      by_cases c3 : tWo t m = tWo u m
      · rw [if_pos c3]
        by_cases c4 : tUp t m = tUp u m
        · rw [if_pos (by rw [c4]), if_pos (hsB_iff.mpr ⟨c1, c2, c3, c4⟩)]
        · rw [if_neg (fun e => c4 (nO_inj (up3 hw c1) (up3 hw' c2) e)), if_neg (fun e => c4 (hsB_iff.mp e).2.2.2)]
      · rw [if_neg c3, if_neg (fun e => c3 (hsB_iff.mp e).2.2.1)]
    · rw [if_neg c2, if_pos rfl, if_neg (fun e => c2 (hsB_iff.mp e).2.1)]
  · rw [if_neg c1, if_pos rfl, if_neg (fun e => c1 (hsB_iff.mp e).1)]
end SAME
