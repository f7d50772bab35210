section FD4
theorem aK_last {K : List Nat} (hn : K.Nodup) {a : Option Nat} (ha : ∀ b, a = some b → b ∈ K) : lastO (K.take (aK K a)) = nO a := by
  cases a with
  | none => rfl
  | some b =>
    show nO (K.take (K.idxOf b + 1)).getLast? = nO (some b)
    rw [take_ix1 hn (ha b rfl)]
theorem p_cHang {h : tpH} {p : Nat} (lb : lBu h (p + 20) (some p)) (lm : lMa h p) {F : Nat → Nat → Int32} {c : mT} (hB : BuP F (p + 20) c) (hw : fWF 300 c) {m r : Nat} (hi : tIn c m = true) (hup : tUp c m = none) (hr : tIn c r = true) {a : Option Nat} (ha : ∀ b, a = some b → b ∈ tKi c r) {lo : Bool} (hlo : F (p + 2) r < 4 ↔ lo = false) {R : tpH → Prop} (kk : ∀ G, BuP G (p + 20) (tHng c m r (inKids lo (tKi c r) m (aK (tKi c r) a))) → (∀ b, b ≠ p + 26 → b ≠ p + 28 → b ≠ p + 30 → b ≠ p + 32 → b ≠ p + 34 → G b = F b) → R (wI h G)) : w_Bu_hang (p + 20) (nI m) (nI r) (nO a) (wI h F) R := by
  obtain ⟨hB2, hf2⟩ := bu_hng hB hw (p := r) hi hup hr (in_split lo (tKi c r) m (aK (tKi c r) a))
  rw [← aK_last (hw.2.2.1 r) ha]
  exact p_Bu_hang lb lm (BuP_L hB) hw hr (hw.1 m hi) hlo (kk _ hB2 (fun b b1 b2 b3 b4 b5 => hf2 b b1 b2 b3 b4 b5))
end FD4
