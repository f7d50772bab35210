section NEEDS
theorem i_lt (x y : Int32) : x < y ↔ x.toInt < y.toInt := Int32.lt_iff_toInt_lt
theorem i_le (x y : Int32) : x ≤ y ↔ x.toInt ≤ y.toInt := Int32.le_iff_toInt_le
def gdLk (k v i : Int32) : Prop := (0 ≤ k.toInt ∧ k.toInt ≤ 5) ∧ (0 ≤ v.toInt ∧ v.toInt ≤ 99) ∧ (-1 ≤ i.toInt ∧ i.toInt ≤ 99)
theorem p_TP_needKind {h : tpH} {o : Nat} {k : Int32} {X : String → tpH → Prop} {R : tpH → Prop} (k1 : 0 ≤ k.toInt ∧ k.toInt ≤ 5 → R h) (k2 : ¬ (0 ≤ k.toInt ∧ k.toInt ≤ 5) → X "java/lang/IllegalArgumentException" (nC h 0 0 6)) : w_TP_needKind o k h X R := by
  have e0 : (0 : Int32).toInt = 0 := rfl
  have e6 : (6 : Int32).toInt = 6 := rfl
  unfold w_TP_needKind
  rw [i_lt, i_lt, e0, e6]
  exact ⟨fun e => k2 (by omega), fun e => ⟨fun e2 => k1 (by omega), fun e2 => k2 (by omega)⟩⟩
theorem p_TP_needValue {h : tpH} {o : Nat} {v : Int32} {X : String → tpH → Prop} {R : tpH → Prop} (k1 : 0 ≤ v.toInt ∧ v.toInt ≤ 99 → R h) (k2 : ¬ (0 ≤ v.toInt ∧ v.toInt ≤ 99) → X "java/lang/IllegalArgumentException" (nC h 0 0 6)) : w_TP_needValue o v h X R := by
  have e0 : (0 : Int32).toInt = 0 := rfl
  have e6 : (100 : Int32).toInt = 100 := rfl
  unfold w_TP_needValue
  rw [i_lt, i_lt, e0, e6]
  exact ⟨fun e => k2 (by omega), fun e => ⟨fun e2 => k1 (by omega), fun e2 => k2 (by omega)⟩⟩
theorem p_TP_needLooks {h : tpH} {o : Nat} {k v i : Int32} {X : String → tpH → Prop} {R : tpH → Prop} (ho : hT h o = 13) (k1 : gdLk k v i → R h) (k2 : ¬ gdLk k v i → X "java/lang/IllegalArgumentException" (nC h 0 0 6)) : w_TP_needLooks o k v i h X R := by
  have e0 : (0 : Int32).toInt = 0 := rfl
  have e6 : (100 : Int32).toInt = 100 := rfl
  have em : (-1 : Int32).toInt = -1 := rfl
  unfold w_TP_needLooks
  refine ⟨ho, p_TP_needKind (fun hk => ⟨ho, p_TP_needValue (fun hv => ?_) (fun e => k2 (fun g => e g.2.1))⟩) (fun e => k2 (fun g => e g.1))⟩
  rw [i_lt, i_lt, e0, e6]
  refine ⟨fun e => k1 ⟨hk, hv, by rw [e, em]; omega⟩, fun e => ⟨fun e2 => k2 (fun g => ?_), fun e2 => ⟨fun e3 => k1 ⟨hk, hv, by omega⟩, fun e3 => k2 (fun g => by have := g.2.2; omega)⟩⟩⟩
  have h1 := g.2.2
  exact e (Int32.toInt_inj.mp (by rw [em]; omega))
/-- any int is a mark below n, or it is none -/
theorem i_mark (x : Int32) (n : Nat) (hn : n < 2 ^ 31) : (∃ m, x = nI m ∧ m < n) ∨ (∀ m, m < n → x ≠ nI m) := by
  by_cases c : ∃ m, x = nI m ∧ m < n
  · exact Or.inl c
  · exact Or.inr (fun m hm e => c ⟨m, e, hm⟩)
theorem rAt_out {f : Nat → Int32} {n : Nat} {x : Int32} (hn : n < 2 ^ 31) (h : ∀ m, m < n → x ≠ nI m) : rAt f n x = -1 := by
  unfold rAt
  by_cases c1 : x < 0
  · rw [if_pos c1]
  · obtain ⟨j, hj, rfl⟩ := nI_of c1
    by_cases c2 : j < n
    · exact absurd rfl (h j c2)
    · have c3 : Int32.ofNat n ≤ nI j := nI_le (by omega) hj
      rw [if_neg c1, if_pos c3]
theorem p_TP_needDrafted {h : tpH} {o p : Nat} (l : lTP h o p) {F : Nat → Nat → Int32} {inn : Nat → Bool} (hh : ∀ m, m < 300 → F (p + 5 + 2) m = if inn m = true then 1 else 0) {x : Int32} {X : String → tpH → Prop} {R : tpH → Prop}
    (k1 : ∀ m, x = nI m → m < 300 → inn m = true → R (wI h F)) (k2 : (∀ m, m < 300 → x = nI m → inn m = false) → X "java/lang/IndexOutOfBoundsException" (nC (wI h F) 0 0 6)) : w_TP_needDrafted o x (wI h F) X R := by
  have lb : lBu h (p + 5) (some (p + 0)) := l.2.2.2.2.1
  refine ⟨l.1, p + 5, l.2.2.2.1, lb.1, ?_⟩
  rw [e_Bu_has lb]
  rcases i_mark x 300 n300 with ⟨m, e, hm⟩ | hno
  · subst e
    rw [rAt_n hm n300, hh m hm]
    cases c : inn m with
    | true =>
      rw [if_pos rfl, if_pos rfl]
      exact ⟨fun _ => k1 m rfl hm c, fun e => absurd e (by decide)⟩
    | false =>
      rw [if_neg (show ¬ false = true by decide), if_neg (show ¬ (0 : Int32) = 1 by decide)]
      refine ⟨fun e => absurd rfl e, fun _ => k2 (fun j hj e => ?_)⟩
      rw [← nI_inj (a := m) (b := j) (by omega) (by omega) e]; exact c
  · rw [rAt_out n300 hno, if_neg (show ¬ (-1 : Int32) = 1 by decide)]
    exact ⟨fun e => absurd rfl e, fun _ => k2 (fun m hm e => absurd e (hno m hm))⟩
end NEEDS
