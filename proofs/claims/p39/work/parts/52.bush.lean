section PBUSH
def uJoin (F : Nat → Nat → Int32) (d : Nat) (p b a : Int32) : Nat → Nat → Int32 :=
  if a = -1 then rPut (if b = -1 then rPut F (d + 8) 300 p a else rPut F (d + 14) 300 b a) (d + 10) 300 p b
  else rPut (if b = -1 then rPut F (d + 8) 300 p a else rPut F (d + 14) 300 b a) (d + 12) 300 a b
theorem n300 : (300 : Nat) < 2 ^ 31 := by decide
theorem e_Bu_has {h : tpH} {d : Nat} {x : Option Nat} (l : lBu h d x) (F : Nat → Nat → Int32) (i : Int32) (R : Int32 → tpH → Prop) : w_Bu_has d i (wI h F) R = R (if rAt (F (d + 2)) 300 i = 1 then 1 else 0) (wI h F) := by
  obtain ⟨l0, -, ⟨a1, b1⟩, -⟩ := l
  unfold w_Bu_has
  simp only [wI_T, wI_R, l0, a1, b1.1, Option.some.injEq, exists_eq_left', true_and, e_at b1 n300]
  by_cases c : rAt (F (d + 2)) 300 i = 1 <;> simp [c]
theorem e_Bu_worthOf {h : tpH} {d : Nat} {x : Option Nat} (l : lBu h d x) (F : Nat → Nat → Int32) (i : Int32) (R : Int32 → tpH → Prop) : w_Bu_worthOf d i (wI h F) R = R (rAt (F (d + 4)) 300 i) (wI h F) := by
  obtain ⟨l0, -, -, ⟨a1, b1⟩, -⟩ := l
  unfold w_Bu_worthOf
  simp only [wI_T, wI_R, l0, a1, b1.1, Option.some.injEq, exists_eq_left', true_and, e_at b1 n300]
theorem e_Bu_give {h : tpH} {d : Nat} {x : Option Nat} (l : lBu h d x) (F : Nat → Nat → Int32) (i v : Int32) (R : tpH → Prop) : w_Bu_give d i v (wI h F) R = R (wI h (rPut F (d + 4) 300 i v)) := by
  obtain ⟨l0, -, -, ⟨a1, b1⟩, -⟩ := l
  unfold w_Bu_give
  simp only [wI_T, wI_R, l0, a1, b1.1, Option.some.injEq, exists_eq_left', true_and, e_put b1 n300]
theorem e_Bu_upOf {h : tpH} {d : Nat} {x : Option Nat} (l : lBu h d x) (F : Nat → Nat → Int32) (i : Int32) (R : Int32 → tpH → Prop) : w_Bu_upOf d i (wI h F) R = R (rAt (F (d + 6)) 300 i) (wI h F) := by
  obtain ⟨l0, -, -, -, ⟨a1, b1⟩, -⟩ := l
  unfold w_Bu_upOf
  simp only [wI_T, wI_R, l0, a1, b1.1, Option.some.injEq, exists_eq_left', true_and, e_at b1 n300]
theorem e_Bu_lastOf {h : tpH} {d : Nat} {x : Option Nat} (l : lBu h d x) (F : Nat → Nat → Int32) (i : Int32) (R : Int32 → tpH → Prop) : w_Bu_lastOf d i (wI h F) R = R (rAt (F (d + 10)) 300 i) (wI h F) := by
  obtain ⟨l0, -, -, -, -, -, ⟨a1, b1⟩, -⟩ := l
  unfold w_Bu_lastOf
  simp only [wI_T, wI_R, l0, a1, b1.1, Option.some.injEq, exists_eq_left', true_and, e_at b1 n300]
theorem e_Bu_isChild {h : tpH} {d : Nat} {x : Option Nat} (l : lBu h d x) (F : Nat → Nat → Int32) (i p : Int32) (R : Int32 → tpH → Prop) : w_Bu_isChild d i p (wI h F) R = R (if rAt (F (d + 2)) 300 i = 1 ∧ rAt (F (d + 6)) 300 i = p then 1 else 0) (wI h F) := by
  obtain ⟨l0, -, ⟨a1, b1⟩, -, ⟨a3, b3⟩, -⟩ := l
  unfold w_Bu_isChild
  simp only [wI_T, wI_R, l0, a1, b1.1, a3, b3.1, Option.some.injEq, exists_eq_left', true_and, e_at b1 n300, e_at b3 n300]
  by_cases c : rAt (F (d + 2)) 300 i = 1 <;> by_cases c2 : rAt (F (d + 6)) 300 i = p <;> simp [c, c2]
theorem e_Bu_join {h : tpH} {d : Nat} {x : Option Nat} (l : lBu h d x) (F : Nat → Nat → Int32) (p b a : Int32) (R : tpH → Prop) : w_Bu_join d p b a (wI h F) R = R (wI h (uJoin F d p b a)) := by
  obtain ⟨l0, -, -, -, -, ⟨a4, b4⟩, ⟨a5, b5⟩, ⟨a6, b6⟩, ⟨a7, b7⟩⟩ := l
  unfold w_Bu_join w_Bu_join_26 uJoin
  by_cases c : b = -1 <;> by_cases c2 : a = -1 <;> simp only [c, c2, if_true, if_false, wI_T, wI_R, l0, a4, b4.1, a5, b5.1, a6, b6.1, a7, b7.1, Option.some.injEq, exists_eq_left', true_and, and_true, not_true_eq_false, not_false_eq_true, false_imp_iff, true_imp_iff, e_put b4 n300, e_put b5 n300, e_put b6 n300, e_put b7 n300]
def uSprout (F : Nat → Nat → Int32) (d : Nat) (m w : Int32) : Nat → Nat → Int32 :=
  let G := rPut (rPut (rPut (rPut (rPut (rPut (rPut F (d + 2) 300 m 1) (d + 4) 300 m w) (d + 6) 300 m (-1)) (d + 8) 300 m (-1)) (d + 10) 300 m (-1)) (d + 12) 300 m (-1)) (d + 14) 300 m (-1)
  tpu G d 9 (G d 9 + 1)
theorem e_Bu_sprout {h : tpH} {d : Nat} {x : Option Nat} (l : lBu h d x) (F : Nat → Nat → Int32) (m w : Int32) (R : tpH → Prop) : w_Bu_sprout d m w (wI h F) R = R (wI h (uSprout F d m w)) := by
  obtain ⟨l0, -, ⟨a1, b1⟩, ⟨a2, b2⟩, ⟨a3, b3⟩, ⟨a4, b4⟩, ⟨a5, b5⟩, ⟨a6, b6⟩, ⟨a7, b7⟩⟩ := l
  unfold w_Bu_sprout uSprout
  simp only [wI_T, wI_R, wI_I, l0, a1, b1.1, a2, b2.1, a3, b3.1, a4, b4.1, a5, b5.1, a6, b6.1, a7, b7.1, Option.some.injEq, exists_eq_left', true_and, forall_eq, sI_w, e_put b1 n300, e_put b2 n300, e_put b3 n300, e_put b4 n300, e_put b5 n300, e_put b6 n300, e_put b7 n300]
def uCut (F : Nat → Nat → Int32) (d : Nat) (m : Int32) : Nat → Nat → Int32 :=
  rPut (rPut (rPut (uJoin F d (rAt (F (d + 6)) 300 m) (rAt (F (d + 12)) 300 m) (rAt (F (d + 14)) 300 m)) (d + 6) 300 m (-1)) (d + 12) 300 m (-1)) (d + 14) 300 m (-1)
theorem e_Bu_cut {h : tpH} {d : Nat} {x : Option Nat} (l : lBu h d x) (F : Nat → Nat → Int32) (m : Int32) (R : tpH → Prop) : w_Bu_cut d m (wI h F) R = R (wI h (uCut F d m)) := by
  have lj := @e_Bu_join h d x l
  obtain ⟨l0, -, -, -, ⟨a3, b3⟩, -, -, ⟨a6, b6⟩, ⟨a7, b7⟩⟩ := l
  unfold w_Bu_cut uCut
  simp only [wI_T, wI_R, wI_I, l0, a3, b3.1, a6, b6.1, a7, b7.1, Option.some.injEq, exists_eq_left', true_and, e_at b3 n300, e_at b6 n300, e_at b7 n300, e_put b3 n300, e_put b6 n300, e_put b7 n300, lj]
def uHang (F : Nat → Nat → Int32) (d : Nat) (m p b : Int32) : Nat → Nat → Int32 :=
  let a := if b = -1 then rAt (F (d + 8)) 300 p else rAt (F (d + 14)) 300 b
  uJoin (uJoin (rPut F (d + 6) 300 m p) d p b m) d p m a
theorem e_Bu_hang_21 {h : tpH} {d : Nat} {x : Option Nat} (l : lBu h d x) (F : Nat → Nat → Int32) (m p b : Int32) (R : tpH → Prop) : w_Bu_hang_21 R d m p b (wI h F) = R (wI h (uHang F d m p b)) := by
  have lj := @e_Bu_join h d x l
  obtain ⟨l0, -, -, -, ⟨a3, b3⟩, ⟨a4, b4⟩, -, -, ⟨a7, b7⟩⟩ := l
  unfold w_Bu_hang_21 w_Bu_hang_49 uHang
  by_cases c : b = -1 <;> simp only [c, if_true, if_false, wI_T, wI_R, wI_I, l0, a3, b3.1, a4, b4.1, a7, b7.1, Option.some.injEq, exists_eq_left', true_and, and_true, not_true_eq_false, not_false_eq_true, false_imp_iff, true_imp_iff, e_at b4 n300, e_at b7 n300, e_put b3 n300, lj]
end PBUSH
