section PFRESH
def lMa (h : tpH) (p : Nat) : Prop :=
  hT h p = 5 ∧
  (hR h p 0 = some (p + 1) ∧ rwL h (p + 1) (p + 2) 300) ∧
  (hR h p 1 = some (p + 3) ∧ rwL h (p + 3) (p + 4) 300)
def fMa (h : tpH) (p : Nat) : Prop :=
  lMa h p ∧
  (∀ j, hI h p j = 0) ∧
  ((∀ j, hI h (p + 2) j = 0) ∧ hI h (p + 1) 1 = 0) ∧
  ((∀ j, hI h (p + 4) j = 0) ∧ hI h (p + 3) 1 = 0)
theorem fMa_of {g h : tpH} (M : mkMa (nC g 5 0 3) h (hZ g)) : fMa h (hZ g) ∧ hZ h = hZ g + 5 ∧ hU h = hU g + 607 ∧ ∀ b, b < hZ g → hSm g h b := by
  obtain ⟨mz, mu, mf, mt, mr, mi, w0, w1⟩ := M
  have ez : hZ (nC g 5 0 3) = hZ g + 1 := rfl
  have eu : hU (nC g 5 0 3) = hU g + 3 := rfl
  rw [ez] at mz mf w0 w1 mr
  rw [eu] at mu
  obtain ⟨r0, r1⟩ := mr
  have n0 := (nC_new g 5 0 3).2.2.2.1
  exact ⟨⟨⟨mt, ⟨r0, w0.1⟩, ⟨r1, w1.1⟩⟩, (fun j  => by rw [mi j , n0]), ⟨w0.2.1, w0.2.2⟩, ⟨w1.2.1, w1.2.2⟩⟩, by omega, by omega, fun b hb => hSm_tr (hSm_nC g 5 0 3 b hb) (mf b (by omega) (by omega))⟩
theorem lMa_k {h h' : tpH} {p : Nat} (M : lMa h p) (k : ∀ b, p ≤ b → b < p + 5 → hSm h h' b) : lMa h' p := by
  obtain ⟨m0, w0, w1⟩ := M
  obtain ⟨k1, k2, k3, k4, -, -⟩ := k p (by omega) (by omega)
  exact ⟨by rw [k1]; exact m0, ⟨by rw [k3]; exact w0.1, rwL_k w0.2 (k _ (by omega) (by omega)) (k _ (by omega) (by omega))⟩, ⟨by rw [k3]; exact w1.1, rwL_k w1.2 (k _ (by omega) (by omega)) (k _ (by omega) (by omega))⟩⟩
theorem fMa_k {h h' : tpH} {p : Nat} (M : fMa h p) (k : ∀ b, p ≤ b → b < p + 5 → hSm h h' b) : fMa h' p := by
  obtain ⟨ml, mi, w0, w1⟩ := M
  have k4 := (k p (by omega) (by omega)).2.2.2.1
  exact ⟨lMa_k ml k, (fun j  => by rw [k4]; exact mi j ), ⟨fun j => by rw [(k (p + 2) (by omega) (by omega)).2.2.2.1]; exact w0.1 j, by rw [(k (p + 1) (by omega) (by omega)).2.2.2.1]; exact w0.2⟩, ⟨fun j => by rw [(k (p + 4) (by omega) (by omega)).2.2.2.1]; exact w1.1 j, by rw [(k (p + 3) (by omega) (by omega)).2.2.2.1]; exact w1.2⟩⟩
def lBu (h : tpH) (p : Nat) (x1 : Option Nat) : Prop :=
  hT h p = 1 ∧
  hR h p 0 = x1 ∧
  (hR h p 1 = some (p + 1) ∧ rwL h (p + 1) (p + 2) 300) ∧
  (hR h p 2 = some (p + 3) ∧ rwL h (p + 3) (p + 4) 300) ∧
  (hR h p 3 = some (p + 5) ∧ rwL h (p + 5) (p + 6) 300) ∧
  (hR h p 4 = some (p + 7) ∧ rwL h (p + 7) (p + 8) 300) ∧
  (hR h p 5 = some (p + 9) ∧ rwL h (p + 9) (p + 10) 300) ∧
  (hR h p 6 = some (p + 11) ∧ rwL h (p + 11) (p + 12) 300) ∧
  (hR h p 7 = some (p + 13) ∧ rwL h (p + 13) (p + 14) 300)
def fBu (h : tpH) (p : Nat) (x1 : Option Nat) : Prop :=
  lBu h p x1 ∧
  hI h p 8 = (-1 : Int32) ∧
  (∀ j, j ≠ 8 → hI h p j = 0) ∧
  ((∀ j, hI h (p + 2) j = 0) ∧ hI h (p + 1) 1 = 0) ∧
  ((∀ j, hI h (p + 4) j = 0) ∧ hI h (p + 3) 1 = 0) ∧
  ((∀ j, hI h (p + 6) j = 0) ∧ hI h (p + 5) 1 = 0) ∧
  ((∀ j, hI h (p + 8) j = 0) ∧ hI h (p + 7) 1 = 0) ∧
  ((∀ j, hI h (p + 10) j = 0) ∧ hI h (p + 9) 1 = 0) ∧
  ((∀ j, hI h (p + 12) j = 0) ∧ hI h (p + 11) 1 = 0) ∧
  ((∀ j, hI h (p + 14) j = 0) ∧ hI h (p + 13) 1 = 0)
theorem fBu_of {g h : tpH} {x1 : Option Nat} (M : mkBu (nC g 1 0 10) h (hZ g) x1) : fBu h (hZ g) x1 ∧ hZ h = hZ g + 15 ∧ hU h = hU g + 2124 ∧ ∀ b, b < hZ g → hSm g h b := by
  obtain ⟨mz, mu, mf, mt, mr, mi, w1, w2, w3, w4, w5, w6, w7⟩ := M
  have ez : hZ (nC g 1 0 10) = hZ g + 1 := rfl
  have eu : hU (nC g 1 0 10) = hU g + 10 := rfl
  rw [ez] at mz mf w1 w2 w3 w4 w5 w6 w7 mr
  rw [eu] at mu
  obtain ⟨r0, r1, r2, r3, r4, r5, r6, r7⟩ := mr
  obtain ⟨i8, mi⟩ := mi
  have n0 := (nC_new g 1 0 10).2.2.2.1
  exact ⟨⟨⟨mt, r0, ⟨r1, w1.1⟩, ⟨r2, w2.1⟩, ⟨r3, w3.1⟩, ⟨r4, w4.1⟩, ⟨r5, w5.1⟩, ⟨r6, w6.1⟩, ⟨r7, w7.1⟩⟩, i8, (fun j n8 => by rw [mi j n8, n0]), ⟨w1.2.1, w1.2.2⟩, ⟨w2.2.1, w2.2.2⟩, ⟨w3.2.1, w3.2.2⟩, ⟨w4.2.1, w4.2.2⟩, ⟨w5.2.1, w5.2.2⟩, ⟨w6.2.1, w6.2.2⟩, ⟨w7.2.1, w7.2.2⟩⟩, by omega, by omega, fun b hb => hSm_tr (hSm_nC g 1 0 10 b hb) (mf b (by omega) (by omega))⟩
theorem lBu_k {h h' : tpH} {p : Nat} {x1 : Option Nat} (M : lBu h p x1) (k : ∀ b, p ≤ b → b < p + 15 → hSm h h' b) : lBu h' p x1 := by
  obtain ⟨m0, m1, w1, w2, w3, w4, w5, w6, w7⟩ := M
  obtain ⟨k1, k2, k3, k4, -, -⟩ := k p (by omega) (by omega)
  exact ⟨by rw [k1]; exact m0, by rw [k3]; exact m1, ⟨by rw [k3]; exact w1.1, rwL_k w1.2 (k _ (by omega) (by omega)) (k _ (by omega) (by omega))⟩, ⟨by rw [k3]; exact w2.1, rwL_k w2.2 (k _ (by omega) (by omega)) (k _ (by omega) (by omega))⟩, ⟨by rw [k3]; exact w3.1, rwL_k w3.2 (k _ (by omega) (by omega)) (k _ (by omega) (by omega))⟩, ⟨by rw [k3]; exact w4.1, rwL_k w4.2 (k _ (by omega) (by omega)) (k _ (by omega) (by omega))⟩, ⟨by rw [k3]; exact w5.1, rwL_k w5.2 (k _ (by omega) (by omega)) (k _ (by omega) (by omega))⟩, ⟨by rw [k3]; exact w6.1, rwL_k w6.2 (k _ (by omega) (by omega)) (k _ (by omega) (by omega))⟩, ⟨by rw [k3]; exact w7.1, rwL_k w7.2 (k _ (by omega) (by omega)) (k _ (by omega) (by omega))⟩⟩
theorem fBu_k {h h' : tpH} {p : Nat} {x1 : Option Nat} (M : fBu h p x1) (k : ∀ b, p ≤ b → b < p + 15 → hSm h h' b) : fBu h' p x1 := by
  obtain ⟨ml, i8, mi, w1, w2, w3, w4, w5, w6, w7⟩ := M
  have k4 := (k p (by omega) (by omega)).2.2.2.1
  exact ⟨lBu_k ml k, by rw [k4]; exact i8, (fun j n8 => by rw [k4]; exact mi j n8), ⟨fun j => by rw [(k (p + 2) (by omega) (by omega)).2.2.2.1]; exact w1.1 j, by rw [(k (p + 1) (by omega) (by omega)).2.2.2.1]; exact w1.2⟩, ⟨fun j => by rw [(k (p + 4) (by omega) (by omega)).2.2.2.1]; exact w2.1 j, by rw [(k (p + 3) (by omega) (by omega)).2.2.2.1]; exact w2.2⟩, ⟨fun j => by rw [(k (p + 6) (by omega) (by omega)).2.2.2.1]; exact w3.1 j, by rw [(k (p + 5) (by omega) (by omega)).2.2.2.1]; exact w3.2⟩, ⟨fun j => by rw [(k (p + 8) (by omega) (by omega)).2.2.2.1]; exact w4.1 j, by rw [(k (p + 7) (by omega) (by omega)).2.2.2.1]; exact w4.2⟩, ⟨fun j => by rw [(k (p + 10) (by omega) (by omega)).2.2.2.1]; exact w5.1 j, by rw [(k (p + 9) (by omega) (by omega)).2.2.2.1]; exact w5.2⟩, ⟨fun j => by rw [(k (p + 12) (by omega) (by omega)).2.2.2.1]; exact w6.1 j, by rw [(k (p + 11) (by omega) (by omega)).2.2.2.1]; exact w6.2⟩, ⟨fun j => by rw [(k (p + 14) (by omega) (by omega)).2.2.2.1]; exact w7.1 j, by rw [(k (p + 13) (by omega) (by omega)).2.2.2.1]; exact w7.2⟩⟩
def lLi (h : tpH) (p : Nat) (x1 : Option Nat) : Prop :=
  hT h p = 4 ∧
  hR h p 0 = x1 ∧
  (hR h p 1 = some (p + 1) ∧ rwL h (p + 1) (p + 2) 600) ∧
  (hR h p 2 = some (p + 3) ∧ rwL h (p + 3) (p + 4) 600) ∧
  (hR h p 3 = some (p + 5) ∧ rwL h (p + 5) (p + 6) 600) ∧
  (hR h p 4 = some (p + 7) ∧ rwL h (p + 7) (p + 8) 600) ∧
  (hR h p 5 = some (p + 9) ∧ rwL h (p + 9) (p + 10) 600) ∧
  (hR h p 6 = some (p + 11) ∧ rwL h (p + 11) (p + 12) 600)
def fLi (h : tpH) (p : Nat) (x1 : Option Nat) : Prop :=
  lLi h p x1 ∧
  (∀ j, hI h p j = 0) ∧
  ((∀ j, hI h (p + 2) j = 0) ∧ hI h (p + 1) 1 = 0) ∧
  ((∀ j, hI h (p + 4) j = 0) ∧ hI h (p + 3) 1 = 0) ∧
  ((∀ j, hI h (p + 6) j = 0) ∧ hI h (p + 5) 1 = 0) ∧
  ((∀ j, hI h (p + 8) j = 0) ∧ hI h (p + 7) 1 = 0) ∧
  ((∀ j, hI h (p + 10) j = 0) ∧ hI h (p + 9) 1 = 0) ∧
  ((∀ j, hI h (p + 12) j = 0) ∧ hI h (p + 11) 1 = 0)
theorem fLi_of {g h : tpH} {x1 : Option Nat} (M : mkLi (nC g 4 0 9) h (hZ g) x1) : fLi h (hZ g) x1 ∧ hZ h = hZ g + 13 ∧ hU h = hU g + 3621 ∧ ∀ b, b < hZ g → hSm g h b := by
  obtain ⟨mz, mu, mf, mt, mr, mi, w1, w2, w3, w4, w5, w6⟩ := M
  have ez : hZ (nC g 4 0 9) = hZ g + 1 := rfl
  have eu : hU (nC g 4 0 9) = hU g + 9 := rfl
  rw [ez] at mz mf w1 w2 w3 w4 w5 w6 mr
  rw [eu] at mu
  obtain ⟨r0, r1, r2, r3, r4, r5, r6⟩ := mr
  have n0 := (nC_new g 4 0 9).2.2.2.1
  exact ⟨⟨⟨mt, r0, ⟨r1, w1.1⟩, ⟨r2, w2.1⟩, ⟨r3, w3.1⟩, ⟨r4, w4.1⟩, ⟨r5, w5.1⟩, ⟨r6, w6.1⟩⟩, (fun j  => by rw [mi j , n0]), ⟨w1.2.1, w1.2.2⟩, ⟨w2.2.1, w2.2.2⟩, ⟨w3.2.1, w3.2.2⟩, ⟨w4.2.1, w4.2.2⟩, ⟨w5.2.1, w5.2.2⟩, ⟨w6.2.1, w6.2.2⟩⟩, by omega, by omega, fun b hb => hSm_tr (hSm_nC g 4 0 9 b hb) (mf b (by omega) (by omega))⟩
theorem lLi_k {h h' : tpH} {p : Nat} {x1 : Option Nat} (M : lLi h p x1) (k : ∀ b, p ≤ b → b < p + 13 → hSm h h' b) : lLi h' p x1 := by
  obtain ⟨m0, m1, w1, w2, w3, w4, w5, w6⟩ := M
  obtain ⟨k1, k2, k3, k4, -, -⟩ := k p (by omega) (by omega)
  exact ⟨by rw [k1]; exact m0, by rw [k3]; exact m1, ⟨by rw [k3]; exact w1.1, rwL_k w1.2 (k _ (by omega) (by omega)) (k _ (by omega) (by omega))⟩, ⟨by rw [k3]; exact w2.1, rwL_k w2.2 (k _ (by omega) (by omega)) (k _ (by omega) (by omega))⟩, ⟨by rw [k3]; exact w3.1, rwL_k w3.2 (k _ (by omega) (by omega)) (k _ (by omega) (by omega))⟩, ⟨by rw [k3]; exact w4.1, rwL_k w4.2 (k _ (by omega) (by omega)) (k _ (by omega) (by omega))⟩, ⟨by rw [k3]; exact w5.1, rwL_k w5.2 (k _ (by omega) (by omega)) (k _ (by omega) (by omega))⟩, ⟨by rw [k3]; exact w6.1, rwL_k w6.2 (k _ (by omega) (by omega)) (k _ (by omega) (by omega))⟩⟩
theorem fLi_k {h h' : tpH} {p : Nat} {x1 : Option Nat} (M : fLi h p x1) (k : ∀ b, p ≤ b → b < p + 13 → hSm h h' b) : fLi h' p x1 := by
  obtain ⟨ml, mi, w1, w2, w3, w4, w5, w6⟩ := M
  have k4 := (k p (by omega) (by omega)).2.2.2.1
  exact ⟨lLi_k ml k, (fun j  => by rw [k4]; exact mi j ), ⟨fun j => by rw [(k (p + 2) (by omega) (by omega)).2.2.2.1]; exact w1.1 j, by rw [(k (p + 1) (by omega) (by omega)).2.2.2.1]; exact w1.2⟩, ⟨fun j => by rw [(k (p + 4) (by omega) (by omega)).2.2.2.1]; exact w2.1 j, by rw [(k (p + 3) (by omega) (by omega)).2.2.2.1]; exact w2.2⟩, ⟨fun j => by rw [(k (p + 6) (by omega) (by omega)).2.2.2.1]; exact w3.1 j, by rw [(k (p + 5) (by omega) (by omega)).2.2.2.1]; exact w3.2⟩, ⟨fun j => by rw [(k (p + 8) (by omega) (by omega)).2.2.2.1]; exact w4.1 j, by rw [(k (p + 7) (by omega) (by omega)).2.2.2.1]; exact w4.2⟩, ⟨fun j => by rw [(k (p + 10) (by omega) (by omega)).2.2.2.1]; exact w5.1 j, by rw [(k (p + 9) (by omega) (by omega)).2.2.2.1]; exact w5.2⟩, ⟨fun j => by rw [(k (p + 12) (by omega) (by omega)).2.2.2.1]; exact w6.1 j, by rw [(k (p + 11) (by omega) (by omega)).2.2.2.1]; exact w6.2⟩⟩
def lMt (h : tpH) (p : Nat) (x1 : Option Nat) (x2 : Option Nat) : Prop :=
  hT h p = 6 ∧
  hR h p 0 = x1 ∧
  hR h p 1 = x2 ∧
  (hR h p 2 = some (p + 1) ∧ rwL h (p + 1) (p + 2) 300) ∧
  (hR h p 3 = some (p + 3) ∧ rwL h (p + 3) (p + 4) 300) ∧
  (hR h p 4 = some (p + 5) ∧ rwL h (p + 5) (p + 6) 300) ∧
  (hR h p 5 = some (p + 7) ∧ rwL h (p + 7) (p + 8) 300) ∧
  (hR h p 6 = some (p + 9) ∧ rwL h (p + 9) (p + 10) 301)
def fMt (h : tpH) (p : Nat) (x1 : Option Nat) (x2 : Option Nat) : Prop :=
  lMt h p x1 x2 ∧
  (∀ j, hI h p j = 0) ∧
  ((∀ j, hI h (p + 2) j = 0) ∧ hI h (p + 1) 1 = 0) ∧
  ((∀ j, hI h (p + 4) j = 0) ∧ hI h (p + 3) 1 = 0) ∧
  ((∀ j, hI h (p + 6) j = 0) ∧ hI h (p + 5) 1 = 0) ∧
  ((∀ j, hI h (p + 8) j = 0) ∧ hI h (p + 7) 1 = 0) ∧
  ((∀ j, hI h (p + 10) j = 0) ∧ hI h (p + 9) 1 = 0) ∧ hR h p 7 = none
theorem fMt_of {g h : tpH} {x1 : Option Nat} {x2 : Option Nat} (M : mkMt (nC g 6 0 9) h (hZ g) x1 x2) : fMt h (hZ g) x1 x2 ∧ hZ h = hZ g + 11 ∧ hU h = hU g + 1520 ∧ ∀ b, b < hZ g → hSm g h b := by
  obtain ⟨mz, mu, mf, mt, mr, mi, w2, w3, w4, w5, w6⟩ := M
  have ez : hZ (nC g 6 0 9) = hZ g + 1 := rfl
  have eu : hU (nC g 6 0 9) = hU g + 9 := rfl
  rw [ez] at mz mf w2 w3 w4 w5 w6 mr
  rw [eu] at mu
  obtain ⟨r0, r1, r2, r3, r4, r5, r6, r7⟩ := mr
  have n0 := (nC_new g 6 0 9).2.2.2.1
  exact ⟨⟨⟨mt, r0, r1, ⟨r2, w2.1⟩, ⟨r3, w3.1⟩, ⟨r4, w4.1⟩, ⟨r5, w5.1⟩, ⟨r6, w6.1⟩⟩, (fun j  => by rw [mi j , n0]), ⟨w2.2.1, w2.2.2⟩, ⟨w3.2.1, w3.2.2⟩, ⟨w4.2.1, w4.2.2⟩, ⟨w5.2.1, w5.2.2⟩, ⟨w6.2.1, w6.2.2⟩, r7.trans (by rw [(nC_new g 6 0 9).2.2.1])⟩, by omega, by omega, fun b hb => hSm_tr (hSm_nC g 6 0 9 b hb) (mf b (by omega) (by omega))⟩
theorem lMt_k {h h' : tpH} {p : Nat} {x1 : Option Nat} {x2 : Option Nat} (M : lMt h p x1 x2) (k : ∀ b, p ≤ b → b < p + 11 → hSm h h' b) : lMt h' p x1 x2 := by
  obtain ⟨m0, m1, m2, w2, w3, w4, w5, w6⟩ := M
  obtain ⟨k1, k2, k3, k4, -, -⟩ := k p (by omega) (by omega)
  exact ⟨by rw [k1]; exact m0, by rw [k3]; exact m1, by rw [k3]; exact m2, ⟨by rw [k3]; exact w2.1, rwL_k w2.2 (k _ (by omega) (by omega)) (k _ (by omega) (by omega))⟩, ⟨by rw [k3]; exact w3.1, rwL_k w3.2 (k _ (by omega) (by omega)) (k _ (by omega) (by omega))⟩, ⟨by rw [k3]; exact w4.1, rwL_k w4.2 (k _ (by omega) (by omega)) (k _ (by omega) (by omega))⟩, ⟨by rw [k3]; exact w5.1, rwL_k w5.2 (k _ (by omega) (by omega)) (k _ (by omega) (by omega))⟩, ⟨by rw [k3]; exact w6.1, rwL_k w6.2 (k _ (by omega) (by omega)) (k _ (by omega) (by omega))⟩⟩
theorem fMt_k {h h' : tpH} {p : Nat} {x1 : Option Nat} {x2 : Option Nat} (M : fMt h p x1 x2) (k : ∀ b, p ≤ b → b < p + 11 → hSm h h' b) : fMt h' p x1 x2 := by
  obtain ⟨ml, mi, w2, w3, w4, w5, w6, w7⟩ := M
  have k4 := (k p (by omega) (by omega)).2.2.2.1
  exact ⟨lMt_k ml k, (fun j  => by rw [k4]; exact mi j ), ⟨fun j => by rw [(k (p + 2) (by omega) (by omega)).2.2.2.1]; exact w2.1 j, by rw [(k (p + 1) (by omega) (by omega)).2.2.2.1]; exact w2.2⟩, ⟨fun j => by rw [(k (p + 4) (by omega) (by omega)).2.2.2.1]; exact w3.1 j, by rw [(k (p + 3) (by omega) (by omega)).2.2.2.1]; exact w3.2⟩, ⟨fun j => by rw [(k (p + 6) (by omega) (by omega)).2.2.2.1]; exact w4.1 j, by rw [(k (p + 5) (by omega) (by omega)).2.2.2.1]; exact w4.2⟩, ⟨fun j => by rw [(k (p + 8) (by omega) (by omega)).2.2.2.1]; exact w5.1 j, by rw [(k (p + 7) (by omega) (by omega)).2.2.2.1]; exact w5.2⟩, ⟨fun j => by rw [(k (p + 10) (by omega) (by omega)).2.2.2.1]; exact w6.1 j, by rw [(k (p + 9) (by omega) (by omega)).2.2.2.1]; exact w6.2⟩, by rw [(k p (by omega) (by omega)).2.2.1]; exact w7⟩
def lFi (h : tpH) (p : Nat) (x1 : Option Nat) (x2 : Option Nat) (x3 : Option Nat) : Prop :=
  hT h p = 2 ∧
  hR h p 0 = x1 ∧
  hR h p 1 = x2 ∧
  hR h p 2 = x3 ∧
  (hR h p 3 = some (p + 1) ∧ rwL h (p + 1) (p + 2) 300) ∧
  (hR h p 4 = some (p + 3) ∧ rwL h (p + 3) (p + 4) 300) ∧
  (hR h p 5 = some (p + 5) ∧ rwL h (p + 5) (p + 6) 300) ∧
  (hR h p 6 = some (p + 7) ∧ hT h (p + 7) = 10)
def fFi (h : tpH) (p : Nat) (x1 : Option Nat) (x2 : Option Nat) (x3 : Option Nat) : Prop :=
  lFi h p x1 x2 x3 ∧
  (∀ j, hI h p j = 0) ∧
  ((∀ j, hI h (p + 2) j = 0) ∧ hI h (p + 1) 1 = 0) ∧
  ((∀ j, hI h (p + 4) j = 0) ∧ hI h (p + 3) 1 = 0) ∧
  ((∀ j, hI h (p + 6) j = 0) ∧ hI h (p + 5) 1 = 0) ∧
  (∀ j, j < 3 → hI h (p + 7) j = -1)
theorem fFi_of {g h : tpH} {x1 : Option Nat} {x2 : Option Nat} {x3 : Option Nat} (M : mkFi (nC g 2 0 7) h (hZ g) x1 x2 x3) : fFi h (hZ g) x1 x2 x3 ∧ hZ h = hZ g + 8 ∧ hU h = hU g + 916 ∧ ∀ b, b < hZ g → hSm g h b := by
  obtain ⟨mz, mu, mf, mt, mr, mi, w3, w4, w5, s6⟩ := M
  have ez : hZ (nC g 2 0 7) = hZ g + 1 := rfl
  have eu : hU (nC g 2 0 7) = hU g + 7 := rfl
  rw [ez] at mz mf w3 w4 w5 s6 mr
  rw [eu] at mu
  obtain ⟨r0, r1, r2, r3, r4, r5, r6⟩ := mr
  have n0 := (nC_new g 2 0 7).2.2.2.1
  exact ⟨⟨⟨mt, r0, r1, r2, ⟨r3, w3.1⟩, ⟨r4, w4.1⟩, ⟨r5, w5.1⟩, ⟨r6, s6.1⟩⟩, (fun j  => by rw [mi j , n0]), ⟨w3.2.1, w3.2.2⟩, ⟨w4.2.1, w4.2.2⟩, ⟨w5.2.1, w5.2.2⟩, s6.2⟩, by omega, by omega, fun b hb => hSm_tr (hSm_nC g 2 0 7 b hb) (mf b (by omega) (by omega))⟩
theorem lFi_k {h h' : tpH} {p : Nat} {x1 : Option Nat} {x2 : Option Nat} {x3 : Option Nat} (M : lFi h p x1 x2 x3) (k : ∀ b, p ≤ b → b < p + 8 → hSm h h' b) : lFi h' p x1 x2 x3 := by
  obtain ⟨m0, m1, m2, m3, w3, w4, w5, s6⟩ := M
  obtain ⟨k1, k2, k3, k4, -, -⟩ := k p (by omega) (by omega)
  exact ⟨by rw [k1]; exact m0, by rw [k3]; exact m1, by rw [k3]; exact m2, by rw [k3]; exact m3, ⟨by rw [k3]; exact w3.1, rwL_k w3.2 (k _ (by omega) (by omega)) (k _ (by omega) (by omega))⟩, ⟨by rw [k3]; exact w4.1, rwL_k w4.2 (k _ (by omega) (by omega)) (k _ (by omega) (by omega))⟩, ⟨by rw [k3]; exact w5.1, rwL_k w5.2 (k _ (by omega) (by omega)) (k _ (by omega) (by omega))⟩, ⟨by rw [k3]; exact s6.1, by rw [(k (p + 7) (by omega) (by omega)).1]; exact s6.2⟩⟩
theorem fFi_k {h h' : tpH} {p : Nat} {x1 : Option Nat} {x2 : Option Nat} {x3 : Option Nat} (M : fFi h p x1 x2 x3) (k : ∀ b, p ≤ b → b < p + 8 → hSm h h' b) : fFi h' p x1 x2 x3 := by
  obtain ⟨ml, mi, w3, w4, w5, s6⟩ := M
  have k4 := (k p (by omega) (by omega)).2.2.2.1
  exact ⟨lFi_k ml k, (fun j  => by rw [k4]; exact mi j ), ⟨fun j => by rw [(k (p + 2) (by omega) (by omega)).2.2.2.1]; exact w3.1 j, by rw [(k (p + 1) (by omega) (by omega)).2.2.2.1]; exact w3.2⟩, ⟨fun j => by rw [(k (p + 4) (by omega) (by omega)).2.2.2.1]; exact w4.1 j, by rw [(k (p + 3) (by omega) (by omega)).2.2.2.1]; exact w4.2⟩, ⟨fun j => by rw [(k (p + 6) (by omega) (by omega)).2.2.2.1]; exact w5.1 j, by rw [(k (p + 5) (by omega) (by omega)).2.2.2.1]; exact w5.2⟩, (fun j hj => by rw [(k (p + 7) (by omega) (by omega)).2.2.2.1]; exact s6 j hj)⟩
def lMg (h : tpH) (p : Nat) (x1 : Option Nat) (x2 : Option Nat) : Prop :=
  hT h p = 7 ∧
  hR h p 0 = x1 ∧
  hR h p 1 = x2 ∧
  (hR h p 2 = some (p + 1) ∧ rwL h (p + 1) (p + 2) 6) ∧
  (hR h p 3 = some (p + 3) ∧ rwL h (p + 3) (p + 4) 300) ∧
  (hR h p 4 = some (p + 5) ∧ rwL h (p + 5) (p + 6) 300) ∧
  (hR h p 5 = some (p + 7) ∧ rwL h (p + 7) (p + 8) 300) ∧
  (hR h p 6 = some (p + 9) ∧ rwL h (p + 9) (p + 10) 300) ∧
  (hR h p 7 = some (p + 11) ∧ rwL h (p + 11) (p + 12) 300) ∧
  (hR h p 8 = some (p + 13) ∧ rwL h (p + 13) (p + 14) 300) ∧
  (hR h p 9 = some (p + 15) ∧ rwL h (p + 15) (p + 16) 300) ∧
  (hR h p 10 = some (p + 17) ∧ hT h (p + 17) = 8) ∧
  (hR h p 11 = some (p + 19) ∧ hT h (p + 19) = 8)
def fMg (h : tpH) (p : Nat) (x1 : Option Nat) (x2 : Option Nat) : Prop :=
  lMg h p x1 x2 ∧
  rwL h (p + 17) (p + 18) 32 ∧
  rwL h (p + 19) (p + 20) 32 ∧
  (∀ j, hI h p j = 0) ∧
  ((∀ j, hI h (p + 2) j = 0) ∧ hI h (p + 1) 1 = 0) ∧
  ((∀ j, hI h (p + 4) j = 0) ∧ hI h (p + 3) 1 = 0) ∧
  ((∀ j, hI h (p + 6) j = 0) ∧ hI h (p + 5) 1 = 0) ∧
  ((∀ j, hI h (p + 8) j = 0) ∧ hI h (p + 7) 1 = 0) ∧
  ((∀ j, hI h (p + 10) j = 0) ∧ hI h (p + 9) 1 = 0) ∧
  ((∀ j, hI h (p + 12) j = 0) ∧ hI h (p + 11) 1 = 0) ∧
  ((∀ j, hI h (p + 14) j = 0) ∧ hI h (p + 13) 1 = 0) ∧
  ((∀ j, hI h (p + 16) j = 0) ∧ hI h (p + 15) 1 = 0) ∧
  ((∀ j, hI h (p + 18) j = 0) ∧ hI h (p + 17) 1 = 0) ∧
  ((∀ j, hI h (p + 20) j = 0) ∧ hI h (p + 19) 1 = 0)
theorem fMg_of {g h : tpH} {x1 : Option Nat} {x2 : Option Nat} (M : mkMg (nC g 7 0 12) h (hZ g) x1 x2) : fMg h (hZ g) x1 x2 ∧ hZ h = hZ g + 21 ∧ hU h = hU g + 2202 ∧ ∀ b, b < hZ g → hSm g h b := by
  obtain ⟨mz, mu, mf, mt, mr, mi, w2, w3, w4, w5, w6, w7, w8, w9, w10, w11⟩ := M
  have ez : hZ (nC g 7 0 12) = hZ g + 1 := rfl
  have eu : hU (nC g 7 0 12) = hU g + 12 := rfl
  rw [ez] at mz mf w2 w3 w4 w5 w6 w7 w8 w9 w10 w11 mr
  rw [eu] at mu
  obtain ⟨r0, r1, r2, r3, r4, r5, r6, r7, r8, r9, r10, r11⟩ := mr
  have n0 := (nC_new g 7 0 12).2.2.2.1
  exact ⟨⟨⟨mt, r0, r1, ⟨r2, w2.1⟩, ⟨r3, w3.1⟩, ⟨r4, w4.1⟩, ⟨r5, w5.1⟩, ⟨r6, w6.1⟩, ⟨r7, w7.1⟩, ⟨r8, w8.1⟩, ⟨r9, w9.1⟩, ⟨r10, w10.1.1⟩, ⟨r11, w11.1.1⟩⟩, w10.1, w11.1, (fun j  => by rw [mi j , n0]), ⟨w2.2.1, w2.2.2⟩, ⟨w3.2.1, w3.2.2⟩, ⟨w4.2.1, w4.2.2⟩, ⟨w5.2.1, w5.2.2⟩, ⟨w6.2.1, w6.2.2⟩, ⟨w7.2.1, w7.2.2⟩, ⟨w8.2.1, w8.2.2⟩, ⟨w9.2.1, w9.2.2⟩, ⟨w10.2.1, w10.2.2⟩, ⟨w11.2.1, w11.2.2⟩⟩, by omega, by omega, fun b hb => hSm_tr (hSm_nC g 7 0 12 b hb) (mf b (by omega) (by omega))⟩
theorem lMg_k {h h' : tpH} {p : Nat} {x1 : Option Nat} {x2 : Option Nat} (M : lMg h p x1 x2) (k : ∀ b, p ≤ b → b < p + 21 → hSm h h' b) : lMg h' p x1 x2 := by
  obtain ⟨m0, m1, m2, w2, w3, w4, w5, w6, w7, w8, w9, w10, w11⟩ := M
  obtain ⟨k1, k2, k3, k4, -, -⟩ := k p (by omega) (by omega)
  exact ⟨by rw [k1]; exact m0, by rw [k3]; exact m1, by rw [k3]; exact m2, ⟨by rw [k3]; exact w2.1, rwL_k w2.2 (k _ (by omega) (by omega)) (k _ (by omega) (by omega))⟩, ⟨by rw [k3]; exact w3.1, rwL_k w3.2 (k _ (by omega) (by omega)) (k _ (by omega) (by omega))⟩, ⟨by rw [k3]; exact w4.1, rwL_k w4.2 (k _ (by omega) (by omega)) (k _ (by omega) (by omega))⟩, ⟨by rw [k3]; exact w5.1, rwL_k w5.2 (k _ (by omega) (by omega)) (k _ (by omega) (by omega))⟩, ⟨by rw [k3]; exact w6.1, rwL_k w6.2 (k _ (by omega) (by omega)) (k _ (by omega) (by omega))⟩, ⟨by rw [k3]; exact w7.1, rwL_k w7.2 (k _ (by omega) (by omega)) (k _ (by omega) (by omega))⟩, ⟨by rw [k3]; exact w8.1, rwL_k w8.2 (k _ (by omega) (by omega)) (k _ (by omega) (by omega))⟩, ⟨by rw [k3]; exact w9.1, rwL_k w9.2 (k _ (by omega) (by omega)) (k _ (by omega) (by omega))⟩, ⟨by rw [k3]; exact w10.1, by rw [(k (p + 17) (by omega) (by omega)).1]; exact w10.2⟩, ⟨by rw [k3]; exact w11.1, by rw [(k (p + 19) (by omega) (by omega)).1]; exact w11.2⟩⟩
theorem fMg_k {h h' : tpH} {p : Nat} {x1 : Option Nat} {x2 : Option Nat} (M : fMg h p x1 x2) (k : ∀ b, p ≤ b → b < p + 21 → hSm h h' b) : fMg h' p x1 x2 := by
  obtain ⟨ml, v10, v11, mi, w2, w3, w4, w5, w6, w7, w8, w9, w10, w11⟩ := M
  have k4 := (k p (by omega) (by omega)).2.2.2.1
  exact ⟨lMg_k ml k, rwL_k v10 (k _ (by omega) (by omega)) (k _ (by omega) (by omega)), rwL_k v11 (k _ (by omega) (by omega)) (k _ (by omega) (by omega)), (fun j  => by rw [k4]; exact mi j ), ⟨fun j => by rw [(k (p + 2) (by omega) (by omega)).2.2.2.1]; exact w2.1 j, by rw [(k (p + 1) (by omega) (by omega)).2.2.2.1]; exact w2.2⟩, ⟨fun j => by rw [(k (p + 4) (by omega) (by omega)).2.2.2.1]; exact w3.1 j, by rw [(k (p + 3) (by omega) (by omega)).2.2.2.1]; exact w3.2⟩, ⟨fun j => by rw [(k (p + 6) (by omega) (by omega)).2.2.2.1]; exact w4.1 j, by rw [(k (p + 5) (by omega) (by omega)).2.2.2.1]; exact w4.2⟩, ⟨fun j => by rw [(k (p + 8) (by omega) (by omega)).2.2.2.1]; exact w5.1 j, by rw [(k (p + 7) (by omega) (by omega)).2.2.2.1]; exact w5.2⟩, ⟨fun j => by rw [(k (p + 10) (by omega) (by omega)).2.2.2.1]; exact w6.1 j, by rw [(k (p + 9) (by omega) (by omega)).2.2.2.1]; exact w6.2⟩, ⟨fun j => by rw [(k (p + 12) (by omega) (by omega)).2.2.2.1]; exact w7.1 j, by rw [(k (p + 11) (by omega) (by omega)).2.2.2.1]; exact w7.2⟩, ⟨fun j => by rw [(k (p + 14) (by omega) (by omega)).2.2.2.1]; exact w8.1 j, by rw [(k (p + 13) (by omega) (by omega)).2.2.2.1]; exact w8.2⟩, ⟨fun j => by rw [(k (p + 16) (by omega) (by omega)).2.2.2.1]; exact w9.1 j, by rw [(k (p + 15) (by omega) (by omega)).2.2.2.1]; exact w9.2⟩, ⟨fun j => by rw [(k (p + 18) (by omega) (by omega)).2.2.2.1]; exact w10.1 j, by rw [(k (p + 17) (by omega) (by omega)).2.2.2.1]; exact w10.2⟩, ⟨fun j => by rw [(k (p + 20) (by omega) (by omega)).2.2.2.1]; exact w11.1 j, by rw [(k (p + 19) (by omega) (by omega)).2.2.2.1]; exact w11.2⟩⟩
def lHi (h : tpH) (p : Nat) : Prop :=
  hT h p = 3 ∧
  (hR h p 0 = some (p + 1) ∧ rwL h (p + 1) (p + 2) 30) ∧
  (hR h p 1 = some (p + 3) ∧ rwL h (p + 3) (p + 4) 30) ∧
  (hR h p 2 = some (p + 5) ∧ rwL h (p + 5) (p + 6) 30) ∧
  (hR h p 3 = some (p + 7) ∧ rwL h (p + 7) (p + 8) 30) ∧
  (hR h p 4 = some (p + 9) ∧ rwL h (p + 9) (p + 10) 30)
def fHi (h : tpH) (p : Nat) : Prop :=
  lHi h p ∧
  (∀ j, hI h p j = 0) ∧
  ((∀ j, hI h (p + 2) j = 0) ∧ hI h (p + 1) 1 = 0) ∧
  ((∀ j, hI h (p + 4) j = 0) ∧ hI h (p + 3) 1 = 0) ∧
  ((∀ j, hI h (p + 6) j = 0) ∧ hI h (p + 5) 1 = 0) ∧
  ((∀ j, hI h (p + 8) j = 0) ∧ hI h (p + 7) 1 = 0) ∧
  ((∀ j, hI h (p + 10) j = 0) ∧ hI h (p + 9) 1 = 0)
theorem fHi_of {g h : tpH} (M : mkHi (nC g 3 0 7) h (hZ g)) : fHi h (hZ g) ∧ hZ h = hZ g + 11 ∧ hU h = hU g + 167 ∧ ∀ b, b < hZ g → hSm g h b := by
  obtain ⟨mz, mu, mf, mt, mr, mi, w0, w1, w2, w3, w4⟩ := M
  have ez : hZ (nC g 3 0 7) = hZ g + 1 := rfl
  have eu : hU (nC g 3 0 7) = hU g + 7 := rfl
  rw [ez] at mz mf w0 w1 w2 w3 w4 mr
  rw [eu] at mu
  obtain ⟨r0, r1, r2, r3, r4⟩ := mr
  have n0 := (nC_new g 3 0 7).2.2.2.1
  exact ⟨⟨⟨mt, ⟨r0, w0.1⟩, ⟨r1, w1.1⟩, ⟨r2, w2.1⟩, ⟨r3, w3.1⟩, ⟨r4, w4.1⟩⟩, (fun j  => by rw [mi j , n0]), ⟨w0.2.1, w0.2.2⟩, ⟨w1.2.1, w1.2.2⟩, ⟨w2.2.1, w2.2.2⟩, ⟨w3.2.1, w3.2.2⟩, ⟨w4.2.1, w4.2.2⟩⟩, by omega, by omega, fun b hb => hSm_tr (hSm_nC g 3 0 7 b hb) (mf b (by omega) (by omega))⟩
theorem lHi_k {h h' : tpH} {p : Nat} (M : lHi h p) (k : ∀ b, p ≤ b → b < p + 11 → hSm h h' b) : lHi h' p := by
  obtain ⟨m0, w0, w1, w2, w3, w4⟩ := M
  obtain ⟨k1, k2, k3, k4, -, -⟩ := k p (by omega) (by omega)
  exact ⟨by rw [k1]; exact m0, ⟨by rw [k3]; exact w0.1, rwL_k w0.2 (k _ (by omega) (by omega)) (k _ (by omega) (by omega))⟩, ⟨by rw [k3]; exact w1.1, rwL_k w1.2 (k _ (by omega) (by omega)) (k _ (by omega) (by omega))⟩, ⟨by rw [k3]; exact w2.1, rwL_k w2.2 (k _ (by omega) (by omega)) (k _ (by omega) (by omega))⟩, ⟨by rw [k3]; exact w3.1, rwL_k w3.2 (k _ (by omega) (by omega)) (k _ (by omega) (by omega))⟩, ⟨by rw [k3]; exact w4.1, rwL_k w4.2 (k _ (by omega) (by omega)) (k _ (by omega) (by omega))⟩⟩
theorem fHi_k {h h' : tpH} {p : Nat} (M : fHi h p) (k : ∀ b, p ≤ b → b < p + 11 → hSm h h' b) : fHi h' p := by
  obtain ⟨ml, mi, w0, w1, w2, w3, w4⟩ := M
  have k4 := (k p (by omega) (by omega)).2.2.2.1
  exact ⟨lHi_k ml k, (fun j  => by rw [k4]; exact mi j ), ⟨fun j => by rw [(k (p + 2) (by omega) (by omega)).2.2.2.1]; exact w0.1 j, by rw [(k (p + 1) (by omega) (by omega)).2.2.2.1]; exact w0.2⟩, ⟨fun j => by rw [(k (p + 4) (by omega) (by omega)).2.2.2.1]; exact w1.1 j, by rw [(k (p + 3) (by omega) (by omega)).2.2.2.1]; exact w1.2⟩, ⟨fun j => by rw [(k (p + 6) (by omega) (by omega)).2.2.2.1]; exact w2.1 j, by rw [(k (p + 5) (by omega) (by omega)).2.2.2.1]; exact w2.2⟩, ⟨fun j => by rw [(k (p + 8) (by omega) (by omega)).2.2.2.1]; exact w3.1 j, by rw [(k (p + 7) (by omega) (by omega)).2.2.2.1]; exact w3.2⟩, ⟨fun j => by rw [(k (p + 10) (by omega) (by omega)).2.2.2.1]; exact w4.1 j, by rw [(k (p + 9) (by omega) (by omega)).2.2.2.1]; exact w4.2⟩⟩
/-- the class's object at x, what belongs to it from p on -/
def lTP (h : tpH) (x p : Nat) : Prop :=
  hT h x = 13 ∧
  hR h x 0 = some (p + 0) ∧
  lMa h (p + 0) ∧
  hR h x 1 = some (p + 5) ∧
  lBu h (p + 5) (some (p + 0)) ∧
  hR h x 2 = some (p + 20) ∧
  lBu h (p + 20) (some (p + 0)) ∧
  hR h x 3 = some (p + 35) ∧
  (hT h (p + 35) = 21 ∧ hL h (p + 35) = 40) ∧
  hR h x 5 = some (p + 36) ∧
  (hT h (p + 36) = 19 ∧ hL h (p + 36) = 40) ∧
  hR h x 7 = some (p + 37) ∧
  lLi h (p + 37) (some (p + 0)) ∧
  hR h x 8 = some (p + 50) ∧
  lMt h (p + 50) (some (p + 0)) (some (p + 37)) ∧
  hR h x 9 = some (p + 61) ∧
  lFi h (p + 61) (some (p + 0)) (some (p + 20)) (some (p + 50)) ∧
  hR h x 11 = some (p + 69) ∧
  lMg h (p + 69) (some (p + 0)) (some (p + 20)) ∧
  hR h x 12 = some (p + 90) ∧
  lHi h (p + 90)
def fTP (h : tpH) (x p : Nat) : Prop :=
  lTP h x p ∧ (∀ j, hI h x j = 0) ∧
  fMa h (p + 0) ∧
  fBu h (p + 5) (some (p + 0)) ∧
  fBu h (p + 20) (some (p + 0)) ∧
  (∀ j, hR h (p + 35) j = none) ∧
  (∀ j, hR h (p + 36) j = none) ∧
  fLi h (p + 37) (some (p + 0)) ∧
  fMt h (p + 50) (some (p + 0)) (some (p + 37)) ∧
  fFi h (p + 61) (some (p + 0)) (some (p + 20)) (some (p + 50)) ∧
  fMg h (p + 69) (some (p + 0)) (some (p + 20)) ∧
  fHi h (p + 90)
theorem p_TP_init {h : tpH} {o : Nat} {R : tpH → Prop} (ho : o < hZ h) (hk : hT h o = 13) (hi : ∀ j, hI h o j = 0) (k : ∀ h', fTP h' o (hZ h) → hZ h' = hZ h + 101 → hU h' = hU h + 13361 → (∀ b, b < hZ h → b ≠ o → hSm h h' b) → R h') : w_TP_init o h R := by
  unfold w_TP_init
  obtain ⟨p, hp⟩ : ∃ p, p = hZ h := ⟨_, rfl⟩
  have Z0 : hZ h = p + 0 := by omega
  have U0 : hU h = hU h + 0 := rfl
  have F0 : ∀ b, b < p → b ≠ o → hSm h h b := fun b _ _ => hSm_rf h b
  have T0 : hT h o = 13 := hk
  have I0 : ∀ j, hI h o j = 0 := hi
  intro a1 g1 ea1 eg1
  subst ea1 eg1
  refine p_Ma_init (by show hZ h < hZ h + 1; omega) (nC_new h 5 0 3).1 (fun m1 M1 => ?_)
  obtain ⟨fo, mz, mu, mf⟩ := fMa_of M1
  have so := mf o (by omega)
  refine ⟨so.1.trans T0, fun h1 e1 => ?_⟩
  rw [Z0] at fo mz
  have Z1 : hZ h1 = p + 5 := by rw [e1, hZ_sR]; omega
  have U1 : hU h1 = hU h + 607 := by rw [e1, hU_sR]; omega
  have G1 : ∀ b, b < hZ h → b ≠ o → hSm h h1 b := fun b hb hbo => by rw [e1]; exact hSm_tr (mf b hb) (hSm_sR _ _ _ _ _ hbo)
  have O1 : fMa h1 (p + 0) := by rw [e1]; exact fMa_k fo (fun b h1 h2 => hSm_sR _ _ _ _ _ (by omega))
  have T1 : hT h1 o = 13 := by rw [e1, hT_sR]; exact so.1.trans T0
  have I1 : ∀ j, hI h1 o j = 0 := fun j => by rw [e1, hI_sR, so.2.2.2.1]; exact I0 j
  have K1 : ∀ q, q ≠ 0 → hR h1 o q = hR h o q := fun q hq => by rw [e1, hR_sR, tpu_row2, if_neg hq, so.2.2.1]
  have N1 : hR h1 o 0 = some (p + 0) := by rw [e1, hR_sR, tpu_row2, if_pos rfl, Z0]
  clear M1 fo mz mu mf so e1
  have F1 : ∀ b, b < p → b ≠ o → hSm h h1 b := fun b hb hbo => hSm_tr (F0 b hb hbo) (G1 b (by omega) hbo)
  clear K1 G1
  intro a2 g2 ea2 eg2
  subst ea2 eg2
  have so0 := hSm_nC h1 1 0 10 o (by omega)
  refine ⟨so0.1.trans T1, ?_⟩
  rw [show hR (nC h1 1 0 10) o 0 = some (p + 0) by rw [so0.2.2.1]; exact N1]
  refine p_Bu_init (by show hZ h1 < hZ h1 + 1; omega) (nC_new h1 1 0 10).1 (fun m2 M2 => ?_)
  obtain ⟨fo, mz, mu, mf⟩ := fBu_of M2
  have so := mf o (by omega)
  refine ⟨so.1.trans T1, fun h2 e2 => ?_⟩
  rw [Z1] at fo mz
  have Z2 : hZ h2 = p + 20 := by rw [e2, hZ_sR]; omega
  have U2 : hU h2 = hU h + 2731 := by rw [e2, hU_sR]; omega
  have G2 : ∀ b, b < hZ h1 → b ≠ o → hSm h1 h2 b := fun b hb hbo => by rw [e2]; exact hSm_tr (mf b hb) (hSm_sR _ _ _ _ _ hbo)
  have O2 : fBu h2 (p + 5) (some (p + 0)) := by rw [e2]; exact fBu_k fo (fun b h1 h2 => hSm_sR _ _ _ _ _ (by omega))
  have T2 : hT h2 o = 13 := by rw [e2, hT_sR]; exact so.1.trans T1
  have I2 : ∀ j, hI h2 o j = 0 := fun j => by rw [e2, hI_sR, so.2.2.2.1]; exact I1 j
  have K2 : ∀ q, q ≠ 1 → hR h2 o q = hR h1 o q := fun q hq => by rw [e2, hR_sR, tpu_row2, if_neg hq, so.2.2.1]
  have N2 : hR h2 o 1 = some (p + 5) := by rw [e2, hR_sR, tpu_row2, if_pos rfl, Z1]
  clear M2 fo mz mu mf so e2 so0
  have F2 : ∀ b, b < p → b ≠ o → hSm h h2 b := fun b hb hbo => hSm_tr (F1 b hb hbo) (G2 b (by omega) hbo)
  have O1x2 : fMa h2 (p + 0) := fMa_k O1 (fun b h1 h2 => G2 b (by omega) (by omega))
  clear O1
  have N1x2 : hR h2 o 0 = some (p + 0) := (K2 0 (by decide)).trans N1
  clear N1
  clear K2 G2
  intro a3 g3 ea3 eg3
  subst ea3 eg3
  have so0 := hSm_nC h2 1 0 10 o (by omega)
  refine ⟨so0.1.trans T2, ?_⟩
  rw [show hR (nC h2 1 0 10) o 0 = some (p + 0) by rw [so0.2.2.1]; exact N1x2]
  refine p_Bu_init (by show hZ h2 < hZ h2 + 1; omega) (nC_new h2 1 0 10).1 (fun m3 M3 => ?_)
  obtain ⟨fo, mz, mu, mf⟩ := fBu_of M3
  have so := mf o (by omega)
  refine ⟨so.1.trans T2, fun h3 e3 => ?_⟩
  rw [Z2] at fo mz
  have Z3 : hZ h3 = p + 35 := by rw [e3, hZ_sR]; omega
  have U3 : hU h3 = hU h + 4855 := by rw [e3, hU_sR]; omega
  have G3 : ∀ b, b < hZ h2 → b ≠ o → hSm h2 h3 b := fun b hb hbo => by rw [e3]; exact hSm_tr (mf b hb) (hSm_sR _ _ _ _ _ hbo)
  have O3 : fBu h3 (p + 20) (some (p + 0)) := by rw [e3]; exact fBu_k fo (fun b h1 h2 => hSm_sR _ _ _ _ _ (by omega))
  have T3 : hT h3 o = 13 := by rw [e3, hT_sR]; exact so.1.trans T2
  have I3 : ∀ j, hI h3 o j = 0 := fun j => by rw [e3, hI_sR, so.2.2.2.1]; exact I2 j
  have K3 : ∀ q, q ≠ 2 → hR h3 o q = hR h2 o q := fun q hq => by rw [e3, hR_sR, tpu_row2, if_neg hq, so.2.2.1]
  have N3 : hR h3 o 2 = some (p + 20) := by rw [e3, hR_sR, tpu_row2, if_pos rfl, Z2]
  clear M3 fo mz mu mf so e3 so0
  have F3 : ∀ b, b < p → b ≠ o → hSm h h3 b := fun b hb hbo => hSm_tr (F2 b hb hbo) (G3 b (by omega) hbo)
  have O1x2x3 : fMa h3 (p + 0) := fMa_k O1x2 (fun b h1 h2 => G3 b (by omega) (by omega))
  clear O1x2
  have O2x3 : fBu h3 (p + 5) (some (p + 0)) := fBu_k O2 (fun b h1 h2 => G3 b (by omega) (by omega))
  clear O2
  have N1x2x3 : hR h3 o 0 = some (p + 0) := (K3 0 (by decide)).trans N1x2
  clear N1x2
  have N2x3 : hR h3 o 1 = some (p + 5) := (K3 1 (by decide)).trans N2
  clear N2
  clear K3 G3
  intro a4 g4 ea4 eg4
  subst ea4 eg4
  have wn := nC_new h3 21 40 40
  have wf := hSm_nC h3 21 40 40
  have so := wf o (by omega)
  refine ⟨so.1.trans T3, fun h4 e4 => ?_⟩
  have Z4 : hZ h4 = p + 36 := by rw [e4, hZ_sR]; show hZ h3 + 1 = _; omega
  have U4 : hU h4 = hU h + 4895 := by rw [e4, hU_sR]; show hU h3 + 40 = _; omega
  have G4 : ∀ b, b < hZ h3 → b ≠ o → hSm h3 h4 b := fun b hb hbo => by rw [e4]; exact hSm_tr (wf b hb) (hSm_sR _ _ _ _ _ hbo)
  have O4 : (hT h4 (p + 35) = 21 ∧ hL h4 (p + 35) = 40) ∧ ∀ j, hR h4 (p + 35) j = none := by
    rw [Z3] at wn
    have sn := hSm_sR (nC h3 21 40 40) o 3 (some (hZ h3)) (p + 35) (by omega)
    rw [← e4] at sn
    exact ⟨⟨by rw [sn.1]; exact wn.1, by rw [sn.2.1]; exact wn.2.1⟩, fun j => by rw [sn.2.2.1, wn.2.2.1]⟩
  have T4 : hT h4 o = 13 := by rw [e4, hT_sR]; exact so.1.trans T3
  have I4 : ∀ j, hI h4 o j = 0 := fun j => by rw [e4, hI_sR, so.2.2.2.1]; exact I3 j
  have K4 : ∀ q, q ≠ 3 → hR h4 o q = hR h3 o q := fun q hq => by rw [e4, hR_sR, tpu_row2, if_neg hq, so.2.2.1]
  have N4 : hR h4 o 3 = some (p + 35) := by rw [e4, hR_sR, tpu_row2, if_pos rfl, Z3]
  clear wn wf so e4
  have F4 : ∀ b, b < p → b ≠ o → hSm h h4 b := fun b hb hbo => hSm_tr (F3 b hb hbo) (G4 b (by omega) hbo)
  have O1x2x3x4 : fMa h4 (p + 0) := fMa_k O1x2x3 (fun b h1 h2 => G4 b (by omega) (by omega))
  clear O1x2x3
  have O2x3x4 : fBu h4 (p + 5) (some (p + 0)) := fBu_k O2x3 (fun b h1 h2 => G4 b (by omega) (by omega))
  clear O2x3
  have O3x4 : fBu h4 (p + 20) (some (p + 0)) := fBu_k O3 (fun b h1 h2 => G4 b (by omega) (by omega))
  clear O3
  have N1x2x3x4 : hR h4 o 0 = some (p + 0) := (K4 0 (by decide)).trans N1x2x3
  clear N1x2x3
  have N2x3x4 : hR h4 o 1 = some (p + 5) := (K4 1 (by decide)).trans N2x3
  clear N2x3
  have N3x4 : hR h4 o 2 = some (p + 20) := (K4 2 (by decide)).trans N3
  clear N3
  clear K4 G4
  intro a5 g5 ea5 eg5
  subst ea5 eg5
  have wn := nC_new h4 19 40 40
  have wf := hSm_nC h4 19 40 40
  have so := wf o (by omega)
  refine ⟨so.1.trans T4, fun h5 e5 => ?_⟩
  have Z5 : hZ h5 = p + 37 := by rw [e5, hZ_sR]; show hZ h4 + 1 = _; omega
  have U5 : hU h5 = hU h + 4935 := by rw [e5, hU_sR]; show hU h4 + 40 = _; omega
  have G5 : ∀ b, b < hZ h4 → b ≠ o → hSm h4 h5 b := fun b hb hbo => by rw [e5]; exact hSm_tr (wf b hb) (hSm_sR _ _ _ _ _ hbo)
  have O5 : (hT h5 (p + 36) = 19 ∧ hL h5 (p + 36) = 40) ∧ ∀ j, hR h5 (p + 36) j = none := by
    rw [Z4] at wn
    have sn := hSm_sR (nC h4 19 40 40) o 5 (some (hZ h4)) (p + 36) (by omega)
    rw [← e5] at sn
    exact ⟨⟨by rw [sn.1]; exact wn.1, by rw [sn.2.1]; exact wn.2.1⟩, fun j => by rw [sn.2.2.1, wn.2.2.1]⟩
  have T5 : hT h5 o = 13 := by rw [e5, hT_sR]; exact so.1.trans T4
  have I5 : ∀ j, hI h5 o j = 0 := fun j => by rw [e5, hI_sR, so.2.2.2.1]; exact I4 j
  have K5 : ∀ q, q ≠ 5 → hR h5 o q = hR h4 o q := fun q hq => by rw [e5, hR_sR, tpu_row2, if_neg hq, so.2.2.1]
  have N5 : hR h5 o 5 = some (p + 36) := by rw [e5, hR_sR, tpu_row2, if_pos rfl, Z4]
  clear wn wf so e5
  have F5 : ∀ b, b < p → b ≠ o → hSm h h5 b := fun b hb hbo => hSm_tr (F4 b hb hbo) (G5 b (by omega) hbo)
  have O1x2x3x4x5 : fMa h5 (p + 0) := fMa_k O1x2x3x4 (fun b h1 h2 => G5 b (by omega) (by omega))
  clear O1x2x3x4
  have O2x3x4x5 : fBu h5 (p + 5) (some (p + 0)) := fBu_k O2x3x4 (fun b h1 h2 => G5 b (by omega) (by omega))
  clear O2x3x4
  have O3x4x5 : fBu h5 (p + 20) (some (p + 0)) := fBu_k O3x4 (fun b h1 h2 => G5 b (by omega) (by omega))
  clear O3x4
  have O4x5 : (hT h5 (p + 35) = 21 ∧ hL h5 (p + 35) = 40) ∧ ∀ j, hR h5 (p + 35) j = none := by
    have gg := G5 (p + 35) (by omega) (by omega)
    exact ⟨⟨by rw [gg.1]; exact O4.1.1, by rw [gg.2.1]; exact O4.1.2⟩, fun j => by rw [gg.2.2.1]; exact O4.2 j⟩
  clear O4
  have N1x2x3x4x5 : hR h5 o 0 = some (p + 0) := (K5 0 (by decide)).trans N1x2x3x4
  clear N1x2x3x4
  have N2x3x4x5 : hR h5 o 1 = some (p + 5) := (K5 1 (by decide)).trans N2x3x4
  clear N2x3x4
  have N3x4x5 : hR h5 o 2 = some (p + 20) := (K5 2 (by decide)).trans N3x4
  clear N3x4
  have N4x5 : hR h5 o 3 = some (p + 35) := (K5 3 (by decide)).trans N4
  clear N4
  clear K5 G5
  intro a6 g6 ea6 eg6
  subst ea6 eg6
  have so0 := hSm_nC h5 4 0 9 o (by omega)
  refine ⟨so0.1.trans T5, ?_⟩
  rw [show hR (nC h5 4 0 9) o 0 = some (p + 0) by rw [so0.2.2.1]; exact N1x2x3x4x5]
  refine p_Li_init (by show hZ h5 < hZ h5 + 1; omega) (nC_new h5 4 0 9).1 (fun m6 M6 => ?_)
  obtain ⟨fo, mz, mu, mf⟩ := fLi_of M6
  have so := mf o (by omega)
  refine ⟨so.1.trans T5, fun h6 e6 => ?_⟩
  rw [Z5] at fo mz
  have Z6 : hZ h6 = p + 50 := by rw [e6, hZ_sR]; omega
  have U6 : hU h6 = hU h + 8556 := by rw [e6, hU_sR]; omega
  have G6 : ∀ b, b < hZ h5 → b ≠ o → hSm h5 h6 b := fun b hb hbo => by rw [e6]; exact hSm_tr (mf b hb) (hSm_sR _ _ _ _ _ hbo)
  have O6 : fLi h6 (p + 37) (some (p + 0)) := by rw [e6]; exact fLi_k fo (fun b h1 h2 => hSm_sR _ _ _ _ _ (by omega))
  have T6 : hT h6 o = 13 := by rw [e6, hT_sR]; exact so.1.trans T5
  have I6 : ∀ j, hI h6 o j = 0 := fun j => by rw [e6, hI_sR, so.2.2.2.1]; exact I5 j
  have K6 : ∀ q, q ≠ 7 → hR h6 o q = hR h5 o q := fun q hq => by rw [e6, hR_sR, tpu_row2, if_neg hq, so.2.2.1]
  have N6 : hR h6 o 7 = some (p + 37) := by rw [e6, hR_sR, tpu_row2, if_pos rfl, Z5]
  clear M6 fo mz mu mf so e6 so0
  have F6 : ∀ b, b < p → b ≠ o → hSm h h6 b := fun b hb hbo => hSm_tr (F5 b hb hbo) (G6 b (by omega) hbo)
  have O1x2x3x4x5x6 : fMa h6 (p + 0) := fMa_k O1x2x3x4x5 (fun b h1 h2 => G6 b (by omega) (by omega))
  clear O1x2x3x4x5
  have O2x3x4x5x6 : fBu h6 (p + 5) (some (p + 0)) := fBu_k O2x3x4x5 (fun b h1 h2 => G6 b (by omega) (by omega))
  clear O2x3x4x5
  have O3x4x5x6 : fBu h6 (p + 20) (some (p + 0)) := fBu_k O3x4x5 (fun b h1 h2 => G6 b (by omega) (by omega))
  clear O3x4x5
  have O4x5x6 : (hT h6 (p + 35) = 21 ∧ hL h6 (p + 35) = 40) ∧ ∀ j, hR h6 (p + 35) j = none := by
    have gg := G6 (p + 35) (by omega) (by omega)
    exact ⟨⟨by rw [gg.1]; exact O4x5.1.1, by rw [gg.2.1]; exact O4x5.1.2⟩, fun j => by rw [gg.2.2.1]; exact O4x5.2 j⟩
  clear O4x5
  have O5x6 : (hT h6 (p + 36) = 19 ∧ hL h6 (p + 36) = 40) ∧ ∀ j, hR h6 (p + 36) j = none := by
    have gg := G6 (p + 36) (by omega) (by omega)
    exact ⟨⟨by rw [gg.1]; exact O5.1.1, by rw [gg.2.1]; exact O5.1.2⟩, fun j => by rw [gg.2.2.1]; exact O5.2 j⟩
  clear O5
  have N1x2x3x4x5x6 : hR h6 o 0 = some (p + 0) := (K6 0 (by decide)).trans N1x2x3x4x5
  clear N1x2x3x4x5
  have N2x3x4x5x6 : hR h6 o 1 = some (p + 5) := (K6 1 (by decide)).trans N2x3x4x5
  clear N2x3x4x5
  have N3x4x5x6 : hR h6 o 2 = some (p + 20) := (K6 2 (by decide)).trans N3x4x5
  clear N3x4x5
  have N4x5x6 : hR h6 o 3 = some (p + 35) := (K6 3 (by decide)).trans N4x5
  clear N4x5
  have N5x6 : hR h6 o 5 = some (p + 36) := (K6 5 (by decide)).trans N5
  clear N5
  clear K6 G6
  intro a7 g7 ea7 eg7
  subst ea7 eg7
  have so0 := hSm_nC h6 6 0 9 o (by omega)
  refine ⟨so0.1.trans T6, ?_⟩
  rw [show hR (nC h6 6 0 9) o 0 = some (p + 0) by rw [so0.2.2.1]; exact N1x2x3x4x5x6]
  rw [show hR (nC h6 6 0 9) o 7 = some (p + 37) by rw [so0.2.2.1]; exact N6]
  refine p_Mt_init (by show hZ h6 < hZ h6 + 1; omega) (nC_new h6 6 0 9).1 (fun m7 M7 => ?_)
  obtain ⟨fo, mz, mu, mf⟩ := fMt_of M7
  have so := mf o (by omega)
  refine ⟨so.1.trans T6, fun h7 e7 => ?_⟩
  rw [Z6] at fo mz
  have Z7 : hZ h7 = p + 61 := by rw [e7, hZ_sR]; omega
  have U7 : hU h7 = hU h + 10076 := by rw [e7, hU_sR]; omega
  have G7 : ∀ b, b < hZ h6 → b ≠ o → hSm h6 h7 b := fun b hb hbo => by rw [e7]; exact hSm_tr (mf b hb) (hSm_sR _ _ _ _ _ hbo)
  have O7 : fMt h7 (p + 50) (some (p + 0)) (some (p + 37)) := by rw [e7]; exact fMt_k fo (fun b h1 h2 => hSm_sR _ _ _ _ _ (by omega))
  have T7 : hT h7 o = 13 := by rw [e7, hT_sR]; exact so.1.trans T6
  have I7 : ∀ j, hI h7 o j = 0 := fun j => by rw [e7, hI_sR, so.2.2.2.1]; exact I6 j
  have K7 : ∀ q, q ≠ 8 → hR h7 o q = hR h6 o q := fun q hq => by rw [e7, hR_sR, tpu_row2, if_neg hq, so.2.2.1]
  have N7 : hR h7 o 8 = some (p + 50) := by rw [e7, hR_sR, tpu_row2, if_pos rfl, Z6]
  clear M7 fo mz mu mf so e7 so0
  have F7 : ∀ b, b < p → b ≠ o → hSm h h7 b := fun b hb hbo => hSm_tr (F6 b hb hbo) (G7 b (by omega) hbo)
  have O1x2x3x4x5x6x7 : fMa h7 (p + 0) := fMa_k O1x2x3x4x5x6 (fun b h1 h2 => G7 b (by omega) (by omega))
  clear O1x2x3x4x5x6
  have O2x3x4x5x6x7 : fBu h7 (p + 5) (some (p + 0)) := fBu_k O2x3x4x5x6 (fun b h1 h2 => G7 b (by omega) (by omega))
  clear O2x3x4x5x6
  have O3x4x5x6x7 : fBu h7 (p + 20) (some (p + 0)) := fBu_k O3x4x5x6 (fun b h1 h2 => G7 b (by omega) (by omega))
  clear O3x4x5x6
  have O4x5x6x7 : (hT h7 (p + 35) = 21 ∧ hL h7 (p + 35) = 40) ∧ ∀ j, hR h7 (p + 35) j = none := by
    have gg := G7 (p + 35) (by omega) (by omega)
    exact ⟨⟨by rw [gg.1]; exact O4x5x6.1.1, by rw [gg.2.1]; exact O4x5x6.1.2⟩, fun j => by rw [gg.2.2.1]; exact O4x5x6.2 j⟩
  clear O4x5x6
  have O5x6x7 : (hT h7 (p + 36) = 19 ∧ hL h7 (p + 36) = 40) ∧ ∀ j, hR h7 (p + 36) j = none := by
    have gg := G7 (p + 36) (by omega) (by omega)
    exact ⟨⟨by rw [gg.1]; exact O5x6.1.1, by rw [gg.2.1]; exact O5x6.1.2⟩, fun j => by rw [gg.2.2.1]; exact O5x6.2 j⟩
  clear O5x6
  have O6x7 : fLi h7 (p + 37) (some (p + 0)) := fLi_k O6 (fun b h1 h2 => G7 b (by omega) (by omega))
  clear O6
  have N1x2x3x4x5x6x7 : hR h7 o 0 = some (p + 0) := (K7 0 (by decide)).trans N1x2x3x4x5x6
  clear N1x2x3x4x5x6
  have N2x3x4x5x6x7 : hR h7 o 1 = some (p + 5) := (K7 1 (by decide)).trans N2x3x4x5x6
  clear N2x3x4x5x6
  have N3x4x5x6x7 : hR h7 o 2 = some (p + 20) := (K7 2 (by decide)).trans N3x4x5x6
  clear N3x4x5x6
  have N4x5x6x7 : hR h7 o 3 = some (p + 35) := (K7 3 (by decide)).trans N4x5x6
  clear N4x5x6
  have N5x6x7 : hR h7 o 5 = some (p + 36) := (K7 5 (by decide)).trans N5x6
  clear N5x6
  have N6x7 : hR h7 o 7 = some (p + 37) := (K7 7 (by decide)).trans N6
  clear N6
  clear K7 G7
  intro a8 g8 ea8 eg8
  subst ea8 eg8
  have so0 := hSm_nC h7 2 0 7 o (by omega)
  refine ⟨so0.1.trans T7, ?_⟩
  rw [show hR (nC h7 2 0 7) o 0 = some (p + 0) by rw [so0.2.2.1]; exact N1x2x3x4x5x6x7]
  rw [show hR (nC h7 2 0 7) o 2 = some (p + 20) by rw [so0.2.2.1]; exact N3x4x5x6x7]
  rw [show hR (nC h7 2 0 7) o 8 = some (p + 50) by rw [so0.2.2.1]; exact N7]
  refine p_Fi_init (by show hZ h7 < hZ h7 + 1; omega) (nC_new h7 2 0 7).1 (fun m8 M8 => ?_)
  obtain ⟨fo, mz, mu, mf⟩ := fFi_of M8
  have so := mf o (by omega)
  refine ⟨so.1.trans T7, fun h8 e8 => ?_⟩
  rw [Z7] at fo mz
  have Z8 : hZ h8 = p + 69 := by rw [e8, hZ_sR]; omega
  have U8 : hU h8 = hU h + 10992 := by rw [e8, hU_sR]; omega
  have G8 : ∀ b, b < hZ h7 → b ≠ o → hSm h7 h8 b := fun b hb hbo => by rw [e8]; exact hSm_tr (mf b hb) (hSm_sR _ _ _ _ _ hbo)
  have O8 : fFi h8 (p + 61) (some (p + 0)) (some (p + 20)) (some (p + 50)) := by rw [e8]; exact fFi_k fo (fun b h1 h2 => hSm_sR _ _ _ _ _ (by omega))
  have T8 : hT h8 o = 13 := by rw [e8, hT_sR]; exact so.1.trans T7
  have I8 : ∀ j, hI h8 o j = 0 := fun j => by rw [e8, hI_sR, so.2.2.2.1]; exact I7 j
  have K8 : ∀ q, q ≠ 9 → hR h8 o q = hR h7 o q := fun q hq => by rw [e8, hR_sR, tpu_row2, if_neg hq, so.2.2.1]
  have N8 : hR h8 o 9 = some (p + 61) := by rw [e8, hR_sR, tpu_row2, if_pos rfl, Z7]
  clear M8 fo mz mu mf so e8 so0
  have F8 : ∀ b, b < p → b ≠ o → hSm h h8 b := fun b hb hbo => hSm_tr (F7 b hb hbo) (G8 b (by omega) hbo)
  have O1x2x3x4x5x6x7x8 : fMa h8 (p + 0) := fMa_k O1x2x3x4x5x6x7 (fun b h1 h2 => G8 b (by omega) (by omega))
  clear O1x2x3x4x5x6x7
  have O2x3x4x5x6x7x8 : fBu h8 (p + 5) (some (p + 0)) := fBu_k O2x3x4x5x6x7 (fun b h1 h2 => G8 b (by omega) (by omega))
  clear O2x3x4x5x6x7
  have O3x4x5x6x7x8 : fBu h8 (p + 20) (some (p + 0)) := fBu_k O3x4x5x6x7 (fun b h1 h2 => G8 b (by omega) (by omega))
  clear O3x4x5x6x7
  have O4x5x6x7x8 : (hT h8 (p + 35) = 21 ∧ hL h8 (p + 35) = 40) ∧ ∀ j, hR h8 (p + 35) j = none := by
    have gg := G8 (p + 35) (by omega) (by omega)
    exact ⟨⟨by rw [gg.1]; exact O4x5x6x7.1.1, by rw [gg.2.1]; exact O4x5x6x7.1.2⟩, fun j => by rw [gg.2.2.1]; exact O4x5x6x7.2 j⟩
  clear O4x5x6x7
  have O5x6x7x8 : (hT h8 (p + 36) = 19 ∧ hL h8 (p + 36) = 40) ∧ ∀ j, hR h8 (p + 36) j = none := by
    have gg := G8 (p + 36) (by omega) (by omega)
    exact ⟨⟨by rw [gg.1]; exact O5x6x7.1.1, by rw [gg.2.1]; exact O5x6x7.1.2⟩, fun j => by rw [gg.2.2.1]; exact O5x6x7.2 j⟩
  clear O5x6x7
  have O6x7x8 : fLi h8 (p + 37) (some (p + 0)) := fLi_k O6x7 (fun b h1 h2 => G8 b (by omega) (by omega))
  clear O6x7
  have O7x8 : fMt h8 (p + 50) (some (p + 0)) (some (p + 37)) := fMt_k O7 (fun b h1 h2 => G8 b (by omega) (by omega))
  clear O7
  have N1x2x3x4x5x6x7x8 : hR h8 o 0 = some (p + 0) := (K8 0 (by decide)).trans N1x2x3x4x5x6x7
  clear N1x2x3x4x5x6x7
  have N2x3x4x5x6x7x8 : hR h8 o 1 = some (p + 5) := (K8 1 (by decide)).trans N2x3x4x5x6x7
  clear N2x3x4x5x6x7
  have N3x4x5x6x7x8 : hR h8 o 2 = some (p + 20) := (K8 2 (by decide)).trans N3x4x5x6x7
  clear N3x4x5x6x7
  have N4x5x6x7x8 : hR h8 o 3 = some (p + 35) := (K8 3 (by decide)).trans N4x5x6x7
  clear N4x5x6x7
  have N5x6x7x8 : hR h8 o 5 = some (p + 36) := (K8 5 (by decide)).trans N5x6x7
  clear N5x6x7
  have N6x7x8 : hR h8 o 7 = some (p + 37) := (K8 7 (by decide)).trans N6x7
  clear N6x7
  have N7x8 : hR h8 o 8 = some (p + 50) := (K8 8 (by decide)).trans N7
  clear N7
  clear K8 G8
  intro a9 g9 ea9 eg9
  subst ea9 eg9
  have so0 := hSm_nC h8 7 0 12 o (by omega)
  refine ⟨so0.1.trans T8, ?_⟩
  rw [show hR (nC h8 7 0 12) o 0 = some (p + 0) by rw [so0.2.2.1]; exact N1x2x3x4x5x6x7x8]
  rw [show hR (nC h8 7 0 12) o 2 = some (p + 20) by rw [so0.2.2.1]; exact N3x4x5x6x7x8]
  refine p_Mg_init (by show hZ h8 < hZ h8 + 1; omega) (nC_new h8 7 0 12).1 (fun m9 M9 => ?_)
  obtain ⟨fo, mz, mu, mf⟩ := fMg_of M9
  have so := mf o (by omega)
  refine ⟨so.1.trans T8, fun h9 e9 => ?_⟩
  rw [Z8] at fo mz
  have Z9 : hZ h9 = p + 90 := by rw [e9, hZ_sR]; omega
  have U9 : hU h9 = hU h + 13194 := by rw [e9, hU_sR]; omega
  have G9 : ∀ b, b < hZ h8 → b ≠ o → hSm h8 h9 b := fun b hb hbo => by rw [e9]; exact hSm_tr (mf b hb) (hSm_sR _ _ _ _ _ hbo)
  have O9 : fMg h9 (p + 69) (some (p + 0)) (some (p + 20)) := by rw [e9]; exact fMg_k fo (fun b h1 h2 => hSm_sR _ _ _ _ _ (by omega))
  have T9 : hT h9 o = 13 := by rw [e9, hT_sR]; exact so.1.trans T8
  have I9 : ∀ j, hI h9 o j = 0 := fun j => by rw [e9, hI_sR, so.2.2.2.1]; exact I8 j
  have K9 : ∀ q, q ≠ 11 → hR h9 o q = hR h8 o q := fun q hq => by rw [e9, hR_sR, tpu_row2, if_neg hq, so.2.2.1]
  have N9 : hR h9 o 11 = some (p + 69) := by rw [e9, hR_sR, tpu_row2, if_pos rfl, Z8]
  clear M9 fo mz mu mf so e9 so0
  have F9 : ∀ b, b < p → b ≠ o → hSm h h9 b := fun b hb hbo => hSm_tr (F8 b hb hbo) (G9 b (by omega) hbo)
  have O1x2x3x4x5x6x7x8x9 : fMa h9 (p + 0) := fMa_k O1x2x3x4x5x6x7x8 (fun b h1 h2 => G9 b (by omega) (by omega))
  clear O1x2x3x4x5x6x7x8
  have O2x3x4x5x6x7x8x9 : fBu h9 (p + 5) (some (p + 0)) := fBu_k O2x3x4x5x6x7x8 (fun b h1 h2 => G9 b (by omega) (by omega))
  clear O2x3x4x5x6x7x8
  have O3x4x5x6x7x8x9 : fBu h9 (p + 20) (some (p + 0)) := fBu_k O3x4x5x6x7x8 (fun b h1 h2 => G9 b (by omega) (by omega))
  clear O3x4x5x6x7x8
  have O4x5x6x7x8x9 : (hT h9 (p + 35) = 21 ∧ hL h9 (p + 35) = 40) ∧ ∀ j, hR h9 (p + 35) j = none := by
    have gg := G9 (p + 35) (by omega) (by omega)
    exact ⟨⟨by rw [gg.1]; exact O4x5x6x7x8.1.1, by rw [gg.2.1]; exact O4x5x6x7x8.1.2⟩, fun j => by rw [gg.2.2.1]; exact O4x5x6x7x8.2 j⟩
  clear O4x5x6x7x8
  have O5x6x7x8x9 : (hT h9 (p + 36) = 19 ∧ hL h9 (p + 36) = 40) ∧ ∀ j, hR h9 (p + 36) j = none := by
    have gg := G9 (p + 36) (by omega) (by omega)
    exact ⟨⟨by rw [gg.1]; exact O5x6x7x8.1.1, by rw [gg.2.1]; exact O5x6x7x8.1.2⟩, fun j => by rw [gg.2.2.1]; exact O5x6x7x8.2 j⟩
  clear O5x6x7x8
  have O6x7x8x9 : fLi h9 (p + 37) (some (p + 0)) := fLi_k O6x7x8 (fun b h1 h2 => G9 b (by omega) (by omega))
  clear O6x7x8
  have O7x8x9 : fMt h9 (p + 50) (some (p + 0)) (some (p + 37)) := fMt_k O7x8 (fun b h1 h2 => G9 b (by omega) (by omega))
  clear O7x8
  have O8x9 : fFi h9 (p + 61) (some (p + 0)) (some (p + 20)) (some (p + 50)) := fFi_k O8 (fun b h1 h2 => G9 b (by omega) (by omega))
  clear O8
  have N1x2x3x4x5x6x7x8x9 : hR h9 o 0 = some (p + 0) := (K9 0 (by decide)).trans N1x2x3x4x5x6x7x8
  clear N1x2x3x4x5x6x7x8
  have N2x3x4x5x6x7x8x9 : hR h9 o 1 = some (p + 5) := (K9 1 (by decide)).trans N2x3x4x5x6x7x8
  clear N2x3x4x5x6x7x8
  have N3x4x5x6x7x8x9 : hR h9 o 2 = some (p + 20) := (K9 2 (by decide)).trans N3x4x5x6x7x8
  clear N3x4x5x6x7x8
  have N4x5x6x7x8x9 : hR h9 o 3 = some (p + 35) := (K9 3 (by decide)).trans N4x5x6x7x8
  clear N4x5x6x7x8
  have N5x6x7x8x9 : hR h9 o 5 = some (p + 36) := (K9 5 (by decide)).trans N5x6x7x8
  clear N5x6x7x8
  have N6x7x8x9 : hR h9 o 7 = some (p + 37) := (K9 7 (by decide)).trans N6x7x8
  clear N6x7x8
  have N7x8x9 : hR h9 o 8 = some (p + 50) := (K9 8 (by decide)).trans N7x8
  clear N7x8
  have N8x9 : hR h9 o 9 = some (p + 61) := (K9 9 (by decide)).trans N8
  clear N8
  clear K9 G9
  intro a10 g10 ea10 eg10
  subst ea10 eg10
  refine p_Hi_init (by show hZ h9 < hZ h9 + 1; omega) (nC_new h9 3 0 7).1 (fun m10 M10 => ?_)
  obtain ⟨fo, mz, mu, mf⟩ := fHi_of M10
  have so := mf o (by omega)
  refine ⟨so.1.trans T9, fun h10 e10 => ?_⟩
  rw [Z9] at fo mz
  have Z10 : hZ h10 = p + 101 := by rw [e10, hZ_sR]; omega
  have U10 : hU h10 = hU h + 13361 := by rw [e10, hU_sR]; omega
  have G10 : ∀ b, b < hZ h9 → b ≠ o → hSm h9 h10 b := fun b hb hbo => by rw [e10]; exact hSm_tr (mf b hb) (hSm_sR _ _ _ _ _ hbo)
  have O10 : fHi h10 (p + 90) := by rw [e10]; exact fHi_k fo (fun b h1 h2 => hSm_sR _ _ _ _ _ (by omega))
  have T10 : hT h10 o = 13 := by rw [e10, hT_sR]; exact so.1.trans T9
  have I10 : ∀ j, hI h10 o j = 0 := fun j => by rw [e10, hI_sR, so.2.2.2.1]; exact I9 j
  have K10 : ∀ q, q ≠ 12 → hR h10 o q = hR h9 o q := fun q hq => by rw [e10, hR_sR, tpu_row2, if_neg hq, so.2.2.1]
  have N10 : hR h10 o 12 = some (p + 90) := by rw [e10, hR_sR, tpu_row2, if_pos rfl, Z9]
  clear M10 fo mz mu mf so e10
  have F10 : ∀ b, b < p → b ≠ o → hSm h h10 b := fun b hb hbo => hSm_tr (F9 b hb hbo) (G10 b (by omega) hbo)
  have O1x2x3x4x5x6x7x8x9x10 : fMa h10 (p + 0) := fMa_k O1x2x3x4x5x6x7x8x9 (fun b h1 h2 => G10 b (by omega) (by omega))
  clear O1x2x3x4x5x6x7x8x9
  have O2x3x4x5x6x7x8x9x10 : fBu h10 (p + 5) (some (p + 0)) := fBu_k O2x3x4x5x6x7x8x9 (fun b h1 h2 => G10 b (by omega) (by omega))
  clear O2x3x4x5x6x7x8x9
  have O3x4x5x6x7x8x9x10 : fBu h10 (p + 20) (some (p + 0)) := fBu_k O3x4x5x6x7x8x9 (fun b h1 h2 => G10 b (by omega) (by omega))
  clear O3x4x5x6x7x8x9
  have O4x5x6x7x8x9x10 : (hT h10 (p + 35) = 21 ∧ hL h10 (p + 35) = 40) ∧ ∀ j, hR h10 (p + 35) j = none := by
    have gg := G10 (p + 35) (by omega) (by omega)
    exact ⟨⟨by rw [gg.1]; exact O4x5x6x7x8x9.1.1, by rw [gg.2.1]; exact O4x5x6x7x8x9.1.2⟩, fun j => by rw [gg.2.2.1]; exact O4x5x6x7x8x9.2 j⟩
  clear O4x5x6x7x8x9
  have O5x6x7x8x9x10 : (hT h10 (p + 36) = 19 ∧ hL h10 (p + 36) = 40) ∧ ∀ j, hR h10 (p + 36) j = none := by
    have gg := G10 (p + 36) (by omega) (by omega)
    exact ⟨⟨by rw [gg.1]; exact O5x6x7x8x9.1.1, by rw [gg.2.1]; exact O5x6x7x8x9.1.2⟩, fun j => by rw [gg.2.2.1]; exact O5x6x7x8x9.2 j⟩
  clear O5x6x7x8x9
  have O6x7x8x9x10 : fLi h10 (p + 37) (some (p + 0)) := fLi_k O6x7x8x9 (fun b h1 h2 => G10 b (by omega) (by omega))
  clear O6x7x8x9
  have O7x8x9x10 : fMt h10 (p + 50) (some (p + 0)) (some (p + 37)) := fMt_k O7x8x9 (fun b h1 h2 => G10 b (by omega) (by omega))
  clear O7x8x9
  have O8x9x10 : fFi h10 (p + 61) (some (p + 0)) (some (p + 20)) (some (p + 50)) := fFi_k O8x9 (fun b h1 h2 => G10 b (by omega) (by omega))
  clear O8x9
  have O9x10 : fMg h10 (p + 69) (some (p + 0)) (some (p + 20)) := fMg_k O9 (fun b h1 h2 => G10 b (by omega) (by omega))
  clear O9
  have N1x2x3x4x5x6x7x8x9x10 : hR h10 o 0 = some (p + 0) := (K10 0 (by decide)).trans N1x2x3x4x5x6x7x8x9
  clear N1x2x3x4x5x6x7x8x9
  have N2x3x4x5x6x7x8x9x10 : hR h10 o 1 = some (p + 5) := (K10 1 (by decide)).trans N2x3x4x5x6x7x8x9
  clear N2x3x4x5x6x7x8x9
  have N3x4x5x6x7x8x9x10 : hR h10 o 2 = some (p + 20) := (K10 2 (by decide)).trans N3x4x5x6x7x8x9
  clear N3x4x5x6x7x8x9
  have N4x5x6x7x8x9x10 : hR h10 o 3 = some (p + 35) := (K10 3 (by decide)).trans N4x5x6x7x8x9
  clear N4x5x6x7x8x9
  have N5x6x7x8x9x10 : hR h10 o 5 = some (p + 36) := (K10 5 (by decide)).trans N5x6x7x8x9
  clear N5x6x7x8x9
  have N6x7x8x9x10 : hR h10 o 7 = some (p + 37) := (K10 7 (by decide)).trans N6x7x8x9
  clear N6x7x8x9
  have N7x8x9x10 : hR h10 o 8 = some (p + 50) := (K10 8 (by decide)).trans N7x8x9
  clear N7x8x9
  have N8x9x10 : hR h10 o 9 = some (p + 61) := (K10 9 (by decide)).trans N8x9
  clear N8x9
  have N9x10 : hR h10 o 11 = some (p + 69) := (K10 11 (by decide)).trans N9
  clear N9
  clear K10 G10
  refine k h10 ?_ (by omega) U10 (fun b hb hbo => F10 b (by omega) hbo)
  rw [← hp]
  exact ⟨⟨T10, N1x2x3x4x5x6x7x8x9x10, O1x2x3x4x5x6x7x8x9x10.1, N2x3x4x5x6x7x8x9x10, O2x3x4x5x6x7x8x9x10.1, N3x4x5x6x7x8x9x10, O3x4x5x6x7x8x9x10.1, N4x5x6x7x8x9x10, O4x5x6x7x8x9x10.1, N5x6x7x8x9x10, O5x6x7x8x9x10.1, N6x7x8x9x10, O6x7x8x9x10.1, N7x8x9x10, O7x8x9x10.1, N8x9x10, O8x9x10.1, N9x10, O9x10.1, N10, O10.1⟩, I10, O1x2x3x4x5x6x7x8x9x10, O2x3x4x5x6x7x8x9x10, O3x4x5x6x7x8x9x10, O4x5x6x7x8x9x10.2, O5x6x7x8x9x10.2, O6x7x8x9x10, O7x8x9x10, O8x9x10, O9x10, O10⟩
theorem lTP_k {h h' : tpH} {x p : Nat} (M : lTP h x p) (k0 : hSm h h' x) (k : ∀ b, p ≤ b → b < p + 101 → hSm h h' b) : lTP h' x p := by
  obtain ⟨t0, r0, o0, r1, o1, r2, o2, r3, o3, r5, o5, r7, o7, r8, o8, r9, o9, r11, o11, r12, o12⟩ := M
  exact ⟨by rw [k0.1]; exact t0, by rw [k0.2.2.1]; exact r0, lMa_k o0 (fun b h1 h2 => k b (by omega) (by omega)), by rw [k0.2.2.1]; exact r1, lBu_k o1 (fun b h1 h2 => k b (by omega) (by omega)), by rw [k0.2.2.1]; exact r2, lBu_k o2 (fun b h1 h2 => k b (by omega) (by omega)), by rw [k0.2.2.1]; exact r3, ⟨by rw [(k (p + 35) (by omega) (by omega)).1]; exact o3.1, by rw [(k (p + 35) (by omega) (by omega)).2.1]; exact o3.2⟩, by rw [k0.2.2.1]; exact r5, ⟨by rw [(k (p + 36) (by omega) (by omega)).1]; exact o5.1, by rw [(k (p + 36) (by omega) (by omega)).2.1]; exact o5.2⟩, by rw [k0.2.2.1]; exact r7, lLi_k o7 (fun b h1 h2 => k b (by omega) (by omega)), by rw [k0.2.2.1]; exact r8, lMt_k o8 (fun b h1 h2 => k b (by omega) (by omega)), by rw [k0.2.2.1]; exact r9, lFi_k o9 (fun b h1 h2 => k b (by omega) (by omega)), by rw [k0.2.2.1]; exact r11, lMg_k o11 (fun b h1 h2 => k b (by omega) (by omega)), by rw [k0.2.2.1]; exact r12, lHi_k o12 (fun b h1 h2 => k b (by omega) (by omega))⟩
theorem fTP_k {h h' : tpH} {x p : Nat} (M : fTP h x p) (k0 : hSm h h' x) (k : ∀ b, p ≤ b → b < p + 101 → hSm h h' b) : fTP h' x p := by
  obtain ⟨m0, mi, o0, o1, o2, o3, o5, o7, o8, o9, o11, o12⟩ := M
  exact ⟨lTP_k m0 k0 k, (fun j => by rw [k0.2.2.2.1]; exact mi j), fMa_k o0 (fun b h1 h2 => k b (by omega) (by omega)), fBu_k o1 (fun b h1 h2 => k b (by omega) (by omega)), fBu_k o2 (fun b h1 h2 => k b (by omega) (by omega)), (fun j => by rw [(k (p + 35) (by omega) (by omega)).2.2.1]; exact o3 j), (fun j => by rw [(k (p + 36) (by omega) (by omega)).2.2.1]; exact o5 j), fLi_k o7 (fun b h1 h2 => k b (by omega) (by omega)), fMt_k o8 (fun b h1 h2 => k b (by omega) (by omega)), fFi_k o9 (fun b h1 h2 => k b (by omega) (by omega)), fMg_k o11 (fun b h1 h2 => k b (by omega) (by omega)), fHi_k o12 (fun b h1 h2 => k b (by omega) (by omega))⟩
end PFRESH
