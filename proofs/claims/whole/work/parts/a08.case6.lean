section CASE6
theorem lw_steps {b L z : Nat} {xs : Nat → Int32} (hL0 : L ≤ 3072) : lwOK (lwI b L z xs) b z (z + 102) (z + 149) (z + 150) L w_Lw_law_1878 := by
  intro R K k h I h6 kk
  obtain ⟨hb, hC, mk, kd, idn, rt, dr, r, n, hm, hP, hM, hB⟩ := I
  have vp : ∀ j, j < 6 → ∀ h', lwC b L z xs h' → vp_in (nI (6 * k) + nI j) (hL h' b) := fun j hj h' hC => lw_vp hL0 hC.2.2.2.1 h6 hj
  have hz := hB.2.1
  have hwf := mIn_wf hm
  obtain ⟨hdw, hdm⟩ := mIn_dw hm
  refine ⟨b, rfl, hC.2.2.1, vp 1 (by decide) h hC, z, rfl, hP.1.1, ?_⟩
  rw [hC.2.2.2.2]
  generalize e1 : xs (nI (6 * k) + 1).toNatClampNeg = A1
  refine p_TP_steps hP.1 hP.2.2.2.2.2.2.1 (fun e => ⟨rfl, ?_⟩) (fun v e => lw_put hC.1 ?_)
  · have H := lw_exc (k := k) hb hC hm hP hM hB
    obtain ⟨-, hC7, hM7, -⟩ := id H
    refine ⟨hC7.2.2.1, vp 1 (by decide) _ hC7, z + 102, rfl, hM7.1.1, ?_⟩
    rw [hC7.2.2.2.2, e1]
    exact p_Md_steps hM7.1 (by omega) hM7.2.2.2.2.1 hP.2.2.2.2.2.2.1.2.1 (fun _ G k1 k2 => lw_xt H hwf (by decide) k1 k2 kk) (fun v' e' => absurd (e.symm.trans e') (by simp))
  · have H := lw_sJ (lw_same (k := k) hb hC hm hP hM hB) (z + 149) 0 v.toInt64
    obtain ⟨-, hC7, hM7, -⟩ := id H
    refine ⟨hC7.2.2.1, vp 1 (by decide) _ hC7, z + 102, rfl, hM7.1.1, ?_⟩
    rw [hC7.2.2.2.2, e1]
    exact p_Md_steps hM7.1 (by omega) hM7.2.2.2.2.1 hP.2.2.2.2.2.2.1.2.1 (fun e' => absurd (e.symm.trans e') (by simp)) (fun v' e' G k1 k2 => lw_tail hM7.1.1 k1 hC7.1 (fun _ => by rw [← Option.some.inj (e.symm.trans e')]; exact tpu_s _ _ _ _) (kk _ (lw_fin H (fun c j hc => k2 c j (by omega)) (stM_31 hM7 (by omega) hwf k2))))

theorem lw_stepKind {b L z : Nat} {xs : Nat → Int32} (hL0 : L ≤ 3072) : lwOK (lwI b L z xs) b z (z + 102) (z + 149) (z + 150) L w_Lw_law_1934 := by
  intro R K k h I h6 kk
  obtain ⟨hb, hC, mk, kd, idn, rt, dr, r, n, hm, hP, hM, hB⟩ := I
  have vp : ∀ j, j < 6 → ∀ h', lwC b L z xs h' → vp_in (nI (6 * k) + nI j) (hL h' b) := fun j hj h' hC => lw_vp hL0 hC.2.2.2.1 h6 hj
  have hz := hB.2.1
  have hwf := mIn_wf hm
  obtain ⟨hdw, hdm⟩ := mIn_dw hm
  refine ⟨b, rfl, hC.2.2.1, vp 1 (by decide) h hC, vp 2 (by decide) h hC, z, rfl, hP.1.1, ?_⟩
  rw [hC.2.2.2.2]
  generalize e1 : xs (nI (6 * k) + 1).toNatClampNeg = A1
  generalize e2 : xs (nI (6 * k) + 2).toNatClampNeg = A2
  refine p_TP_stepKind hP.1 hP.2.2.2.2.2.2.1 (fun s hs => (hm.2.2.2.1 s hs).1) (fun e => ⟨rfl, ?_⟩) (fun v e => lw_put hC.1 ?_)
  · have H := lw_exc (k := k) hb hC hm hP hM hB
    obtain ⟨-, hC7, hM7, -⟩ := id H
    refine ⟨hC7.2.2.1, vp 1 (by decide) _ hC7, vp 2 (by decide) _ hC7, z + 102, rfl, hM7.1.1, ?_⟩
    rw [hC7.2.2.2.2, e1, e2]
    exact p_Md_stepKind hM7.1 (by omega) hM7.2.2.2.2.1 hP.2.2.2.2.2.2.1.2.1 (fun s hs => (hm.2.2.2.1 s hs).1) (fun _ G k1 k2 => lw_xt H hwf (by decide) k1 k2 kk) (fun v' e' => absurd (e.symm.trans e') (by simp))
  · have H := lw_sJ (lw_same (k := k) hb hC hm hP hM hB) (z + 149) 0 v.toInt64
    obtain ⟨-, hC7, hM7, -⟩ := id H
    refine ⟨hC7.2.2.1, vp 1 (by decide) _ hC7, vp 2 (by decide) _ hC7, z + 102, rfl, hM7.1.1, ?_⟩
    rw [hC7.2.2.2.2, e1, e2]
    exact p_Md_stepKind hM7.1 (by omega) hM7.2.2.2.2.1 hP.2.2.2.2.2.2.1.2.1 (fun s hs => (hm.2.2.2.1 s hs).1) (fun e' => absurd (e.symm.trans e') (by simp)) (fun v' e' G k1 k2 => lw_tail hM7.1.1 k1 hC7.1 (fun _ => by rw [← Option.some.inj (e.symm.trans e')]; exact tpu_s _ _ _ _) (kk _ (lw_fin H (fun c j hc => k2 c j (by omega)) (stM_31 hM7 (by omega) hwf k2))))

theorem lw_stepMark {b L z : Nat} {xs : Nat → Int32} (hL0 : L ≤ 3072) : lwOK (lwI b L z xs) b z (z + 102) (z + 149) (z + 150) L w_Lw_law_2002 := by
  intro R K k h I h6 kk
  obtain ⟨hb, hC, mk, kd, idn, rt, dr, r, n, hm, hP, hM, hB⟩ := I
  have vp : ∀ j, j < 6 → ∀ h', lwC b L z xs h' → vp_in (nI (6 * k) + nI j) (hL h' b) := fun j hj h' hC => lw_vp hL0 hC.2.2.2.1 h6 hj
  have hz := hB.2.1
  have hwf := mIn_wf hm
  obtain ⟨hdw, hdm⟩ := mIn_dw hm
  refine ⟨b, rfl, hC.2.2.1, vp 1 (by decide) h hC, vp 2 (by decide) h hC, z, rfl, hP.1.1, ?_⟩
  rw [hC.2.2.2.2]
  generalize e1 : xs (nI (6 * k) + 1).toNatClampNeg = A1
  generalize e2 : xs (nI (6 * k) + 2).toNatClampNeg = A2
  refine p_TP_stepMark hP.1 hP.2.2.2.2.2.2.1 (fun s hs => (hm.2.2.2.1 s hs).1) (fun e => ⟨rfl, ?_⟩) (fun v e => lw_put hC.1 ?_)
  · have H := lw_exc (k := k) hb hC hm hP hM hB
    obtain ⟨-, hC7, hM7, -⟩ := id H
    refine ⟨hC7.2.2.1, vp 1 (by decide) _ hC7, vp 2 (by decide) _ hC7, z + 102, rfl, hM7.1.1, ?_⟩
    rw [hC7.2.2.2.2, e1, e2]
    exact p_Md_stepMark hM7.1 (by omega) hM7.2.2.2.2.1 hP.2.2.2.2.2.2.1.2.1 (fun s hs => (hm.2.2.2.1 s hs).1) (fun _ G k1 k2 => lw_xt H hwf (by decide) k1 k2 kk) (fun v' e' => absurd (e.symm.trans e') (by simp))
  · have H := lw_sJ (lw_same (k := k) hb hC hm hP hM hB) (z + 149) 0 v.toInt64
    obtain ⟨-, hC7, hM7, -⟩ := id H
    refine ⟨hC7.2.2.1, vp 1 (by decide) _ hC7, vp 2 (by decide) _ hC7, z + 102, rfl, hM7.1.1, ?_⟩
    rw [hC7.2.2.2.2, e1, e2]
    exact p_Md_stepMark hM7.1 (by omega) hM7.2.2.2.2.1 hP.2.2.2.2.2.2.1.2.1 (fun s hs => (hm.2.2.2.1 s hs).1) (fun e' => absurd (e.symm.trans e') (by simp)) (fun v' e' G k1 k2 => lw_tail hM7.1.1 k1 hC7.1 (fun _ => by rw [← Option.some.inj (e.symm.trans e')]; exact tpu_s _ _ _ _) (kk _ (lw_fin H (fun c j hc => k2 c j (by omega)) (stM_31 hM7 (by omega) hwf k2))))

theorem lw_conflictKind {b L z : Nat} {xs : Nat → Int32} (hL0 : L ≤ 3072) : lwOK (lwI b L z xs) b z (z + 102) (z + 149) (z + 150) L w_Lw_law_2179 := by
  intro R K k h I h6 kk
  obtain ⟨hb, hC, mk, kd, idn, rt, dr, r, n, hm, hP, hM, hB⟩ := I
  have vp : ∀ j, j < 6 → ∀ h', lwC b L z xs h' → vp_in (nI (6 * k) + nI j) (hL h' b) := fun j hj h' hC => lw_vp hL0 hC.2.2.2.1 h6 hj
  have hz := hB.2.1
  have hwf := mIn_wf hm
  obtain ⟨hdw, hdm⟩ := mIn_dw hm
  refine ⟨b, rfl, hC.2.2.1, vp 1 (by decide) h hC, z, rfl, hP.1.1, ?_⟩
  rw [hC.2.2.2.2]
  generalize e1 : xs (nI (6 * k) + 1).toNatClampNeg = A1
  refine p_TP_conflictKind hP.1 hP.2.2.2.2.2.2.2.2.2.1 hm.2.2.2.2.2.1.1 hB.1 (fun e => ⟨rfl, ?_⟩) (fun v e => lw_put hC.1 ?_)
  · have H := lw_exc (k := k) hb hC hm hP hM hB
    obtain ⟨-, hC7, hM7, -⟩ := id H
    refine ⟨hC7.2.2.1, vp 1 (by decide) _ hC7, z + 102, rfl, hM7.1.1, ?_⟩
    rw [hC7.2.2.2.2, e1]
    exact p_Md_conflictKind hM7.1 (by omega) hM7.2.2.2.2.2.2.2.1 hm.2.2.2.2.2.1.1 hm.2.2.2.2.2.1.2 (fun _ G k1 k2 => lw_xt H hwf (by decide) k1 k2 kk) (fun v' e' => absurd (e.symm.trans e') (by simp))
  · have H := lw_sJ (lw_same (k := k) hb hC hm hP hM hB) (z + 149) 0 v.toInt64
    obtain ⟨-, hC7, hM7, -⟩ := id H
    refine ⟨hC7.2.2.1, vp 1 (by decide) _ hC7, z + 102, rfl, hM7.1.1, ?_⟩
    rw [hC7.2.2.2.2, e1]
    exact p_Md_conflictKind hM7.1 (by omega) hM7.2.2.2.2.2.2.2.1 hm.2.2.2.2.2.1.1 hm.2.2.2.2.2.1.2 (fun e' => absurd (e.symm.trans e') (by simp)) (fun v' e' G k1 k2 => lw_tail hM7.1.1 k1 hC7.1 (fun _ => by rw [← Option.some.inj (e.symm.trans e')]; exact tpu_s _ _ _ _) (kk _ (lw_fin H (fun c j hc => k2 c j (by omega)) (stM_31 hM7 (by omega) hwf k2))))

theorem lw_conflictMark {b L z : Nat} {xs : Nat → Int32} (hL0 : L ≤ 3072) : lwOK (lwI b L z xs) b z (z + 102) (z + 149) (z + 150) L w_Lw_law_2235 := by
  intro R K k h I h6 kk
  obtain ⟨hb, hC, mk, kd, idn, rt, dr, r, n, hm, hP, hM, hB⟩ := I
  have vp : ∀ j, j < 6 → ∀ h', lwC b L z xs h' → vp_in (nI (6 * k) + nI j) (hL h' b) := fun j hj h' hC => lw_vp hL0 hC.2.2.2.1 h6 hj
  have hz := hB.2.1
  have hwf := mIn_wf hm
  obtain ⟨hdw, hdm⟩ := mIn_dw hm
  refine ⟨b, rfl, hC.2.2.1, vp 1 (by decide) h hC, z, rfl, hP.1.1, ?_⟩
  rw [hC.2.2.2.2]
  generalize e1 : xs (nI (6 * k) + 1).toNatClampNeg = A1
  refine p_TP_conflictMark hP.1 hP.2.2.2.2.2.2.2.2.2.1 hm.2.2.2.2.2.1.1 hB.1 (fun e => ⟨rfl, ?_⟩) (fun v e => lw_put hC.1 ?_)
  · have H := lw_exc (k := k) hb hC hm hP hM hB
    obtain ⟨-, hC7, hM7, -⟩ := id H
    refine ⟨hC7.2.2.1, vp 1 (by decide) _ hC7, z + 102, rfl, hM7.1.1, ?_⟩
    rw [hC7.2.2.2.2, e1]
    exact p_Md_conflictMark hM7.1 (by omega) hM7.2.2.2.2.2.2.2.1 hm.2.2.2.2.2.1.1 hm.2.2.2.2.2.1.2 (fun _ G k1 k2 => lw_xt H hwf (by decide) k1 k2 kk) (fun v' e' => absurd (e.symm.trans e') (by simp))
  · have H := lw_sJ (lw_same (k := k) hb hC hm hP hM hB) (z + 149) 0 v.toInt64
    obtain ⟨-, hC7, hM7, -⟩ := id H
    refine ⟨hC7.2.2.1, vp 1 (by decide) _ hC7, z + 102, rfl, hM7.1.1, ?_⟩
    rw [hC7.2.2.2.2, e1]
    exact p_Md_conflictMark hM7.1 (by omega) hM7.2.2.2.2.2.2.2.1 hm.2.2.2.2.2.1.1 hm.2.2.2.2.2.1.2 (fun e' => absurd (e.symm.trans e') (by simp)) (fun v' e' G k1 k2 => lw_tail hM7.1.1 k1 hC7.1 (fun _ => by rw [← Option.some.inj (e.symm.trans e')]; exact tpu_s _ _ _ _) (kk _ (lw_fin H (fun c j hc => k2 c j (by omega)) (stM_31 hM7 (by omega) hwf k2))))

theorem lw_treeOf {b L z : Nat} {xs : Nat → Int32} (hL0 : L ≤ 3072) : lwOK (lwI b L z xs) b z (z + 102) (z + 149) (z + 150) L w_Lw_law_2304 := by
  intro R K k h I h6 kk
  obtain ⟨hb, hC, mk, kd, idn, rt, dr, r, n, hm, hP, hM, hB⟩ := I
  have vp : ∀ j, j < 6 → ∀ h', lwC b L z xs h' → vp_in (nI (6 * k) + nI j) (hL h' b) := fun j hj h' hC => lw_vp hL0 hC.2.2.2.1 h6 hj
  have hz := hB.2.1
  have hwf := mIn_wf hm
  obtain ⟨hdw, hdm⟩ := mIn_dw hm
  refine ⟨b, rfl, hC.2.2.1, vp 1 (by decide) h hC, z, rfl, hP.1.1, ?_⟩
  rw [hC.2.2.2.2]
  generalize e1 : xs (nI (6 * k) + 1).toNatClampNeg = A1
  refine p_TP_treeOf hP.1 hP.2.2.2.2.2.2.2.2.2.2.1 hm.2.2.2.2.2.2.1 (fun e => ⟨rfl, ?_⟩) (fun v e => lw_put hC.1 ?_)
  · have H := lw_exc (k := k) hb hC hm hP hM hB
    obtain ⟨-, hC7, hM7, -⟩ := id H
    refine ⟨hC7.2.2.1, vp 1 (by decide) _ hC7, z + 102, rfl, hM7.1.1, ?_⟩
    rw [hC7.2.2.2.2, e1]
    exact p_Md_treeOf hM7.1 (by omega) hM7.2.2.2.2.2.2.2.2 hm.2.2.2.2.2.2.1 (fun _ G k1 k2 => lw_xt H hwf (by decide) k1 k2 kk) (fun v' e' => absurd (e.symm.trans e') (by simp))
  · have H := lw_sJ (lw_same (k := k) hb hC hm hP hM hB) (z + 149) 0 v.toInt64
    obtain ⟨-, hC7, hM7, -⟩ := id H
    refine ⟨hC7.2.2.1, vp 1 (by decide) _ hC7, z + 102, rfl, hM7.1.1, ?_⟩
    rw [hC7.2.2.2.2, e1]
    exact p_Md_treeOf hM7.1 (by omega) hM7.2.2.2.2.2.2.2.2 hm.2.2.2.2.2.2.1 (fun e' => absurd (e.symm.trans e') (by simp)) (fun v' e' G k1 k2 => lw_tail hM7.1.1 k1 hC7.1 (fun _ => by rw [← Option.some.inj (e.symm.trans e')]; exact tpu_s _ _ _ _) (kk _ (lw_fin H (fun c j hc => k2 c j (by omega)) (stM_31 hM7 (by omega) hwf k2))))

theorem lw_stepTo {b L z : Nat} {xs : Nat → Int32} (hL0 : L ≤ 3072) : lwOK (lwI b L z xs) b z (z + 102) (z + 149) (z + 150) L w_Lw_law_2070 := by
  intro R K k h I h6 kk
  obtain ⟨hb, hC, mk, kd, idn, rt, dr, r, n, hm, hP, hM, hB⟩ := I
  have vp : ∀ j, j < 6 → ∀ h', lwC b L z xs h' → vp_in (nI (6 * k) + nI j) (hL h' b) := fun j hj h' hC => lw_vp hL0 hC.2.2.2.1 h6 hj
  have hz := hB.2.1
  have hwf := mIn_wf hm
  obtain ⟨hdw, hdm⟩ := mIn_dw hm
  refine ⟨b, rfl, hC.2.2.1, vp 1 (by decide) h hC, vp 2 (by decide) h hC, vp 3 (by decide) h hC, ?_⟩
  rw [hC.2.2.2.2]
  generalize e1 : xs (nI (6 * k) + 1).toNatClampNeg = A1
  generalize e2 : xs (nI (6 * k) + 2).toNatClampNeg = A2
  generalize e3 : xs (nI (6 * k) + 3).toNatClampNeg = A3
  have main : ∀ w : Int32, (w = 0 ∧ A3 = 0) ∨ (w = 1 ∧ ¬ A3 = 0) → w_Lw_law_2097 R K (some b) (some z) (some (z + 102)) (some (z + 149)) (some (z + 150)) (nI (6 * k)) w A2 A1 (some z) h := fun w hw => by
    refine ⟨z, rfl, hP.1.1, p_TP_stepTo hP.1 hP.2.2.2.2.2.2.1 (fun s hs => (hm.2.2.2.1 s hs).1) (fun e => ⟨rfl, ?_⟩) (fun v e => lw_put hC.1 ?_)⟩
    · have H := lw_exc (k := k) hb hC hm hP hM hB
      obtain ⟨-, hC7, hM7, -⟩ := id H
      refine ⟨b, rfl, hC7.2.2.1, vp 1 (by decide) _ hC7, vp 2 (by decide) _ hC7, vp 3 (by decide) _ hC7, ?_⟩
      rw [hC7.2.2.2.2, e1, e2, e3]
      have key : w_Lw_law_2130 R K (some b) (some z) (some (z + 102)) (some (z + 149)) (some (z + 150)) (nI (6 * k)) 1 w A2 A1 (some (z + 102)) (nC h 0 0 6) :=
        ⟨z + 102, rfl, hM7.1.1, p_Md_stepTo hM7.1 (by omega) hM7.2.2.2.2.1 hP.2.2.2.2.2.2.1.2.1 (fun s hs => (hm.2.2.2.1 s hs).1) (fun _ G k1 k2 => ⟨z + 102, rfl, lw_xt H hwf (by decide) k1 k2 kk⟩) (fun v' e' => absurd (e.symm.trans e') (by simp))⟩
      rcases hw with ⟨rfl, g⟩ | ⟨rfl, g⟩
      · exact ⟨fun _ => key, fun e => absurd g e⟩
      · exact ⟨fun e => absurd e g, fun _ => key⟩
    · have H := lw_sJ (lw_same (k := k) hb hC hm hP hM hB) (z + 149) 0 v.toInt64
      obtain ⟨-, hC7, hM7, -⟩ := id H
      refine ⟨b, rfl, hC7.2.2.1, vp 1 (by decide) _ hC7, vp 2 (by decide) _ hC7, vp 3 (by decide) _ hC7, ?_⟩
      rw [hC7.2.2.2.2, e1, e2, e3]
      have key : w_Lw_law_2130 R K (some b) (some z) (some (z + 102)) (some (z + 149)) (some (z + 150)) (nI (6 * k)) 0 w A2 A1 (some (z + 102)) (sJ h (z + 149) 0 v.toInt64) :=
        ⟨z + 102, rfl, hM7.1.1, p_Md_stepTo hM7.1 (by omega) hM7.2.2.2.2.1 hP.2.2.2.2.2.2.1.2.1 (fun s hs => (hm.2.2.2.1 s hs).1) (fun e' => absurd (e.symm.trans e') (by simp)) (fun v' e' G k1 k2 => ⟨z + 102, rfl, lw_tail hM7.1.1 k1 hC7.1 (fun _ => by rw [← Option.some.inj (e.symm.trans e')]; exact tpu_s _ _ _ _) (kk _ (lw_fin H (fun c j hc => k2 c j (by omega)) (stM_31 hM7 (by omega) hwf k2)))⟩)⟩
      rcases hw with ⟨rfl, g⟩ | ⟨rfl, g⟩
      · exact ⟨fun _ => key, fun e => absurd g e⟩
      · exact ⟨fun e => absurd e g, fun _ => key⟩
  exact ⟨fun g => main 0 (Or.inl ⟨rfl, g⟩), fun g => main 1 (Or.inr ⟨rfl, g⟩)⟩

end CASE6
