section CASE5
theorem lw_same {b L z k : Nat} {xs : Nat → Int32} {h : tpH} {mk : Nat} {kd idn : Nat → Int32} {rt : Nat → Bool} {dr : Option mT} {r : mRe} {n : Nat} (hb : b < z) (hC : lwC b L z xs h) (hm : mIn mk kd rt dr r) (hP : stP h z (z + 1) (z + 151) mk kd idn dr r n) (hM : stM h (z + 102) (z + 103) mk kd idn dr r) (hB : lwB z k n h) : lwM b L z xs k h mk kd idn dr r mk kd idn dr r :=
  lw_cls hb hC hm hM hB (hFr_sm (Nat.le_refl _) (fun b _ => ⟨rfl, rfl, rfl, rfl, rfl, rfl⟩) (fun _ _ => False) (fun _ _ => False)) (fun _ _ g => g.elim) (fun _ _ g => g.elim) hm hP ⟨Nat.le_refl _, hB.1⟩ (by omega) (by omega)
theorem lw_ask {b L z k : Nat} {xs : Nat → Int32} {h : tpH} {mk : Nat} {kd idn : Nat → Int32} {rt : Nat → Bool} {dr : Option mT} {r : mRe} {n : Nat} (hb : b < z) (hC : lwC b L z xs h) (hm : mIn mk kd rt dr r) (hP : stP h z (z + 1) (z + 151) mk kd idn dr r n) (hM : stM h (z + 102) (z + 103) mk kd idn dr r) (hB : lwB z k n h) {G : Nat → Nat → Int32} (fr : oFr (z + 102) (z + 103) (hI h) G) : lwI b L z xs (k + 1) (wI h G) :=
  lw_fin (lw_same hb hC hm hP hM hB) (fun c j hc => fr c j (by omega)) (stM_31 hM (by omega) (mIn_wf hm) fr)
theorem mIn_mm {mk : Nat} {kd : Nat → Int32} {rt : Nat → Bool} {dr : Option mT} {r : mRe} (H : mIn mk kd rt dr r) : ∀ (i : Nat) (t : mT), r.1[i]? = some t → ∀ m, tIn t m = true → m < mk := fun i t hi m hi2 => ((H.2.2.1 t (List.mem_of_getElem? hi)).2.1 m hi2).1

theorem lTP_mg {h : tpH} {x p : Nat} (l : lTP h x p) : hR h x 11 = some (p + 69) := by
  obtain ⟨t0, r0, o0, r1, o1, r2, o2, r3, o3, r5, o5, r7, o7, r8, o8, r9, o9, r11, o11, r12, o12⟩ := l
  exact r11
theorem lTP_hi {h : tpH} {x p : Nat} (l : lTP h x p) : hR h x 12 = some (p + 90) := by
  obtain ⟨t0, r0, o0, r1, o1, r2, o2, r3, o3, r5, o5, r7, o7, r8, o8, r9, o9, r11, o11, r12, o12⟩ := l
  exact r12
theorem lTP_mgF {h : tpH} {x p : Nat} (l : lTP h x p) : lMg h (p + 69) (some (p + 0)) (some (p + 20)) := by
  obtain ⟨t0, r0, o0, r1, o1, r2, o2, r3, o3, r5, o5, r7, o7, r8, o8, r9, o9, r11, o11, r12, o12⟩ := l
  exact o11
theorem lTP_hiL {h : tpH} {x p : Nat} (l : lTP h x p) : lHi h (p + 90) := by
  obtain ⟨t0, r0, o0, r1, o1, r2, o2, r3, o3, r5, o5, r7, o7, r8, o8, r9, o9, r11, o11, r12, o12⟩ := l
  exact o12
theorem lTP_mgL {h : tpH} {x p : Nat} (l : lTP h x p) : hT h (p + 69) = 7 ∧ hR h (p + 69) 10 = some (p + 86) ∧ hT h (p + 86) = 8 ∧ hR h (p + 69) 11 = some (p + 88) ∧ hT h (p + 88) = 8 ∧ hR h (p + 69) 2 = some (p + 70) ∧ rwL h (p + 70) (p + 71) 6 := by
  obtain ⟨g0, g1, g2, v1, v2, v3, v4, v5, v6, v7, v8, v9, v10⟩ := lTP_mgF l
  exact ⟨g0, v9.1, v9.2, v10.1, v10.2, v1.1, v1.2⟩

theorem lw_size {b L z : Nat} {xs : Nat → Int32} (hL0 : L ≤ 3072) : lwOK (lwI b L z xs) b z (z + 102) (z + 149) (z + 150) L w_Lw_law_1274 := by
  intro R K k h I h6 kk
  obtain ⟨hb, hC, mk, kd, idn, rt, dr, r, n, hm, hP, hM, hB⟩ := I
  have vp : ∀ j, j < 6 → ∀ h', lwC b L z xs h' → vp_in (nI (6 * k) + nI j) (hL h' b) := fun j hj h' hC => lw_vp hL0 hC.2.2.2.1 h6 hj
  have hz := hB.2.1
  have hwf := mIn_wf hm
  obtain ⟨hdw, hdm⟩ := mIn_dw hm
  refine ⟨b, rfl, hC.2.2.1, vp 1 (by decide) h hC, z, rfl, hP.1.1, ?_⟩
  rw [hC.2.2.2.2]
  generalize e1 : xs (nI (6 * k) + 1).toNatClampNeg = A1
  refine p_TP_size hP.1 hP.2.2.2.2.1 hwf (fun e => ⟨rfl, ?_⟩) (fun v e => lw_put hC.1 ?_)
  · have H := lw_exc (k := k) hb hC hm hP hM hB
    obtain ⟨-, hC7, hM7, -⟩ := id H
    refine ⟨hC7.2.2.1, vp 1 (by decide) _ hC7, z + 102, rfl, hM7.1.1, ?_⟩
    rw [hC7.2.2.2.2, e1]
    exact p_Md_size hM7.1 (by omega) hM7.2.2.2.1 hwf (fun _ G k1 k2 => lw_xt H hwf (by decide) k1 k2 kk) (fun v' e' => absurd (e.symm.trans e') (by simp))
  · have H := lw_sJ (lw_same (k := k) hb hC hm hP hM hB) (z + 149) 0 v.toInt64
    obtain ⟨-, hC7, hM7, -⟩ := id H
    refine ⟨hC7.2.2.1, vp 1 (by decide) _ hC7, z + 102, rfl, hM7.1.1, ?_⟩
    rw [hC7.2.2.2.2, e1]
    exact p_Md_size hM7.1 (by omega) hM7.2.2.2.1 hwf (fun e' => absurd (e.symm.trans e') (by simp)) (fun v' e' G k1 k2 => lw_tail hM7.1.1 k1 hC7.1 (fun _ => by rw [← Option.some.inj (e.symm.trans e')]; exact tpu_s _ _ _ _) (kk _ (lw_fin H (fun c j hc => k2 c j (by omega)) (stM_31 hM7 (by omega) hwf k2))))

theorem lw_markAt {b L z : Nat} {xs : Nat → Int32} (hL0 : L ≤ 3072) : lwOK (lwI b L z xs) b z (z + 102) (z + 149) (z + 150) L w_Lw_law_1330 := by
  intro R K k h I h6 kk
  obtain ⟨hb, hC, mk, kd, idn, rt, dr, r, n, hm, hP, hM, hB⟩ := I
  have vp : ∀ j, j < 6 → ∀ h', lwC b L z xs h' → vp_in (nI (6 * k) + nI j) (hL h' b) := fun j hj h' hC => lw_vp hL0 hC.2.2.2.1 h6 hj
  have hz := hB.2.1
  have hwf := mIn_wf hm
  obtain ⟨hdw, hdm⟩ := mIn_dw hm
  refine ⟨b, rfl, hC.2.2.1, vp 1 (by decide) h hC, vp 2 (by decide) h hC, z, rfl, hP.1.1, ?_⟩
  rw [hC.2.2.2.2]
  generalize e1 : xs (nI (6 * k) + 1).toNatClampNeg = A1
  generalize e2 : xs (nI (6 * k) + 2).toNatClampNeg = A2
  refine p_TP_markAt hP.1 hP.2.2.2.2.1 hwf (fun e => ⟨rfl, ?_⟩) (fun v e => lw_put hC.1 ?_)
  · have H := lw_exc (k := k) hb hC hm hP hM hB
    obtain ⟨-, hC7, hM7, -⟩ := id H
    refine ⟨hC7.2.2.1, vp 1 (by decide) _ hC7, vp 2 (by decide) _ hC7, z + 102, rfl, hM7.1.1, ?_⟩
    rw [hC7.2.2.2.2, e1, e2]
    exact p_Md_markAt hM7.1 (by omega) hM7.2.2.2.1 hwf (fun _ G k1 k2 => lw_xt H hwf (by decide) k1 k2 kk) (fun v' e' => absurd (e.symm.trans e') (by simp))
  · have H := lw_sJ (lw_same (k := k) hb hC hm hP hM hB) (z + 149) 0 v.toInt64
    obtain ⟨-, hC7, hM7, -⟩ := id H
    refine ⟨hC7.2.2.1, vp 1 (by decide) _ hC7, vp 2 (by decide) _ hC7, z + 102, rfl, hM7.1.1, ?_⟩
    rw [hC7.2.2.2.2, e1, e2]
    exact p_Md_markAt hM7.1 (by omega) hM7.2.2.2.1 hwf (fun e' => absurd (e.symm.trans e') (by simp)) (fun v' e' G k1 k2 => lw_tail hM7.1.1 k1 hC7.1 (fun _ => by rw [← Option.some.inj (e.symm.trans e')]; exact tpu_s _ _ _ _) (kk _ (lw_fin H (fun c j hc => k2 c j (by omega)) (stM_31 hM7 (by omega) hwf k2))))

theorem lw_value {b L z : Nat} {xs : Nat → Int32} (hL0 : L ≤ 3072) : lwOK (lwI b L z xs) b z (z + 102) (z + 149) (z + 150) L w_Lw_law_1398 := by
  intro R K k h I h6 kk
  obtain ⟨hb, hC, mk, kd, idn, rt, dr, r, n, hm, hP, hM, hB⟩ := I
  have vp : ∀ j, j < 6 → ∀ h', lwC b L z xs h' → vp_in (nI (6 * k) + nI j) (hL h' b) := fun j hj h' hC => lw_vp hL0 hC.2.2.2.1 h6 hj
  have hz := hB.2.1
  have hwf := mIn_wf hm
  obtain ⟨hdw, hdm⟩ := mIn_dw hm
  refine ⟨b, rfl, hC.2.2.1, vp 1 (by decide) h hC, vp 2 (by decide) h hC, z, rfl, hP.1.1, ?_⟩
  rw [hC.2.2.2.2]
  generalize e1 : xs (nI (6 * k) + 1).toNatClampNeg = A1
  generalize e2 : xs (nI (6 * k) + 2).toNatClampNeg = A2
  refine p_TP_value hP.1 hP.2.1.1 hm.1 hP.2.2.2.2.1 hwf (fun e => ⟨rfl, ?_⟩) (fun v e => lw_put hC.1 ?_)
  · have H := lw_exc (k := k) hb hC hm hP hM hB
    obtain ⟨-, hC7, hM7, -⟩ := id H
    refine ⟨hC7.2.2.1, vp 1 (by decide) _ hC7, vp 2 (by decide) _ hC7, z + 102, rfl, hM7.1.1, ?_⟩
    rw [hC7.2.2.2.2, e1, e2]
    exact p_Md_value hM7.1 (by omega) hM7.2.1.1 hm.1 hM7.2.2.2.1 hwf (mIn_mm hm) (fun _ G k1 k2 => lw_xt H hwf (by decide) k1 k2 kk) (fun v' e' => absurd (e.symm.trans e') (by simp))
  · have H := lw_sJ (lw_same (k := k) hb hC hm hP hM hB) (z + 149) 0 v.toInt64
    obtain ⟨-, hC7, hM7, -⟩ := id H
    refine ⟨hC7.2.2.1, vp 1 (by decide) _ hC7, vp 2 (by decide) _ hC7, z + 102, rfl, hM7.1.1, ?_⟩
    rw [hC7.2.2.2.2, e1, e2]
    exact p_Md_value hM7.1 (by omega) hM7.2.1.1 hm.1 hM7.2.2.2.1 hwf (mIn_mm hm) (fun e' => absurd (e.symm.trans e') (by simp)) (fun v' e' G k1 k2 => lw_tail hM7.1.1 k1 hC7.1 (fun _ => by rw [← Option.some.inj (e.symm.trans e')]; exact tpu_s _ _ _ _) (kk _ (lw_fin H (fun c j hc => k2 c j (by omega)) (stM_31 hM7 (by omega) hwf k2))))

theorem lw_parent {b L z : Nat} {xs : Nat → Int32} (hL0 : L ≤ 3072) : lwOK (lwI b L z xs) b z (z + 102) (z + 149) (z + 150) L w_Lw_law_1466 := by
  intro R K k h I h6 kk
  obtain ⟨hb, hC, mk, kd, idn, rt, dr, r, n, hm, hP, hM, hB⟩ := I
  have vp : ∀ j, j < 6 → ∀ h', lwC b L z xs h' → vp_in (nI (6 * k) + nI j) (hL h' b) := fun j hj h' hC => lw_vp hL0 hC.2.2.2.1 h6 hj
  have hz := hB.2.1
  have hwf := mIn_wf hm
  obtain ⟨hdw, hdm⟩ := mIn_dw hm
  refine ⟨b, rfl, hC.2.2.1, vp 1 (by decide) h hC, vp 2 (by decide) h hC, z, rfl, hP.1.1, ?_⟩
  rw [hC.2.2.2.2]
  generalize e1 : xs (nI (6 * k) + 1).toNatClampNeg = A1
  generalize e2 : xs (nI (6 * k) + 2).toNatClampNeg = A2
  refine p_TP_parent hP.1 hP.2.1.1 hm.1 hP.2.2.2.2.1 hwf (fun e => ⟨rfl, ?_⟩) (fun v e => lw_put hC.1 ?_)
  · have H := lw_exc (k := k) hb hC hm hP hM hB
    obtain ⟨-, hC7, hM7, -⟩ := id H
    refine ⟨hC7.2.2.1, vp 1 (by decide) _ hC7, vp 2 (by decide) _ hC7, z + 102, rfl, hM7.1.1, ?_⟩
    rw [hC7.2.2.2.2, e1, e2]
    exact p_Md_parent hM7.1 (by omega) hM7.2.1.1 hm.1 hM7.2.2.2.1 hwf (mIn_mm hm) (fun _ G k1 k2 => lw_xt H hwf (by decide) k1 k2 kk) (fun v' e' => absurd (e.symm.trans e') (by simp))
  · have H := lw_sJ (lw_same (k := k) hb hC hm hP hM hB) (z + 149) 0 v.toInt64
    obtain ⟨-, hC7, hM7, -⟩ := id H
    refine ⟨hC7.2.2.1, vp 1 (by decide) _ hC7, vp 2 (by decide) _ hC7, z + 102, rfl, hM7.1.1, ?_⟩
    rw [hC7.2.2.2.2, e1, e2]
    exact p_Md_parent hM7.1 (by omega) hM7.2.1.1 hm.1 hM7.2.2.2.1 hwf (mIn_mm hm) (fun e' => absurd (e.symm.trans e') (by simp)) (fun v' e' G k1 k2 => lw_tail hM7.1.1 k1 hC7.1 (fun _ => by rw [← Option.some.inj (e.symm.trans e')]; exact tpu_s _ _ _ _) (kk _ (lw_fin H (fun c j hc => k2 c j (by omega)) (stM_31 hM7 (by omega) hwf k2))))

theorem lw_trees {b L z : Nat} {xs : Nat → Int32} : lwOK (lwI b L z xs) b z (z + 102) (z + 149) (z + 150) L w_Lw_law_1261 := by
  intro R K k h I h6 kk
  obtain ⟨hb, hC, mk, kd, idn, rt, dr, r, n, hm, hP, hM, hB⟩ := I
  refine ⟨z, rfl, hP.1.1, hP.1.1, z + 102, rfl, hM.1.1, hM.1.1, fun h2 e2 => ?_⟩
  have e3 : h2 = wI h (tpu (hI h) (z + 102) 31 0) := e2
  subst e3
  refine ⟨fun _ => kk _ (lw_ask hb hC hm hP hM hB (oFr_t _ 0)), fun g => absurd ?_ g⟩
  rw [wI_I, tpu_j _ _ _ _ _ _ (by decide)]
  exact hP.2.2.2.2.1.1.trans hM.2.2.2.1.1.symm

theorem lw_fuzz {b L z : Nat} {xs : Nat → Int32} : lwOK (lwI b L z xs) b z (z + 102) (z + 149) (z + 150) L w_Lw_law_884 := by
  intro R K k h I h6 kk
  obtain ⟨hb, hC, mk, kd, idn, rt, dr, r, n, hm, hP, hM, hB⟩ := I
  refine ⟨z, rfl, hP.1.1, hP.1.1, z + 102, rfl, hM.1.1, hM.1.1, fun h2 e2 => ?_⟩
  have e3 : h2 = wI h (tpu (hI h) (z + 102) 31 0) := e2
  subst e3
  refine ⟨fun _ => kk _ (lw_ask hb hC hm hP hM hB (oFr_t _ 0)), fun g => absurd ?_ g⟩
  rw [wI_I, tpu_j _ _ _ _ _ _ (by decide)]
  exact hP.2.2.2.2.2.2.2.1.trans hM.2.2.2.2.2.1.symm

theorem lw_conflicts {b L z : Nat} {xs : Nat → Int32} : lwOK (lwI b L z xs) b z (z + 102) (z + 149) (z + 150) L w_Lw_law_2166 := by
  intro R K k h I h6 kk
  obtain ⟨hb, hC, mk, kd, idn, rt, dr, r, n, hm, hP, hM, hB⟩ := I
  refine ⟨z, rfl, hP.1.1, hP.1.1, z + 1 + 69, lTP_mg hP.1, (lTP_mgL hP.1).1, z + 1 + 86, (lTP_mgL hP.1).2.1, (lTP_mgL hP.1).2.2.1, z + 102, rfl, hM.1.1, hM.1.1, fun h2 e2 => ?_⟩
  have e3 : h2 = wI h (tpu (hI h) (z + 102) 31 0) := e2
  subst e3
  refine ⟨fun _ => kk _ (lw_ask hb hC hm hP hM hB (oFr_t _ 0)), fun g => absurd ?_ g⟩
  rw [wI_I, tpu_j _ _ _ _ _ _ (by decide)]
  exact hP.2.2.2.2.2.2.2.2.2.1.1.trans hM.2.2.2.2.2.2.2.1.1.symm

theorem lw_versions {b L z : Nat} {xs : Nat → Int32} : lwOK (lwI b L z xs) b z (z + 102) (z + 149) (z + 150) L w_Lw_law_2291 := by
  intro R K k h I h6 kk
  obtain ⟨hb, hC, mk, kd, idn, rt, dr, r, n, hm, hP, hM, hB⟩ := I
  refine ⟨z, rfl, hP.1.1, hP.1.1, z + 1 + 90, lTP_hi hP.1, (lTP_hiL hP.1).1, z + 102, rfl, hM.1.1, hM.1.1, fun h2 e2 => ?_⟩
  have e3 : h2 = wI h (tpu (hI h) (z + 102) 31 0) := e2
  subst e3
  refine ⟨fun _ => kk _ (lw_ask hb hC hm hP hM hB (oFr_t _ 0)), fun g => absurd ?_ g⟩
  rw [wI_I, tpu_j _ _ _ _ _ _ (by decide)]
  exact hP.2.2.2.2.2.2.2.2.2.2.1.1.trans hM.2.2.2.2.2.2.2.2.1.symm

end CASE5
