section FINDL
theorem stM_fd {h : tpH} {Q q mk : Nat} {kd idn : Nat → Int32} {dr : Option mT} {r : mRe} (H : stM h Q q mk kd idn dr r) (hQ : Q < q) (hw : ∀ (i : Nat) (t : mT), r.1[i]? = some t → tWF 300 t) {G : Nat → Nat → Int32} {sc' : List (List mSt)} {n : Nat} (hS : ScM G Q q sc') (fr : fnR2 Q q n (hI h) G) (hw2 : ∀ t, dr = some t → tWF 300 t) : stM (wI h G) Q q mk kd idn dr (r.1, sc', r.2.2) := by
  obtain ⟨m1, m2, m3, m4, m5, m6, m7, m8, m9⟩ := H
  have f0 : ∀ b j, (b < q + 2 ∨ (q + 18 ≤ b ∧ b ≤ q + 23)) → ¬ (b = Q ∧ (j = 10 ∨ j = 31 ∨ j = 34 ∨ j = 35)) → G b j = hI h b j := fun b j hb hc => fr _ _ (fun g => by omega)
  refine ⟨m1, MaM_fr m2 (f0 _ _ (by omega) (by omega)) (fun b hb => funext fun j => f0 _ _ (by omega) (by omega)), ?_, FoM_fr m4 hw (f0 _ _ (by omega) (by omega)) (fun j hj => fr _ _ (by omega)) (fun b b1 b2 j hj => fr _ _ (by omega)), hS, (f0 _ _ (by omega) (by omega)).trans m6, fun j hj => (f0 _ _ (by omega) (by omega)).trans (m7 j hj), CfM_fr m8 (f0 _ _ (by omega) (by omega)) (funext fun j => f0 _ _ (by omega) (by omega)), VsM_fr m9 (f0 _ _ (by omega) (by omega)) (fun b b1 b2 i _ => f0 _ _ (by omega) (by omega))⟩
  cases dr with
  | none => exact ⟨(f0 _ _ (by omega) (by omega)).trans m3.1, fun m hm => (fr _ _ (by omega)).trans (m3.2 m hm)⟩
  | some u => exact ⟨(f0 _ _ (by omega) (by omega)).trans m3.1, MtP_k (hw2 u rfl) m3.2 (fr _ _ (by omega)) (fun b b1 b2 j j1 j2 => fr _ _ (by omega))⟩
theorem lw_find {b L z : Nat} {xs : Nat → Int32} (hL0 : L ≤ 3072) : lwOK (lwI b L z xs) b z (z + 102) (z + 149) (z + 150) L w_Lw_law_692 := by
  intro R K k h I h6 kk
  obtain ⟨hb, hC, mk, kd, idn, rt, dr, r, n, hm, hP, hM, hB⟩ := I
  have vp : ∀ j, j < 6 → ∀ h', lwC b L z xs h' → vp_in (nI (6 * k) + nI j) (hL h' b) := fun j hj h' hC => lw_vp hL0 hC.2.2.2.1 h6 hj
  have hz := hB.2.1
  have hwf := mIn_wf hm
  obtain ⟨hdw, hdm⟩ := mIn_dw hm
  have h40 := hP.2.2.2.2.2.2.1.2.1
  have h100 : ∀ s ∈ r.2.1, s.length ≤ 100 := fun s hs => (hm.2.2.2.1 s hs).1
  refine ⟨b, rfl, hC.2.2.1, vp 1 (by decide) h hC, vp 2 (by decide) h hC, z, rfl, hP.1.1, ?_⟩
  rw [hC.2.2.2.2]
  generalize e1 : xs (nI (6 * k) + 1).toNatClampNeg = A1
  generalize e2 : xs (nI (6 * k) + 2).toNatClampNeg = A2
  have nT : ∀ c j, fiT z (z + 1) c j → z ≤ c ∧ (c < z + 102 ∨ z + 151 ≤ c) := fun c j g => by unfold fiT seT fdT at g; omega
  have nU : ∀ c j, fiU (z + 1) r.2.1.length c j → z ≤ c ∧ (c < z + 102 ∨ z + 151 ≤ c) := fun c j g => by unfold fiU seU at g; omega
  refine p_TP_find hP (by omega) (by omega) hz hm (fun e => Or.inl ⟨rfl, ?_⟩) (fun e => Or.inr ⟨rfl, ?_⟩) (fun e h' P' f zz uu => Or.inr ⟨rfl, ?_⟩) (fun e sI h' P' f zz uu => ?_)
  · have H := lw_exc (k := k) hb hC hm hP hM hB
    obtain ⟨-, hC7, hM7, -⟩ := id H
    refine ⟨hC7.2.2.1, vp 1 (by decide) _ hC7, vp 2 (by decide) _ hC7, z + 102, rfl, hM7.1.1, ?_⟩
    rw [hC7.2.2.2.2, e1, e2]
    exact p_Md_find hM7.1 (by omega) hM7.2.1 hm.1 hM7.2.2.2.1 hm.2.2.1 hM7.2.2.2.2.1 h40 h100 (fun _ G k1 k2 => lw_xt H hwf (by decide) k1 k2 kk) (fun e' => absurd (e.symm.trans e') (by decide)) (fun e' => absurd (e.symm.trans e') (by decide)) (fun e' => absurd (e.symm.trans e') (by decide))
  · have H := lw_exc (k := k) hb hC hm hP hM hB
    obtain ⟨-, hC7, hM7, -⟩ := id H
    refine ⟨hC7.2.2.1, vp 1 (by decide) _ hC7, vp 2 (by decide) _ hC7, z + 102, rfl, hM7.1.1, ?_⟩
    rw [hC7.2.2.2.2, e1, e2]
    exact p_Md_find hM7.1 (by omega) hM7.2.1 hm.1 hM7.2.2.2.1 hm.2.2.1 hM7.2.2.2.2.1 h40 h100 (fun e' => absurd (e.symm.trans e') (by decide)) (fun _ G k1 k2 => lw_xt H hwf (by decide) k1 k2 kk) (fun e' => absurd (e.symm.trans e') (by decide)) (fun e' => absurd (e.symm.trans e') (by decide))
  · have fN := hFr_nC h' 0 0 6 no2 no2
    have z0 := f.1
    have fA : hFr h (nC h' 0 0 6) (fiT z (z + 1)) (fiU (z + 1) r.2.1.length) := hFr_mono (hFr_tr f fN) (fun _ _ _ g => g.elim id (fun g => g.elim)) (fun _ _ _ g => g.elim id (fun g => g.elim))
    have hZ1 : hZ (nC h' 0 0 6) = hZ h' + 1 := rfl
    have hU1 : hU (nC h' 0 0 6) = hU h' + 6 := rfl
    have H := lw_cls (k := k) hb hC hm hM hB fA nT nU hm (stP_oth P' (by omega) (by omega) (by omega) fN (fun _ _ g => g.elim) (fun _ _ g => g.elim)) ⟨Nat.le_refl _, hB.1⟩ (by omega) (by omega)
    obtain ⟨-, hC7, hM7, -⟩ := id H
    refine ⟨hC7.2.2.1, vp 1 (by decide) _ hC7, vp 2 (by decide) _ hC7, z + 102, rfl, hM7.1.1, ?_⟩
    rw [hC7.2.2.2.2, e1, e2]
    exact p_Md_find hM7.1 (by omega) hM7.2.1 hm.1 hM7.2.2.2.1 hm.2.2.1 hM7.2.2.2.2.1 h40 h100 (fun e' => absurd (e.symm.trans e') (by decide)) (fun e' => absurd (e.symm.trans e') (by decide)) (fun _ G k1 k2 k3 => lw_tail hM7.1.1 k1 hC7.1 (fun q => absurd q (by decide)) (kk _ (lw_fin H (fun c j hc => k3 c j (by omega)) (stM_fd hM7 (by omega) hwf k2 k3 hdw)))) (fun e' => absurd (e.symm.trans e') (by decide))
  · have hC' := lwC_fr hC hb hz f (fun j g => by have := nT _ _ g; omega)
    refine lw_put hC'.1 ?_
    have H := lw_sJ (lw_cls (k := k) hb hC hm hM hB f nT nU (mIn_sc hm sI.1 sI.2) P' ⟨Nat.le_refl _, hB.1⟩ (by omega) (by omega)) (z + 149) 0 (nI r.2.1.length).toInt64
    obtain ⟨-, hC7, hM7, -⟩ := id H
    refine ⟨hC7.2.2.1, vp 1 (by decide) _ hC7, vp 2 (by decide) _ hC7, z + 102, rfl, hM7.1.1, ?_⟩
    rw [hC7.2.2.2.2, e1, e2]
    exact p_Md_find hM7.1 (by omega) hM7.2.1 hm.1 hM7.2.2.2.1 hm.2.2.1 hM7.2.2.2.2.1 h40 h100 (fun e' => absurd (e.symm.trans e') (by decide)) (fun e' => absurd (e.symm.trans e') (by decide)) (fun e' => absurd (e.symm.trans e') (by decide)) (fun _ G k1 k2 k3 => lw_tail hM7.1.1 k1 hC7.1 (fun _ => tpu_s _ _ _ _) (kk _ (lw_fin H (fun c j hc => k3 c j (by omega)) (stM_fd hM7 (by omega) hwf k2 k3 hdw))))
end FINDL
