section LWVERS
theorem stM_mv {h : tpH} {Q q mk : Nat} {kd idn : Nat → Int32} {dr : Option mT} {r : mRe} (H : stM h Q q mk kd idn dr r) (hQ : Q < q) (hw2 : ∀ t, dr = some t → tWF 300 t) (hlt : r.1.length < 40) {G : Nat → Nat → Int32} {t u v : mT} {f s : Option Nat} (hF : FoM G Q q (r.1 ++ [mgRes r.2.2.2.1 mk (tRt t) t u v (loK kd)])) (hC : CfM G Q q (mgCfl r.2.2.2.1 mk (tRt t) t u v (loK kd))) (hV : VsM G Q q (r.2.2.2.2.2 ++ [(r.1.length, f, s)])) (fr : vmFr Q q r.1.length r.2.2.2.2.2.length (hI h) G) : stM (wI h G) Q q mk kd idn dr (mgR r mk kd t u v f s) := by
  obtain ⟨m1, m2, m3, m4, m5, m6, m7, m8, m9⟩ := H
  have f0 : ∀ b j, (b < q + 2 ∨ (q + 7 ≤ b ∧ b ≤ q + 18)) → ¬ (b = Q ∧ (j = 3 ∨ j = 24 ∨ j = 26 ∨ j = 31 ∨ j = 52 ∨ j = 54)) → G b j = hI h b j := fun b j hb hc => fr _ _ (fun g => by omega)
  refine ⟨m1, MaM_fr m2 (f0 _ _ (by omega) (by omega)) (fun b hb => funext fun j => f0 _ _ (by omega) (by omega)), ?_, hF, ⟨(f0 _ _ (by omega) (by omega)).trans m5.1, fun i s hi => ⟨(f0 _ _ (by omega) (by omega)).trans (m5.2 i s hi).1, fun j e hj => StM_fr ((m5.2 i s hi).2 j e hj) (fun b b1 b2 => f0 _ _ (by omega) (by omega))⟩⟩, (f0 _ _ (by omega) (by omega)).trans m6, fun j hj => (f0 _ _ (by omega) (by omega)).trans (m7 j hj), hC, hV⟩
  cases dr with
  | none => exact ⟨(f0 _ _ (by omega) (by omega)).trans m3.1, fun m hm => (fr _ _ (by omega)).trans (m3.2 m hm)⟩
  | some u => exact ⟨(f0 _ _ (by omega) (by omega)).trans m3.1, MtP_k (hw2 u rfl) m3.2 (fr _ _ (by omega)) (fun b b1 b2 j j1 j2 => fr _ _ (by omega))⟩
theorem vm_lt {mk : Nat} {kd : Nat → Int32} {rt : Nat → Bool} {dr : Option mT} {r : mRe} {x p D n : Nat} {kd' idn : Nat → Int32} {h : tpH} {t u v : mT} {f s : Option Nat} (P' : stP h x p D mk kd' idn dr (mgR r mk kd t u v f s) n) : r.1.length < 40 := by
  have := P'.2.2.2.2.1.2.1
  have e40 : (r.1 ++ [mgRes r.2.2.2.1 mk (tRt t) t u v (loK kd)]).length ≤ 40 := this
  rw [List.length_append] at e40
  exact e40
theorem lw_mergeV {b L z : Nat} {xs : Nat → Int32} (hL0 : L ≤ 3072) : lwOK (lwI b L z xs) b z (z + 102) (z + 149) (z + 150) L w_Lw_law_1125 := by
  intro R K k h I h6 kk
  obtain ⟨hb, hC, mk, kd, idn, rt, dr, r, n, hm, hP, hM, hB⟩ := I
  have vp : ∀ j, j < 6 → ∀ h', lwC b L z xs h' → vp_in (nI (6 * k) + nI j) (hL h' b) := fun j hj h' hC => lw_vp hL0 hC.2.2.2.1 h6 hj
  have hz := hB.2.1
  have hwf := mIn_wf hm
  have hT := mIn_vT hm
  have h3 := hT.1
  obtain ⟨hdw, hdm⟩ := mIn_dw hm
  have nn : ∀ {A : Int32}, (lstAt r.2.2.2.2.2 A = none) → ∀ i, A = nI i → i < r.2.2.2.2.2.length → False := fun {A} e i ei hi => by
    rw [ei, lstAt_n _ (by omega), List.getElem?_eq_getElem hi] at e
    cases e
  refine ⟨b, rfl, hC.2.2.1, vp 1 (by decide) h hC, vp 2 (by decide) h hC, z, rfl, hP.1.1, ?_⟩
  rw [hC.2.2.2.2]
  generalize e1 : xs (nI (6 * k) + 1).toNatClampNeg = A1
  generalize e2 : xs (nI (6 * k) + 2).toNatClampNeg = A2
  have ij : ∀ {A : Int32} {i i' : Nat}, A = nI i → A = nI i' → i < r.2.2.2.2.2.length → i' < r.2.2.2.2.2.length → i = i' := fun a1 a2 l1 l2 => nI_inj (by omega) (by omega) (a1.symm.trans a2)
  refine p_TP_mergeV hP (by omega) (by omega) hz hm hB.1 (fun e => Or.inl ⟨rfl, ?_⟩) (fun i hA hA' il => Or.inr (Or.inl ⟨rfl, ?_⟩)) (fun i j hA hA' il jl nij no F f => Or.inr (Or.inr ⟨rfl, ?_⟩)) (fun i j y t u v hA hA' il jl nij eb vt vu vv cm h' n' hm' P' E => ?_)
  · have H := lw_exc (k := k) hb hC hm hP hM hB
    obtain ⟨-, hC7, hM7, -⟩ := id H
    refine ⟨hC7.2.2.1, vp 1 (by decide) _ hC7, vp 2 (by decide) _ hC7, z + 102, rfl, hM7.1.1, ?_⟩
    rw [hC7.2.2.2.2, e1, e2]
    have bad : ∀ i j, A1 = nI i → A2 = nI j → i < r.2.2.2.2.2.length → j < r.2.2.2.2.2.length → False := fun i j a1 a2 l1 l2 => e.elim (fun e => nn e i a1 l1) (fun e => nn e j a2 l2)
    exact p_Md_mergeV hM7.1 (by omega) hM7.2.1 hm.1 hM7.2.2.2.1 hm.2.2.1 hM7.2.2.2.2.2.2.1 hm.2.2.2.2.1 hM7.2.2.2.2.2.2.2.2 hT (fun _ G k1 k2 => lw_xt H hwf (by decide) k1 k2 kk) (fun i a1 a2 l1 => (bad i i a1 a2 l1 l1).elim) (fun i j a1 a2 l1 l2 => (bad i j a1 a2 l1 l2).elim) (fun i j _ _ _ _ a1 a2 l1 l2 => (bad i j a1 a2 l1 l2).elim)
  · have H := lw_exc (k := k) hb hC hm hP hM hB
    obtain ⟨-, hC7, hM7, -⟩ := id H
    refine ⟨hC7.2.2.1, vp 1 (by decide) _ hC7, vp 2 (by decide) _ hC7, z + 102, rfl, hM7.1.1, ?_⟩
    rw [hC7.2.2.2.2, e1, e2]
    exact p_Md_mergeV hM7.1 (by omega) hM7.2.1 hm.1 hM7.2.2.2.1 hm.2.2.1 hM7.2.2.2.2.2.2.1 hm.2.2.2.2.1 hM7.2.2.2.2.2.2.2.2 hT (fun e => (e.elim (fun e => nn e i hA il) (fun e => nn e i hA' il)).elim) (fun _ _ _ _ G k1 k2 => lw_xt H hwf (by decide) k1 k2 kk) (fun i' j' a1 a2 l1 l2 ne => absurd ((ij hA a1 il l1).symm.trans (ij hA' a2 il l2)) ne) (fun i' j' _ _ _ _ a1 a2 l1 l2 ne => absurd ((ij hA a1 il l1).symm.trans (ij hA' a2 il l2)) ne)
  · obtain ⟨P', f'⟩ := stP_rc hP (by omega) (by omega) hz f
    have fN := hFr_nC (wI h F) 0 0 6 no2 no2
    have fA : hFr h (nC (wI h F) 0 0 6) (fun c _ => c = z + 1 + 98) no2 := hFr_mono (hFr_tr f' fN) (fun _ _ _ g => g.elim id (fun g => g.elim)) (fun _ _ _ g => g.elim id (fun g => g.elim))
    have hZ1 : hZ (nC (wI h F) 0 0 6) = hZ h + 1 := rfl
    have hU1 : hU (nC (wI h F) 0 0 6) = hU h + 6 := rfl
    have H := lw_cls (k := k) hb hC hm hM hB fA (fun c j g => by omega) (fun c j g => g.elim) hm (stP_oth P' (by omega) (by omega) hz fN (fun _ _ g => g.elim) (fun _ _ g => g.elim)) ⟨Nat.le_refl _, hB.1⟩ (by omega) (by omega)
    obtain ⟨-, hC7, hM7, -⟩ := id H
    refine ⟨hC7.2.2.1, vp 1 (by decide) _ hC7, vp 2 (by decide) _ hC7, z + 102, rfl, hM7.1.1, ?_⟩
    rw [hC7.2.2.2.2, e1, e2]
    exact p_Md_mergeV hM7.1 (by omega) hM7.2.1 hm.1 hM7.2.2.2.1 hm.2.2.1 hM7.2.2.2.2.2.2.1 hm.2.2.2.2.1 hM7.2.2.2.2.2.2.2.2 hT (fun e => (e.elim (fun e => nn e i hA il) (fun e => nn e j hA' jl)).elim) (fun i' a1 a2 l1 => absurd ((ij hA a1 il l1).trans (ij hA' a2 jl l1).symm) nij) (fun _ _ _ _ _ _ _ _ G k1 k2 => lw_xt H hwf (by decide) k1 k2 kk) (fun i' j' y t u v a1 a2 l1 l2 ne z0 z1 z2 z3 z4 => absurd (by rw [ij hA a1 il l1, ij hA' a2 jl l2]; exact ⟨y, t, u, v, z0, z1, z2, z3, z4⟩) no)
  · obtain ⟨hn', ⟨c0, c1, E', f⟩, zz, uu⟩ := E
    unfold cfE at E'
    have nT : ∀ c j, vmT2 z (z + 1) (hZ h) c0 c1 c j → z ≤ c ∧ (c < z + 102 ∨ z + 151 ≤ c) := fun c j g => by unfold vmT2 vmT mkT mtT at g; omega
    have nU : ∀ c j, mkU (z + 1) r.1.length c j → z ≤ c ∧ (c < z + 102 ∨ z + 151 ≤ c) := fun c j g => by unfold mkU cfU at g; omega
    have hC' := lwC_fr hC hb hz f (fun j g => by have := nT _ _ g; omega)
    refine lw_put hC'.1 ?_
    have H := lw_sJ (lw_cls (k := k) hb hC hm hM hB f nT nU hm' P' hn' (by omega) (by omega)) (z + 149) 0 (nI r.2.2.2.2.2.length).toInt64
    obtain ⟨-, hC7, hM7, -⟩ := id H
    have hlt : r.1.length < 40 := vm_lt (rt := rt) P'
    refine ⟨hC7.2.2.1, vp 1 (by decide) _ hC7, vp 2 (by decide) _ hC7, z + 102, rfl, hM7.1.1, ?_⟩
    rw [hC7.2.2.2.2, e1, e2]
    exact p_Md_mergeV hM7.1 (by omega) hM7.2.1 hm.1 hM7.2.2.2.1 hm.2.2.1 hM7.2.2.2.2.2.2.1 hm.2.2.2.2.1 hM7.2.2.2.2.2.2.2.2 hT (fun e => (e.elim (fun e => nn e i hA il) (fun e => nn e j hA' jl)).elim) (fun i' a1 a2 l1 => absurd ((ij hA a1 il l1).trans (ij hA' a2 jl l1).symm) nij) (fun i' j' a1 a2 l1 l2 ne no => absurd (by rw [← ij hA a1 il l1, ← ij hA' a2 jl l2]; exact ⟨y, t, u, v, eb, vt, vu, vv, cm⟩) no) (fun i' j' y' t' u' v' a1 a2 l1 l2 ne z0 z1 z2 z3 z4 G k1 k2 k3 k4 k5 => by
      have q1 := ij hA a1 il l1
      have q2 := ij hA' a2 jl l2
      subst q1 q2
      rw [eb] at z0
      rw [← Option.some.inj z0, vt] at z1
      rw [vu] at z2
      rw [vv] at z3
      rw [← Option.some.inj z1, ← Option.some.inj z2, ← Option.some.inj z3] at k2 k3
      exact lw_tail hM7.1.1 k1 hC7.1 (fun _ => tpu_s _ _ _ _) (kk _ (lw_fin H (fun c j hc => k5 c j (by omega)) (stM_mv hM7 (by omega) hdw hlt k2 k3 k4 k5))))
theorem lw_takeBack {b L z : Nat} {xs : Nat → Int32} (hL0 : L ≤ 3072) : lwOK (lwI b L z xs) b z (z + 102) (z + 149) (z + 150) L w_Lw_law_1193 := by
  intro R K k h I h6 kk
  obtain ⟨hb, hC, mk, kd, idn, rt, dr, r, n, hm, hP, hM, hB⟩ := I
  have vp : ∀ j, j < 6 → ∀ h', lwC b L z xs h' → vp_in (nI (6 * k) + nI j) (hL h' b) := fun j hj h' hC => lw_vp hL0 hC.2.2.2.1 h6 hj
  have hz := hB.2.1
  have hwf := mIn_wf hm
  have hT := mIn_vT hm
  have h3 := hT.1
  obtain ⟨hdw, hdm⟩ := mIn_dw hm
  have nn : ∀ {A : Int32}, (lstAt r.2.2.2.2.2 A = none) → ∀ i, A = nI i → i < r.2.2.2.2.2.length → False := fun {A} e i ei hi => by
    rw [ei, lstAt_n _ (by omega), List.getElem?_eq_getElem hi] at e
    cases e
  refine ⟨b, rfl, hC.2.2.1, vp 1 (by decide) h hC, vp 2 (by decide) h hC, z, rfl, hP.1.1, ?_⟩
  rw [hC.2.2.2.2]
  generalize e1 : xs (nI (6 * k) + 1).toNatClampNeg = A1
  generalize e2 : xs (nI (6 * k) + 2).toNatClampNeg = A2
  have ij : ∀ {A : Int32} {i i' : Nat}, A = nI i → A = nI i' → i < r.2.2.2.2.2.length → i' < r.2.2.2.2.2.length → i = i' := fun a1 a2 l1 l2 => nI_inj (by omega) (by omega) (a1.symm.trans a2)
  refine p_TP_takeBack hP (by omega) (by omega) hz hm hB.1 (fun e => Or.inl ⟨rfl, ?_⟩) (fun i j hA hA' il jl no F f => Or.inr ⟨rfl, ?_⟩) (fun i j y g t u v hA hA' il jl vi ef rb vt vu vv cm h' n' hm' P' E => ?_)
  · have H := lw_exc (k := k) hb hC hm hP hM hB
    obtain ⟨-, hC7, hM7, -⟩ := id H
    refine ⟨hC7.2.2.1, vp 1 (by decide) _ hC7, vp 2 (by decide) _ hC7, z + 102, rfl, hM7.1.1, ?_⟩
    rw [hC7.2.2.2.2, e1, e2]
    have bad : ∀ i j, A1 = nI i → A2 = nI j → i < r.2.2.2.2.2.length → j < r.2.2.2.2.2.length → False := fun i j a1 a2 l1 l2 => e.elim (fun e => nn e i a1 l1) (fun e => nn e j a2 l2)
    exact p_Md_takeBack hM7.1 (by omega) hM7.2.1 hm.1 hM7.2.2.2.1 hm.2.2.1 hM7.2.2.2.2.2.2.1 hm.2.2.2.2.1 hM7.2.2.2.2.2.2.2.2 hT (fun _ G k1 k2 => lw_xt H hwf (by decide) k1 k2 kk) (fun i j a1 a2 l1 l2 => (bad i j a1 a2 l1 l2).elim) (fun i j _ _ _ _ _ a1 a2 l1 l2 => (bad i j a1 a2 l1 l2).elim)
  · obtain ⟨P', f'⟩ := stP_rc hP (by omega) (by omega) hz f
    have fN := hFr_nC (wI h F) 0 0 6 no2 no2
    have fA : hFr h (nC (wI h F) 0 0 6) (fun c _ => c = z + 1 + 98) no2 := hFr_mono (hFr_tr f' fN) (fun _ _ _ g => g.elim id (fun g => g.elim)) (fun _ _ _ g => g.elim id (fun g => g.elim))
    have hZ1 : hZ (nC (wI h F) 0 0 6) = hZ h + 1 := rfl
    have hU1 : hU (nC (wI h F) 0 0 6) = hU h + 6 := rfl
    have H := lw_cls (k := k) hb hC hm hM hB fA (fun c j g => by omega) (fun c j g => g.elim) hm (stP_oth P' (by omega) (by omega) hz fN (fun _ _ g => g.elim) (fun _ _ g => g.elim)) ⟨Nat.le_refl _, hB.1⟩ (by omega) (by omega)
    obtain ⟨-, hC7, hM7, -⟩ := id H
    refine ⟨hC7.2.2.1, vp 1 (by decide) _ hC7, vp 2 (by decide) _ hC7, z + 102, rfl, hM7.1.1, ?_⟩
    rw [hC7.2.2.2.2, e1, e2]
    exact p_Md_takeBack hM7.1 (by omega) hM7.2.1 hm.1 hM7.2.2.2.1 hm.2.2.1 hM7.2.2.2.2.2.2.1 hm.2.2.2.2.1 hM7.2.2.2.2.2.2.2.2 hT (fun e => (e.elim (fun e => nn e i hA il) (fun e => nn e j hA' jl)).elim) (fun _ _ _ _ _ _ _ G k1 k2 => lw_xt H hwf (by decide) k1 k2 kk) (fun i' j' y g t u v a1 a2 l1 l2 z0 z1 z2 z3 z4 z5 z6 => absurd (by rw [ij hA a1 il l1, ij hA' a2 jl l2]; exact ⟨y, g, t, u, v, z0, z1, z2, z3, z4, z5, z6⟩) no)
  · obtain ⟨hn', ⟨c0, c1, E', f⟩, zz, uu⟩ := E
    unfold cfE at E'
    have nT : ∀ c j, vmT2 z (z + 1) (hZ h) c0 c1 c j → z ≤ c ∧ (c < z + 102 ∨ z + 151 ≤ c) := fun c j g => by unfold vmT2 vmT mkT mtT at g; omega
    have nU : ∀ c j, mkU (z + 1) r.1.length c j → z ≤ c ∧ (c < z + 102 ∨ z + 151 ≤ c) := fun c j g => by unfold mkU cfU at g; omega
    have hC' := lwC_fr hC hb hz f (fun j g => by have := nT _ _ g; omega)
    refine lw_put hC'.1 ?_
    have H := lw_sJ (lw_cls (k := k) hb hC hm hM hB f nT nU hm' P' hn' (by omega) (by omega)) (z + 149) 0 (nI r.2.2.2.2.2.length).toInt64
    obtain ⟨-, hC7, hM7, -⟩ := id H
    have hlt : r.1.length < 40 := vm_lt (rt := rt) P'
    refine ⟨hC7.2.2.1, vp 1 (by decide) _ hC7, vp 2 (by decide) _ hC7, z + 102, rfl, hM7.1.1, ?_⟩
    rw [hC7.2.2.2.2, e1, e2]
    exact p_Md_takeBack hM7.1 (by omega) hM7.2.1 hm.1 hM7.2.2.2.1 hm.2.2.1 hM7.2.2.2.2.2.2.1 hm.2.2.2.2.1 hM7.2.2.2.2.2.2.2.2 hT (fun e => (e.elim (fun e => nn e i hA il) (fun e => nn e j hA' jl)).elim) (fun i' j' a1 a2 l1 l2 no => absurd (by rw [← ij hA a1 il l1, ← ij hA' a2 jl l2]; exact ⟨y, g, t, u, v, vi, ef, rb, vt, vu, vv, cm⟩) no) (fun i' j' y' g' t' u' v' a1 a2 l1 l2 z0 z1 z2 z3 z4 z5 z6 G k1 k2 k3 k4 k5 => by
      have q1 := ij hA a1 il l1
      have q2 := ij hA' a2 jl l2
      subst q1 q2
      rw [vi] at z0
      rw [← Option.some.inj z0, ef] at z1
      rw [vt] at z3
      rw [vu] at z4
      rw [← Option.some.inj z1, vv] at z5
      rw [← Option.some.inj z3, ← Option.some.inj z4, ← Option.some.inj z5] at k2 k3
      exact lw_tail hM7.1.1 k1 hC7.1 (fun _ => tpu_s _ _ _ _) (kk _ (lw_fin H (fun c j hc => k5 c j (by omega)) (stM_mv hM7 (by omega) hdw hlt k2 k3 k4 k5))))
end LWVERS
