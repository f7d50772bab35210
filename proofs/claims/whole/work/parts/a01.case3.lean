section CASE3
theorem lw_set {b L z : Nat} {xs : Nat → Int32} (hL0 : L ≤ 3072) : lwOK (lwI b L z xs) b z (z + 102) (z + 149) (z + 150) L w_Lw_law_444 := by
  intro R K k h I h6 kk
  obtain ⟨hb, hC, mk, kd, idn, rt, dr, r, n, hm, hP, hM, hB⟩ := I
  have vp : ∀ j, j < 6 → ∀ h', lwC b L z xs h' → vp_in (nI (6 * k) + nI j) (hL h' b) := fun j hj h' hC => lw_vp hL0 hC.2.2.2.1 h6 hj
  have hz := hB.2.1
  have hwf := mIn_wf hm
  obtain ⟨hdw, hdm⟩ := mIn_dw hm
  refine ⟨b, rfl, hC.2.2.1, vp 1 (by decide) h hC, vp 2 (by decide) h hC, z, rfl, hP.1.1, ?_⟩
  rw [hC.2.2.2.2]
  generalize e1 : xs (nI (6 * k) + 1).toNatClampNeg = A1
  generalize e2 : xs (nI (6 * k) + 2).toNatClampNeg = A2
  refine p_TP_set hP.1 hP.2.2.1 (fun g => Or.inl ⟨rfl, ?_⟩) (fun t c ed ex hc nv => Or.inr ⟨rfl, ?_⟩) (fun t c ed ex hc gv G g1 g2 => lw_put hC.1 ?_)
  · have H := lw_excw (k := k) hb hC hm hP hM hB
    obtain ⟨-, hC7, hM7, -⟩ := id H
    refine ⟨hC7.2.2.1, vp 1 (by decide) _ hC7, vp 2 (by decide) _ hC7, z + 102, rfl, hM7.1.1, ?_⟩
    rw [hC7.2.2.2.2, e1, e2]
    exact p_Md_set hM7.1 (by omega) hM7.2.1.1 hm.1 hM7.2.2.1 hdw hdm (fun _ => lw_xt H hwf (by decide) (tpu_s _ _ _ _) (lw_x1 1) kk) (fun t c ed ex hc _ => (dr_no g ed ex hc (hdw t ed)).elim) (fun t c ed ex hc _ => (dr_no g ed ex hc (hdw t ed)).elim)
  · have H := lw_excw (k := k) hb hC hm hP hM hB
    obtain ⟨-, hC7, hM7, -⟩ := id H
    refine ⟨hC7.2.2.1, vp 1 (by decide) _ hC7, vp 2 (by decide) _ hC7, z + 102, rfl, hM7.1.1, ?_⟩
    rw [hC7.2.2.2.2, e1, e2]
    exact p_Md_set hM7.1 (by omega) hM7.2.1.1 hm.1 hM7.2.2.1 hdw hdm (fun g => (dr_no g ed ex hc (hdw t ed)).elim) (fun _ _ _ _ _ _ => lw_xt H hwf (by decide) (tpu_s _ _ _ _) (lw_x1 2) kk) (fun _ _ _ _ _ gv => absurd gv nv)
  · have ht := hm.2.1 t ed
    have H := lw_deed (k := k) hb hC hm hP hM hB (mIn_dr hm (trI_set ht c A2)) (MaP_k hP.2.1 (fun d d1 d2 => g2 d (by omega))) g1 (fun d hd => g2 d (by omega)) hP.2.2.2.2.2.2.2.2.2.2.2 (tWo t c)
    obtain ⟨-, hC7, hM7, -⟩ := id H
    refine ⟨hC7.2.2.1, vp 1 (by decide) _ hC7, vp 2 (by decide) _ hC7, z + 102, rfl, hM7.1.1, ?_⟩
    rw [hC7.2.2.2.2, e1, e2]
    refine p_Md_set hM7.1 (by omega) hM7.2.1.1 hm.1 hM7.2.2.1 hdw hdm (fun g => (dr_no g ed ex hc (hdw t ed)).elim) (fun _ _ _ _ _ nv => absurd gv nv) (fun t' c' ed' ex' hc' _ G' k1 k2 k3 => ?_)
    obtain ⟨rfl, rfl⟩ := dr_un ed ed' ex ex' hc hc' (hdw t ed)
    exact lw_tail hM7.1.1 k2 hC7.1 (fun _ => tpu_s _ _ _ _) (kk _ (lw_fin H (fun d j hd => k3 d j (by omega)) (stM_dr hM7 (by omega) hwf (fun d j hd => k3 d j (by unfold mdTu at hd; omega)) (MaM_fr hM7.2.1 (k3 _ _ (by omega)) (fun d hd => funext fun j => k3 _ _ (by omega))) k1)))

theorem lw_move {b L z : Nat} {xs : Nat → Int32} (hL0 : L ≤ 3072) : lwOK (lwI b L z xs) b z (z + 102) (z + 149) (z + 150) L w_Lw_law_512 := by
  intro R K k h I h6 kk
  obtain ⟨hb, hC, mk, kd, idn, rt, dr, r, n, hm, hP, hM, hB⟩ := I
  have vp : ∀ j, j < 6 → ∀ h', lwC b L z xs h' → vp_in (nI (6 * k) + nI j) (hL h' b) := fun j hj h' hC => lw_vp hL0 hC.2.2.2.1 h6 hj
  have hz := hB.2.1
  have hwf := mIn_wf hm
  obtain ⟨hdw, hdm⟩ := mIn_dw hm
  refine ⟨b, rfl, hC.2.2.1, vp 1 (by decide) h hC, vp 2 (by decide) h hC, vp 3 (by decide) h hC, z, rfl, hP.1.1, ?_⟩
  rw [hC.2.2.2.2]
  generalize e1 : xs (nI (6 * k) + 1).toNatClampNeg = A1
  generalize e2 : xs (nI (6 * k) + 2).toNatClampNeg = A2
  generalize e3 : xs (nI (6 * k) + 3).toNatClampNeg = A3
  have hlo := fun m (_ : m < mk) => loK_iff kd m
  refine p_TP_move hP.1 hP.2.2.1 hP.2.1 hdm hlo (fun g => Or.inl ⟨rfl, ?_⟩) (fun t c ed ex hc ny => Or.inl ⟨rfl, ?_⟩) (fun t c s ed ex ey hc hs np => Or.inl ⟨rfl, ?_⟩) (fun t c s ed ex ey hc hs gp hw => Or.inr ⟨rfl, ?_⟩) (fun t c s ed ex ey hc hs gp hw G g1 g2 => lw_put hC.1 ?_)
  · have H := lw_excw (k := k) hb hC hm hP hM hB
    obtain ⟨-, hC7, hM7, -⟩ := id H
    refine ⟨hC7.2.2.1, vp 1 (by decide) _ hC7, vp 2 (by decide) _ hC7, vp 3 (by decide) _ hC7, z + 102, rfl, hM7.1.1, ?_⟩
    rw [hC7.2.2.2.2, e1, e2, e3]
    exact p_Md_move hM7.1 (by omega) hM7.2.1 hm.1 hM7.2.2.1 hdw hdm hlo (fun _ => lw_xt H hwf (by decide) (tpu_s _ _ _ _) (lw_x1 1) kk) (fun t c ed ex hc _ => (dr_no g ed ex hc (hdw t ed)).elim) (fun t c s ed ex ey hc _ _ => (dr_no g ed ex hc (hdw t ed)).elim) (fun t c s ed ex ey hc _ _ _ => (dr_no g ed ex hc (hdw t ed)).elim) (fun t c s ed ex ey hc _ _ _ => (dr_no g ed ex hc (hdw t ed)).elim)
  · have H := lw_excw (k := k) hb hC hm hP hM hB
    obtain ⟨-, hC7, hM7, -⟩ := id H
    refine ⟨hC7.2.2.1, vp 1 (by decide) _ hC7, vp 2 (by decide) _ hC7, vp 3 (by decide) _ hC7, z + 102, rfl, hM7.1.1, ?_⟩
    rw [hC7.2.2.2.2, e1, e2, e3]
    have no : ∀ t' s', dr = some t' → A2 = nI s' → tIn t' s' = true → False := fun t' s' ed' ey hs => by
      have et : t = t' := by rw [ed] at ed'; exact Option.some.inj ed'
      subst et
      have := ny s' ((hdw t ed).1.1 s' hs) ey
      rw [hs] at this
      simp at this
    exact p_Md_move hM7.1 (by omega) hM7.2.1 hm.1 hM7.2.2.1 hdw hdm hlo (fun g => (dr_no g ed ex hc (hdw t ed)).elim) (fun _ _ _ _ _ _ => lw_xt H hwf (by decide) (tpu_s _ _ _ _) (lw_x1 1) kk) (fun t' c' s' ed' ex' ey' hc' hs' _ => (no t' s' ed' ey' hs').elim) (fun t' c' s' ed' ex' ey' hc' hs' _ _ => (no t' s' ed' ey' hs').elim) (fun t' c' s' ed' ex' ey' hc' hs' _ _ => (no t' s' ed' ey' hs').elim)
  · have H := lw_excw (k := k) hb hC hm hP hM hB
    obtain ⟨-, hC7, hM7, -⟩ := id H
    refine ⟨hC7.2.2.1, vp 1 (by decide) _ hC7, vp 2 (by decide) _ hC7, vp 3 (by decide) _ hC7, z + 102, rfl, hM7.1.1, ?_⟩
    rw [hC7.2.2.2.2, e1, e2, e3]
    have un : ∀ t' c' s', dr = some t' → A1 = nI c' → A2 = nI s' → tIn t' c' = true → tIn t' s' = true → t = t' ∧ c = c' ∧ s = s' := fun t' c' s' ed' ex' ey' hc' hs' => by
      obtain ⟨rfl, rfl⟩ := dr_un ed ed' ex ex' hc hc' (hdw t ed)
      exact ⟨rfl, rfl, (dr_un ed ed ey ey' hs hs' (hdw t ed)).2⟩
    refine p_Md_move hM7.1 (by omega) hM7.2.1 hm.1 hM7.2.2.1 hdw hdm hlo (fun g => (dr_no g ed ex hc (hdw t ed)).elim) (fun t' c' ed' ex' hc' ny => ?_) (fun _ _ _ _ _ _ _ _ _ G' k1 k2 => lw_xt H hwf (by decide) k1 (fun c j hc => k2 c j (by omega)) kk) (fun t' c' s' ed' ex' ey' hc' hs' gp _ => ?_) (fun t' c' s' ed' ex' ey' hc' hs' gp _ => ?_)
    · have et : t = t' := by rw [ed] at ed'; exact Option.some.inj ed'
      subst et
      have := ny s ((hdw t ed).1.1 s hs) ey
      rw [hs] at this
      simp at this
    · obtain ⟨rfl, rfl, rfl⟩ := un t' c' s' ed' ex' ey' hc' hs'
      exact absurd gp np
    · obtain ⟨rfl, rfl, rfl⟩ := un t' c' s' ed' ex' ey' hc' hs'
      exact absurd gp np
  · have H := lw_excw (k := k) hb hC hm hP hM hB
    obtain ⟨-, hC7, hM7, -⟩ := id H
    refine ⟨hC7.2.2.1, vp 1 (by decide) _ hC7, vp 2 (by decide) _ hC7, vp 3 (by decide) _ hC7, z + 102, rfl, hM7.1.1, ?_⟩
    rw [hC7.2.2.2.2, e1, e2, e3]
    have un : ∀ t' c' s', dr = some t' → A1 = nI c' → A2 = nI s' → tIn t' c' = true → tIn t' s' = true → t = t' ∧ c = c' ∧ s = s' := fun t' c' s' ed' ex' ey' hc' hs' => by
      obtain ⟨rfl, rfl⟩ := dr_un ed ed' ex ex' hc hc' (hdw t ed)
      exact ⟨rfl, rfl, (dr_un ed ed ey ey' hs hs' (hdw t ed)).2⟩
    refine p_Md_move hM7.1 (by omega) hM7.2.1 hm.1 hM7.2.2.1 hdw hdm hlo (fun g => (dr_no g ed ex hc (hdw t ed)).elim) (fun t' c' ed' ex' hc' ny => ?_) (fun t' c' s' ed' ex' ey' hc' hs' np => ?_) (fun _ _ _ _ _ _ _ _ _ _ G' k1 k2 => lw_xt H hwf (by decide) k1 (fun c j hc => k2 c j (by omega)) kk) (fun t' c' s' ed' ex' ey' hc' hs' _ nw => ?_)
    · have et : t = t' := by rw [ed] at ed'; exact Option.some.inj ed'
      subst et
      have := ny s ((hdw t ed).1.1 s hs) ey
      rw [hs] at this
      simp at this
    · obtain ⟨rfl, rfl, rfl⟩ := un t' c' s' ed' ex' ey' hc' hs'
      exact absurd gp np
    · obtain ⟨rfl, rfl, rfl⟩ := un t' c' s' ed' ex' ey' hc' hs'
      exact absurd hw nw
  · have ht := hm.2.1 t ed
    have H := lw_deed (k := k) hb hC hm hP hM hB (mIn_dr hm (trI_move ht hc hs hw A3.toInt.toNat)) (MaP_k hP.2.1 (fun d d1 d2 => g2 d (by omega))) g1 (fun d hd => g2 d (by omega)) hP.2.2.2.2.2.2.2.2.2.2.2 (nO (tUp t c))
    obtain ⟨-, hC7, hM7, -⟩ := id H
    refine ⟨hC7.2.2.1, vp 1 (by decide) _ hC7, vp 2 (by decide) _ hC7, vp 3 (by decide) _ hC7, z + 102, rfl, hM7.1.1, ?_⟩
    rw [hC7.2.2.2.2, e1, e2, e3]
    have un : ∀ t' c' s', dr = some t' → A1 = nI c' → A2 = nI s' → tIn t' c' = true → tIn t' s' = true → t = t' ∧ c = c' ∧ s = s' := fun t' c' s' ed' ex' ey' hc' hs' => by
      obtain ⟨rfl, rfl⟩ := dr_un ed ed' ex ex' hc hc' (hdw t ed)
      exact ⟨rfl, rfl, (dr_un ed ed ey ey' hs hs' (hdw t ed)).2⟩
    refine p_Md_move hM7.1 (by omega) hM7.2.1 hm.1 hM7.2.2.1 hdw hdm hlo (fun g => (dr_no g ed ex hc (hdw t ed)).elim) (fun t' c' ed' ex' hc' ny => ?_) (fun t' c' s' ed' ex' ey' hc' hs' np => ?_) (fun t' c' s' ed' ex' ey' hc' hs' _ hw' => ?_) (fun t' c' s' ed' ex' ey' hc' hs' _ _ G' k1 k2 k3 => ?_)
    · have et : t = t' := by rw [ed] at ed'; exact Option.some.inj ed'
      subst et
      have := ny s ((hdw t ed).1.1 s hs) ey
      rw [hs] at this
      simp at this
    · obtain ⟨rfl, rfl, rfl⟩ := un t' c' s' ed' ex' ey' hc' hs'
      exact absurd gp np
    · obtain ⟨rfl, rfl, rfl⟩ := un t' c' s' ed' ex' ey' hc' hs'
      exact absurd hw' hw
    · obtain ⟨rfl, rfl, rfl⟩ := un t' c' s' ed' ex' ey' hc' hs'
      exact lw_tail hM7.1.1 k2 hC7.1 (fun _ => tpu_s _ _ _ _) (kk _ (lw_fin H (fun d j hd => k3 d j (by omega)) (stM_dr hM7 (by omega) hwf (fun d j hd => k3 d j (by unfold mdTu at hd; omega)) (MaM_fr hM7.2.1 (k3 _ _ (by omega)) (fun d hd => funext fun j => k3 _ _ (by omega))) k1)))

theorem lw_drop {b L z : Nat} {xs : Nat → Int32} (hL0 : L ≤ 3072) : lwOK (lwI b L z xs) b z (z + 102) (z + 149) (z + 150) L w_Lw_law_592 := by
  intro R K k h I h6 kk
  obtain ⟨hb, hC, mk, kd, idn, rt, dr, r, n, hm, hP, hM, hB⟩ := I
  have vp : ∀ j, j < 6 → ∀ h', lwC b L z xs h' → vp_in (nI (6 * k) + nI j) (hL h' b) := fun j hj h' hC => lw_vp hL0 hC.2.2.2.1 h6 hj
  have hz := hB.2.1
  have hwf := mIn_wf hm
  obtain ⟨hdw, hdm⟩ := mIn_dw hm
  refine ⟨b, rfl, hC.2.2.1, vp 1 (by decide) h hC, z, rfl, hP.1.1, ?_⟩
  rw [hC.2.2.2.2]
  generalize e1 : xs (nI (6 * k) + 1).toNatClampNeg = A1
  refine p_TP_drop hP.1 hP.2.2.1 (fun g => Or.inl ⟨rfl, ?_⟩) (fun t ed ex => Or.inr ⟨rfl, ?_⟩) (fun t c ed ex hc hn G g1 g2 => lw_put hC.1 ?_)
  · have H := lw_excw (k := k) hb hC hm hP hM hB
    obtain ⟨-, hC7, hM7, -⟩ := id H
    refine ⟨hC7.2.2.1, vp 1 (by decide) _ hC7, z + 102, rfl, hM7.1.1, ?_⟩
    rw [hC7.2.2.2.2, e1]
    exact p_Md_drop hM7.1 (by omega) hM7.2.1.1 hm.1 hM7.2.2.1 hdw hdm (fun _ => lw_xt H hwf (by decide) (tpu_s _ _ _ _) (lw_x1 1) kk) (fun t ed ex => (dr_no g ed ex (hdw t ed).2.1 (hdw t ed)).elim) (fun t c ed ex hc _ => (dr_no g ed ex hc (hdw t ed)).elim)
  · have H := lw_excw (k := k) hb hC hm hP hM hB
    obtain ⟨-, hC7, hM7, -⟩ := id H
    refine ⟨hC7.2.2.1, vp 1 (by decide) _ hC7, z + 102, rfl, hM7.1.1, ?_⟩
    rw [hC7.2.2.2.2, e1]
    refine p_Md_drop hM7.1 (by omega) hM7.2.1.1 hm.1 hM7.2.2.1 hdw hdm (fun g => (dr_no g ed ex (hdw t ed).2.1 (hdw t ed)).elim) (fun _ _ _ => lw_xt H hwf (by decide) (tpu_s _ _ _ _) (lw_x1 2) kk) (fun t' c' ed' ex' hc' hn' => ?_)
    obtain ⟨rfl, rfl⟩ := dr_un ed ed' ex ex' (hdw t ed).2.1 hc' (hdw t ed)
    exact absurd rfl hn'
  · have ht := hm.2.1 t ed
    have H := lw_deed (k := k) hb hC hm hP hM hB (mIn_dr hm (trI_ers ht hc hn)) (MaP_k hP.2.1 (fun d d1 d2 => g2 d (by omega))) g1 (fun d hd => g2 d (by omega)) hP.2.2.2.2.2.2.2.2.2.2.2 (nI (tPo t c).length)
    obtain ⟨-, hC7, hM7, -⟩ := id H
    refine ⟨hC7.2.2.1, vp 1 (by decide) _ hC7, z + 102, rfl, hM7.1.1, ?_⟩
    rw [hC7.2.2.2.2, e1]
    refine p_Md_drop hM7.1 (by omega) hM7.2.1.1 hm.1 hM7.2.2.1 hdw hdm (fun g => (dr_no g ed ex hc (hdw t ed)).elim) (fun t' ed' ex' => ?_) (fun t' c' ed' ex' hc' _ G' k1 k2 k3 => ?_)
    · have et : t = t' := by rw [ed] at ed'; exact Option.some.inj ed'
      subst et
      exact absurd (dr_un ed ed ex ex' hc (hdw t ed).2.1 (hdw t ed)).2 hn
    · obtain ⟨rfl, rfl⟩ := dr_un ed ed' ex ex' hc hc' (hdw t ed)
      exact lw_tail hM7.1.1 k2 hC7.1 (fun _ => tpu_s _ _ _ _) (kk _ (lw_fin H (fun d j hd => k3 d j (by omega)) (stM_dr hM7 (by omega) hwf (fun d j hd => k3 d j (by unfold mdTu at hd; omega)) (MaM_fr hM7.2.1 (k3 _ _ (by omega)) (fun d hd => funext fun j => k3 _ _ (by omega))) k1)))

end CASE3
