section CASE2
theorem dr_no {dr : Option mT} {x : Int32} {t : mT} {r : Nat} (g : ∀ m, m < 300 → x = nI m → drIn dr m = false) (ed : dr = some t) (ex : x = nI r) (hr : tIn t r = true) (hw : tWF 300 t) : False := by
  subst ed
  have := g r (hw.1.1 r hr) ex
  rw [show drIn (some t) r = tIn t r from rfl, hr] at this
  simp at this
theorem dr_un {dr : Option mT} {x : Int32} {t t' : mT} {r r' : Nat} (ed : dr = some t) (ed' : dr = some t') (ex : x = nI r) (ex' : x = nI r') (hr : tIn t r = true) (hr' : tIn t' r' = true) (hw : tWF 300 t) : t = t' ∧ r = r' := by
  subst ed
  have e := Option.some.inj ed'
  subst e
  have h1 := hw.1.1 r hr
  have h2 := hw.1.1 r' hr'
  exact ⟨rfl, nI_inj (by omega) (by omega) (ex.symm.trans ex')⟩
theorem lw_deed {b L z k : Nat} {xs : Nat → Int32} {h : tpH} {mk : Nat} {kd idn : Nat → Int32} {rt : Nat → Bool} {dr : Option mT} {r : mRe} {n : Nat} (hb : b < z) (hC : lwC b L z xs h) (hm : mIn mk kd rt dr r) (hP : stP h z (z + 1) (z + 151) mk kd idn dr r n) (hM : stM h (z + 102) (z + 103) mk kd idn dr r) (hB : lwB z k n h)
    {G : Nat → Nat → Int32} {mk' : Nat} {kd' idn' : Nat → Int32} {rt' : Nat → Bool} {t : mT} (hm' : mIn mk' kd' rt' (some t) r) (hM' : MaP G (z + 1) mk' kd' idn') (hD : DrP G (z + 1) (some t)) (fr : ∀ c, c < z + 1 ∨ z + 1 + 20 ≤ c → G c = hI h c) (mi : MiP h (z + 1) kd' idn' r.1) (v : Int32) :
    lwM b L z xs k (sJ (wI h G) (z + 149) 0 v.toInt64) mk kd idn dr r mk' kd' idn' (some t) r := by
  obtain ⟨hP7, f7⟩ := stP_dr hP (by omega) (by omega) hB.2.1 fr hM' hD mi
  exact lw_sJ (lw_cls (k := k) hb hC hm hM hB f7 (fun c j g => by omega) (fun c j g => g.elim) hm' hP7 ⟨Nat.le_refl _, hB.1⟩ (by rw [wI_Z]; omega) (by rw [wI_U]; omega)) _ _ _
theorem lw_fr {z mk : Nat} {kd : Nat → Int32} {rt : Nat → Bool} {dr : Option mT} {r : mRe} (hm : mIn mk kd rt dr r) {h : tpH} {x p D n : Nat} {idn : Nat → Int32} (hP : stP h x p D mk kd idn dr r n) : ∀ (i : Nat) (t : mT), r.1[i]? = some t → tLo (loK kd) t ∧ ∀ q, tIn t q = true → (hI h (p + 2) q < 4 ↔ loK kd q = false) := fun i t hi => by
  have ht := hm.2.2.1 t (List.mem_of_getElem? hi)
  refine ⟨ht.2.2, fun q hq => ?_⟩
  rw [(hP.2.1.2 q (ht.2.1 q hq).1).1]
  exact loK_iff kd q

theorem lw_copy {b L z : Nat} {xs : Nat → Int32} (hL0 : L ≤ 3072) : lwOK (lwI b L z xs) b z (z + 102) (z + 149) (z + 150) L w_Lw_law_284 := by
  intro R K k h I h6 kk
  obtain ⟨hb, hC, mk, kd, idn, rt, dr, r, n, hm, hP, hM, hB⟩ := I
  have vp : ∀ j, j < 6 → ∀ h', lwC b L z xs h' → vp_in (nI (6 * k) + nI j) (hL h' b) := fun j hj h' hC => lw_vp hL0 hC.2.2.2.1 h6 hj
  have hz := hB.2.1
  have hwf := mIn_wf hm
  obtain ⟨hdw, hdm⟩ := mIn_dw hm
  refine ⟨b, rfl, hC.2.2.1, vp 1 (by decide) h hC, z, rfl, hP.1.1, ?_⟩
  rw [hC.2.2.2.2]
  generalize e1 : xs (nI (6 * k) + 1).toNatClampNeg = A1
  have F' := hP.2.2.2.2.1
  refine p_TP_copy hP.1 (D := z + 151) (by omega) F' hwf (lw_fr (z := z) hm hP) (fun g => ⟨rfl, ?_⟩) (fun i t ex hi G g1 g2 => lw_put hC.1 ?_)
  · have H := lw_excw (k := k) hb hC hm hP hM hB
    obtain ⟨-, hC7, hM7, -⟩ := id H
    refine ⟨hC7.2.2.1, vp 1 (by decide) _ hC7, z + 102, rfl, hM7.1.1, ?_⟩
    rw [hC7.2.2.2.2, e1]
    exact p_Md_copy hM7.1 (by omega) hM7.2.2.2.1 hwf (fun _ => lw_xt H hwf (by decide) (tpu_s _ _ _ _) (lw_x1 1) kk) (fun i t ex hi => absurd ex (g i (List.getElem?_eq_some_iff.mp hi).1))
  · have ht := hm.2.2.1 t (List.mem_of_getElem? hi)
    have H := lw_deed (k := k) hb hC hm hP hM hB (mIn_dr hm ht) (MaP_k hP.2.1 (fun c c1 c2 => g2 c (by omega))) g1 (fun c hc => g2 c (by omega)) hP.2.2.2.2.2.2.2.2.2.2.2 (nI (tCn t))
    obtain ⟨-, hC7, hM7, -⟩ := id H
    refine ⟨hC7.2.2.1, vp 1 (by decide) _ hC7, z + 102, rfl, hM7.1.1, ?_⟩
    rw [hC7.2.2.2.2, e1]
    have hil := (List.getElem?_eq_some_iff.mp hi).1
    have h40 := F'.2.1
    refine p_Md_copy hM7.1 (by omega) hM7.2.2.2.1 hwf (fun g => absurd ex (g i hil)) (fun i' t' ex' hi' G' k1 k2 k3 => ?_)
    have hil' := (List.getElem?_eq_some_iff.mp hi').1
    have ei : i = i' := nI_inj (by omega) (by omega) (ex.symm.trans ex')
    subst ei
    have et : t' = t := by rw [hi] at hi'; exact (Option.some.inj hi').symm
    subst et
    exact lw_tail hM7.1.1 k2 hC7.1 (fun _ => tpu_s _ _ _ _) (kk _ (lw_fin H (fun c j hc => k3 c j (by omega)) (stM_dr hM7 (by omega) hwf (fun c j hc => k3 c j (by unfold mdTu at hc; omega)) (MaM_fr hM7.2.1 (k3 _ _ (by omega)) (fun c hc => funext fun j => k3 _ _ (by omega))) k1)))

theorem lw_node {b L z : Nat} {xs : Nat → Int32} (hL0 : L ≤ 3072) : lwOK (lwI b L z xs) b z (z + 102) (z + 149) (z + 150) L w_Lw_law_340 := by
  intro R K k h I h6 kk
  obtain ⟨hb, hC, mk, kd, idn, rt, dr, r, n, hm, hP, hM, hB⟩ := I
  have vp : ∀ j, j < 6 → ∀ h', lwC b L z xs h' → vp_in (nI (6 * k) + nI j) (hL h' b) := fun j hj h' hC => lw_vp hL0 hC.2.2.2.1 h6 hj
  have hz := hB.2.1
  have hwf := mIn_wf hm
  obtain ⟨hdw, hdm⟩ := mIn_dw hm
  refine ⟨b, rfl, hC.2.2.1, vp 1 (by decide) h hC, vp 2 (by decide) h hC, vp 3 (by decide) h hC, vp 4 (by decide) h hC, vp 5 (by decide) h hC, z, rfl, hP.1.1, ?_⟩
  rw [hC.2.2.2.2]
  generalize e1 : xs (nI (6 * k) + 1).toNatClampNeg = A1
  generalize e2 : xs (nI (6 * k) + 2).toNatClampNeg = A2
  generalize e3 : xs (nI (6 * k) + 3).toNatClampNeg = A3
  generalize e4 : xs (nI (6 * k) + 4).toNatClampNeg = A4
  generalize e5 : xs (nI (6 * k) + 5).toNatClampNeg = A5
  have hlo := fun m (_ : m < mk) => loK_iff kd m
  refine p_TP_node hP.1 hP.2.2.1 hP.2.1 hm.1 hdm hlo (fun g => Or.inl ⟨rfl, ?_⟩) (fun t c ed ex hc np => Or.inl ⟨rfl, ?_⟩) (fun t c ed ex hc gp ng => Or.inr (Or.inl ⟨rfl, ?_⟩)) (fun t c ed ex hc gp gd hf => Or.inr (Or.inr ⟨rfl, ?_⟩)) (fun t c ed ex hc gp gd hcn hlt G g1 g2 g3 => lw_put hC.1 ?_)
  · have H := lw_excw (k := k) hb hC hm hP hM hB
    obtain ⟨-, hC7, hM7, -⟩ := id H
    refine ⟨hC7.2.2.1, vp 1 (by decide) _ hC7, vp 2 (by decide) _ hC7, vp 3 (by decide) _ hC7, vp 4 (by decide) _ hC7, vp 5 (by decide) _ hC7, z + 102, rfl, hM7.1.1, ?_⟩
    rw [hC7.2.2.2.2, e1, e2, e3, e4, e5]
    exact p_Md_node hM7.1 (by omega) hM7.2.1 hm.1 hM7.2.2.1 hdw hdm hlo (fun _ => lw_xt H hwf (by decide) (tpu_s _ _ _ _) (lw_x1 1) kk) (fun t c ed ex hc _ => (dr_no g ed ex hc (hdw t ed)).elim) (fun t c ed ex hc _ _ => (dr_no g ed ex hc (hdw t ed)).elim) (fun t c ed ex hc _ _ _ => (dr_no g ed ex hc (hdw t ed)).elim) (fun t c ed ex hc _ _ _ _ => (dr_no g ed ex hc (hdw t ed)).elim)
  · have H := lw_excw (k := k) hb hC hm hP hM hB
    obtain ⟨-, hC7, hM7, -⟩ := id H
    refine ⟨hC7.2.2.1, vp 1 (by decide) _ hC7, vp 2 (by decide) _ hC7, vp 3 (by decide) _ hC7, vp 4 (by decide) _ hC7, vp 5 (by decide) _ hC7, z + 102, rfl, hM7.1.1, ?_⟩
    rw [hC7.2.2.2.2, e1, e2, e3, e4, e5]
    have un := fun t' c' ed' ex' hc' => dr_un (t' := t') (r' := c') ed ed' ex ex' hc hc' (hdw t ed)
    refine p_Md_node hM7.1 (by omega) hM7.2.1 hm.1 hM7.2.2.1 hdw hdm hlo (fun g => (dr_no g ed ex hc (hdw t ed)).elim) (fun _ _ _ _ _ _ => lw_xt H hwf (by decide) (tpu_s _ _ _ _) (lw_x1 1) kk) (fun t' c' ed' ex' hc' gp _ => ?_) (fun t' c' ed' ex' hc' gp _ _ => ?_) (fun t' c' ed' ex' hc' gp _ _ _ => ?_) <;>
    · obtain ⟨rfl, rfl⟩ := un t' c' ed' ex' hc'
      exact absurd gp np
  · have H := lw_excw (k := k) hb hC hm hP hM hB
    obtain ⟨-, hC7, hM7, -⟩ := id H
    refine ⟨hC7.2.2.1, vp 1 (by decide) _ hC7, vp 2 (by decide) _ hC7, vp 3 (by decide) _ hC7, vp 4 (by decide) _ hC7, vp 5 (by decide) _ hC7, z + 102, rfl, hM7.1.1, ?_⟩
    rw [hC7.2.2.2.2, e1, e2, e3, e4, e5]
    have un := fun t' c' ed' ex' hc' => dr_un (t' := t') (r' := c') ed ed' ex ex' hc hc' (hdw t ed)
    refine p_Md_node hM7.1 (by omega) hM7.2.1 hm.1 hM7.2.2.1 hdw hdm hlo (fun g => (dr_no g ed ex hc (hdw t ed)).elim) (fun t' c' ed' ex' hc' np => ?_) (fun _ _ _ _ _ _ _ => lw_xt H hwf (by decide) (tpu_s _ _ _ _) (lw_x1 2) kk) (fun _ _ _ _ _ _ g _ => absurd g ng) (fun _ _ _ _ _ _ g _ _ => absurd g ng)
    obtain ⟨rfl, rfl⟩ := un t' c' ed' ex' hc'
    exact absurd gp np
  · have H := lw_excw (k := k) hb hC hm hP hM hB
    obtain ⟨-, hC7, hM7, -⟩ := id H
    refine ⟨hC7.2.2.1, vp 1 (by decide) _ hC7, vp 2 (by decide) _ hC7, vp 3 (by decide) _ hC7, vp 4 (by decide) _ hC7, vp 5 (by decide) _ hC7, z + 102, rfl, hM7.1.1, ?_⟩
    rw [hC7.2.2.2.2, e1, e2, e3, e4, e5]
    have un := fun t' c' ed' ex' hc' => dr_un (t' := t') (r' := c') ed ed' ex ex' hc hc' (hdw t ed)
    refine p_Md_node hM7.1 (by omega) hM7.2.1 hm.1 hM7.2.2.1 hdw hdm hlo (fun g => (dr_no g ed ex hc (hdw t ed)).elim) (fun t' c' ed' ex' hc' np => ?_) (fun _ _ _ _ _ _ g => absurd gd g) (fun _ _ _ _ _ _ _ _ G' k1 k2 => lw_xt H hwf (by decide) k1 (fun c j hc => k2 c j (by omega)) kk) (fun t' c' ed' ex' hc' _ _ h24 hlt => ?_)
    · obtain ⟨rfl, rfl⟩ := un t' c' ed' ex' hc'
      exact absurd gp np
    · obtain ⟨rfl, rfl⟩ := un t' c' ed' ex' hc'
      exact absurd hf (by omega)
  · have ht := hm.2.1 t ed
    have H := lw_deed (k := k) hb hC hm hP hM hB (mIn_mk hm hlt A3 false (trI_node ht hlt A3 A4 hc A2.toInt.toNat)) g1 g2 (fun c hc => g3 c (by omega)) (MiP_kd hP.2.2.2.2.2.2.2.2.2.2.2 (fun t ht m hi => ((hm.2.2.1 t ht).2.1 m hi).1) A3 A5) (nI mk)
    obtain ⟨-, hC7, hM7, -⟩ := id H
    refine ⟨hC7.2.2.1, vp 1 (by decide) _ hC7, vp 2 (by decide) _ hC7, vp 3 (by decide) _ hC7, vp 4 (by decide) _ hC7, vp 5 (by decide) _ hC7, z + 102, rfl, hM7.1.1, ?_⟩
    rw [hC7.2.2.2.2, e1, e2, e3, e4, e5]
    have un := fun t' c' ed' ex' hc' => dr_un (t' := t') (r' := c') ed ed' ex ex' hc hc' (hdw t ed)
    refine p_Md_node hM7.1 (by omega) hM7.2.1 hm.1 hM7.2.2.1 hdw hdm hlo (fun g => (dr_no g ed ex hc (hdw t ed)).elim) (fun t' c' ed' ex' hc' np => ?_) (fun _ _ _ _ _ _ g => absurd gd g) (fun t' c' ed' ex' hc' _ _ hf => ?_) (fun t' c' ed' ex' hc' _ _ _ _ G' k1 k2 k3 k4 => ?_)
    · obtain ⟨rfl, rfl⟩ := un t' c' ed' ex' hc'
      exact absurd gp np
    · obtain ⟨rfl, rfl⟩ := un t' c' ed' ex' hc'
      exact absurd hf (by omega)
    · obtain ⟨rfl, rfl⟩ := un t' c' ed' ex' hc'
      unfold mnTch at k4
      exact lw_tail hM7.1.1 k3 hC7.1 (fun _ => tpu_s _ _ _ _) (kk _ (lw_fin H (fun c j hc => k4 c j (by omega)) (stM_dr hM7 (by omega) hwf (fun c j hc => k4 c j (by unfold mdTu at hc; omega)) k1 k2)))

end CASE2
