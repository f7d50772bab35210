section CASE1
theorem trI_mk {mk : Nat} {kd : Nat → Int32} {rt : Nat → Bool} {t : mT} (H : trI mk kd rt t) (k : Int32) (c : Bool) : trI (mk + 1) (mU kd mk k) (mU rt mk c) t := by
  have ne : ∀ m, tIn t m = true → m ≠ mk := fun m hi => Nat.ne_of_lt (H.2.1 m hi).1
  refine ⟨H.1, fun m hi => ⟨Nat.lt_succ_of_lt (H.2.1 m hi).1, by rw [mU_n _ _ (ne m hi)]; exact (H.2.1 m hi).2⟩, fun p hp hl => H.2.2 p hp ?_⟩
  unfold loK at hl ⊢
  rw [mU_n _ _ (ne p hp)] at hl
  exact hl
theorem spI_mk {mk : Nat} {s : mSp} (H : spI mk s) : spI (mk + 1) s := ⟨fun m e => Nat.lt_succ_of_lt (H.1 m e), fun m e => Nat.lt_succ_of_lt (H.2.1 m e), fun m e => Nat.lt_succ_of_lt (H.2.2 m e)⟩
theorem stpI_mk {mk : Nat} {rt : Nat → Bool} {e : mSt} (H : stpI mk rt e) (c : Bool) : stpI (mk + 1) (mU rt mk c) e :=
  ⟨H.1, Nat.lt_succ_of_lt H.2.1, fun g => by rw [mU_n _ _ (Nat.ne_of_lt H.2.1)]; exact H.2.2.1 g, spI_mk H.2.2.2.1, spI_mk H.2.2.2.2⟩
theorem mIn_mk {mk : Nat} {kd : Nat → Int32} {rt : Nat → Bool} {dr : Option mT} {r : mRe} (H : mIn mk kd rt dr r) (hlt : mk < 300) (k : Int32) (c : Bool) {t : mT} (ht : trI (mk + 1) (mU kd mk k) (mU rt mk c) t) : mIn (mk + 1) (mU kd mk k) (mU rt mk c) (some t) r :=
  ⟨hlt, fun u hu => by rw [← Option.some.inj hu]; exact ht, fun u hu => trI_mk (H.2.2.1 u hu) k c, fun s hs => ⟨(H.2.2.2.1 s hs).1, fun e he => stpI_mk ((H.2.2.2.1 s hs).2 e he) c⟩, H.2.2.2.2⟩
theorem mIn_dr {mk : Nat} {kd : Nat → Int32} {rt : Nat → Bool} {dr : Option mT} {r : mRe} (H : mIn mk kd rt dr r) {t : mT} (ht : trI mk kd rt t) : mIn mk kd rt (some t) r :=
  ⟨H.1, fun u hu => by rw [← Option.some.inj hu]; exact ht, H.2.2⟩
theorem stP_dr {h : tpH} {x p D mk n : Nat} {kd idn : Nat → Int32} {dr : Option mT} {r : mRe} (H : stP h x p D mk kd idn dr r n) (hxp : x < p) (hpD : p + 101 ≤ D) (hDz : D ≤ hZ h) {G : Nat → Nat → Int32} (fr : ∀ b, b < p ∨ p + 20 ≤ b → G b = hI h b) {mk' : Nat} {kd' idn' : Nat → Int32} {dr' : Option mT} (hM : MaP G p mk' kd' idn') (hD : DrP G p dr')
    (mi : MiP h p kd' idn' r.1) : stP (wI h G) x p D mk' kd' idn' dr' r n ∧ hFr h (wI h G) (fun b _ => p ≤ b ∧ b < p + 20) (fun _ _ => False) := by
  have f : hFr h (wI h G) (fun b _ => p ≤ b ∧ b < p + 20) (fun _ _ => False) := hFr_w h _ (fun b j hb => by rw [fr b (by omega)])
  obtain ⟨H1, H2, H3, H4, H5, H6, H7, H8, H9, H10, H11, H12⟩ := H
  exact ⟨⟨H1, hM, hD, fun j hj => by rw [wI_I, fr (p + 68) (by omega)]; exact H4 j hj, reP_fr (r := r) ⟨H5, H6, H7, H8, H9, H10, H11, mi⟩ hxp hpD hDz f (fun b j g => by omega) (fun b j g => g.elim)⟩, f⟩
/-- where the calls that change the draft write on the other side -/
def mdTu (Q q b j : Nat) : Prop := (b = Q ∧ (j = 0 ∨ j = 4 ∨ j = 31)) ∨ b = q ∨ b = q + 1 ∨ (b = q + 2 ∧ 40 ≤ j) ∨ (q + 3 ≤ b ∧ b ≤ q + 6 ∧ 12000 ≤ j) ∨ (q + 24 ≤ b ∧ b < q + 46)
theorem stM_dr {h : tpH} {Q q mk : Nat} {kd idn : Nat → Int32} {dr : Option mT} {r : mRe} (H : stM h Q q mk kd idn dr r) (hQ : Q < q) (hw : ∀ (i : Nat) (t : mT), r.1[i]? = some t → tWF 300 t) {G : Nat → Nat → Int32} (fr : ∀ b j, ¬ mdTu Q q b j → G b j = hI h b j) {mk' : Nat} {kd' idn' : Nat → Int32} {dr' : Option mT} (hM : MaM G Q q mk' kd' idn') (hD : DrM G Q q dr') : stM (wI h G) Q q mk' kd' idn' dr' r := by
  obtain ⟨H1, H2, H3, H4⟩ := H
  unfold mdTu at fr
  exact ⟨H1, hM, hD, reM_fr H4 hw (fun j _ => fr _ _ (by omega)) (fun j _ => fr _ _ (by omega)) (fun b b1 b2 j _ => fr _ _ (by omega)) (fun b b1 b2 => funext fun j => fr _ _ (by omega))⟩
theorem mIn_dw {mk : Nat} {kd : Nat → Int32} {rt : Nat → Bool} {dr : Option mT} {r : mRe} (H : mIn mk kd rt dr r) : (∀ t, dr = some t → tWF 300 t) ∧ (∀ t, dr = some t → ∀ m, tIn t m = true → m < mk) :=
  ⟨fun t e => (H.2.1 t e).1, fun t e m hi => ((H.2.1 t e).2.1 m hi).1⟩
theorem lw_excw {b L z k : Nat} {xs : Nat → Int32} {h : tpH} {mk : Nat} {kd idn : Nat → Int32} {rt : Nat → Bool} {dr : Option mT} {r : mRe} {n : Nat} (hb : b < z) (hC : lwC b L z xs h) (hm : mIn mk kd rt dr r) (hP : stP h z (z + 1) (z + 151) mk kd idn dr r n) (hM : stM h (z + 102) (z + 103) mk kd idn dr r) (hB : lwB z k n h) : lwM b L z xs k (nC (wI h (hI h)) 0 0 6) mk kd idn dr r mk kd idn dr r := lw_exc hb hC hm hP hM hB
theorem lw_xt {b L z k : Nat} {xs : Nat → Int32} {h7 : tpH} {mk : Nat} {kd idn : Nat → Int32} {dr : Option mT} {r : mRe} (H : lwM b L z xs k h7 mk kd idn dr r mk kd idn dr r) (hw : ∀ (i : Nat) (t : mT), r.1[i]? = some t → tWF 300 t) {c v17 : Int32} (hc : ¬ c = 0) {G : Nat → Nat → Int32} (g1 : G (z + 102) 31 = c) (g2 : ∀ c j, ¬ ((c = z + 102 ∧ j = 31) ∨ (z + 103 + 24 ≤ c ∧ c < z + 103 + 46)) → G c j = hI h7 c j) {K R0 : tpH → Prop} (kk : ∀ h', lwI b L z xs (k + 1) h' → K h') :
    hT (wI h7 G) (z + 102) = 14 ∧ (w_Md_thrown (z + 102) (wI h7 G) (fun v20 h19 => (v20 = c → ((¬ c = 0 → (K h19)) ∧ (c = 0 → (∃ a23, some (z + 149) = some a23 ∧ hT h19 a23 = 17 ∧ (vp_in (0 : Int32) (hL h19 a23) ∧ (((lg_cmp (hJ h19 a23 (0 : Int32).toNatClampNeg) (v17.toInt64)) = 0 → (K h19)) ∧ (¬ (lg_cmp (hJ h19 a23 (0 : Int32).toNatClampNeg) (v17.toInt64)) = 0 → (R0 h19)))))))) ∧ (¬ v20 = c → (R0 h19)))) :=
  lw_tail H.2.2.1.1.1 g1 H.2.1.1 (fun e => absurd e hc) (kk _ (lw_fin H (fun c j hj => g2 c j (by omega)) (stM_31 H.2.2.1 (by omega) hw g2)))
theorem lw_x1 {h : tpH} {Q q : Nat} (c : Int32) : ∀ b j, ¬ ((b = Q ∧ j = 31) ∨ (q + 24 ≤ b ∧ b < q + 46)) → tpu (hI h) Q 31 c b j = hI h b j := fun b j hb => by
  simp only [tpu]
  rw [if_neg (by omega)]
theorem lw_begin {b L z : Nat} {xs : Nat → Int32} (hL0 : L ≤ 3072) : lwOK (lwI b L z xs) b z (z + 102) (z + 149) (z + 150) L w_Lw_law_204 := by
  intro R K k h I h6 kk
  obtain ⟨hb, hC, mk, kd, idn, rt, dr, r, n, hm, hP, hM, hB⟩ := I
  have vp : ∀ j, j < 6 → ∀ h', lwC b L z xs h' → vp_in (nI (6 * k) + nI j) (hL h' b) := fun j hj h' hC => lw_vp hL0 hC.2.2.2.1 h6 hj
  have hz := hB.2.1
  refine ⟨b, rfl, hC.2.2.1, vp 1 (by decide) h hC, vp 2 (by decide) h hC, vp 3 (by decide) h hC, z, rfl, hP.1.1, ?_⟩
  rw [hC.2.2.2.2]
  generalize e1 : xs (nI (6 * k) + 1).toNatClampNeg = A1
  generalize e2 : xs (nI (6 * k) + 2).toNatClampNeg = A2
  generalize e3 : xs (nI (6 * k) + 3).toNatClampNeg = A3
  refine p_TP_begin hP.1 hP.2.1 hm.1 (fun ng => Or.inl ⟨rfl, ?_⟩) (fun gd e => Or.inr ⟨rfl, ?_⟩) (fun gd hlt G g1 g2 g3 g4 => lw_put hC.1 ?_)
  · have H := lw_excw (k := k) hb hC hm hP hM hB
    obtain ⟨-, hC7, hM7, -⟩ := id H
    refine ⟨hC7.2.2.1, vp 1 (by decide) _ hC7, vp 2 (by decide) _ hC7, vp 3 (by decide) _ hC7, z + 102, rfl, hM7.1.1, ?_⟩
    rw [hC7.2.2.2.2, e1, e2, e3]
    refine p_Md_begin hM7.1 (by omega) hM7.2.1 hm.1 (fun _ => lw_xt H (mIn_wf hm) (by decide) (tpu_s _ _ _ _) (lw_x1 1) kk) (fun g => absurd g ng) (fun g => absurd g ng)
  · have H := lw_excw (k := k) hb hC hm hP hM hB
    obtain ⟨-, hC7, hM7, -⟩ := id H
    refine ⟨hC7.2.2.1, vp 1 (by decide) _ hC7, vp 2 (by decide) _ hC7, vp 3 (by decide) _ hC7, z + 102, rfl, hM7.1.1, ?_⟩
    rw [hC7.2.2.2.2, e1, e2, e3]
    refine p_Md_begin hM7.1 (by omega) hM7.2.1 hm.1 (fun g => absurd gd g) (fun _ _ => lw_xt H (mIn_wf hm) (by decide) (tpu_s _ _ _ _) (lw_x1 2) kk) (fun _ g => absurd e (by omega))
  · obtain ⟨hP7, f7⟩ := stP_dr (dr' := some (tOne mk A2)) hP (by omega) (by omega) hz (fun c hc => g4 c (by omega)) g1 ⟨g2, g3, wOne hlt _⟩ (MiP_kd hP.2.2.2.2.2.2.2.2.2.2.2 (fun t ht m hi => ((hm.2.2.1 t ht).2.1 m hi).1) A1 A3)
    have ht : trI (mk + 1) (mU kd mk A1) (mU rt mk true) (tOne mk A2) := by
      refine ⟨wOne hlt _, fun m hi => ?_, fun p hp hl => ?_⟩
      · have := (tOne_in mk A2 m).mp hi
        subst this
        exact ⟨Nat.lt_succ_self _, by rw [mU_s]; exact ⟨fun _ => rfl, fun _ => rfl⟩⟩
      · have := (tOne_in mk A2 p).mp hp
        subst this
        have e : tKi (tOne p A2) p = [] := mU_s _ _ _
        rw [e]
        exact List.Pairwise.nil
    have H := lw_cls (k := k) hb hC hm hM hB f7 (fun c j g => by omega) (fun c j g => g.elim) (mIn_mk hm hlt A1 true ht) hP7 ⟨Nat.le_refl _, hB.1⟩ (by rw [wI_Z]; omega) (by rw [wI_U]; omega)
    have H := lw_sJ H (z + 149) 0 (nI mk).toInt64
    have H0 := H
    obtain ⟨-, hC7, hM7, -⟩ := H0
    refine ⟨hC7.2.2.1, vp 1 (by decide) _ hC7, vp 2 (by decide) _ hC7, vp 3 (by decide) _ hC7, z + 102, rfl, hM7.1.1, ?_⟩
    rw [hC7.2.2.2.2, e1, e2, e3]
    refine p_Md_begin hM7.1 (by omega) hM7.2.1 hm.1 (fun g => absurd gd g) (fun _ g => absurd g (by omega)) (fun _ _ G' k1 k2 k3 k4 k5 => lw_tail hM7.1.1 k4 hC7.1 (fun _ => tpu_s _ _ _ _) (kk _ (lw_fin H (fun c j hc => k5 c j ?_) (stM_dr hM7 (by omega) (mIn_wf hm) (fun c j hc => k5 c j ?_) k1 ⟨k3, k2⟩))))
    · unfold mdTch; omega
    · unfold mdTch; unfold mdTu at hc; omega
end CASE1
