section STEP
def noP (h : tpH) (p : Nat) : Prop := ∀ j, j < 3 → hI h (p + 68) j = -1
def stP (h : tpH) (x p D mk : Nat) (kd idn : Nat → Int32) (dr : Option mT) (r : mRe) (n : Nat) : Prop :=
  lTP h x p ∧ MaP (hI h) p mk kd idn ∧ DrP (hI h) p dr ∧ noP h p ∧ reP h x p D kd idn r n
def stM (h : tpH) (Q q mk : Nat) (kd idn : Nat → Int32) (dr : Option mT) (r : mRe) : Prop :=
  lMd h Q q ∧ MaM (hI h) Q q mk kd idn ∧ DrM (hI h) Q q dr ∧ reM (hI h) Q q r
theorem MaP_k {F G : Nat → Nat → Int32} {p mk : Nat} {kd idn : Nat → Int32} (H : MaP F p mk kd idn) (hk : ∀ b, p ≤ b → b < p + 5 → G b = F b) : MaP G p mk kd idn := by
  unfold MaP
  rw [hk p (by omega) (by omega), hk (p + 2) (by omega) (by omega), hk (p + 4) (by omega) (by omega)]
  exact H
theorem stP_oth {h h' : tpH} {x p D mk n : Nat} {kd idn : Nat → Int32} {dr : Option mT} {r : mRe} {T U : Nat → Nat → Prop} (H : stP h x p D mk kd idn dr r n) (hxp : x < p) (hpD : p + 101 ≤ D) (hDz : D ≤ hZ h) (a : hFr h h' T U) (nT : ∀ b j, T b j → p + 101 ≤ b ∧ b < D) (nU : ∀ b j, U b j → p + 101 ≤ b ∧ b < D) : stP h' x p D mk kd idn dr r n := by
  obtain ⟨H1, H2, H3, H4, H5⟩ := H
  have eI : ∀ b, b < p + 101 → hI h' b = hI h b := fun b hb => funext fun j => (a.2 b (by omega)).2.2.2.2.1 j (fun g => by have := nT _ _ g; omega)
  exact ⟨lTP_hFr H1 hxp (by omega) a (fun b j hb g => by have := nU _ _ g; omega), MaP_k H2 (fun b b1 b2 => eI b (by omega)), DrP_k H3 (fun b b1 b2 => eI b (by omega)), fun j hj => by rw [eI (p + 68) (by omega)]; exact H4 j hj,
    reP_fr H5 hxp hpD hDz a (fun b j g => by have := nT _ _ g; omega) (fun b j g => by have := nU _ _ g; omega)⟩
theorem stM_cl {h h' : tpH} {Q q mk : Nat} {kd idn : Nat → Int32} {dr : Option mT} {r : mRe} (H : stM h Q q mk kd idn dr r) (hw : ∀ (i : Nat) (t : mT), r.1[i]? = some t → tWF 300 t) (k : ∀ b, b = Q ∨ (q ≤ b ∧ b < q + 46) → hSm h h' b) : stM h' Q q mk kd idn dr r := by
  obtain ⟨H1, H2, H3, H4⟩ := H
  have eI : ∀ b, b = Q ∨ (q ≤ b ∧ b < q + 46) → hI h' b = hI h b := fun b hb => (k b hb).2.2.2.1
  have eQ := eI Q (Or.inl rfl)
  exact ⟨lMd_k H1 (k Q (Or.inl rfl)) (fun b b1 b2 => k b (Or.inr ⟨b1, b2⟩)), MaM_fr H2 (by rw [eQ]) (fun b hb => eI b (by omega)), DrM_fr H3 (by rw [eQ]) (fun b b1 b2 => eI b (by omega)), reM_fr H4 hw (fun j _ => by rw [eQ]) (fun j _ => by rw [eI (q + 2) (by omega)]) (fun b b1 b2 j _ => by rw [eI b (by omega)]) (fun b b1 b2 => eI b (by omega))⟩
/-! the law's own cells, and what holds at the head of its loop -/
def lwC (b L z : Nat) (xs : Nat → Int32) (h : tpH) : Prop := (hT h (z + 149) = 17 ∧ hL h (z + 149) = 1) ∧ (hT h (z + 150) = 18 ∧ hL h (z + 150) = 1) ∧ (hT h b = 22 ∧ hL h b = L ∧ hI h b = xs)
def lwB (z k n : Nat) (h : tpH) : Prop := n ≤ 184001 ∧ z + 151 ≤ hZ h ∧ hZ h ≤ z + 151 + 400 * k + n ∧ hU h ≤ 293673 + 3000 * k + 4 * n
def lwI (b L z : Nat) (xs : Nat → Int32) (k : Nat) (h : tpH) : Prop := b < z ∧ lwC b L z xs h ∧ ∃ (mk : Nat) (kd idn : Nat → Int32) (rt : Nat → Bool) (dr : Option mT) (r : mRe) (n : Nat),
  mIn mk kd rt dr r ∧ stP h z (z + 1) (z + 151) mk kd idn dr r n ∧ stM h (z + 102) (z + 103) mk kd idn dr r ∧ lwB z k n h
/-- between the two calls: the one side has answered, the other not yet -/
def lwM (b L z : Nat) (xs : Nat → Int32) (k : Nat) (h : tpH) (mk : Nat) (kd idn : Nat → Int32) (dr : Option mT) (r : mRe) (mk' : Nat) (kd' idn' : Nat → Int32) (dr' : Option mT) (r' : mRe) : Prop :=
  b < z ∧ lwC b L z xs h ∧ stM h (z + 102) (z + 103) mk kd idn dr r ∧ ∃ (rt : Nat → Bool) (n : Nat), mIn mk' kd' rt dr' r' ∧ stP h z (z + 1) (z + 151) mk' kd' idn' dr' r' n ∧ lwB z (k + 1) n h
theorem mIn_wf {mk : Nat} {kd : Nat → Int32} {rt : Nat → Bool} {dr : Option mT} {r : mRe} (H : mIn mk kd rt dr r) : ∀ (i : Nat) (t : mT), r.1[i]? = some t → tWF 300 t := fun i t hi => (H.2.2.1 t (List.mem_of_getElem? hi)).1
theorem lwC_fr {b L z : Nat} {xs : Nat → Int32} {h h' : tpH} {T U : Nat → Nat → Prop} (H : lwC b L z xs h) (hb : b < z) (hz : z + 151 ≤ hZ h) (a : hFr h h' T U) (nT : ∀ j, ¬ T b j) : lwC b L z xs h' := by
  obtain ⟨⟨H1, H2⟩, ⟨H3, H4⟩, H5, H6, H7⟩ := H
  have a1 := a.2 (z + 149) (by omega)
  have a2 := a.2 (z + 150) (by omega)
  have a3 := a.2 b (by omega)
  exact ⟨⟨a1.1.trans H1, a1.2.1.trans H2⟩, ⟨a2.1.trans H3, a2.2.1.trans H4⟩, a3.1.trans H5, a3.2.1.trans H6, (funext fun j => a3.2.2.2.2.1 j (nT j)).trans H7⟩
theorem hFr_nC (h : tpH) (k n m : Nat) (T U : Nat → Nat → Prop) : hFr h (nC h k n m) T U := hFr_sm (Nat.le_succ _) (fun b hb => hSm_nC h k n m b hb) T U
theorem lw_ar1 {Z Z' z k n g : Nat} (B : Z ≤ z + 151 + 400 * k + n) (B' : Z' ≤ Z + 400 + g) : Z' ≤ z + 151 + 400 * (k + 1) + (n + g) := by
  rw [Nat.mul_succ]
  generalize 400 * k = K at B ⊢
  generalize hc : 400 = c at B' ⊢
  generalize z + 151 = y at B ⊢
  clear hc
  omega
theorem lw_ar2 {U U' k n g : Nat} (B : U ≤ 293673 + 3000 * k + 4 * n) (B' : U' ≤ U + 3000 + 4 * g) : U' ≤ 293673 + 3000 * (k + 1) + 4 * (n + g) := by
  rw [Nat.mul_succ, Nat.mul_add]
  generalize 3000 * k = K at B ⊢
  generalize 4 * g = g4 at B' ⊢
  generalize 4 * n = n4 at B ⊢
  generalize hc : 3000 = c at B' ⊢
  generalize hd : 293673 = d at B ⊢
  clear hc hd
  omega
/-- the one side's deed -/
theorem lw_cls {b L z k : Nat} {xs : Nat → Int32} {h h' : tpH} {mk : Nat} {kd idn : Nat → Int32} {rt : Nat → Bool} {dr : Option mT} {r : mRe} {n : Nat} (hb : b < z) (hC : lwC b L z xs h) (hm : mIn mk kd rt dr r) (hM : stM h (z + 102) (z + 103) mk kd idn dr r) (hB : lwB z k n h)
    {T U : Nat → Nat → Prop} (a : hFr h h' T U) (nT : ∀ c j, T c j → z ≤ c ∧ (c < z + 102 ∨ z + 151 ≤ c)) (nU : ∀ c j, U c j → z ≤ c ∧ (c < z + 102 ∨ z + 151 ≤ c)) {mk' : Nat} {kd' idn' : Nat → Int32} {rt' : Nat → Bool} {dr' : Option mT} {r' : mRe} {n' : Nat}
    (hm' : mIn mk' kd' rt' dr' r') (hP' : stP h' z (z + 1) (z + 151) mk' kd' idn' dr' r' n') (hn : n ≤ n' ∧ n' ≤ 184001) (z' : hZ h' ≤ hZ h + 400 + (n' - n)) (u' : hU h' ≤ hU h + 3000 + 4 * (n' - n)) : lwM b L z xs k h' mk kd idn dr r mk' kd' idn' dr' r' := by
  obtain ⟨B1, B2, B3, B4⟩ := hB
  have a0 := a.1
  obtain ⟨g, hg⟩ : ∃ g, n' = n + g := ⟨n' - n, by omega⟩
  have eg : n' - n = g := by omega
  rw [eg] at z' u'
  have b2 : z + 151 ≤ hZ h' := Nat.le_trans B2 a0
  rw [hg] at hn
  have b3 := lw_ar1 B3 z'
  have b4 := lw_ar2 B4 u'
  refine ⟨hb, lwC_fr hC hb B2 a (fun j g => by have := nT _ _ g; omega), stM_cl hM (mIn_wf hm) (fun c hc => hFr_sS a (by omega) (fun j g => by have := nT _ _ g; omega) (fun j g => by have := nU _ _ g; omega)), rt', n + g, hm', by rw [← hg]; exact hP', hn.2, b2, b3, b4⟩
theorem lw_sJ {b L z k : Nat} {xs : Nat → Int32} {h : tpH} {mk : Nat} {kd idn : Nat → Int32} {dr : Option mT} {r : mRe} {mk' : Nat} {kd' idn' : Nat → Int32} {dr' : Option mT} {r' : mRe} (H : lwM b L z xs k h mk kd idn dr r mk' kd' idn' dr' r') (a j : Nat) (v : Int64) : lwM b L z xs k (sJ h a j v) mk kd idn dr r mk' kd' idn' dr' r' := H
/-- the one side threw -/
theorem lw_exc {b L z k : Nat} {xs : Nat → Int32} {h : tpH} {mk : Nat} {kd idn : Nat → Int32} {rt : Nat → Bool} {dr : Option mT} {r : mRe} {n : Nat} (hb : b < z) (hC : lwC b L z xs h) (hm : mIn mk kd rt dr r) (hP : stP h z (z + 1) (z + 151) mk kd idn dr r n) (hM : stM h (z + 102) (z + 103) mk kd idn dr r) (hB : lwB z k n h) : lwM b L z xs k (nC h 0 0 6) mk kd idn dr r mk kd idn dr r := by
  have f := hFr_nC h 0 0 6 (fun _ _ => False) (fun _ _ => False)
  have hZ1 : hZ (nC h 0 0 6) = hZ h + 1 := rfl
  have hU1 : hU (nC h 0 0 6) = hU h + 6 := rfl
  exact lw_cls hb hC hm hM hB f (fun _ _ g => g.elim) (fun _ _ g => g.elim) hm (stP_oth hP (by omega) (by omega) hB.2.1 f (fun _ _ g => g.elim) (fun _ _ g => g.elim)) ⟨Nat.le_refl _, hB.1⟩ (by omega) (by omega)
/-- the other side has answered too -/
theorem lw_fin {b L z k : Nat} {xs : Nat → Int32} {h : tpH} {mk : Nat} {kd idn : Nat → Int32} {dr : Option mT} {r : mRe} {mk' : Nat} {kd' idn' : Nat → Int32} {dr' : Option mT} {r' : mRe} (H : lwM b L z xs k h mk kd idn dr r mk' kd' idn' dr' r') {G : Nat → Nat → Int32} (fr : ∀ c j, ¬ (z + 102 ≤ c ∧ c < z + 149) → G c j = hI h c j) (hM' : stM (wI h G) (z + 102) (z + 103) mk' kd' idn' dr' r') : lwI b L z xs (k + 1) (wI h G) := by
  obtain ⟨hb, hC, hM, rt, n, hm, hP, hB⟩ := H
  have f : hFr h (wI h G) (fun c _ => z + 102 ≤ c ∧ c < z + 149) (fun _ _ => False) := hFr_w h _ fr
  exact ⟨hb, lwC_fr hC hb hB.2.1 f (fun j g => by omega), mk', kd', idn', rt, dr', r', n, hm, stP_oth hP (by omega) (by omega) hB.2.1 f (fun c j g => by omega) (fun c j g => g.elim), hM', hB⟩
theorem lw_tail {Q O : Nat} {v8 v17 : Int32} {h : tpH} {K R0 : tpH → Prop} (T : hT h Q = 14) (hc : hI h Q 31 = v8) (hO : hT h O = 17 ∧ hL h O = 1) (hv : v8 = 0 → hJ h O 0 = v17.toInt64) (k : K h) : hT h Q = 14 ∧ (w_Md_thrown Q h (fun v20 h19 => (v20 = v8 → ((¬ v8 = 0 → (K h19)) ∧ (v8 = 0 → (∃ a23, some O = some a23 ∧ hT h19 a23 = 17 ∧ (vp_in (0 : Int32) (hL h19 a23) ∧ (((lg_cmp (hJ h19 a23 (0 : Int32).toNatClampNeg) (v17.toInt64)) = 0 → (K h19)) ∧ (¬ (lg_cmp (hJ h19 a23 (0 : Int32).toNatClampNeg) (v17.toInt64)) = 0 → (R0 h19)))))))) ∧ (¬ v20 = v8 → (R0 h19)))) := by
  refine ⟨T, T, fun _ => ⟨fun _ => k, fun e => ⟨O, rfl, hO.1, by rw [hO.2]; exact vp_in_nI (n := 0) (by decide) (by decide), fun _ => k, fun g => ?_⟩⟩, fun g => absurd hc g⟩
  refine absurd ?_ g
  have e2 : hJ h O (0 : Int32).toNatClampNeg = v17.toInt64 := hv e
  rw [e2]
  unfold lg_cmp
  simp
theorem lw_vp {h : tpH} {b L k j : Nat} (hL0 : L ≤ 3072) (hl : hL h b = L) (h6 : 6 * k + 6 ≤ L) (hj : j < 6) : vp_in (nI (6 * k) + nI j) (hL h b) := by
  rw [nI_add, hl]
  exact vp_in_nI (by omega) (by omega)
theorem lw_put {O : Nat} {h : tpH} {v : Int32} {R : tpH → Prop} (hO : hT h O = 17 ∧ hL h O = 1) (k : R (sJ h O 0 v.toInt64)) : ∃ a7, some O = some a7 ∧ hT h a7 = 17 ∧ (vp_in (0 : Int32) (hL h a7) ∧ (∀ h11, h11 = sJ h a7 (0 : Int32).toNatClampNeg (v.toInt64) → (R h11))) :=
  ⟨O, rfl, hO.1, by rw [hO.2]; exact vp_in_nI (n := 0) (by decide) (by decide), fun h11 e => by rw [e]; exact k⟩
/-- nothing but the code has changed on the other side -/
theorem stM_31 {h : tpH} {Q q mk : Nat} {kd idn : Nat → Int32} {dr : Option mT} {r : mRe} (H : stM h Q q mk kd idn dr r) (hQ : Q < q) (hw : ∀ (i : Nat) (t : mT), r.1[i]? = some t → tWF 300 t) {G : Nat → Nat → Int32} (fr : ∀ b j, ¬ ((b = Q ∧ j = 31) ∨ (q + 24 ≤ b ∧ b < q + 46)) → G b j = hI h b j) : stM (wI h G) Q q mk kd idn dr r := by
  obtain ⟨H1, H2, H3, H4⟩ := H
  have eI : ∀ b, b ≠ Q → (b < q + 24) → G b = hI h b := fun b hb hc => funext fun j => fr b j (by omega)
  exact ⟨H1, MaM_fr H2 (fr _ _ (by omega)) (fun b hb => eI b (by omega) (by omega)), DrM_fr H3 (fr _ _ (by omega)) (fun b b1 b2 => eI b (by omega) (by omega)), reM_fr H4 hw (fun j _ => fr _ _ (by omega)) (fun j _ => fr _ _ (by omega)) (fun b b1 b2 j _ => fr _ _ (by omega)) (fun b b1 b2 => eI b (by omega) (by omega))⟩
end STEP
