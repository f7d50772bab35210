section LSTATE
theorem set_code {e : lE} {w : Nat} : nI (lcd e) + (64 : Int32) * (nI w - nI e.2.1) = nI (lcd (e.1, w, e.2.2)) := by
  have e1 : nI (lcd e) = nI (e.1 + 8192 * lpc e.2.2) + (64 : Int32) * nI e.2.1 := by
    rw [show (64 : Int32) = nI 64 from rfl, mI_mul, nI_add]
    congr 1
    unfold lcd
    omega
  have e2 : nI (lcd (e.1, w, e.2.2)) = nI (e.1 + 8192 * lpc e.2.2) + (64 : Int32) * nI w := by
    rw [show (64 : Int32) = nI 64 from rfl, mI_mul, nI_add]
    congr 1
    unfold lcd
    show e.1 + 64 * w + 8192 * lpc e.2.2 = _
    omega
  rw [e1, e2, Int32.mul_sub, Int32.add_assoc]
  congr 1
  rw [Int32.add_comm, Int32.sub_add_cancel]
theorem and_31 (v : Int32) : ∃ Q, Q < 2 ^ 31 ∧ v &&& 2147483647 = nI Q := by
  have h1 : (v &&& 2147483647).toBitVec.toNat ≤ 2147483647 := by
    have : (v &&& 2147483647).toBitVec = v.toBitVec &&& (2147483647 : Int32).toBitVec := rfl
    rw [this, BitVec.toNat_and]
    exact Nat.and_le_right
  have h2 : (v &&& 2147483647).toInt = ((v &&& 2147483647).toBitVec.toNat : Int) := BitVec.toInt_eq_toNat_of_lt (by omega)
  refine ⟨(v &&& 2147483647).toBitVec.toNat, by omega, Int32.toInt_inj.mp ?_⟩
  rw [h2, nI_toInt (by omega)]
/-- the law's own rows and its script -/
def lA (h : tpH) (b L z : Nat) (xs : Nat → Int32) : Prop := (iA h (z + 102) 40 ∧ iA h (z + 103) 2 ∧ iA h (z + 104) 6 ∧ iA h (z + 105) 41 ∧ iA h (z + 106) 41 ∧ iA h (z + 107) 41 ∧ iA h (z + 108) 41) ∧ (b < z ∧ z + 109 ≤ hZ h) ∧ hT h b = 22 ∧ hL h b = L ∧ hI h b = xs
def lC (F : Nat → Nat → Int32) (z mk : Nat) (kd : Nat → Int32) (r : mRe) : Prop := (∀ m, m < mk → F (z + 102) m = kd m) ∧ F (z + 103) 0 = nI mk ∧ F (z + 103) 1 = nI r.1.length ∧ ∀ j, j < 6 → F (z + 104) j = r.2.2.2.1 j
def lD (F : Nat → Nat → Int32) (z : Nat) (lo : Nat → Bool) (T : mT) : Prop := ∃ Lr, rwP F (z + 105) Lr ∧ LT lo Lr T
def lP (mk : Nat) (r : mRe) (T : mT) : Prop := mk ≤ 22 ∧ (∀ U ∈ r.1, tVa U ∧ tRt U = 0) ∧ tVa T ∧ tRt T = 0
def lS (h : tpH) (b L z : Nat) (xs : Nat → Int32) (mk : Nat) (kd idn : Nat → Int32) (rt : Nat → Bool) (T : mT) (r : mRe) (n : Nat) : Prop :=
  cS h z mk kd idn rt (some T) r n ∧ lA h b L z xs ∧ lC (hI h) z mk kd r ∧ lD (hI h) z (loK kd) T ∧ lP mk r T
theorem lA_aFr {h h' : tpH} {b L z : Nat} {xs : Nat → Int32} (H : lA h b L z xs) {TT : Nat → Nat → Prop} {c u : Nat} (f : aFr h h' TT c u) (n : ∀ j, ¬ TT b j) : lA h' b L z xs := by
  obtain ⟨⟨h1, h2, h3, h4, h5, h6, h7⟩, ⟨h8, h9⟩, h10, h11, h12⟩ := H
  have zz := f.1.1
  exact ⟨⟨aFr_iA f (by omega) h1, aFr_iA f (by omega) h2, aFr_iA f (by omega) h3, aFr_iA f (by omega) h4, aFr_iA f (by omega) h5, aFr_iA f (by omega) h6, aFr_iA f (by omega) h7⟩, ⟨h8, by omega⟩, ((f.1.2 b (by omega)).1).trans h10, ((f.1.2 b (by omega)).2.1).trans h11, (aFr_I f (by omega) n).trans h12⟩
theorem lA_w {h : tpH} {b L z : Nat} {xs : Nat → Int32} (H : lA h b L z xs) {G : Nat → Nat → Int32} (g : G b = hI h b) : lA (wI h G) b L z xs := ⟨H.1, H.2.1, H.2.2.1, H.2.2.2.1, g.trans H.2.2.2.2⟩
theorem lC_k {F G : Nat → Nat → Int32} {z mk : Nat} {kd : Nat → Int32} {r : mRe} (H : lC F z mk kd r) (k2 : G (z + 102) = F (z + 102)) (k3 : G (z + 103) = F (z + 103)) (k4 : G (z + 104) = F (z + 104)) : lC G z mk kd r := by
  unfold lC
  rw [k2, k3, k4]
  exact H
theorem lD_k {F G : Nat → Nat → Int32} {z : Nat} {lo : Nat → Bool} {T : mT} (H : lD F z lo T) (k : G (z + 105) = F (z + 105)) : lD G z lo T := by
  obtain ⟨Lr, h1, h2⟩ := H
  exact ⟨Lr, rwP_k h1 k, h2⟩
/-- the law's state over frames that touch nothing of it but the rows of trees read -/
theorem lS_aFr {h h' : tpH} {b L z mk n : Nat} {xs kd idn : Nat → Int32} {rt : Nat → Bool} {T : mT} {r : mRe} (H : lS h b L z xs mk kd idn rt T r n) {TT : Nat → Nat → Prop} {c u : Nat} (f : aFr h h' TT c u) (hT1 : ∀ x j, x < hZ h → TT x j → z + 106 ≤ x ∧ x < z + 109) : lS h' b L z xs mk kd idn rt T r n := by
  obtain ⟨h1, h2, h3, h4, h5⟩ := H
  have zz := h2.2.1.2
  have bz := h2.2.1.1
  have nt : ∀ x, (x = b ∨ x = z + 102 ∨ x = z + 103 ∨ x = z + 104 ∨ x = z + 105) → ∀ j, ¬ TT x j := fun x hx j q => by have := hT1 x j (by omega) q; omega
  exact ⟨cS_aFr h1 f (fun x j hx q => by have := hT1 x j hx q; omega), lA_aFr h2 f (nt b (by omega)), lC_k h3 (aFr_I f (by omega) (nt _ (by omega))) (aFr_I f (by omega) (nt _ (by omega))) (aFr_I f (by omega) (nt _ (by omega))), lD_k h4 (aFr_I f (by omega) (nt _ (by omega))), h5⟩
theorem tVa_in {T : mT} (hv : tVa T) {m : Nat} (hm : tIn T m = true) : ∃ v, v < 100 ∧ tWo T m = nI v := hv m hm
theorem lS_mk {h : tpH} {b L z mk n : Nat} {xs kd idn : Nat → Int32} {rt : Nat → Bool} {T : mT} {r : mRe} (H : lS h b L z xs mk kd idn rt T r n) : trI mk kd rt T ∧ tWF 300 T ∧ (∀ m, tIn T m = true → m < mk) ∧ tLo (loK kd) T := by
  have := H.1.1.2.1 T rfl
  exact ⟨this, this.1, fun m hm => (this.2.1 m hm).1, this.2.2⟩
theorem kd_lo {h : tpH} {b L z mk n : Nat} {xs kd idn : Nat → Int32} {rt : Nat → Bool} {T : mT} {r : mRe} (H : lS h b L z xs mk kd idn rt T r n) {m : Nat} (hm : m < mk) : hI h (z + 102) m ≤ 3 ↔ loK kd m = false := by
  rw [H.2.2.1.1 m hm, ← loK_iff]
  rw [Int32.le_iff_toInt_le, Int32.lt_iff_toInt_lt]
  have h3 : (3 : Int32).toInt = 3 := rfl
  have h4 : (4 : Int32).toInt = 4 := rfl
  rw [h3, h4]
  omega
/-- what a change says of the state behind it -/
def chK (b L z : Nat) (xs : Nat → Int32) (r : mRe) (n : Nat) (h : tpH) (h' : tpH) : Prop := (∃ mk kd idn rt T, lS h' b L z xs mk kd idn rt T r n) ∧ hZ h ≤ hZ h' ∧ hZ h' ≤ hZ h + 3 ∧ hU h' ≤ hU h + 86
/-- v is set -/
theorem p_chSet {h : tpH} {b L z mk n : Nat} {xs kd idn : Nat → Int32} {rt : Nat → Bool} {T : mT} {r : mRe} (H : lS h b L z xs mk kd idn rt T r n) {m w : Nat} (hm : tIn T m = true) (hw100 : w < 100) {R : Int32 → tpH → Prop}
    (kk : ∀ h', chK b L z xs r n h h' → R 1 h') : w_Lw_valueOf (some (z + 105)) (nI m) h (fun v13 h12 => w_Lw_place (some (z + 105)) (nI m) h12 (fun v15 h14 => ∃ a16, some (z + 105) = some a16 ∧ hT h14 a16 = 15 ∧ (vp_in ((1 : Int32) + v15) (hL h14 a16) ∧ (vp_in ((1 : Int32) + v15) (hL h14 a16) ∧ (∀ h21, h21 = sI h14 a16 ((1 : Int32) + v15).toNatClampNeg ((hI h14 a16 ((1 : Int32) + v15).toNatClampNeg) + ((64 : Int32) * (nI w - v13))) → (w_Lw_does (some z) (3 : Int32) (nI m) (nI w) (0 : Int32) h21 (fun v24 h23 => (¬ v24 = v13 → (R (0 : Int32) h23)) ∧ (v24 = v13 → (R (1 : Int32) h23))))))))) := by
  obtain ⟨h1, h2, h3, h4, h5⟩ := id H
  obtain ⟨ht, hwf, htm, htl⟩ := lS_mk H
  obtain ⟨Lr, P, LTt⟩ := h4
  obtain ⟨⟨a2, a3, a4, a5, a6, a7, a8⟩, ⟨bz, zz⟩, -, -, -⟩ := id h2
  have mk22 := h5.1
  have hm22 := htm m hm
  refine p_vOf a5 P LTt.2.1 (by omega) (p_place a5 P (by omega) (fun i e hi he => ?_) (fun nn => ?_))
  · have hem := List.mem_of_getElem? hi
    have hil := (List.getElem?_eq_some_iff.mp hi).1
    have l40 := P.2.1
    have hOK := P.2.2.1 e hem
    have ev : tWo T m = nI e.2.1 := by rw [← he]; exact (LTt.2.1.2 e hem).1
    rw [rVa_1 hm, ev]
    have e1 : (1 : Int32) + nI i = nI (1 + i) := nI_add 1 i
    have vp : vp_in ((1 : Int32) + nI i) (hL h (z + 105)) := by rw [e1, a5.2]; exact vp_in_nI (by omega) (by decide)
    refine ⟨z + 105, rfl, a5.1, vp, vp, fun h21 e21 => ?_⟩
    rw [e1, nI_clamp (by omega), P.2.2.2 i e hi, set_code, sI_wI] at e21
    subst e21
    obtain ⟨A, B, hAB, hA⟩ := at_split hi
    subst hAB
    have lok : lOK (e.1, w, e.2.2) := ⟨hOK.1, by show w < 128; omega, hOK.2.2⟩
    have P1 := rwP_put P lok
    rw [hA] at P1
    have L1 := LT_set (lo := loK kd) LTt (w := w)
    rw [he] at L1
    generalize hG : tpu (hI h) (z + 105) (1 + i) (nI (lcd (e.1, w, e.2.2))) = G1 at P1 ⊢
    have kG : ∀ x, x ≠ z + 105 → G1 x = hI h x := fun x hx => by rw [← hG]; exact tpu_ne hx
    have c1 : cS (wI h G1) z mk kd idn rt (some T) r n := cS_aFr h1 (aFr_w (h := h) (F := hI h) (G := G1) (T := fun x _ => x = z + 105) (fun x j hx => by rw [kG x hx])) (fun x j hx q => by omega)
    have tw : (nI w).toInt = (w : Int) := nI_toInt (by omega)
    refine p_does3 ⟨c1.2.1.1.1, c_set c1 hm (by rw [tw]; omega) (fun G2 g1 g2 => ?_)⟩
    rw [ev]
    refine ⟨fun q => absurd rfl q, fun _ => kk _ ⟨⟨mk, kd, idn, rt, tSet T m (nI w), g2, ?_, ?_, ?_, h5.1, h5.2.1, ?_, h5.2.2.2⟩, Nat.le_refl _, Nat.le_succ_of_le (Nat.le_succ_of_le (Nat.le_succ _)), Nat.le_add_right _ _⟩⟩
    · exact lA_w (lA_w h2 (kG b (by omega))) (g1 b (by omega))
    · exact lC_k h3 ((g1 _ (by omega)).trans (kG _ (by omega))) ((g1 _ (by omega)).trans (kG _ (by omega))) ((g1 _ (by omega)).trans (kG _ (by omega)))
    · exact ⟨_, rwP_k P1 (g1 (z + 105) (by omega)), (by rw [he]; exact L1)⟩
    · intro x hx
      show ∃ v, v < 100 ∧ mU (tWo T) m (nI w) x = nI v
      by_cases c : x = m
      · rw [c, mU_s]; exact ⟨w, hw100, rfl⟩
      · rw [mU_n _ _ c]; exact h5.2.2.1 x hx
  · obtain ⟨e, e1, e2⟩ := (LTt.2.1.1 m).mp hm
    exact absurd e2 (nn e e1)
end LSTATE
