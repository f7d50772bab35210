section LAWLOOP
def lB_ (h : tpH) (z k len n : Nat) : Prop := hZ h ≤ z + 109 + 30 * k + 3500 * len + n ∧ hU h ≤ 14000 + 600 * k + 141700 * len + 4 * n
def lI (b L z : Nat) (xs : Nat → Int32) (k : Nat) (h : tpH) : Prop := ∃ mk kd idn rt T r n, lS h b L z xs mk kd idn rt T r n ∧ r.1.length ≤ 38 ∧ lB_ h z k r.1.length n
theorem lA_sm {h h' : tpH} {b L z : Nat} {xs : Nat → Int32} (H : lA h b L z xs) (s1 : ∀ b, z + 102 ≤ b → b < z + 109 → hSm h h' b) (s2 : ∀ b, b < hZ h → b < z → hSm h h' b) (hz : hZ h ≤ hZ h') : lA h' b L z xs := by
  obtain ⟨⟨h1, h2, h3, h4, h5, h6, h7⟩, ⟨h8, h9⟩, h10, h11, h12⟩ := H
  have q : ∀ x m, z + 102 ≤ x → x < z + 109 → iA h x m → iA h' x m := fun x m x1 x2 w => ⟨((s1 x x1 x2).1).trans w.1, ((s1 x x1 x2).2.1).trans w.2⟩
  have sb := s2 b (by omega) h8
  exact ⟨⟨q _ _ (by omega) (by omega) h1, q _ _ (by omega) (by omega) h2, q _ _ (by omega) (by omega) h3, q _ _ (by omega) (by omega) h4, q _ _ (by omega) (by omega) h5, q _ _ (by omega) (by omega) h6, q _ _ (by omega) (by omega) h7⟩, ⟨h8, by omega⟩, sb.1.trans h10, sb.2.1.trans h11, sb.2.2.2.1.trans h12⟩
theorem lS_len {h : tpH} {b L z mk n : Nat} {xs kd idn : Nat → Int32} {rt : Nat → Bool} {T : mT} {r : mRe} (H : lS h b L z xs mk kd idn rt T r n) : r.1.length ≤ 40 := H.1.2.1.2.2.2.2.1.2.1
/-- one tree more: the law counts it -/
theorem lS_app {h : tpH} {b L z mk n : Nat} {xs kd idn : Nat → Int32} {rt : Nat → Bool} {T U : mT} {r r' : mRe} (H1 : cS h z mk kd idn rt (some T) r' n) (H2 : lA h b L z xs) (H3 : lC (hI h) z mk kd r) (H4 : lD (hI h) z (loK kd) T) (H5 : lP mk r T) (e1 : r'.1 = r.1 ++ [U]) (e2 : r'.2.2.2.1 = r.2.2.2.1) (hUv : tVa U ∧ tRt U = 0) : lS (wI h (tpu (hI h) (z + 103) 1 (nI r.1.length + 1))) b L z xs mk kd idn rt T r' n := by
  have kI : ∀ x, x ≠ z + 103 → tpu (hI h) (z + 103) 1 (nI r.1.length + 1) x = hI h x := fun x hx => tpu_ne hx
  have bz := H2.2.1.1
  refine ⟨cS_aFr H1 (aFr_w (h := h) (F := hI h) (T := fun x _ => x = z + 103) (fun x j hx => by rw [kI x hx])) (fun x j hx q => by omega), lA_w H2 (kI b (by omega)), ⟨fun m hm => ?_, ?_, ?_, fun j hj => ?_⟩, lD_k H4 (kI _ (by omega)), H5.1, fun V hV => ?_, H5.2.2⟩
  · show tpu (hI h) (z + 103) 1 _ (z + 102) m = _
    rw [kI _ (by omega)]
    exact H3.1 m hm
  · show tpu (hI h) (z + 103) 1 _ (z + 103) 0 = _
    rw [tpu_o (by omega)]
    exact H3.2.1
  · show tpu (hI h) (z + 103) 1 _ (z + 103) 1 = _
    rw [tpu_s, e1, List.length_append, List.length_singleton, nI_1]
  · show tpu (hI h) (z + 103) 1 _ (z + 104) j = _
    rw [kI _ (by omega), e2]
    exact H3.2.2.2 j hj
  · rw [e1] at hV
    rcases List.mem_append.mp hV with q | q
    · exact H5.2.1 V q
    · rw [List.mem_singleton.mp q]
      exact hUv
section ONETURN
variable {b L z : Nat} {xs : Nat → Int32} {R : Int32 → tpH → Prop} {X : String → tpH → Prop}
/-- where a turn goes on -/
def lNx (b L z : Nat) (xs : Nat → Int32) (k : Nat) (K107 : (Option Nat) → (Option Nat) → (Option Nat) → (Option Nat) → (Option Nat) → (Option Nat) → (Option Nat) → (Option Nat) → (Option Nat) → Int32 → Int32 → tpH → Prop) : Prop := ∀ h', lI b L z xs (k + 1) h' → K107 (some b) (some z) (some (z + 102)) (some (z + 103)) (some (z + 104)) (some (z + 105)) (some (z + 106)) (some (z + 107)) (some (z + 108)) 1 (nI k + 1) h'
theorem lI_up {h h' : tpH} {k : Nat} {mk n n' : Nat} {kd idn : Nat → Int32} {rt : Nat → Bool} {T : mT} {r r' : mRe} (B : lB_ h z k r.1.length n) (H : lS h' b L z xs mk kd idn rt T r' n') (hlen : r'.1.length = r.1.length ∨ r'.1.length = r.1.length + 1) (h38 : r'.1.length ≤ 38) (hn : n ≤ n') (hz : hZ h' ≤ hZ h + 30 + 3500 * (r'.1.length - r.1.length) + (n' - n)) (hu : hU h' ≤ hU h + 600 + 141700 * (r'.1.length - r.1.length) + 4 * (n' - n)) : lI b L z xs (k + 1) h' := by
  refine ⟨mk, kd, idn, rt, T, r', n', H, h38, ?_⟩
  obtain ⟨B1, B2⟩ := B
  unfold lB_
  rcases hlen with e | e
  · rw [e] at hz hu ⊢
    rw [Nat.sub_self] at hz hu
    omega
  · rw [e] at hz hu ⊢
    rw [show r.1.length + 1 - r.1.length = 1 by omega] at hz hu
    omega
theorem p_tSeal {h : tpH} {k mk n : Nat} {kd idn : Nat → Int32} {rt : Nat → Bool} {T : mT} {r : mRe} {K107 : (Option Nat) → (Option Nat) → (Option Nat) → (Option Nat) → (Option Nat) → (Option Nat) → (Option Nat) → (Option Nat) → (Option Nat) → Int32 → Int32 → tpH → Prop} (nx : lNx b L z xs k K107) (H : lS h b L z xs mk kd idn rt T r n) (h38 : r.1.length < 38) (B : lB_ h z k r.1.length n) : w_Lw_does (some z) (6 : Int32) (0 : Int32) (0 : Int32) (0 : Int32) h (fun v20 h19 => ∃ a21, some (z + 103) = some a21 ∧ hT h19 a21 = 15 ∧ (vp_in (1 : Int32) (hL h19 a21) ∧ ((¬ v20 = (hI h19 a21 (1 : Int32).toNatClampNeg) → (w_Lw_law_297 R X K107 (some b) (some z) (some (z + 102)) (some (z + 103)) (some (z + 104)) (some (z + 105)) (some (z + 106)) (some (z + 107)) (some (z + 108)) (nI k) (0 : Int32) h19)) ∧ (v20 = (hI h19 a21 (1 : Int32).toNatClampNeg) → (vp_in (1 : Int32) (hL h19 a21) ∧ (w_Lw_isTree (some z) (hI h19 a21 (1 : Int32).toNatClampNeg) (some (z + 105)) (some (z + 102)) h19 X (fun v28 h27 => (v28 = 0 → (w_Lw_law_297 R X K107 (some b) (some z) (some (z + 102)) (some (z + 103)) (some (z + 104)) (some (z + 105)) (some (z + 106)) (some (z + 107)) (some (z + 108)) (nI k) (0 : Int32) h27)) ∧ (¬ v28 = 0 → (w_Lw_law_297 R X K107 (some b) (some z) (some (z + 102)) (some (z + 103)) (some (z + 104)) (some (z + 105)) (some (z + 106)) (some (z + 107)) (some (z + 108)) (nI k) (1 : Int32) h27))))))))) := by
  obtain ⟨h1, h2, h3, h4, h5⟩ := id H
  obtain ⟨ht, hwf, htm, htl⟩ := lS_mk H
  have mk22 := h5.1
  have lT : (pO T).length ≤ 22 := nd_lt (pO_nd hwf) (fun x hx => by have := htm x ((pO_mem hwf).mp hx); omega)
  refine p_does6 ⟨h1.2.1.1.1, c_seal h1 (by omega) (fun h' z1 u1 s1 s2 c1 => ?_)⟩
  have h2' := lA_sm h2 s1 s2 (by omega)
  have eI : ∀ x, z + 102 ≤ x → x < z + 109 → hI h' x = hI h x := fun x x1 x2 => (s1 x x1 x2).2.2.2.1
  have h3' : lC (hI h') z mk kd r := lC_k h3 (eI _ (by omega) (by omega)) (eI _ (by omega) (by omega)) (eI _ (by omega) (by omega))
  have h4' : lD (hI h') z (loK kd) T := lD_k h4 (eI _ (by omega) (by omega))
  obtain ⟨⟨a2, a3, a4, a5, a6, a7, a8⟩, ⟨bz, zz⟩, -, -, -⟩ := id h2'
  have v1 : ∀ h'', iA h'' (z + 103) 2 → vp_in (1 : Int32) (hL h'' (z + 103)) := fun h'' q => by rw [q.2]; exact vp_in_nI (n := 1) (by decide) (by decide)
  refine ⟨z + 103, rfl, a3.1, v1 h' a3, ?_⟩
  rw [show (1 : Int32).toNatClampNeg = 1 from rfl, h3'.2.2.1]
  refine ⟨fun q => absurd rfl q, fun _ => ⟨v1 h' a3, ?_⟩⟩
  obtain ⟨Lr, P, LTt⟩ := id h4'
  have hi : (r.1 ++ [T], r.2).1[r.1.length]? = some T := by
    show (r.1 ++ [T])[r.1.length]? = some T
    rw [List.getElem?_append_right (Nat.le_refl _), Nat.sub_self]
    rfl
  refine p_isTree (h := h') c1 (hFr_w h' (G := hI h') (fun _ _ => False) (fun _ _ _ => rfl)) (by omega) hi h5.2.2.1 a5 a2 (by show z + 105 < hZ h'; omega) (by show z + 102 < hZ h'; omega) P LTt (fun m hm => ?_) (fun h3 f3 => ⟨fun q => absurd q (by decide), fun _ => ?_⟩)
  · have := kd_lo H hm
    show hI h' (z + 102) m ≤ 3 ↔ _
    rw [eI _ (by omega) (by omega)]
    exact this
  · have f3 : aFr h' h3 nT0 3 121 := f3
    have a33 := aFr_iA f3 (show z + 103 < hZ h' by omega) a3
    refine ⟨z + 103, rfl, a33.1, v1 h3 a33, v1 h3 a33, fun h6 e6 => ?_⟩
    have k3 : ∀ x, x < hZ h' → hI h3 x = hI h' x := fun x hx => aFr_I f3 hx (fun _ q => q)
    rw [show (1 : Int32).toNatClampNeg = 1 from rfl, k3 _ (by omega), h3'.2.2.1, sI_wI] at e6
    subst e6
    have S := lS_app (r' := (r.1 ++ [T], r.2)) (cS_aFr c1 f3 (fun x j hx q => q.elim)) (lA_aFr h2' f3 (fun _ q => q)) (lC_k h3' (k3 _ (by omega)) (k3 _ (by omega)) (k3 _ (by omega))) (lD_k h4' (k3 _ (by omega))) h5 rfl rfl h5.2.2
    have l1 : (r.1 ++ [T]).length = r.1.length + 1 := by rw [List.length_append, List.length_singleton]
    refine nx _ (lI_up B S (Or.inr l1) (by show (r.1 ++ [T]).length ≤ 38; omega) (Nat.le_refl _) ?_ ?_)
    · show hZ h3 ≤ hZ h + 30 + 3500 * ((r.1 ++ [T]).length - r.1.length) + (n - n)
      have := f3.2.1
      omega
    · show hU h3 ≤ hU h + 600 + 141700 * ((r.1 ++ [T]).length - r.1.length) + 4 * (n - n)
      have := f3.2.2
      omega
theorem p_tCopy {h : tpH} {k mk n i : Nat} {kd idn : Nat → Int32} {rt : Nat → Bool} {T U : mT} {r : mRe} {K107 : (Option Nat) → (Option Nat) → (Option Nat) → (Option Nat) → (Option Nat) → (Option Nat) → (Option Nat) → (Option Nat) → (Option Nat) → Int32 → Int32 → tpH → Prop} (nx : lNx b L z xs k K107) (H : lS h b L z xs mk kd idn rt T r n) (h38 : r.1.length < 38) (B : lB_ h z k r.1.length n) (hi : r.1[i]? = some U) : w_Lw_reads (some z) (nI i) (some (z + 105)) h X (fun h11 => w_Lw_does (some z) (1 : Int32) (nI i) (0 : Int32) (0 : Int32) h11 (fun v13 h12 => ∃ a14, some (z + 105) = some a14 ∧ hT h12 a14 = 15 ∧ (vp_in (0 : Int32) (hL h12 a14) ∧ ((¬ v13 = (hI h12 a14 (0 : Int32).toNatClampNeg) → (K107 (some b) (some z) (some (z + 102)) (some (z + 103)) (some (z + 104)) (some (z + 105)) (some (z + 106)) (some (z + 107)) (some (z + 108)) (0 : Int32) (nI k + (1 : Int32)) h12)) ∧ (v13 = (hI h12 a14 (0 : Int32).toNatClampNeg) → (K107 (some b) (some z) (some (z + 102)) (some (z + 103)) (some (z + 104)) (some (z + 105)) (some (z + 106)) (some (z + 107)) (some (z + 108)) (1 : Int32) (nI k + (1 : Int32)) h12)))))) := by
  obtain ⟨h1, h2, h3, h4, h5⟩ := id H
  obtain ⟨⟨a2, a3, a4, a5, a6, a7, a8⟩, ⟨bz, zz⟩, -, -, -⟩ := id h2
  have mk22 := h5.1
  have hUv := h5.2.1 U (List.mem_of_getElem? hi)
  have hwU := mIn_wf h1.1 i U hi
  refine p_reads h1 (by omega) hi hUv.1 a5 (Or.inl ⟨by omega, by omega⟩) (hFr_w h (G := hI h) (fun _ _ => False) (fun _ _ _ => rfl)) (fun G g1 g2 => ?_)
  have cG : cS (wI h G) z mk kd idn rt (some T) r n := cS_aFr h1 (aFr_w (h := h) (F := hI h) (G := G) (T := fun x _ => x = z + 105) (fun x j hx => by rw [g1 x hx])) (fun x j hx q => by omega)
  refine p_does1 ⟨cG.2.1.1.1, c_copy cG hi (fun G2 k1 k2 => ⟨z + 105, rfl, a5.1, by rw [show hL (wI (wI h G) G2) (z + 105) = 41 from a5.2]; exact vp0 (by decide) (by decide), ?_⟩)⟩
  have P2 : rwP G2 (z + 105) (preL U) := rwP_k g2 (k1 _ (by omega))
  rw [show (0 : Int32).toNatClampNeg = 0 from rfl, wI_I, P2.1, preL_len, pO_len hwU]
  refine ⟨fun q => absurd rfl q, fun _ => nx _ ?_⟩
  have k4 : ∀ x, z + 102 ≤ x → x ≠ z + 105 → G2 x = hI h x := fun x x1 x2 => (k1 x (by omega)).trans (g1 x x2)
  have S : lS (wI h G2) b L z xs mk kd idn rt U r n := ⟨k2, lA_w (lA_w h2 (g1 b (by omega))) (k1 b (by omega)), lC_k h3 (k4 _ (by omega) (by omega)) (k4 _ (by omega) (by omega)) (k4 _ (by omega) (by omega)), ⟨_, P2, preL_LT hwU hUv.1 _⟩, h5.1, h5.2.1, hUv⟩
  refine lI_up B S (Or.inl rfl) (by omega) (Nat.le_refl _) ?_ ?_
  · show hZ h ≤ _
    omega
  · show hU h ≤ _
    omega
end ONETURN
end LAWLOOP
