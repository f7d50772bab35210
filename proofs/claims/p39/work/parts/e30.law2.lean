section LAWLOOP2
variable {b L z : Nat} {xs : Nat → Int32} {R : Int32 → tpH → Prop} {X : String → tpH → Prop}
abbrev lK107 : Type := (Option Nat) → (Option Nat) → (Option Nat) → (Option Nat) → (Option Nat) → (Option Nat) → (Option Nat) → (Option Nat) → (Option Nat) → Int32 → Int32 → tpH → Prop
theorem p_tPol {h : tpH} {k mk n i v : Nat} {kd idn : Nat → Int32} {rt : Nat → Bool} {T : mT} {r : mRe} {K107 : lK107} (nx : lNx b L z xs k K107) (H : lS h b L z xs mk kd idn rt T r n) (h38 : r.1.length < 38) (B : lB_ h z k r.1.length n) (hi : i = 0 ∨ i = 1 ∨ i = 2 ∨ i = 5) (hv : v < 3) {x14 : Int32} (ex : (x14 / (4 : Int32)) - (x14 / (4 : Int32)) / (3 : Int32) * (3 : Int32) = nI v) : w_Lw_law_387 R X K107 (some b) (some z) (some (z + 102)) (some (z + 103)) (some (z + 104)) (some (z + 105)) (some (z + 106)) (some (z + 107)) (some (z + 108)) (nI k) x14 (nI i) h := by
  obtain ⟨h1, h2, h3, h4, h5⟩ := id H
  obtain ⟨⟨a2, a3, a4, a5, a6, a7, a8⟩, ⟨bz, zz⟩, -, -, -⟩ := id h2
  have i6 : i < 6 := by omega
  refine ⟨z, rfl, h1.2.1.1.1, ?_⟩
  rw [ex]
  have ok : polOK (nI i) (nI v) := by
    have e : (nI v).toInt = (v : Int) := nI_toInt (by omega)
    refine ⟨?_, by rw [e]; omega, by rw [e]; omega⟩
    rcases hi with rfl | rfl | rfl | rfl
    · exact Or.inl rfl
    · exact Or.inr (Or.inl rfl)
    · exact Or.inr (Or.inr (Or.inl rfl))
    · exact Or.inr (Or.inr (Or.inr rfl))
  refine c_pol h1 ok i6 (fun G g1 c1 => ?_)
  have vi : ∀ F, vp_in (nI i) (hL (wI h F) (z + 104)) := fun F => by rw [show hL (wI h F) (z + 104) = 6 from a4.2]; exact vp_in_nI i6 (by decide)
  have eg : G (z + 104) i = r.2.2.2.1 i := by rw [g1 _ (by omega)]; exact h3.2.2.2 i i6
  refine ⟨z + 104, rfl, a4.1, vi G, ?_⟩
  rw [nI_clamp (by omega), wI_I, eg]
  refine ⟨fun q => absurd rfl q, fun _ => ⟨z + 104, rfl, a4.1, vi G, fun h5' e5 => ?_⟩⟩
  rw [nI_clamp (by omega), ex, sI_wI, wI_wI, wI_I] at e5
  subst e5
  refine nx _ ?_
  have k4 : ∀ x, x ≠ z + 104 → tpu G (z + 104) i (nI v) x = G x := fun x hx => tpu_ne hx
  have c2 : cS (wI h (tpu G (z + 104) i (nI v))) z mk kd idn rt (some T) (r.1, r.2.1, r.2.2.1, mU r.2.2.2.1 i (nI v), r.2.2.2.2) n := cS_aFr c1 (aFr_w (h := h) (F := G) (T := fun x _ => x = z + 104) (fun x j hx => by rw [k4 x hx])) (fun x j hx q => by omega)
  have S : lS (wI h (tpu G (z + 104) i (nI v))) b L z xs mk kd idn rt T (r.1, r.2.1, r.2.2.1, mU r.2.2.2.1 i (nI v), r.2.2.2.2) n := by
    refine ⟨c2, lA_w (lA_w h2 (g1 b (by omega))) (k4 b (by omega)), ⟨fun m hm => ?_, ?_, ?_, fun j hj => ?_⟩, lD_k h4 ((k4 _ (by omega)).trans (g1 _ (by omega))), h5⟩
    · show tpu G (z + 104) i (nI v) (z + 102) m = _
      rw [k4 _ (by omega), g1 _ (by omega)]
      exact h3.1 m hm
    · show tpu G (z + 104) i (nI v) (z + 103) 0 = _
      rw [k4 _ (by omega), g1 _ (by omega)]
      exact h3.2.1
    · show tpu G (z + 104) i (nI v) (z + 103) 1 = _
      rw [k4 _ (by omega), g1 _ (by omega)]
      exact h3.2.2.1
    · show tpu G (z + 104) i (nI v) (z + 104) j = mU r.2.2.2.1 i (nI v) j
      by_cases c : j = i
      · rw [c, tpu_s, mU_s]
      · rw [tpu_o (by omega), mU_n _ _ c, g1 _ (by omega)]
        exact h3.2.2.2 j hj
  refine lI_up B S (Or.inl rfl) (by show r.1.length ≤ 38; omega) (Nat.le_refl _) ?_ ?_
  · show hZ h ≤ _
    omega
  · show hU h ≤ _
    omega
theorem p_tMerge {h : tpH} {k mk n i1 i2 i3 : Nat} {kd idn : Nat → Int32} {rt : Nat → Bool} {T t u w : mT} {r : mRe} {K107 : lK107} (nx : lNx b L z xs k K107) (H : lS h b L z xs mk kd idn rt T r n) (h38 : r.1.length < 38) (B : lB_ h z k r.1.length n) (q1 : r.1[i1]? = some t) (q2 : r.1[i2]? = some u) (q3 : r.1[i3]? = some w) :
    w_Lw_reads (some z) (nI i1) (some (z + 106)) h X (fun h13 => w_Lw_reads (some z) (nI i2) (some (z + 107)) h13 X (fun h14 => w_Lw_reads (some z) (nI i3) (some (z + 108)) h14 X (fun h15 => w_Lw_does (some z) (7 : Int32) (nI i1) (nI i2) (nI i3) h15 (fun v17 h16 => hT h16 (z + 103) = 15 ∧ (vp_in (1 : Int32) (hL h16 (z + 103)) ∧ ((¬ v17 = (hI h16 (z + 103) (1 : Int32).toNatClampNeg) → (w_Lw_law_536 R X K107 (some b) (some z) (some (z + 102)) (some (z + 103)) (some (z + 104)) (some (z + 105)) (some (z + 106)) (some (z + 107)) (some (z + 108)) (nI k) (0 : Int32) h16)) ∧ (v17 = (hI h16 (z + 103) (1 : Int32).toNatClampNeg) → (vp_in (1 : Int32) (hL h16 (z + 103)) ∧ (vp_in (0 : Int32) (hL h16 (z + 103)) ∧ (w_Lw_isMerged (some z) (hI h16 (z + 103) (1 : Int32).toNatClampNeg) (some (z + 106)) (some (z + 107)) (some (z + 108)) (some (z + 102)) (some (z + 104)) (hI h16 (z + 103) (0 : Int32).toNatClampNeg) h16 X (fun v24 h23 => (v24 = 0 → (w_Lw_law_536 R X K107 (some b) (some z) (some (z + 102)) (some (z + 103)) (some (z + 104)) (some (z + 105)) (some (z + 106)) (some (z + 107)) (some (z + 108)) (nI k) (0 : Int32) h23)) ∧ (¬ v24 = 0 → (w_Lw_law_536 R X K107 (some b) (some z) (some (z + 102)) (some (z + 103)) (some (z + 104)) (some (z + 105)) (some (z + 106)) (some (z + 107)) (some (z + 108)) (nI k) (1 : Int32) h23))))))))))))) := by
  obtain ⟨h1, h2, h3, h4, h5⟩ := id H
  obtain ⟨⟨a2, a3, a4, a5, a6, a7, a8⟩, ⟨bz, zz⟩, -, -, -⟩ := id h2
  have mk22 := h5.1
  have Vt := h5.2.1 t (List.mem_of_getElem? q1)
  have Vu := h5.2.1 u (List.mem_of_getElem? q2)
  have Vw := h5.2.1 w (List.mem_of_getElem? q3)
  have rf : hFr h h (lwT z) (fun _ _ => False) := hFr_w h (G := hI h) (fun _ _ => False) (fun _ _ _ => rfl)
  have step : ∀ (c : Nat) (F G : Nat → Nat → Int32), c = z + 106 ∨ c = z + 107 ∨ c = z + 108 → (∀ x, x ≠ c → G x = F x) → hFr h (wI h F) (lwT z) (fun _ _ => False) → hFr h (wI h G) (lwT z) (fun _ _ => False) := fun c F G hc g f => f0_tr f (aFr_w (h := h) (F := F) (G := G) (T := fun x _ => x = c) (fun x j hx => by rw [g x hx])) (fun x j hx q => by show z + 102 ≤ x ∧ x < z + 109; omega)
  refine p_reads h1 (by omega) q1 Vt.1 a6 (Or.inl ⟨by omega, by omega⟩) rf (fun G1 g1 P1 => ?_)
  have f1 := step (z + 106) (hI h) G1 (Or.inl rfl) g1 rf
  refine p_reads (h := wI h G1) h1 (by omega) q2 Vu.1 a7 (Or.inl ⟨by omega, by omega⟩) f1 (fun G2 g2 P2 => ?_)
  have f2 := step (z + 107) G1 G2 (Or.inr (Or.inl rfl)) g2 f1
  refine p_reads (h := wI h G2) h1 (by omega) q3 Vw.1 a8 (Or.inl ⟨by omega, by omega⟩) f2 (fun G3 g3 P3 => ?_)
  have f3 := step (z + 108) G2 G3 (Or.inr (Or.inr rfl)) g3 f2
  show w_Lw_does (some z) (7 : Int32) (nI i1) (nI i2) (nI i3) (wI h G3) _
  have P1' : rwP G3 (z + 106) (preL t) := rwP_k P1 ((g3 _ (by omega)).trans (g2 _ (by omega)))
  have P2' : rwP G3 (z + 107) (preL u) := rwP_k P2 (g3 _ (by omega))
  have k3 : ∀ x, x ≠ z + 106 → x ≠ z + 107 → x ≠ z + 108 → G3 x = hI h x := fun x x1 x2 x3 => (g3 x x3).trans ((g2 x x2).trans (g1 x x1))
  have c3 : cS (wI h G3) z mk kd idn rt (some T) r n := cS_fr h1 f3 (fun x j hx q => q)
  have h23 : lA (wI h G3) b L z xs := lA_w h2 (k3 b (by omega) (by omega) (by omega))
  refine p_does7 ⟨c3.2.1.1.1, c_merge c3 q1 q2 q3 ⟨Vu.2.trans Vt.2.symm, Vw.2.trans Vt.2.symm⟩ (by omega) (fun h' n' HH c1 hn s1 s2 z1 z2 u2 => ?_)⟩
  have h2' := lA_sm h23 s1 s2 z1
  have eI : ∀ x, z + 102 ≤ x → x < z + 109 → hI h' x = G3 x := fun x x1 x2 => (s1 x x1 x2).2.2.2.1
  have eJ : ∀ x, z + 102 ≤ x → x < z + 106 → hI h' x = hI h x := fun x x1 x2 => (eI x x1 (by omega)).trans (k3 x (by omega) (by omega) (by omega))
  have h3' : lC (hI h') z mk kd r := lC_k h3 (eJ _ (by omega) (by omega)) (eJ _ (by omega) (by omega)) (eJ _ (by omega) (by omega))
  have h4' : lD (hI h') z (loK kd) T := lD_k h4 (eJ _ (by omega) (by omega))
  obtain ⟨⟨b2, b3, b4, b5, b6, b7, b8⟩, ⟨bz', zz'⟩, -, -, -⟩ := id h2'
  have v1 : ∀ h'', iA h'' (z + 103) 2 → vp_in (1 : Int32) (hL h'' (z + 103)) := fun h'' q => by rw [q.2]; exact vp_in_nI (n := 1) (by decide) (by decide)
  refine ⟨b3.1, v1 h' b3, ?_⟩
  rw [show (1 : Int32).toNatClampNeg = 1 from rfl, show (0 : Int32).toNatClampNeg = 0 from rfl, h3'.2.2.1, h3'.2.1]
  refine ⟨fun q => absurd rfl q, fun _ => ⟨v1 h' b3, by rw [b3.2]; exact vp0 (by decide) (by decide), ?_⟩⟩
  have wf := mIn_wf h1.1
  have tr := h1.1.2.2.1
  have lo3 : ∀ {i : Nat} {U : mT}, r.1[i]? = some U → tLo (loK kd) U := fun {i U} q => (tr U (List.mem_of_getElem? q)).2.2
  refine p_isMerged (h := h') (R0 := tRt t) (po := r.2.2.2.1) c1 (hFr_w h' (G := hI h') (fun _ _ => False) (fun _ _ _ => rfl)) mk22 HH ?_ rfl ⟨⟨b6, rwP_k P1' (eI _ (by omega) (by omega))⟩, wf _ _ q1, Vt.1⟩ ⟨⟨b7, rwP_k P2' (eI _ (by omega) (by omega))⟩, wf _ _ q2, Vu.1⟩ ⟨⟨b8, rwP_k P3 (eI _ (by omega) (by omega))⟩, wf _ _ q3, Vw.1⟩ b2 b4 h3'.2.2.2 h1.1.2.2.2.2.1 ⟨by show z + 106 < hZ h'; omega, by show z + 107 < hZ h'; omega, by show z + 108 < hZ h'; omega, by show z + 102 < hZ h'; omega, by show z + 104 < hZ h'; omega⟩ (lo3 q1) (lo3 q2) (lo3 q3) (fun m hm => ?_) (fun h6 f6 => ⟨fun q => absurd q (by decide), fun _ => ?_⟩)
  · show (r.1 ++ [mgRes r.2.2.2.1 mk (tRt t) t u w (loK kd)])[r.1.length]? = _
    rw [List.getElem?_append_right (Nat.le_refl _), Nat.sub_self]
    rfl
  · have := kd_lo H hm
    show hI h' (z + 102) m ≤ 3 ↔ _
    rw [eJ _ (by omega) (by omega)]
    exact this
  · have f6 : aFr h' h6 nT0 3467 138800 := f6
    have b33 := aFr_iA f6 (show z + 103 < hZ h' by omega) b3
    refine ⟨z + 103, rfl, b33.1, v1 h6 b33, v1 h6 b33, fun h7 e7 => ?_⟩
    have k6 : ∀ x, x < hZ h' → hI h6 x = hI h' x := fun x hx => aFr_I f6 hx (fun _ q => q)
    rw [show (1 : Int32).toNatClampNeg = 1 from rfl, k6 _ (by omega), h3'.2.2.1, sI_wI] at e7
    subst e7
    have S := lS_app (U := mgRes r.2.2.2.1 mk (tRt t) t u w (loK kd)) (cS_aFr c1 f6 (fun x j hx q => q.elim)) (lA_aFr h2' f6 (fun _ q => q)) (lC_k h3' (k6 _ (by omega)) (k6 _ (by omega)) (k6 _ (by omega))) (lD_k h4' (k6 _ (by omega))) h5 rfl rfl ⟨mgRes_v HH Vt.1 Vu.1 Vw.1, Vt.2⟩
    have l1 : (r.1 ++ [mgRes r.2.2.2.1 mk (tRt t) t u w (loK kd)]).length = r.1.length + 1 := by rw [List.length_append, List.length_singleton]
    have z1' : hZ (wI h G3) = hZ h := rfl
    have u1' : hU (wI h G3) = hU h := rfl
    refine nx _ (lI_up B S (Or.inr l1) (by show (r.1 ++ [_]).length ≤ 38; omega) hn ?_ ?_)
    · show hZ h6 ≤ hZ h + 30 + 3500 * ((r.1 ++ [mgRes r.2.2.2.1 mk (tRt t) t u w (loK kd)]).length - r.1.length) + (n' - n)
      have := f6.2.1
      rw [l1, show r.1.length + 1 - r.1.length = 1 by omega]
      omega
    · show hU h6 ≤ hU h + 600 + 141700 * ((r.1 ++ [mgRes r.2.2.2.1 mk (tRt t) t u w (loK kd)]).length - r.1.length) + 4 * (n' - n)
      have := f6.2.2
      rw [l1, show r.1.length + 1 - r.1.length = 1 by omega]
      omega
theorem nI_mod {a c : Nat} (ha : a < 2 ^ 31) (hc : c < 2 ^ 31) : nI a - nI a / nI c * nI c = nI (a % c) := nI_rem ha hc
theorem nI_dm {a c d : Nat} (ha : a < 2 ^ 31) (hc : c < 2 ^ 31) (hd : d < 2 ^ 31) : (nI a / nI c) - (nI a / nI c) / nI d * nI d = nI (a / c % d) := by
  have := Nat.div_le_self a c
  rw [nI_div ha hc, nI_rem (by omega) hd]
theorem lI_stay {h : tpH} {k : Nat} {mk n : Nat} {kd idn : Nat → Int32} {rt : Nat → Bool} {T : mT} {r : mRe} (B : lB_ h z k r.1.length n) (H : lS h b L z xs mk kd idn rt T r n) (h38 : r.1.length < 38) : lI b L z xs (k + 1) h := lI_up B H (Or.inl rfl) (by omega) (Nat.le_refl _) (by omega) (by omega)
theorem p_364 {h : tpH} {k mk n kind y : Nat} {kd idn : Nat → Int32} {rt : Nat → Bool} {T : mT} {r : mRe} {K107 : lK107} (nx : lNx b L z xs k K107) (H : lS h b L z xs mk kd idn rt T r n) (h38 : r.1.length < 38) (B : lB_ h z k r.1.length n) (hk : kind < 22) (hy : y < 2 ^ 31) : w_Lw_law_364 R X K107 (some b) (some z) (some (z + 102)) (some (z + 103)) (some (z + 104)) (some (z + 105)) (some (z + 106)) (some (z + 107)) (some (z + 108)) (1 : Int32) (nI k) (nI kind) (nI y) h := by
  obtain ⟨h1, h2, h3, h4, h5⟩ := id H
  obtain ⟨⟨a2, a3, a4, a5, a6, a7, a8⟩, ⟨bz, zz⟩, -, -, -⟩ := id h2
  have v1 : vp_in (1 : Int32) (hL h (z + 103)) := by rw [a3.2]; exact vp_in_nI (n := 1) (by decide) (by decide)
  have e1 : hI h (z + 103) (1 : Int32).toNatClampNeg = nI r.1.length := h3.2.2.1
  refine ⟨fun _ => ⟨z + 103, rfl, a3.1, v1, ?_⟩, fun _ => ?_⟩
  · rw [e1]
    refine ⟨fun _ => nx h (lI_stay B H h38), fun q => ?_⟩
    have l0 : 0 < r.1.length := by
      have : ¬ r.1.length ≤ 0 := fun w => q ((nI_le_iff (b := 0) (by omega) (by decide)).mpr w)
      omega
    have n0 : ¬ nI r.1.length = 0 := fun w => by
      have := nI_inj (b := 0) (by omega) (by decide) w
      omega
    refine ⟨v1, n0, v1, n0, v1, n0, ?_⟩
    rw [show (40 : Int32) = nI 40 from rfl, show (1600 : Int32) = nI 1600 from rfl, nI_mod hy (by omega), nI_dm hy (by decide) (by omega), nI_dm hy (by decide) (by omega)]
    obtain ⟨t, q1⟩ := ex_at (L := r.1) (i := y % r.1.length) (Nat.mod_lt _ l0)
    obtain ⟨u, q2⟩ := ex_at (L := r.1) (i := y / 40 % r.1.length) (Nat.mod_lt _ l0)
    obtain ⟨w, q3⟩ := ex_at (L := r.1) (i := y / 1600 % r.1.length) (Nat.mod_lt _ l0)
    exact p_tMerge nx H h38 B q1 q2 q3
  · have ex : (nI y / (4 : Int32)) - (nI y / (4 : Int32)) / (3 : Int32) * (3 : Int32) = nI (y / 4 % 3) := nI_dm (c := 4) (d := 3) hy (by decide) (by decide)
    have e4 : nI y - nI y / (4 : Int32) * (4 : Int32) = nI (y % 4) := nI_mod (c := 4) hy (by decide)
    have v3 : y / 4 % 3 < 3 := Nat.mod_lt _ (by decide)
    have y4 : y % 4 < 4 := Nat.mod_lt _ (by decide)
    rw [e4]
    refine ⟨fun q => p_tPol nx H h38 B ?_ v3 ex, fun _ => p_tPol (i := 5) nx H h38 B (Or.inr (Or.inr (Or.inr rfl))) v3 ex⟩
    have : ¬ y % 4 = 3 := fun w => q (by rw [w]; rfl)
    omega
theorem p_233 {h : tpH} {k mk n kind y : Nat} {kd idn : Nat → Int32} {rt : Nat → Bool} {T : mT} {r : mRe} {K107 : lK107} (nx : lNx b L z xs k K107) (H : lS h b L z xs mk kd idn rt T r n) (h38 : r.1.length < 38) (B : lB_ h z k r.1.length n) (hk : kind < 22) (hy : y < 2 ^ 31) : w_Lw_law_233 R X K107 (some b) (some z) (some (z + 102)) (some (z + 103)) (some (z + 104)) (some (z + 105)) (some (z + 106)) (some (z + 107)) (some (z + 108)) (1 : Int32) (nI k) (nI kind) (nI y) h := by
  obtain ⟨h1, h2, h3, h4, h5⟩ := id H
  obtain ⟨⟨a2, a3, a4, a5, a6, a7, a8⟩, ⟨bz, zz⟩, -, -, -⟩ := id h2
  have v1 : vp_in (1 : Int32) (hL h (z + 103)) := by rw [a3.2]; exact vp_in_nI (n := 1) (by decide) (by decide)
  have e1 : hI h (z + 103) (1 : Int32).toNatClampNeg = nI r.1.length := h3.2.2.1
  have r364 := p_364 (R := R) (X := X) (y := y) nx H h38 B hk hy
  refine ⟨fun _ => ⟨fun _ => ⟨fun _ => r364, fun _ => ⟨z + 103, rfl, a3.1, v1, ?_⟩⟩, fun _ => p_tSeal nx H h38 B⟩, fun _ => ?_⟩
  · rw [e1]
    refine ⟨fun _ => r364, fun q => ?_⟩
    have l0 : 0 < r.1.length := by
      have : ¬ r.1.length ≤ 0 := fun w => q ((nI_le_iff (b := 0) (by omega) (by decide)).mpr w)
      omega
    have n0 : ¬ nI r.1.length = 0 := fun w => by
      have := nI_inj (b := 0) (by omega) (by decide) w
      omega
    refine ⟨v1, n0, ?_⟩
    rw [nI_mod hy (by omega)]
    obtain ⟨t, q1⟩ := ex_at (L := r.1) (i := y % r.1.length) (Nat.mod_lt _ l0)
    exact p_tCopy nx H h38 B q1
  · refine p_isChanged H hy (fun h' q z1 z2 u2 => nx h' ?_)
    obtain ⟨mk', kd', idn', rt', T', S⟩ := q
    exact lI_up B S (Or.inl rfl) (by omega) (Nat.le_refl _) (by omega) (by omega)
theorem p_165 {h : tpH} {k mk n Q : Nat} {kd idn : Nat → Int32} {rt : Nat → Bool} {T : mT} {r : mRe} {K107 : lK107} (nx : lNx b L z xs k K107) (H : lS h b L z xs mk kd idn rt T r n) (h38 : r.1.length < 38) (B : lB_ h z k r.1.length n) (hQ : Q < 2 ^ 31) : w_Lw_law_165 R X K107 (some b) (some z) (some (z + 102)) (some (z + 103)) (some (z + 104)) (some (z + 105)) (some (z + 106)) (some (z + 107)) (some (z + 108)) (1 : Int32) (nI k) (nI Q) h := by
  have e22 : nI Q / (22 : Int32) = nI (Q / 22) := nI_div (b := 22) hQ (by decide)
  have m22 : nI Q - nI Q / (22 : Int32) * (22 : Int32) = nI (Q % 22) := nI_mod (c := 22) hQ (by decide)
  have m57 : (nI Q - nI Q / (576 : Int32) * (576 : Int32)) + ((4608 : Int32) * ((nI Q / (576 : Int32)) - (nI Q / (576 : Int32)) / (400 : Int32) * (400 : Int32))) = nI (Q % 576 + 4608 * (Q / 576 % 400)) := by
    rw [show nI Q - nI Q / (576 : Int32) * (576 : Int32) = nI (Q % 576) from nI_mod (c := 576) hQ (by decide), show (nI Q / (576 : Int32)) - (nI Q / (576 : Int32)) / (400 : Int32) * (400 : Int32) = nI (Q / 576 % 400) from nI_dm (c := 576) (d := 400) hQ (by decide) (by decide), show (4608 : Int32) = nI 4608 from rfl, mI_mul, nI_add]
  have d22 := Nat.div_le_self Q 22
  have l1 : Q % 576 < 576 := Nat.mod_lt _ (by decide)
  have l2 : Q / 576 % 400 < 400 := Nat.mod_lt _ (by decide)
  have r195 : ∀ kind, kind < 22 → w_Lw_law_195 R X K107 (some b) (some z) (some (z + 102)) (some (z + 103)) (some (z + 104)) (some (z + 105)) (some (z + 106)) (some (z + 107)) (some (z + 108)) (1 : Int32) (nI k) (nI Q) (nI kind) h := fun kind hk => by
    unfold w_Lw_law_195
    rw [e22, m57]
    exact ⟨fun _ => p_233 nx H h38 B hk (by omega), fun _ => p_233 nx H h38 B hk (by omega)⟩
  unfold w_Lw_law_165
  rw [m22]
  exact ⟨fun _ => ⟨fun _ => r195 _ (Nat.mod_lt _ (by decide)), fun _ => r195 12 (by decide)⟩, fun _ => r195 0 (by decide)⟩
theorem p_107 {xlen : L ≤ 260} (kk : ∀ h k, k ≤ 110 → lI b L z xs k h → R 1 h) : ∀ (f k : Nat) (h : tpH), k ≤ 110 → 110 < f + k → lI b L z xs k h → w_Lw_law_107 R X f (some b) (some z) (some (z + 102)) (some (z + 103)) (some (z + 104)) (some (z + 105)) (some (z + 106)) (some (z + 107)) (some (z + 108)) (1 : Int32) (nI k) h
  | 0, k, h, h1, h2, _ => by omega
  | f + 1, k, h, h1, h2, I => by
    obtain ⟨mk, kd, idn, rt, T, r, n, H, h38, B⟩ := id I
    obtain ⟨g1, g2, g3, g4, g5⟩ := id H
    obtain ⟨⟨a2, a3, a4, a5, a6, a7, a8⟩, ⟨bz, zz⟩, s1, s2, s3⟩ := id g2
    have v1 : vp_in (1 : Int32) (hL h (z + 103)) := by rw [a3.2]; exact vp_in_nI (n := 1) (by decide) (by decide)
    have e1 : hI h (z + 103) (1 : Int32).toNatClampNeg = nI r.1.length := g3.2.2.1
    have et : hI h z 4 = nI r.1.length := g1.2.1.2.2.2.2.1.1
    have r551 : w_Lw_law_551 R X (some z) (some (z + 103)) (1 : Int32) h := by
      refine ⟨fun q => absurd q (by decide), fun _ => ⟨z, rfl, g1.2.1.1.1, g1.2.1.1.1, z + 103, rfl, a3.1, v1, ?_⟩⟩
      rw [e1, et]
      exact ⟨fun q => absurd rfl q, fun _ => kk h k h1 I⟩
    refine ⟨fun _ => r551, fun q => ⟨fun _ => r551, fun _ => ⟨z + 103, rfl, a3.1, v1, ?_⟩⟩⟩
    rw [e1]
    refine ⟨fun _ => r551, fun q2 => ⟨b, rfl, s1, ?_⟩⟩
    have k110 : k < 110 := by
      have : ¬ 110 ≤ k := fun w => q ((nI_le_iff (a := 110) (by decide) (by omega)).mpr w)
      omega
    have l38 : r.1.length < 38 := by
      have : ¬ 38 ≤ r.1.length := fun w => q2 ((nI_le_iff (a := 38) (by decide) (by omega)).mpr w)
      omega
    have nx : lNx b L z xs k (w_Lw_law_107 R X f) := fun h' I' => by
      rw [nI_1]
      exact p_107 (xlen := xlen) kk f (k + 1) h' (by omega) (by omega) I'
    have en : Int32.ofNat (hL h b) = nI L := by rw [s2]; rfl
    rw [en, nI_le_iff (by omega) (by omega)]
    refine ⟨fun _ => ?_, fun q3 => ⟨by rw [s2]; exact vp_in_nI (by omega) (by omega), ?_⟩⟩
    · obtain ⟨Q, hQ, eQ⟩ := and_31 (((((41017 : Int32) * nI k) * nI k) + ((8009 : Int32) * nI k)) + (37 : Int32))
      rw [eQ]
      exact p_165 nx H l38 B hQ
    · obtain ⟨Q, hQ, eQ⟩ := and_31 (hI h b (nI k).toNatClampNeg)
      rw [eQ]
      exact p_165 nx H l38 B hQ
end LAWLOOP2
