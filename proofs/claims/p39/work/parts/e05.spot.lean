section SPOTROW
theorem p_spot {h : tpH} {t k p pl : Nat} {L : List lE} {lo : Bool} (a : iA h t 41) (ak : iA h k 40) (ht : t < hZ h) (hk : k < hZ h) (P : rwP (hI h) t L) (hp : p < 40) (hpl : pl ≤ 1000) (hlo : hI h k p ≤ 3 ↔ lo = false) {R : Int32 → tpH → Prop}
    (k1 : lo = false → ∀ (A B : List Nat) (c i : Nat) (e : lE), lcL lo L p = A ++ c :: B → A.length = pl → L[i]? = some e → e.1 = c → ∀ h', aFr h h' nT0 1 40 → R (nI i) h')
    (k0 : (lo = true ∨ (lcL lo L p).length ≤ pl) → ∀ h', aFr h h' nT0 1 40 → R (nI L.length) h') : w_Lw_spot (some t) (some k) (nI p) (nI pl) h R := by
  intro a1 h2 e1 e2
  subst e1
  have f2 : aFr h h2 nT0 1 40 := by rw [e2]; exact aFr_n h 40 40 _
  have at2 : iA h2 t 41 := aFr_iA f2 ht a
  have ak2 : iA h2 k 40 := aFr_iA f2 hk ak
  have ar2 : iA h2 (hZ h) 40 := by rw [e2]; exact iA_n h 40 40
  have P2 : rwP (hI h2) t L := rwP_k P (aFr_I f2 ht (fun _ q => q))
  have l40 := P.2.1
  have lk := lcL_len lo p L
  refine p_children (h := h2) (F := hI h2) at2 ar2 ak2 (Nat.ne_of_lt ht) (Nat.ne_of_lt hk) hp P2 (by rw [aFr_I f2 hk (fun _ q => q)]; exact hlo) (fun G g1 g2 => ?_)
  have f3 : aFr h (wI h2 G) nT0 1 40 := by
    have q := aFr_tr f2 (aFr_w (h := h2) (F := hI h2) (G := G) (T := fun b _ => b = hZ h) (fun b j hb => by rw [g1 b hb])) (fun x j hx hj => absurd hj (Nat.ne_of_lt hx))
    exact q
  have P3 : rwP G t L := rwP_k P2 (g1 t (Nat.ne_of_lt ht))
  have et : hL (wI h2 G) t = 41 := at2.2
  have out : (lo = true ∨ (lcL lo L p).length ≤ pl) → R (hI (wI h2 G) t (0 : Int32).toNatClampNeg) (wI h2 G) := fun c => by
    rw [show (0 : Int32).toNatClampNeg = 0 from rfl, wI_I, P3.1]
    exact k0 c _ f3
  refine ⟨fun g => ⟨t, rfl, at2.1, by rw [et]; exact vp0 (by decide) (by decide), out (Or.inr ((nI_le_iff (by omega) (by omega)).mp g))⟩, fun g => ⟨k, rfl, ak2.1, by rw [show hL (wI h2 G) k = 40 from ak2.2]; exact vp_in_nI hp (by decide), ?_⟩⟩
  have ek : G k p = hI h k p := by rw [g1 k (Nat.ne_of_lt hk), aFr_I f2 hk (fun _ q => q)]
  rw [nI_clamp (by omega), wI_I, ek]
  have e43 : (4 : Int32) ≤ hI h k p ↔ ¬ hI h k p ≤ 3 := by
    rw [Int32.le_iff_toInt_le, Int32.le_iff_toInt_le]
    have h3 : (3 : Int32).toInt = 3 := rfl
    have h4 : (4 : Int32).toInt = 4 := rfl
    rw [h3, h4]
    omega
  refine ⟨fun g4 => ⟨t, rfl, at2.1, by rw [et]; exact vp0 (by decide) (by decide), out (Or.inl ?_)⟩, fun g4 => ?_⟩
  · cases hb : lo with
    | true => rfl
    | false => exact absurd (hlo.mpr hb) (e43.mp g4)
  · have hb : lo = false := hlo.mp (Classical.byContradiction (fun q => g4 (e43.mpr q)))
    have hlt : pl < (lcL lo L p).length := by
      have : ¬ (lcL lo L p).length ≤ pl := fun q => g ((nI_le_iff (by omega) (by omega)).mpr q)
      omega
    obtain ⟨c, hc⟩ := ex_at hlt
    have er : G (hZ h) pl = nI c := by
      have := g2 pl c hc
      rw [Nat.zero_add] at this
      exact this
    have ex : lcL lo L p = (lcL lo L p).take pl ++ c :: (lcL lo L p).drop (pl + 1) := by
      obtain ⟨q1, q2⟩ := List.getElem?_eq_some_iff.mp hc
      rw [← q2, List.getElem_cons_drop, List.take_append_drop]
    obtain ⟨e, m1, m2, -⟩ := lcL_mem.mp (List.mem_of_getElem? hc)
    have hc40 : c < 40 := by rw [← m2]; exact (P.2.2.1 e m1).1
    refine ⟨ar2.1, by rw [show hL (wI h2 G) (hZ h) = 40 from ar2.2]; exact vp_in_nI (by omega) (by decide), ?_⟩
    rw [nI_clamp (by omega), er]
    refine p_place (h := wI h2 G) at2 P3 (by omega) (fun i e' hi he' => k1 hb _ _ c i e' ex (by rw [List.length_take]; omega) hi he' _ f3) (fun no => absurd m2 (no e m1))
theorem rwT_par {L : List lE} {I : Nat → Bool} {W : Nat → Int32} {U : Nat → Option Nat} (T : rwT L I W U) (hOK : ∀ e ∈ L, lOK e) {m p : Nat} (hm : I m = true) (hu : U m = some p) : m < 40 ∧ p < 40 := by
  obtain ⟨e, h1, h2⟩ := (T.1 m).mp hm
  have h3 := (T.2 e h1).2
  rw [h2, hu] at h3
  have := hOK e h1
  exact ⟨by rw [← h2]; exact this.1, this.2.2 p h3.symm⟩
theorem p_isBelow {h : tpH} {t x y : Nat} {L : List lE} {I : Nat → Bool} {W : Nat → Int32} {T : mT} (a : iA h t 41) (P : rwP (hI h) t L) (H : rwT L I W (tUp T)) (hw : fWF 300 T) (hI1 : ∀ z, I z = true → tIn T z = true) (hI2 : ∀ z p, I z = true → tUp T z = some p → I p = true) (hx : I x = true) (hy : y < 2 ^ 31) {R : Int32 → tpH → Prop}
    (k1 : x ∈ tPo T y → R 1 h) (k0 : x ∉ tPo T y → R 0 h) : w_Lw_isBelow (some t) (nI x) (nI y) h R := by
  obtain ⟨rk, hrk⟩ := hw.2.2.2.1
  obtain ⟨B, hB⟩ := mx_lt rk 300
  have main : ∀ (n z : Nat), B + 2 < n + rk z → I z = true → (x ∈ tPo T y ↔ z ∈ tPo T y) → w_Lw_isBelow_2 R n (some t) (nI y) (nI z) h := by
    intro n
    induction n with
    | zero => intro z hn hz _; have := hB z (hw.1 z (hI1 z hz)); omega
    | succ n ih =>
      intro z hn hz hq
      have hz40 : z < 40 := by
        obtain ⟨e, h1, h2⟩ := (H.1 z).mp hz
        rw [← h2]
        exact (P.2.2.1 e h1).1
      refine ⟨fun g => absurd g (nI_pos (by omega)), fun _ => ⟨fun g => ?_, fun g => ?_⟩⟩
      · have e : z = y := nI_inj (by omega) hy g
        refine ⟨fun q => absurd g q, fun _ => k1 (hq.mpr (by rw [e]; exact tPo_self hw.2.2.2.1 y))⟩
      · have hzy : z ≠ y := fun q => g (by rw [q])
        refine p_pOf a P H (by omega) ?_
        unfold rPa
        rw [if_pos hz]
        cases hu : tUp T z with
        | none =>
          have no : x ∉ tPo T y := fun q => by
            rcases tPo_up hw.2.2.2.1 y (hq.mp q) with q2 | ⟨p, q2, -⟩
            · exact hzy q2
            · have := ((hw.2.1 z p).mp q2).2
              rw [hu] at this
              cases this
          have hn1 : n ≠ 0 := fun q => by have := hB z (hw.1 z (hI1 z hz)); omega
          obtain ⟨n', rfl⟩ := Nat.exists_eq_succ_of_ne_zero hn1
          refine ⟨fun _ => ⟨fun _ => k0 no, fun q => absurd q.symm (nI_ne_m hy)⟩, fun q => absurd (show nO none < 0 by decide) q⟩
        | some p =>
          have hpk : z ∈ tKi T p := (hw.2.1 z p).mpr ⟨hI1 z hz, hu⟩
          refine ih p (by have := hrk z p hpk; omega) (hI2 z p hz hu) (hq.trans ⟨fun q => ?_, fun q => tPo_kid hw.2.2.2.1 hpk y q⟩)
          rcases tPo_up hw.2.2.2.1 y q with q2 | ⟨p', q2, q3⟩
          · exact absurd q2 hzy
          · rw [tUp_of hw hpk q2]
            exact q3
  exact ⟨B + 3, main (B + 3) x (by omega) hx Iff.rfl⟩
end SPOTROW
