section READROW
/-- values in range; marks below 40 -/
def tVa (t : mT) : Prop := ∀ m, tIn t m = true → ∃ v, v < 100 ∧ tWo t m = nI v
def preE (T : mT) (m : Nat) : lE := (m, (tWo T m).toNatClampNeg, tUp T m)
noncomputable def preL (T : mT) : List lE := (pO T).map (preE T)
theorem preL_len (T : mT) : (preL T).length = (pO T).length := List.length_map _
theorem preL_1 (T : mT) : (preL T).map (·.1) = pO T := by
  unfold preL
  rw [List.map_map]
  exact List.map_id _
theorem preE_v {T : mT} (hv : tVa T) {m : Nat} (hm : tIn T m = true) : tWo T m = nI (preE T m).2.1 ∧ (preE T m).2.1 < 100 := by
  obtain ⟨v, h1, h2⟩ := hv m hm
  have e : (preE T m).2.1 = v := by
    show (tWo T m).toNatClampNeg = v
    rw [h2, nI_clamp (by omega)]
  rw [e]
  exact ⟨h2, h1⟩
theorem preE_OK {T : mT} (hw : tWF 300 T) (hv : tVa T) (h40 : ∀ m, tIn T m = true → m < 40) {m : Nat} (hm : tIn T m = true) : lOK (preE T m) := by
  have := (preE_v hv hm).2
  exact ⟨h40 m hm, by omega, fun p hp => h40 p (hw.1.2.2.2.2 m p hm hp)⟩
theorem preL_rwT {T : mT} (hw : tWF 300 T) (hv : tVa T) : rwT (preL T) (tIn T) (tWo T) (tUp T) := by
  refine ⟨fun m => ⟨fun h => ⟨preE T m, List.mem_map_of_mem ((pO_mem hw).mpr h), rfl⟩, ?_⟩, fun e he => ?_⟩
  · rintro ⟨e, h1, h2⟩
    obtain ⟨x, h3, h4⟩ := List.mem_map.mp h1
    rw [← h4] at h2
    have : x = m := h2
    rw [← this]
    exact (pO_mem hw).mp h3
  · obtain ⟨x, h3, h4⟩ := List.mem_map.mp he
    rw [← h4]
    exact ⟨(preE_v hv ((pO_mem hw).mp h3)).1, rfl⟩
theorem preL_LT {T : mT} (hw : tWF 300 T) (hv : tVa T) (lo : Nat → Bool) : LT lo (preL T) T := by
  refine ⟨by rw [preL_1]; exact pO_nd hw, preL_rwT hw hv, fun p hp _ => ?_⟩
  rw [lcL_f, ← pO_ki hw hp]
  unfold preL
  rw [List.filter_map, List.map_map]
  have e1 : (((fun e : lE => e.1) ∘ preE T) : Nat → Nat) = id := rfl
  rw [e1, List.map_id]
  refine List.filter_congr (fun x hx => ?_)
  have hix := (pO_mem hw).mp hx
  show decide (tUp T x = some p ∧ x ≠ p) = decide (tUp T x = some p)
  by_cases c : tUp T x = some p
  · have : x ≠ p := ki_ne hw.1.2.2.2.1 ((hw.1.2.1 x p).mpr ⟨hix, c⟩)
    simp [c, this]
  · simp [c]
/-! the class's state beside the law's cells -/
def cS (h : tpH) (z mk : Nat) (kd idn : Nat → Int32) (rt : Nat → Bool) (dr : Option mT) (r : mRe) (n : Nat) : Prop := mIn mk kd rt dr r ∧ stP h z (z + 1) (z + 109) mk kd idn dr r n ∧ z + 109 ≤ hZ h ∧ n ≤ 184001
def lwT (z : Nat) : Nat → Nat → Prop := fun b _ => z + 102 ≤ b ∧ b < z + 109
theorem cS_fr {h h' : tpH} {z mk n : Nat} {kd idn : Nat → Int32} {rt : Nat → Bool} {dr : Option mT} {r : mRe} (H : cS h z mk kd idn rt dr r n) {T : Nat → Nat → Prop} (f : hFr h h' T (fun _ _ => False)) (hT1 : ∀ b j, b < hZ h → T b j → z + 102 ≤ b ∧ b < z + 109) : cS h' z mk kd idn rt dr r n := by
  obtain ⟨h1, h2, h3, h4⟩ := H
  have f2 : hFr h h' (lwT z) (fun _ _ => False) := hFr_mono f (fun b j hb hj => hT1 b j hb hj) (fun _ _ _ g => g)
  exact ⟨h1, stP_oth h2 (by omega) (by omega) h3 f2 (fun b j g => ⟨by have := g.1; omega, g.2⟩) (fun _ _ g => g.elim), Nat.le_trans h3 f2.1, h4⟩
/-- a law's row, or one made later than the state that is told -/
def lwN (h0 : tpH) (z t : Nat) : Prop := (z + 102 ≤ t ∧ t < z + 109) ∨ hZ h0 ≤ t
theorem e64 (a b c : Nat) : (nI a + (64 : Int32) * nI b) + (8192 : Int32) * nI c = nI (a + 64 * b + 8192 * c) := by
  rw [show (64 : Int32) = nI 64 from rfl, show (8192 : Int32) = nI 8192 from rfl, mI_mul, mI_mul, nI_add, nI_add]
theorem nO_1 (o : Option Nat) : nO o + 1 = nI (lpc o) := by
  cases o with
  | none => rfl
  | some p => exact nI_1 p
theorem p_reads10 {h0 h : tpH} {z mk n i t : Nat} {kd idn : Nat → Int32} {rt : Nat → Bool} {dr : Option mT} {r : mRe} {T : mT} (H : cS h0 z mk kd idn rt dr r n) (hmk : mk ≤ 40) (hi : r.1[i]? = some T) (hv : tVa T) (a : iA h t 41) (hN : lwN h0 z t) {X : String → tpH → Prop} {R : tpH → Prop} {F0 : Nat → Nat → Int32} (f0 : hFr h0 (wI h F0) (lwT z) (fun _ _ => False))
    (kk : ∀ G, (∀ b, b ≠ t → G b = F0 b) → rwP G t (preL T) → R (wI h G)) :
    ∀ (f j : Nat) (A B : List Nat) (F : Nat → Nat → Int32), B.length < f → pO T = A ++ B → A.length = j → (∀ b, b ≠ t → F b = F0 b) → F t 0 = nI (pO T).length → rwG (fun e => nI (lcd e)) F t 1 (A.map (preE T)) → w_Lw_reads_10 R X f (some z) (nI i) (some t) (nI j) (wI h F)
  | 0, j, A, B, F, hf, _, _, _, _, _ => absurd hf (Nat.not_lt_zero _)
  | f + 1, j, A, B, F, hf, hAB, hj, hF, h0c, rA => by
    have hm := H.1
    have hwf := mIn_wf hm i T hi
    have htr := hm.2.2.1 T (List.mem_of_getElem? hi)
    have h40 : ∀ m, tIn T m = true → m < 40 := fun m hq => by have := (htr.2.1 m hq).1; omega
    have hl40 : (pO T).length ≤ 40 := nd_lt (pO_nd hwf) (fun x hx => h40 x ((pO_mem hwf).mp hx))
    have hlen : (pO T).length = A.length + B.length := by rw [hAB, List.length_append]
    have et : hL (wI h F) t = 41 := a.2
    have f1 : hFr h0 (wI h F) (lwT z) (fun _ _ => False) := by
      refine ⟨f0.1, fun b hb => ?_⟩
      obtain ⟨p1, p2, p3, p4, p5, p6⟩ := f0.2 b hb
      refine ⟨p1, p2, p3, p4, fun k hk => ?_, p6⟩
      by_cases c : b = t
      · subst c
        exact hN.elim (fun q => absurd q hk) (fun q => by omega)
      · rw [← p5 k hk]
        show F b k = F0 b k
        rw [hF b c]
    have H1 := cS_fr H f1 (fun b k _ g => g)
    have hP := H1.2.1
    have fin : B = [] → R (wI h F) := fun eB => by
      rw [eB, List.append_nil] at hAB
      refine kk F hF ⟨by rw [preL_len]; exact h0c, by rw [preL_len]; exact hl40, fun e he => ?_, ?_⟩
      · obtain ⟨x, h3, h4⟩ := List.mem_map.mp he
        rw [← h4]
        exact preE_OK hwf hv h40 ((pO_mem hwf).mp h3)
      · unfold preL
        rw [hAB]
        exact rA
    refine ⟨t, rfl, a.1, by rw [et]; exact vp0 (by decide) (by decide), ?_⟩
    rw [show (0 : Int32).toNatClampNeg = 0 from rfl, wI_I, h0c, nI_le_iff (by omega) (by omega)]
    refine ⟨fun g => fin (List.eq_nil_of_length_eq_zero (by omega)), fun g => ⟨fun g2 => ?_, fun g2 => ⟨z, rfl, hP.1.1, ?_⟩⟩⟩
    · have : 40 ≤ j := (nI_le_iff (a := 40) (by omega) (by omega)).mp g2
      exact fin (List.eq_nil_of_length_eq_zero (by omega))
    · match B, hAB, hf, hlen with
      | [], _, _, hlen => simp at hlen; omega
      | m :: B, hAB, hf, hlen =>
        rw [List.length_cons] at hlen hf
        have hi31 : i < 40 := by
          have h1 := (List.getElem?_eq_some_iff.mp hi).1
          have h2 := hP.2.2.2.2.1.2.1
          omega
        have hmi : tIn T m = true := (pO_mem hwf).mp (by rw [hAB]; simp)
        have hm40 := h40 m hmi
        have hpm : (pO T)[j]? = some m := by rw [hAB, ← hj, List.getElem?_append_right (Nat.le_refl _), Nat.sub_self]; rfl
        have g3 : gMarkAt r.1 (nI i) (nI j) = some (nI m) := by
          unfold gMarkAt
          rw [lstAt_n _ (by omega), hi]
          show Option.map _ (lstAt (pO T) (nI j)) = _
          rw [lstAt_n _ (by omega), hpm]
          rfl
        have e5 : (nI m).toInt = (m : Int) := nI_toInt (by omega)
        have hc : 0 ≤ (nI m).toInt ∧ (nI m).toInt < mk := by
          have := (htr.2.1 m hmi).1
          rw [e5]
          omega
        have e6 : (nI m).toInt.toNat = m := by rw [e5]; rfl
        have g4 : gValue r.1 mk (nI i) (nI m) = some (tWo T m) := by
          unfold gValue
          rw [lstAt_n _ (by omega), hi]
          show (if _ then _ else _) = _
          rw [if_pos hc, e6, if_pos hmi]
        have g5 : gParent r.1 mk (nI i) (nI m) = some (nO (tUp T m)) := by
          unfold gParent
          rw [lstAt_n _ (by omega), hi]
          show (if _ then _ else _) = _
          rw [if_pos hc, e6, if_pos hmi]
        have k300 : mk ≤ 300 := by omega
        refine p_TP_markAt hP.1 hP.2.2.2.2.1 (mIn_wf hm) (fun q => by rw [g3] at q; cases q) (fun v hv1 => ?_)
        rw [g3] at hv1
        cases hv1
        refine ⟨hP.1.1, p_TP_value hP.1 hP.2.1.1 k300 hP.2.2.2.2.1 (mIn_wf hm) (fun q => by rw [g4] at q; cases q) (fun v hv1 => ?_)⟩
        rw [g4] at hv1
        cases hv1
        refine ⟨hP.1.1, p_TP_parent hP.1 hP.2.1.1 k300 hP.2.2.2.2.1 (mIn_wf hm) (fun q => by rw [g5] at q; cases q) (fun v hv1 => ?_)⟩
        rw [g5] at hv1
        cases hv1
        have e1 : (1 : Int32) + nI j = nI (1 + j) := nI_add 1 j
        rw [e1, et, nI_clamp (by omega)]
        refine ⟨a.1, vp_in_nI (by omega) (by decide), fun h20 e20 => ?_⟩
        have ev := preE_v hv hmi
        rw [ev.1, nO_1, e64, sI_wI, wI_wI, wI_I] at e20
        subst e20
        rw [nI_1]
        have el : (A ++ [m]).length = j + 1 := by rw [List.length_append, List.length_singleton, hj]
        refine p_reads10 H hmk hi hv a hN f0 kk f (j + 1) (A ++ [m]) B _ (by omega) (by rw [hAB, List.append_assoc]; rfl) el (fun b hb => (tpu_ne hb).trans (hF b hb)) (by rw [tpu_o (by omega)]; exact h0c) ?_
        rw [List.map_append]
        refine rwG_app.mpr ⟨rwG_k rA (fun k _ hk => tpu_o (by rw [List.length_map] at hk; omega)), rwG_cons.mpr ⟨?_, rwG_nil _ _ _ _⟩⟩
        rw [List.length_map, hj, tpu_s]
        rfl
theorem p_reads {h0 h : tpH} {z mk n i t : Nat} {kd idn : Nat → Int32} {rt : Nat → Bool} {dr : Option mT} {r : mRe} {T : mT} (H : cS h0 z mk kd idn rt dr r n) (hmk : mk ≤ 40) (hi : r.1[i]? = some T) (hv : tVa T) (a : iA h t 41) (hN : lwN h0 z t) {X : String → tpH → Prop} {R : tpH → Prop} (f0 : hFr h0 h (lwT z) (fun _ _ => False))
    (kk : ∀ G, (∀ b, b ≠ t → G b = hI h b) → rwP G t (preL T) → R (wI h G)) : w_Lw_reads (some z) (nI i) (some t) h X R := by
  have hm := H.1
  have hwf := mIn_wf hm
  have H1 := cS_fr H f0 (fun b k _ g => g)
  have hP := H1.2.1
  have hi31 : i < 40 := by
    have h1 := (List.getElem?_eq_some_iff.mp hi).1
    have h2 := hP.2.2.2.2.1.2.1
    omega
  have g3 : gSize r.1 (nI i) = some (nI (pO T).length) := by
    unfold gSize
    rw [lstAt_n _ (by omega), hi, pO_len (hwf i T hi)]
    rfl
  refine ⟨z, rfl, hP.1.1, p_TP_size hP.1 hP.2.2.2.2.1 hwf (fun q => by rw [g3] at q; cases q) (fun v hv1 => ?_)⟩
  rw [g3] at hv1
  cases hv1
  refine ⟨t, rfl, a.1, by rw [a.2]; exact vp0 (by decide) (by decide), fun h10 e10 => ⟨(pO T).length + 1, ?_⟩⟩
  rw [show (0 : Int32).toNatClampNeg = 0 from rfl, sI_wI] at e10
  subst e10
  exact p_reads10 (F0 := hI h) H hmk hi hv a hN f0 kk _ 0 [] (pO T) _ (Nat.lt_succ_self _) rfl rfl (fun b hb => tpu_ne hb) (tpu_s _ _ _ _) (rwG_nil _ _ _ _)
end READROW
