section MMOVE
theorem leaveK_len {t : mT} (hw : fWF 300 t) (m r : Nat) : (tKi (tCut t m) r).length = leaveK t m r := by
  unfold leaveK
  show ((tKi t r).erase m).length = _
  by_cases c : m ∈ tKi t r
  · rw [if_pos c, List.length_erase_of_mem c]
  · rw [if_neg c, List.erase_of_not_mem c]; rfl
theorem p_Md_move127 {h : tpH} {Q q mk : Nat} (M : lMd h Q q) (hQ : Q < q) {F : Nat → Nat → Int32} {kd idn : Nat → Int32} (hM : MaM F Q q mk kd idn) {t : mT} (hD : DrM F Q q (some t)) (hw : tWF 300 t) (hdm : ∀ m, tIn t m = true → m < mk) {lo : Nat → Bool} (hlo : ∀ m, m < mk → (kd m < 4 ↔ lo m = false)) {m r : Nat} (hm : tIn t m = true) (hr : tIn t r = true) (hc : r ∉ tPo t m) {pl : Int32} (gp : plOK (lo r) pl (leaveK t m r)) (h31 : F Q 31 = 0) {R : Int32 → tpH → Prop}
    (kk : ∀ G, DrM G Q q (some (dMove t m r (lo r) pl.toInt.toNat)) → (∀ b j, ¬ (q + 3 ≤ b ∧ b ≤ q + 6 ∧ 12000 ≤ j ∧ j < 12300) → G b j = F b j) → R (nO (tUp t m)) (wI h G)) : w_Md_move_127 R Q (nI m) (nI r) pl (wI h F) := by
  have hm3 := hw.1.1 m hm
  have hr3 := hw.1.1 r hr
  have hmr : m ≠ tRt t := fun e => hc (by rw [e]; exact (tPo_all hw).mpr hr)
  have hrm : r ≠ m := fun e => hc (by rw [e]; exact tPo_self hw.1.2.2.2.1 m)
  obtain ⟨u, hu⟩ := Option.ne_none_iff_exists'.mp (hw.2.2.2 m hm hmr)
  obtain ⟨A0, B0, e0⟩ := List.append_of_mem ((hw.1.2.1 m u).mpr ⟨hm, hu⟩)
  refine ⟨M.1, fun _ => ?_, fun e => absurd (show F Q 31 ≤ 0 by rw [h31]; exact Int32.le_refl 0) e⟩
  show w_Md_parentIn Q (nI 40) (nI m) (wI h F) _
  rw [e_Md_parentIn M (by decide) hm3, (hD.2.1 m hm).2.1 u hu]
  refine ⟨M.1, ?_⟩
  show w_Md_unhang Q (nI 40) (nI m) (wI h F) _
  refine p_Md_unhang M (by decide) hD.2.1 hw.1 e0 ⟨M.1, ?_⟩
  obtain ⟨c1, c2, c3, c4⟩ := mu_cut hD.2.1 hw.1 e0
  have hw1 := fCut hw.1 m
  have hum : tUp (tCut t m) m = none := mU_s _ _ _
  have hmk : m ∉ tKi (tCut t m) r := fun e => by have := (fKi_in hw1 e).2; rw [hum] at this; simp at this
  have hrmk := hdm r hr
  have hlr : uMu F q 40 m u A0.getLast? q r < 4 ↔ lo r = false := by
    rw [c2.1 q (by omega) (by omega) (by omega), (hM.2 r hrmk).1]; exact hlo r hrmk
  have hlen := ki_len hw1 r
  have hC3 := tCn_le (tCut t m)
  have hsp := in_split (lo r) (tKi (tCut t m) r) m pl.toInt.toNat
  obtain ⟨g1, g2, g3, g4⟩ := mh_hng c1 hw1 (m := m) (p := r) hm hum hr hrm hsp
  have fin : R (nO (tUp t m)) (wI h (uMh (uMu F q 40 m u A0.getLast?) q 40 m r (hgA (lo r) (tKi (tCut t m) r) m ((tKi (tCut t m) r).take pl.toInt.toNat)).getLast?)) := by
    have hrA0 : tRt t ∉ A0 := fun e => by
      have := (fKi_in hw.1 (x := tRt t) (p := u) (by rw [e0]; exact List.mem_append_left _ e)).2
      rw [hw.2.2.1] at this; simp at this
    have hrA : tRt t ∉ hgA (lo r) (tKi (tCut t m) r) m ((tKi (tCut t m) r).take pl.toInt.toNat) := fun e => by
      have h1 : tRt t ∈ tKi (tCut t m) r := by rw [hsp]; exact List.mem_append_left _ e
      have h2 := (fKi_in hw1 h1).2
      have h2 : mU (tUp t) m none (tRt t) = some r := h2
      rw [mU_n _ _ (Ne.symm hmr), hw.2.2.1] at h2; simp at h2
    have hfr := mFr_tr c2 g2
    refine kk _ ⟨?_, g1, ⟨?_, ?_⟩, fun x hx hi => ?_, ?_⟩ (fun b j hb => ?_)
    · rw [hfr.1 Q (by omega) (by omega) (by omega)]; exact hD.1
    · show uMh _ _ _ _ _ _ (q + 3) (300 * 40 + tRt t) = -1
      rw [g3 _ (Ne.symm hmr), c3]
      exact hD.2.2.1.1
    · show uMh _ _ _ _ _ _ (q + 6) (300 * 40 + tRt t) = -1
      rw [g4 _ (Ne.symm hmr) hrA, c4 _ (Ne.symm hmr) hrA0]
      exact hD.2.2.1.2
    · have hi : tIn t x = false := hi
      have hxm : x ≠ m := fun e => by rw [e, hm] at hi; simp at hi
      rw [g3 x hxm, c3]
      exact hD.2.2.2.1 x hx hi
    · rw [hfr.1 (q + 2) (by omega) (by omega) (by omega)]; exact hD.2.2.2.2
    · by_cases c : b = q + 3 ∨ b = q + 5 ∨ b = q + 6
      · exact hfr.2 b j (by omega)
      · rw [hfr.1 b (by omega) (by omega) (by omega)]
  rw [hu] at fin
  rw [e_Md_isOrdered M hr3]
  by_cases cl : lo r = true
  · have n4 : ¬ uMu F q 40 m u A0.getLast? q r < 4 := fun e => by rw [hlr.mp e] at cl; simp at cl
    rw [if_neg n4]
    refine ⟨fun _ => ⟨Q, rfl, M.1, ?_⟩, fun e => absurd rfl e⟩
    show w_Md_hang Q (nI 40) (nI m) (nI r) (lastO []) (wI h _) _
    refine p_Md_hang M (by decide) hm3 (c1 r hr) hw1 (p := r) hr hmk (A := []) rfl hlr ?_
    have e : hgA (lo r) (tKi (tCut t m) r) m [] = hgA (lo r) (tKi (tCut t m) r) m ((tKi (tCut t m) r).take pl.toInt.toNat) := by
      unfold hgA
      rw [if_pos cl, if_pos cl]
    rw [e]
    exact fin
  · have cf : lo r = false := by simpa using cl
    rw [if_pos (hlr.mpr cf)]
    have gpl : 0 ≤ pl.toInt ∧ pl.toInt ≤ ((leaveK t m r : Nat) : Int) := by
      rcases gp with g | g
      · exact absurd g cl
      · exact g
    have hlk := leaveK_len hw.1 m r
    have epl : pl = nI pl.toInt.toNat := Int32.toInt_inj.mp (by rw [nI_toInt (by omega)]; omega)
    refine ⟨fun e => absurd e (by decide), fun _ => ⟨M.1, ?_⟩⟩
    have k2 : w_Md_aheadOf Q (nI r) (nI pl.toInt.toNat) (wI h (uMu F q 40 m u A0.getLast?)) (fun v13 h12 => w_Md_move_175 R (nI u) v13 (nI r) (nI m) (40 : Int32) (some Q) h12) := by
      refine p_Md_aheadOf M (c1 r hr) hw1 (p := r) hr (K := pl.toInt.toNat) (by omega) ?_
      refine ⟨Q, rfl, M.1, ?_⟩
      show w_Md_hang Q (nI 40) (nI m) (nI r) (lastO ((tKi (tCut t m) r).take pl.toInt.toNat)) (wI h _) _
      exact p_Md_hang M (by decide) hm3 (c1 r hr) hw1 (p := r) hr hmk (List.take_append_drop pl.toInt.toNat _).symm hlr fin
    rw [← epl] at k2
    exact k2
end MMOVE
