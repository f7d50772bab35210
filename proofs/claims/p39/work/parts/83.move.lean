section PMOVE
/-- how many children a moving mark leaves to count -/
def leaveK (t : mT) (m r : Nat) : Nat := (tKi t r).length - (if m ∈ tKi t r then 1 else 0)
theorem p_TP_move {h : tpH} {o p mk : Nat} (l : lTP h o p) {F : Nat → Nat → Int32} {dr : Option mT} (hD : DrP F p dr) {kd idn : Nat → Int32} (hM : MaP F p mk kd idn) (hdm : ∀ t, dr = some t → ∀ m, tIn t m = true → m < mk) {lo : Nat → Bool} (hlo : ∀ m, m < mk → (kd m < 4 ↔ lo m = false)) {x y pl : Int32} {X : String → tpH → Prop} {R : Int32 → tpH → Prop}
    (x1 : (∀ m, m < 300 → x = nI m → drIn dr m = false) → X "java/lang/IndexOutOfBoundsException" (nC (wI h F) 0 0 6))
    (x2 : ∀ t m, dr = some t → x = nI m → tIn t m = true → (∀ r, r < 300 → y = nI r → tIn t r = false) → X "java/lang/IndexOutOfBoundsException" (nC (wI h F) 0 0 6))
    (x3 : ∀ t m r, dr = some t → x = nI m → y = nI r → tIn t m = true → tIn t r = true → ¬ plOK (lo r) pl (leaveK t m r) → X "java/lang/IndexOutOfBoundsException" (nC (wI h F) 0 0 6))
    (x4 : ∀ t m r, dr = some t → x = nI m → y = nI r → tIn t m = true → tIn t r = true → plOK (lo r) pl (leaveK t m r) → r ∈ tPo t m → X "java/lang/IllegalStateException" (nC (wI h F) 0 0 6))
    (kk : ∀ t m r, dr = some t → x = nI m → y = nI r → tIn t m = true → tIn t r = true → plOK (lo r) pl (leaveK t m r) → r ∉ tPo t m → ∀ G, DrP G p (some (dMove t m r (lo r) pl.toInt.toNat)) → (∀ b, b < p + 5 ∨ p + 20 ≤ b → G b = F b) → R (nO (tUp t m)) (wI h G)) : w_TP_move o x y pl (wI h F) X R := by
  have lm : lMa h p := l.2.2.1
  have lb : lBu h (p + 5) (some (p + 0)) := l.2.2.2.2.1
  refine ⟨l.1, p_TP_needDrafted l (dr_held hD) (fun m e hm3 hm0 => ?_) x1⟩
  obtain ⟨t, ed, hm⟩ := dr_some hm0
  clear hm0
  subst ed
  subst e
  have hwT := hD.2.2
  refine ⟨l.1, p_TP_needDrafted l (inn := tIn t) hD.1.2.1 (fun r e hr3 hr => ?_) (fun g => x2 t m rfl rfl hm g)⟩
  subst e
  have hrm := hdm t rfl r hr
  have hlr : F (p + 2) r < 4 ↔ lo r = false := by rw [(hM.2 r hrm).1]; exact hlo r hrm
  have hle : (tKi t r).length - (if m ∈ tKi t r then 1 else 0) = leaveK t m r := rfl
  refine ⟨l.1, p_TP_needPlace l hD.1 hwT.1 hr hlr (c := if m ∈ tKi t r then 1 else 0) ?_ (fun g => ?_) (fun g1 g2 => x3 t m r rfl rfl rfl hm hr (fun g => by
    rcases g with g | g
    · rw [g1] at g; simp at g
    · exact g2 g))⟩
  · by_cases c : m ∈ tKi t r
    · rw [if_pos c]; exact Or.inr ⟨rfl, m, rfl, c⟩
    · rw [if_neg c]
      refine Or.inl ⟨rfl, fun j hj e => ?_⟩
      rw [← nI_inj (a := m) (b := j) (by omega) (by omega) e]; exact c
  have gp : plOK (lo r) pl (leaveK t m r) := g
  refine ⟨l.1, p + 5, l.2.2.2.1, lb.1, p_Bu_isWithin lb (BuP_L hD.1) hwT.1 hr hm3 ?_⟩
  by_cases hc : r ∈ tPo t m
  · rw [if_pos hc]
    exact ⟨fun e => absurd e (by decide), fun _ => x4 t m r rfl rfl rfl hm hr gp hc⟩
  · rw [if_neg hc]
    refine ⟨fun _ => ?_, fun e => absurd rfl e⟩
    refine ⟨l.1, p + 5, l.2.2.2.1, lb.1, ?_⟩
    rw [e_Bu_upOf lb, rAt_n hm3 n300, (hD.1.2.2 m hm).2.1]
    refine ⟨l.1, p + 5, l.2.2.2.1, lb.1, ?_⟩
    rw [e_Bu_cut lb]
    obtain ⟨hB1, hf1⟩ := bu_cutg hD.1 hwT.1 hm
    have hw1 := fCut hwT.1 m
    have hum : tUp (tCut t m) m = none := mU_s _ _ _
    refine ⟨l.1, p + 5, l.2.2.2.1, lb.1, p_Bu_childAhead lb (BuP_L hB1) hw1 (p := r) hr (K := pl.toInt.toNat) (fun j hj => plK pl hj) ?_⟩
    obtain ⟨hB2, hf2⟩ := bu_hng hB1 hw1 (p := r) hm hum hr (in_split (lo r) (tKi (tCut t m) r) m pl.toInt.toNat)
    have hlr2 : uCut F (p + 5) (nI m) (p + 0 + 2) r < 4 ↔ lo r = false := by
      rw [hf1 _ (by omega) (by omega) (by omega) (by omega) (by omega)]
      exact hlr
    refine ⟨lb.1, p_Bu_hang lb lm (BuP_L hB1) hw1 (p := r) hr hm3 hlr2 ?_⟩
    refine kk t m r rfl rfl rfl hm hr gp hc _ ⟨hB2, ?_, wMove hwT hm hr hc (lo r) _⟩ (fun b hb => by rw [hf2 b (by omega) (by omega) (by omega) (by omega) (by omega), hf1 b (by omega) (by omega) (by omega) (by omega) (by omega)])
    rw [hf2 (p + 5) (by omega) (by omega) (by omega) (by omega) (by omega), hf1 (p + 5) (by omega) (by omega) (by omega) (by omega) (by omega)]
    exact hD.2.1
end PMOVE
