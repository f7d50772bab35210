section PBUSHE
theorem tPo_congr {t u : mT} (ht : tRk t) (hu : tRk u) : ∀ m, (∀ x ∈ tPo t m, tKi u x = tKi t x) → tPo u m = tPo t m := by
  refine tKi_ind ht (fun m ih hk => ?_)
  rw [tPo_eq ht m, tPo_eq hu m, hk m (tPo_self ht m)]
  congr 1
  exact fm_congr (fun c hc => ih c hc (fun x hx => hk x ((tPo_mem ht).mpr (Or.inr ⟨c, hc, hx⟩))))
/-- what is below a mark does not change when the mark is cut -/
theorem tCut_ki {t : mT} (hw : fWF 300 t) {m : Nat} : ∀ x ∈ tPo t m, tKi (tCut t m) x = tKi t x := by
  intro x hx
  obtain ⟨rk, hrk⟩ := hw.2.2.2.1
  refine List.erase_of_not_mem (fun h => ?_)
  have h1 := hrk m x h
  have h2 := tPo_rk hw.2.2.2.1 hrk m hx
  omega
theorem tCut_po {t : mT} (hw : fWF 300 t) (m : Nat) : tPo (tCut t m) m = tPo t m := tPo_congr hw.2.2.2.1 (fCut hw m).2.2.2.1 m (tCut_ki hw)
theorem bu_cutg {F : Nat → Nat → Int32} {d : Nat} {t : mT} (h : BuP F d t) (hw : fWF 300 t) {m : Nat} (hm : tIn t m = true) :
    BuP (uCut F d (nI m)) d (tCut t m) ∧ (∀ b, b ≠ d + 6 → b ≠ d + 8 → b ≠ d + 10 → b ≠ d + 12 → b ≠ d + 14 → uCut F d (nI m) b = F b) := by
  cases hu : tUp t m with
  | some p =>
    obtain ⟨A, B, e⟩ := List.append_of_mem ((hw.2.1 m p).mpr ⟨hm, hu⟩)
    exact bu_cut h hw e
  | none =>
    rw [bu_cut0 h hw hm hu]
    have e1 : ∀ x, tKi (tCut t m) x = tKi t x := fun x => List.erase_of_not_mem (fun h => by have := (fKi_in hw h).2; rw [hu] at this; simp at this)
    have e2 : ∀ x, tUp (tCut t m) x = tUp t x := fun x => by
      show mU (tUp t) m none x = _
      by_cases e : x = m
      · rw [e, mU_s, hu]
      · rw [mU_n _ _ e]
    refine ⟨⟨h.1, h.2.1, fun x hx => ?_⟩, fun _ _ _ _ _ _ => rfl⟩
    unfold nodeP
    rw [e1, e2]
    exact h.2.2 x hx
def hz (F : Nat → Nat → Int32) (d : Nat) (S : List Nat) : Nat → Nat → Int32 := fun b j => if b = d + 2 ∧ j ∈ S then 0 else F b j
theorem hz_nil (F : Nat → Nat → Int32) (d : Nat) : hz F d [] = F := by funext b j; simp [hz]
theorem hz_ne (F : Nat → Nat → Int32) {d : Nat} {S : List Nat} {b : Nat} (h : b ≠ d + 2) : hz F d S b = F b := by funext j; simp [hz, h]
theorem hz_put (F : Nat → Nat → Int32) (d : Nat) (S : List Nat) {m : Nat} (hm : m < 300) : rPut (hz F d S) (d + 2) 300 (nI m) 0 = hz F d (S ++ [m]) := by
  rw [rPut_n hm n300]
  funext b j
  simp only [tpu, hz, List.mem_append, List.mem_singleton]
  by_cases c1 : b = d + 2 <;> by_cases c2 : j = m <;> by_cases c3 : j ∈ S <;> simp [c1, c2, c3]
theorem BuL_hz {F : Nat → Nat → Int32} {d : Nat} {t : mT} (h : BuL F d t) (S : List Nat) : BuL (hz F d S) d t := by
  unfold BuL nodeP
  rw [hz_ne F (b := d) (by omega), hz_ne F (b := d + 4) (by omega), hz_ne F (b := d + 6) (by omega), hz_ne F (b := d + 8) (by omega), hz_ne F (b := d + 10) (by omega), hz_ne F (b := d + 12) (by omega), hz_ne F (b := d + 14) (by omega)]
  exact h
theorem nI_sub2 {a b : Nat} (h : b ≤ a) : nI a - nI b = nI (a - b) := by
  have e : nI a = nI (a - b) + nI b := by rw [nI_add]; congr 1; omega
  rw [e, Int32.add_sub_cancel]
theorem p_ers {h : tpH} {d : Nat} {x : Option Nat} (l : lBu h d x) {G : Nat → Nat → Int32} {t : mT} (hB : BuL G d t) (hw : fWF 300 t) {top : Nat} (ht : tIn t top = true) {R : Int32 → tpH → Prop}
    (k : R (nI (tPo t top).length) (wI h (tpu (hz G d (tPo t top)) d 9 (nI (tCn t - (tPo t top).length))))) : ∀ (n : Nat) (A L : List Nat), tPo t top = A ++ L → L.length < n → w_Bu_erase_12 R n d (nI top) (nI A.length) (headO L) (nI A.length) (wI h (hz G d A)) := by
  have hnx := @p_Bu_nextInOrder h d x l
  have l0 := l.1
  obtain ⟨-, -, ⟨a1, b1⟩, -⟩ := l
  have hnd := tPo_nodup hw top
  have hpi := tPo_in hw ht
  have hlen : (tPo t top).length ≤ tCn t := nd_len hnd (fun y hy => List.mem_filter.mpr ⟨List.mem_range.mpr (hw.1 y (hpi y hy)), hpi y hy⟩)
  have hC3 := tCn_le t
  intro n
  induction n with
  | zero => intro A L _ hn; omega
  | succ n ih =>
    intro A L hA hn
    have hl2 := congrArg List.length hA
    rw [List.length_append] at hl2
    show b_Bu_erase_12 R (w_Bu_erase_12 R n) d (nI top) (nI A.length) (headO L) (nI A.length) (wI h (hz G d A))
    have hend : L = [] → w_Bu_erase_50 R d (nI A.length) (wI h (hz G d A)) := by
      intro e
      rw [e, List.append_nil] at hA
      unfold w_Bu_erase_50
      simp only [wI_T, wI_I, l0, true_and, forall_eq, sI_w]
      rw [hA] at k hlen
      rw [hz_ne G (b := d) (by omega), hB.1, nI_sub2 hlen]
      exact k
    unfold b_Bu_erase_12
    simp only [wI_T, wI_R, l0, a1, b1.1, Option.some.injEq, exists_eq_left', true_and, e_put b1 n300]
    cases L with
    | nil => exact ⟨fun _ => hend rfl, fun _ => ⟨fun _ => hend rfl, fun e => absurd rfl e⟩⟩
    | cons m L =>
      have hmi := hpi m (by rw [hA]; simp)
      have hm3 := hw.1 m hmi
      simp only [List.length_cons] at hl2 hn
      refine ⟨fun e => ?_, fun _ => ⟨fun e => absurd e (nI_ne_m (by omega)), fun _ => ?_⟩⟩
      · have e : nI 300 ≤ nI A.length := e
        rw [nI3_le (by omega) (by omega)] at e
        omega
      · show w_Bu_nextInOrder d (nI m) (nI top) (wI h (rPut (hz G d A) (d + 2) 300 (nI m) 0)) _
        rw [hz_put G d A hm3]
        refine hnx (BuL_hz hB _) hw ht hA ?_
        have k2 := ih (A ++ [m]) L (by rw [hA]; simp) (by omega)
        rw [List.length_append] at k2
        rw [nI_1]
        exact k2
noncomputable def uErs (F : Nat → Nat → Int32) (d m : Nat) (t : mT) : Nat → Nat → Int32 := tpu (hz (uCut F d (nI m)) d (tPo t m)) d 9 (nI (tCn t - (tPo t m).length))
theorem p_Bu_erase {h : tpH} {d : Nat} {x : Option Nat} (l : lBu h d x) {F : Nat → Nat → Int32} {t : mT} (hB : BuP F d t) (hw : fWF 300 t) {m : Nat} (hm : tIn t m = true) {R : Int32 → tpH → Prop}
    (k : R (nI (tPo t m).length) (wI h (uErs F d m t))) : w_Bu_erase d (nI m) (wI h F) R := by
  have hc := (bu_cutg hB hw hm).1
  have hwc := fCut hw m
  have hpo := tCut_po hw m
  unfold w_Bu_erase
  rw [e_Bu_cut l]
  refine ⟨l.1, (tPo t m).length + 1, ?_⟩
  have hL : headO (tPo t m) = nI m := by rw [tPo_eq hw.2.2.2.1 m]; rfl
  have k2 := p_ers l (BuP_L hc) hwc (top := m) hm (R := R) (by rw [hpo]; exact k) ((tPo t m).length + 1) [] (tPo t m) (by rw [hpo]; rfl) (Nat.lt_succ_self _)
  rw [hz_nil, hL] at k2
  exact k2
theorem bu_ers {F : Nat → Nat → Int32} {d : Nat} {t : mT} (hB : BuP F d t) (hw : fWF 300 t) {m : Nat} (hm : tIn t m = true) :
    BuP (uErs F d m t) d (tErs t m) ∧ (∀ b, b ≠ d → b ≠ d + 2 → b ≠ d + 6 → b ≠ d + 8 → b ≠ d + 10 → b ≠ d + 12 → b ≠ d + 14 → uErs F d m t b = F b) ∧ (∀ j, j ≠ 9 → uErs F d m t d j = F d j) := by
  obtain ⟨hc, hf⟩ := bu_cutg hB hw hm
  have hn : ∀ b, b ≠ d → b ≠ d + 2 → uErs F d m t b = uCut F d (nI m) b := fun b h0 h2 => by
    unfold uErs
    rw [tpu_ne h0, hz_ne _ h2]
  refine ⟨?_, fun b h0 h2 h6 h8 h10 h12 h14 => by rw [hn b h0 h2, hf b h6 h8 h10 h12 h14], fun j hj => ?_⟩
  · refine ⟨?_, fun x hx => ?_, fun x hx => ?_⟩
    · unfold uErs
      rw [tpu_s]
      have := tCn_ers hw (Nat.le_refl 300) hm
      congr 1
      omega
    · show uErs F d m t (d + 2) x = if (tIn t x && !decide (x ∈ tPo t m)) = true then 1 else 0
      unfold uErs
      rw [tpu_ne (by omega)]
      have h2 := hc.2.1 x hx
      have h2 : uCut F d (nI m) (d + 2) x = if tIn t x = true then 1 else 0 := h2
      by_cases c : x ∈ tPo t m
      · simp [hz, c]
      · simp [hz, c, h2]
    · have hx : (tIn t x && !decide (x ∈ tPo t m)) = true := hx
      simp only [Bool.and_eq_true, Bool.not_eq_true', decide_eq_false_iff_not] at hx
      have h3 := hc.2.2 x hx.1
      unfold nodeP at h3 ⊢
      rw [hn (d + 4) (by omega) (by omega), hn (d + 6) (by omega) (by omega), hn (d + 8) (by omega) (by omega), hn (d + 10) (by omega) (by omega), hn (d + 12) (by omega) (by omega), hn (d + 14) (by omega) (by omega)]
      have e : tKi (tErs t m) x = tKi (tCut t m) x := if_neg hx.2
      rw [e]
      exact h3
  · unfold uErs
    rw [tpu_j _ _ _ _ _ _ hj, hz_ne _ (by omega), hf d (by omega) (by omega) (by omega) (by omega) (by omega)]
end PBUSHE
