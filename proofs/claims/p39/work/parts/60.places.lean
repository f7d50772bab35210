section PLACES
noncomputable def pO (t : mT) : List Nat := tPo t (tRt t)
noncomputable def pl (t : mT) (m : Nat) : Nat := (pO t).idxOf m
noncomputable def rkO (t : mT) (m : Nat) : Nat := match tUp t m with
  | none => 0
  | some p => (tKi t p).idxOf m
theorem ix_mid {m : Nat} {A B : List Nat} (h : m ∉ A) : (A ++ m :: B).idxOf m = A.length := by
  rw [List.idxOf_append, if_neg h]; simp
theorem pO_mem {N : Nat} {t : mT} (hw : tWF N t) {m : Nat} : m ∈ pO t ↔ tIn t m = true := tPo_all hw
theorem pO_nd {N : Nat} {t : mT} (hw : tWF N t) : (pO t).Nodup := tPo_nodup hw.1 _
theorem pl_mid {N : Nat} {t : mT} (hw : tWF N t) {m : Nat} {A B : List Nat} (h : pO t = A ++ m :: B) : pl t m = A.length := by
  unfold pl
  have hn := pO_nd hw
  rw [h] at hn ⊢
  exact ix_mid (fun e => (List.nodup_append.mp hn).2.2 m e m List.mem_cons_self rfl)
theorem pl_lt {N : Nat} {t : mT} (hw : tWF N t) {m : Nat} (hm : tIn t m = true) : pl t m < (pO t).length := List.idxOf_lt_length_iff.mpr ((pO_mem hw).mpr hm)
theorem pO_len {t : mT} (hw : tWF 300 t) : (pO t).length = tCn t := tCn_po hw
theorem pO_split {N : Nat} {t : mT} (hw : tWF N t) {m : Nat} (hm : tIn t m = true) : ∃ A B, pO t = A ++ m :: B := List.append_of_mem ((pO_mem hw).mpr hm)
theorem pl_inj {N : Nat} {t : mT} (hw : tWF N t) {m k : Nat} (hm : tIn t m = true) (hk : tIn t k = true) (h : pl t m = pl t k) : m = k := by
  obtain ⟨A, B, e⟩ := pO_split hw hm
  obtain ⟨A', B', e'⟩ := pO_split hw hk
  rw [pl_mid hw e, pl_mid hw e'] at h
  have h1 := e.symm.trans e'
  have h2 := List.append_inj_right h1 h
  exact (List.cons.inj h2).1
theorem pl_of {N : Nat} {t : mT} (hw : tWF N t) {i : Nat} (hi : i < (pO t).length) : ∃ m, tIn t m = true ∧ pl t m = i := by
  have e : pO t = (pO t).take i ++ (pO t)[i] :: (pO t).drop (i + 1) := by
    rw [← List.drop_eq_getElem_cons hi, List.take_append_drop]
  refine ⟨(pO t)[i], (pO_mem hw).mp (List.getElem_mem hi), ?_⟩
  rw [pl_mid hw e, List.length_take]
  omega
theorem pl_rt {N : Nat} {t : mT} (hw : tWF N t) : pl t (tRt t) = 0 := pl_mid hw (A := []) (tPo_eq hw.1.2.2.2.1 _)
theorem up_rt {N : Nat} {t : mT} (hw : tWF N t) {m : Nat} (hm : tIn t m = true) : tUp t m = none ↔ m = tRt t := by
  constructor
  · intro h
    by_cases e : m = tRt t
    · exact e
    · exact absurd h (hw.2.2.2 m hm e)
  · intro e; rw [e]; exact hw.2.2.1
/-- the children, picked out of the order -/
theorem pO_ki {N : Nat} {t : mT} (hw : tWF N t) {p : Nat} (hp : tIn t p = true) : (pO t).filter (fun x => decide (tUp t x = some p)) = tKi t p := by
  have hr := hw.1.2.2.2.1
  obtain ⟨rk, hrk⟩ := id hr
  obtain ⟨A, L, e⟩ := tAt_ex hw p hp
  have e : pO t = A ++ (tPo t p ++ L) := e
  have hn := pO_nd hw
  have hin : ∀ x ∈ pO t, tUp t x = some p → x ∈ tKi t p ∧ x ∈ tPo t p := fun x hx hu => by
    have hk := (hw.1.2.1 x p).mpr ⟨(pO_mem hw).mp hx, hu⟩
    exact ⟨hk, tPo_kid hr hk _ (tPo_self hr p)⟩
  rw [e] at hn hin ⊢
  obtain ⟨n1, n2, n3⟩ := List.nodup_append.mp hn
  obtain ⟨n4, n5, n6⟩ := List.nodup_append.mp n2
  have fA : A.filter (fun x => decide (tUp t x = some p)) = [] := List.filter_eq_nil_iff.mpr (fun x hx => by
    simp only [decide_eq_true_eq]
    intro hu
    exact n3 x hx x (List.mem_append_left _ (hin x (List.mem_append_left _ hx) hu).2) rfl)
  have fL : L.filter (fun x => decide (tUp t x = some p)) = [] := List.filter_eq_nil_iff.mpr (fun x hx => by
    simp only [decide_eq_true_eq]
    intro hu
    exact n6 x (hin x (List.mem_append_right _ (List.mem_append_right _ hx)) hu).2 x hx rfl)
  rw [List.filter_append, List.filter_append, fA, fL, List.append_nil, List.nil_append, tPo_eq hr p]
  have hpp : ¬ tUp t p = some p := fun h => by
    have := hrk p p ((hw.1.2.1 p p).mpr ⟨hp, h⟩); omega
  rw [List.filter_cons_of_neg (by simpa using hpp), List.filter_flatMap]
  have h1 : (tKi t p).flatMap (fun a => (tPo t a).filter (fun x => decide (tUp t x = some p))) = (tKi t p).flatMap (fun a => [a]) := by
    refine fm_congr (fun k hk => ?_)
    have hnk := tPo_nodup hw.1 k
    rw [tPo_eq hr k] at hnk ⊢
    rw [List.filter_cons_of_pos (by simpa using (fKi_in hw.1 hk).2)]
    congr 1
    refine List.filter_eq_nil_iff.mpr (fun x hx => ?_)
    simp only [decide_eq_true_eq]
    intro hu
    obtain ⟨c, hc, hxc⟩ := List.mem_flatMap.mp hx
    have hxi : tIn t x = true := tPo_in hw.1 (fKi_in hw.1 hc).1 x hxc
    have hxk := (hw.1.2.1 x p).mpr ⟨hxi, hu⟩
    have hxpo : x ∈ tPo t k := (tPo_mem hr).mpr (Or.inr ⟨c, hc, hxc⟩)
    rcases tPo_up hr k hxpo with e1 | ⟨q, hq, hqk⟩
    · rw [e1] at hx; exact (List.nodup_cons.mp hnk).1 hx
    · rw [tUp_of hw.1 hq hxk] at hqk
      have a1 := tPo_rk hr hrk k hqk
      have a2 := hrk k p hk
      omega
  rw [h1]
  induction tKi t p with
  | nil => rfl
  | cons a l ih => rw [List.flatMap_cons, ih]; rfl
/-- how many children of p stand in a list -/
def cK (t : mT) (p : Nat) (A : List Nat) : Nat := (A.filter (fun x => decide (tUp t x = some p))).length
theorem cK_nil (t : mT) (p : Nat) : cK t p [] = 0 := rfl
theorem cK_snoc (t : mT) (p : Nat) (A : List Nat) (m : Nat) : cK t p (A ++ [m]) = cK t p A + if tUp t m = some p then 1 else 0 := by
  unfold cK
  rw [List.filter_append, List.length_append]
  by_cases c : tUp t m = some p <;> simp [c]
theorem cK_all {N : Nat} {t : mT} (hw : tWF N t) {p : Nat} (hp : tIn t p = true) : cK t p (pO t) = (tKi t p).length := by unfold cK; rw [pO_ki hw hp]
theorem cK_rk {N : Nat} {t : mT} (hw : tWF N t) {m p : Nat} {A B : List Nat} (h : pO t = A ++ m :: B) (hu : tUp t m = some p) : cK t p A = rkO t m := by
  have hm : tIn t m = true := (pO_mem hw).mp (by rw [h]; simp)
  have hp := hw.1.2.2.2.2 m p hm hu
  have hk := pO_ki hw hp
  unfold rkO cK
  rw [hu]
  show _ = (tKi t p).idxOf m
  rw [← hk, h, List.filter_append, List.filter_cons_of_pos (by simpa using hu)]
  refine (ix_mid (fun e => ?_)).symm
  have hn := pO_nd hw
  rw [h] at hn
  exact (List.nodup_append.mp hn).2.2 m (List.mem_filter.mp e).1 m List.mem_cons_self rfl
theorem pl_up {N : Nat} {t : mT} (hw : tWF N t) {m p : Nat} {A B : List Nat} (h : pO t = A ++ m :: B) (hu : tUp t m = some p) : p ∈ A := by
  have hm : tIn t m = true := (pO_mem hw).mp (by rw [h]; simp)
  have hk := (hw.1.2.1 m p).mpr ⟨hm, hu⟩
  have hp := fKi_p hw.1 hk
  obtain ⟨K1, K2, e⟩ := List.append_of_mem hk
  obtain ⟨A', L, ha⟩ := tAt_ex hw p hp
  have h2 : pO t = _ := tAt_kid hw.1.2.2.2.1 ha e
  rw [tPo_eq hw.1.2.2.2.1 m, List.cons_append] at h2
  have hn := pO_nd hw
  rw [h] at hn h2
  rw [(nd_split hn h2).1]
  simp
/-- a child's place -/
theorem pl_ki {N : Nat} {t : mT} (hw : tWF N t) {k p : Nat} {K1 K2 : List Nat} (hp : tIn t p = true) (e : tKi t p = K1 ++ k :: K2) : pl t k = pl t p + 1 + (K1.flatMap (tPo t)).length := by
  obtain ⟨A', L, ha⟩ := tAt_ex hw p hp
  have h2 : pO t = _ := tAt_kid hw.1.2.2.2.1 ha e
  have h1 : pO t = A' ++ (tPo t p ++ L) := ha
  rw [tPo_eq hw.1.2.2.2.1 p, List.cons_append] at h1
  rw [tPo_eq hw.1.2.2.2.1 k, List.cons_append] at h2
  rw [pl_mid hw h1, pl_mid hw h2, List.length_append, List.length_cons]
  omega
/-- where what is below a mark ends -/
noncomputable def pE (t : mT) (m : Nat) : Nat := pl t m + (tPo t m).length
theorem pE_last {N : Nat} {t : mT} (hw : tWF N t) {k p : Nat} {K1 : List Nat} (hp : tIn t p = true) (e : tKi t p = K1 ++ [k]) : pE t k = pE t p := by
  unfold pE
  rw [pl_ki hw hp e, tPo_eq hw.1.2.2.2.1 p, e]
  simp only [List.flatMap_append, List.flatMap_cons, List.flatMap_nil, List.length_cons, List.length_append, List.append_nil]
  omega
theorem pE_le {N : Nat} {t : mT} (hw : tWF N t) {k p : Nat} (hk : k ∈ tKi t p) : pE t k ≤ pE t p := by
  obtain ⟨K1, K2, e⟩ := List.append_of_mem hk
  have hp := fKi_p hw.1 hk
  unfold pE
  rw [pl_ki hw hp e, tPo_eq hw.1.2.2.2.1 p, e]
  simp only [List.flatMap_append, List.flatMap_cons, List.length_cons, List.length_append]
  omega
theorem pE_n {N : Nat} {t : mT} (hw : tWF N t) {m : Nat} (hm : tIn t m = true) : pE t m ≤ (pO t).length := by
  obtain ⟨A, L, ha⟩ := tAt_ex hw m hm
  have h1 : pO t = A ++ (tPo t m ++ L) := ha
  have h2 := h1
  rw [tPo_eq hw.1.2.2.2.1 m, List.cons_append] at h2
  unfold pE
  rw [pl_mid hw h2, h1]
  simp
end PLACES
