section GET3
theorem p_TP_needConflict {h : tpH} {o p D n : Nat} (l : lTP h o p) {cf : List (Nat × Nat)} (hC : CfP h p D cf n) (h9 : cf.length ≤ 92000) {x : Int32} {X : String → tpH → Prop} {R : tpH → Prop} (x1 : lstAt cf x = none → X "java/lang/IndexOutOfBoundsException" (nC h 0 0 6)) (kk : ∀ i e, x = nI i → cf[i]? = some e → lstAt cf x = some e → R h) : w_TP_needConflict o x h X R := by
  obtain ⟨g0, g1, g2, g3, g4, g5, g6⟩ := lTP_mgL l
  rcases lstAt_in (l := cf) (y := x) (by omega) with ⟨i, e, ex, hi, g⟩ | ⟨g, gg⟩
  · have hil := (List.getElem?_eq_some_iff.mp hi).1
    subst ex
    refine ⟨fun e => absurd e (nI_pos (by omega)), fun _ => ⟨l.1, p + 69, lTP_mg l, g0, p + 86, g1, g2, fun _ => kk i e rfl hi g, fun e => ?_⟩⟩
    rw [hC.1] at e
    exact absurd ((nI_lt_iff (by omega) (by omega)).mpr hil) e
  · refine ⟨fun _ => x1 gg, fun e1 => ⟨l.1, p + 69, lTP_mg l, g0, p + 86, g1, g2, fun e2 => ?_, fun _ => x1 gg⟩⟩
    exfalso
    have e0 : (0 : Int32).toInt = 0 := rfl
    rw [hC.1, i_lt, nI_toInt (by omega)] at e2
    rw [i_lt, e0] at e1
    exact g x.toInt.toNat (by omega) (Int32.toInt_inj.mp (by rw [nI_toInt (by omega)]; omega))
theorem p_TP_conflictKind {h : tpH} {o p D n : Nat} (l : lTP h o p) {cf : List (Nat × Nat)} (hC : CfP h p D cf n) (h9 : cf.length ≤ 92000) (hn : n ≤ 184001) {x : Int32} {X : String → tpH → Prop} {R : Int32 → tpH → Prop} (x1 : (lstAt cf x).map (fun e => nI e.1) = none → X "java/lang/IndexOutOfBoundsException" (nC h 0 0 6)) (kk : ∀ v, (lstAt cf x).map (fun e => nI e.1) = some v → R v h) : w_TP_conflictKind o x h X R := by
  obtain ⟨g0, g1, g2, g3, g4, g5, g6⟩ := lTP_mgL l
  refine ⟨l.1, p_TP_needConflict l hC h9 (fun e => x1 (by rw [e]; rfl)) (fun i e ex hi g => ⟨l.1, p + 69, lTP_mg l, g0, p + 86, g1, g2, ?_⟩)⟩
  obtain ⟨H1, H2, H3, c, c', ⟨H4, H5, H6⟩, ⟨H7, H8, H9⟩, H10, H11⟩ := hC
  have hil := (List.getElem?_eq_some_iff.mp hi).1
  refine p_at H4 (by omega) ?_
  rw [ex, rAt_n (by omega) (by omega), (H11 i e hi).1]
  exact kk _ (by rw [g]; rfl)
theorem p_TP_conflictMark {h : tpH} {o p D n : Nat} (l : lTP h o p) {cf : List (Nat × Nat)} (hC : CfP h p D cf n) (h9 : cf.length ≤ 92000) (hn : n ≤ 184001) {x : Int32} {X : String → tpH → Prop} {R : Int32 → tpH → Prop} (x1 : (lstAt cf x).map (fun e => nI e.2) = none → X "java/lang/IndexOutOfBoundsException" (nC h 0 0 6)) (kk : ∀ v, (lstAt cf x).map (fun e => nI e.2) = some v → R v h) : w_TP_conflictMark o x h X R := by
  obtain ⟨g0, g1, g2, g3, g4, g5, g6⟩ := lTP_mgL l
  refine ⟨l.1, p_TP_needConflict l hC h9 (fun e => x1 (by rw [e]; rfl)) (fun i e ex hi g => ⟨l.1, p + 69, lTP_mg l, g0, p + 88, g3, g4, ?_⟩)⟩
  obtain ⟨H1, H2, H3, c, c', ⟨H4, H5, H6⟩, ⟨H7, H8, H9⟩, H10, H11⟩ := hC
  have hil := (List.getElem?_eq_some_iff.mp hi).1
  refine p_at H7 (by omega) ?_
  rw [ex, rAt_n (by omega) (by omega), (H11 i e hi).2]
  exact kk _ (by rw [g]; rfl)
end GET3
