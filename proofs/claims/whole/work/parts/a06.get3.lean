section GET3
/-! scripts, on the one side -/
theorem lTP_sc {h : tpH} {x p : Nat} (l : lTP h x p) : hR h x 5 = some (p + 36) ∧ hT h (p + 36) = 19 ∧ hL h (p + 36) = 40 := by
  obtain ⟨t0, r0, o0, r1, o1, r2, o2, r3, o3, r5, o5, r7, o7, r8, o8, r9, o9, r11, o11, r12, o12⟩ := l
  exact ⟨r5, o5.1, o5.2⟩
theorem p_scr {h : tpH} {o p D : Nat} (l : lTP h o p) {sc : List (List mSt)} (hS : ScP h o p D sc) {x : Int32} {X : String → tpH → Prop} {R : Option Nat → tpH → Prop} (x1 : lstAt sc x = none → X "java/lang/IndexOutOfBoundsException" (nC h 0 0 6))
    (kk : ∀ i s a, x = nI i → sc[i]? = some s → lstAt sc x = some s → hR h (p + 36) i = some a → ScO h p D a s → R (some a) h) : w_TP_needScript o x h X R := by
  obtain ⟨l1, l2, l3⟩ := lTP_sc l
  have h40 := hS.2.1
  have no : lstAt sc x = none → w_TP_needScript_31 R X none h := fun g => ⟨fun e => absurd rfl e, fun _ => x1 g⟩
  rcases lstAt_in (l := sc) (y := x) (by omega) with ⟨i, s, e, hi, g⟩ | ⟨g, g2⟩
  · have hil := (List.getElem?_eq_some_iff.mp hi).1
    obtain ⟨a, a1, a2⟩ := hS.2.2 i s hi
    subst e
    have e40 : Int32.ofNat 40 = nI 40 := rfl
    refine ⟨fun e => absurd e (nI_pos (by omega)), fun _ => ⟨l.1, fun e => ?_, fun _ => ⟨p + 36, l1, l2, fun e => ?_, fun _ => ⟨by rw [l3]; exact vp_in_nI (by omega) (by decide), ?_⟩⟩⟩⟩
    · rw [hS.1] at e
      exact absurd ((nI_le_iff (by omega) (by omega)).mp e) (by omega)
    · rw [l3, e40] at e
      exact absurd ((nI_le_iff (by decide) (by omega)).mp e) (by omega)
    · rw [nI_clamp (by omega), a1]
      exact ⟨fun _ => kk i s a rfl hi g a1 a2, fun e => by simp at e⟩
  · refine ⟨fun _ => no g2, fun e1 => ⟨l.1, fun _ => no g2, fun e2 => ?_⟩⟩
    exfalso
    have e0 : (0 : Int32).toInt = 0 := rfl
    rw [hS.1, i_le, nI_toInt (by omega)] at e2
    rw [i_lt, e0] at e1
    exact g x.toInt.toNat (by omega) (Int32.toInt_inj.mp (by rw [nI_toInt (by omega)]; omega))
def gStep (sc : List (List mSt)) (x y : Int32) : Option mSt := (lstAt sc x).bind (fun s => lstAt s y)
def gSteps (sc : List (List mSt)) (x : Int32) : Option Int32 := (lstAt sc x).map (fun s => nI s.length)
theorem p_step {h : tpH} {o p D : Nat} (l : lTP h o p) {sc : List (List mSt)} (hS : ScP h o p D sc) (h100 : ∀ s ∈ sc, s.length ≤ 100) {x y : Int32} {X : String → tpH → Prop} {R : Option Nat → tpH → Prop} (x1 : gStep sc x y = none → X "java/lang/IndexOutOfBoundsException" (nC h 0 0 6))
    (kk : ∀ e b, gStep sc x y = some e → StP h p D b e → R (some b) h) : w_TP_needStep o x y h X R := by
  unfold gStep at x1 kk
  refine ⟨l.1, p_scr l hS (fun e => x1 (by rw [e]; rfl)) (fun i s a e hi hl ha b1 => ⟨a, rfl, b1.2.1, ?_⟩)⟩
  rw [hl] at x1 kk
  have hs100 := h100 s (List.mem_of_getElem? hi)
  obtain ⟨c0, c1, c2, c, c3, c4, c5, c6, c7, c8⟩ := b1
  have no : lstAt s y = none → (¬ (none : Option Nat) = none → R none h) ∧ ((none : Option Nat) = none → X "java/lang/IndexOutOfBoundsException" (nC h 0 0 6)) := fun g => ⟨fun e => absurd rfl e, fun _ => x1 g⟩
  rcases lstAt_in (l := s) (y := y) (by omega) with ⟨j, e, ey, hj, g⟩ | ⟨g, g2⟩
  · have hjl := (List.getElem?_eq_some_iff.mp hj).1
    obtain ⟨b, d1, d2⟩ := c8 j e hj
    subst ey
    refine ⟨fun e => absurd e (nI_pos (by omega)), fun _ => ⟨c1, fun e => ?_, fun _ => ⟨c, c3, c5, fun e => ?_, fun _ => ⟨vp_in_nI (by omega) (by omega), ?_⟩⟩⟩⟩
    · rw [c2] at e
      exact absurd ((nI_le_iff (by omega) (by omega)).mp e) (by omega)
    · exact absurd ((nI_le_iff (by omega) (by omega)).mp e) (by omega)
    · rw [nI_clamp (by omega), d1]
      exact ⟨fun _ => kk e b g d2, fun e => by simp at e⟩
  · refine ⟨fun _ => no g2, fun e1 => ⟨c1, fun _ => no g2, fun e2 => ?_⟩⟩
    exfalso
    have e0 : (0 : Int32).toInt = 0 := rfl
    rw [c2, i_le, nI_toInt (by omega)] at e2
    rw [i_lt, e0] at e1
    exact g y.toInt.toNat (by omega) (Int32.toInt_inj.mp (by rw [nI_toInt (by omega)]; omega))
theorem p_TP_steps {h : tpH} {o p D : Nat} (l : lTP h o p) {sc : List (List mSt)} (hS : ScP h o p D sc) {x : Int32} {X : String → tpH → Prop} {R : Int32 → tpH → Prop} (x1 : gSteps sc x = none → X "java/lang/IndexOutOfBoundsException" (nC h 0 0 6)) (kk : ∀ v, gSteps sc x = some v → R v h) : w_TP_steps o x h X R := by
  unfold gSteps at x1 kk
  refine ⟨l.1, p_scr l hS (fun e => x1 (by rw [e]; rfl)) (fun i s a e hi hl ha b1 => ⟨a, rfl, b1.2.1, ?_⟩)⟩
  rw [b1.2.2.1]
  exact kk _ (by rw [hl]; rfl)
theorem p_TP_stepKind {h : tpH} {o p D : Nat} (l : lTP h o p) {sc : List (List mSt)} (hS : ScP h o p D sc) (h100 : ∀ s ∈ sc, s.length ≤ 100) {x y : Int32} {X : String → tpH → Prop} {R : Int32 → tpH → Prop} (x1 : (gStep sc x y).map (fun e => nI e.1) = none → X "java/lang/IndexOutOfBoundsException" (nC h 0 0 6)) (kk : ∀ v, (gStep sc x y).map (fun e => nI e.1) = some v → R v h) : w_TP_stepKind o x y h X R := by
  refine ⟨l.1, p_step l hS h100 (fun e => x1 (by rw [e]; rfl)) (fun e b g b1 => ⟨b, rfl, b1.2.1, ?_⟩)⟩
  rw [b1.2.2.1]
  exact kk _ (by rw [g]; rfl)
theorem p_TP_stepMark {h : tpH} {o p D : Nat} (l : lTP h o p) {sc : List (List mSt)} (hS : ScP h o p D sc) (h100 : ∀ s ∈ sc, s.length ≤ 100) {x y : Int32} {X : String → tpH → Prop} {R : Int32 → tpH → Prop} (x1 : (gStep sc x y).map (fun e => nI e.2.1) = none → X "java/lang/IndexOutOfBoundsException" (nC h 0 0 6)) (kk : ∀ v, (gStep sc x y).map (fun e => nI e.2.1) = some v → R v h) : w_TP_stepMark o x y h X R := by
  refine ⟨l.1, p_step l hS h100 (fun e => x1 (by rw [e]; rfl)) (fun e b g b1 => ⟨b, rfl, b1.2.1, ?_⟩)⟩
  rw [b1.2.2.2.1]
  exact kk _ (by rw [g]; rfl)
def gTo (w : Int32) (e : mSt) : Int32 := if w = 0 then nO e.2.2.2.2.2.2.1 else nO e.2.2.2.2.2.1
theorem p_TP_stepTo {h : tpH} {o p D : Nat} (l : lTP h o p) {sc : List (List mSt)} (hS : ScP h o p D sc) (h100 : ∀ s ∈ sc, s.length ≤ 100) {x y w : Int32} {X : String → tpH → Prop} {R : Int32 → tpH → Prop} (x1 : (gStep sc x y).map (gTo w) = none → X "java/lang/IndexOutOfBoundsException" (nC h 0 0 6)) (kk : ∀ v, (gStep sc x y).map (gTo w) = some v → R v h) : w_TP_stepTo o x y w h X R := by
  refine ⟨l.1, p_step l hS h100 (fun e => x1 (by rw [e]; rfl)) (fun e b g b1 => ⟨b, rfl, b1.2.1, ?_⟩)⟩
  have kk := kk (gTo w e) (by rw [g]; rfl)
  obtain ⟨v, v1, v2⟩ := b1.2.2.2.2.2.2.2
  unfold gTo at kk
  refine ⟨fun ew => ⟨v, v1, v2.2.1, ?_⟩, fun ew => ⟨v, v1, v2.2.1, ?_⟩⟩
  · rw [if_pos ew] at kk
    rw [v2.2.2.2.1]; exact kk
  · rw [if_neg ew] at kk
    rw [v2.2.2.1]; exact kk
/-! conflicts -/
theorem p_TP_needConflict {h : tpH} {o p D n : Nat} (l : lTP h o p) {cf : List (Nat × Nat)} (hC : CfP h p D cf n) (h9 : cf.length ≤ 92000) {x : Int32} {X : String → tpH → Prop} {R : tpH → Prop} (x1 : lstAt cf x = none → X "java/lang/IndexOutOfBoundsException" (nC h 0 0 6)) (kk : ∀ i e, x = nI i → cf[i]? = some e → lstAt cf x = some e → R h) : w_TP_needConflict o x h X R := by
  obtain ⟨g0, g1, g2, g3, g4, g5, g6⟩ := lTP_mgL l
  rcases lstAt_in (l := cf) (y := x) (by omega) with ⟨i, e, ex, hi, g⟩ | ⟨g, gg⟩
  · have hil := (List.getElem?_eq_some_iff.mp hi).1
    subst ex
    refine ⟨fun e => absurd e (nI_pos (by omega)), fun _ => ⟨l.1, p + 69, lTP_mg l, g0, p + 86, g1, g2, fun _ => kk i e rfl hi g, fun e => ?_⟩⟩
    rw [hC.1] at e
    exact absurd ((nI_lt_iff (by omega) (by omega)).mpr hil) e
  · refine ⟨fun _ => x1 gg, fun e1 => ⟨l.1, p + 69, lTP_mg l, g0, p + 86, g1, g2, fun e2 => ?_, fun _ => x1 gg⟩⟩
    exfalso
    have e0 : (0 : Int32).toInt = 0 := rfl
    rw [hC.1, i_lt, nI_toInt (by omega)] at e2
    rw [i_lt, e0] at e1
    exact g x.toInt.toNat (by omega) (Int32.toInt_inj.mp (by rw [nI_toInt (by omega)]; omega))
theorem p_TP_conflictKind {h : tpH} {o p D n : Nat} (l : lTP h o p) {cf : List (Nat × Nat)} (hC : CfP h p D cf n) (h9 : cf.length ≤ 92000) (hn : n ≤ 184001) {x : Int32} {X : String → tpH → Prop} {R : Int32 → tpH → Prop} (x1 : (lstAt cf x).map (fun e => nI e.1) = none → X "java/lang/IndexOutOfBoundsException" (nC h 0 0 6)) (kk : ∀ v, (lstAt cf x).map (fun e => nI e.1) = some v → R v h) : w_TP_conflictKind o x h X R := by
  obtain ⟨g0, g1, g2, g3, g4, g5, g6⟩ := lTP_mgL l
  refine ⟨l.1, p_TP_needConflict l hC h9 (fun e => x1 (by rw [e]; rfl)) (fun i e ex hi g => ⟨l.1, p + 69, lTP_mg l, g0, p + 86, g1, g2, ?_⟩)⟩
  obtain ⟨H1, H2, H3, c, c', ⟨H4, H5, H6⟩, ⟨H7, H8, H9⟩, H10, H11⟩ := hC
  have hil := (List.getElem?_eq_some_iff.mp hi).1
  refine p_at H4 (by omega) ?_
  rw [ex, rAt_n (by omega) (by omega), (H11 i e hi).1]
  exact kk _ (by rw [g]; rfl)
theorem p_TP_conflictMark {h : tpH} {o p D n : Nat} (l : lTP h o p) {cf : List (Nat × Nat)} (hC : CfP h p D cf n) (h9 : cf.length ≤ 92000) (hn : n ≤ 184001) {x : Int32} {X : String → tpH → Prop} {R : Int32 → tpH → Prop} (x1 : (lstAt cf x).map (fun e => nI e.2) = none → X "java/lang/IndexOutOfBoundsException" (nC h 0 0 6)) (kk : ∀ v, (lstAt cf x).map (fun e => nI e.2) = some v → R v h) : w_TP_conflictMark o x h X R := by
  obtain ⟨g0, g1, g2, g3, g4, g5, g6⟩ := lTP_mgL l
  refine ⟨l.1, p_TP_needConflict l hC h9 (fun e => x1 (by rw [e]; rfl)) (fun i e ex hi g => ⟨l.1, p + 69, lTP_mg l, g0, p + 88, g3, g4, ?_⟩)⟩
  obtain ⟨H1, H2, H3, c, c', ⟨H4, H5, H6⟩, ⟨H7, H8, H9⟩, H10, H11⟩ := hC
  have hil := (List.getElem?_eq_some_iff.mp hi).1
  refine p_at H7 (by omega) ?_
  rw [ex, rAt_n (by omega) (by omega), (H11 i e hi).2]
  exact kk _ (by rw [g]; rfl)
/-! versions -/
theorem p_TP_needVersion {h : tpH} {o p : Nat} (l : lTP h o p) {vs : List mV} (hV : HiP (hI h) p vs) (h3 : vs.length ≤ 30) {x : Int32} {X : String → tpH → Prop} {R : tpH → Prop} (x1 : lstAt vs x = none → X "java/lang/IndexOutOfBoundsException" (nC h 0 0 6)) (kk : ∀ i e, x = nI i → vs[i]? = some e → lstAt vs x = some e → R h) : w_TP_needVersion o x h X R := by
  have l9 := lTP_hiL l
  refine ⟨l.1, p + 90, lTP_hi l, l9.1, ?_⟩
  rcases lstAt_in (l := vs) (y := x) (by omega) with ⟨i, e, ex, hi, g⟩ | ⟨g, gg⟩
  · have hil := (List.getElem?_eq_some_iff.mp hi).1
    subst ex
    refine ⟨fun e => absurd e (nI_pos (by omega)), fun _ => ⟨l9.1, fun e => ?_, fun _ => ⟨fun _ => kk i e rfl hi g, fun e => absurd e (by decide)⟩⟩⟩
    rw [hV.1] at e
    exact absurd ((nI_le_iff (by omega) (by omega)).mp e) (by omega)
  · have no : (¬ (0 : Int32) = 0 → R h) ∧ ((0 : Int32) = 0 → X "java/lang/IndexOutOfBoundsException" (nC h 0 0 6)) := ⟨fun e => absurd rfl e, fun _ => x1 gg⟩
    refine ⟨fun _ => no, fun e1 => ⟨l9.1, fun _ => no, fun e2 => ?_⟩⟩
    exfalso
    have e0 : (0 : Int32).toInt = 0 := rfl
    rw [hV.1, i_le, nI_toInt (by omega)] at e2
    rw [i_lt, e0] at e1
    exact g x.toInt.toNat (by omega) (Int32.toInt_inj.mp (by rw [nI_toInt (by omega)]; omega))
theorem p_TP_treeOf {h : tpH} {o p : Nat} (l : lTP h o p) {vs : List mV} (hV : HiP (hI h) p vs) (h3 : vs.length ≤ 30) {x : Int32} {X : String → tpH → Prop} {R : Int32 → tpH → Prop} (x1 : (lstAt vs x).map (fun e => nI e.1) = none → X "java/lang/IndexOutOfBoundsException" (nC h 0 0 6)) (kk : ∀ v, (lstAt vs x).map (fun e => nI e.1) = some v → R v h) : w_TP_treeOf o x h X R := by
  have l9 := lTP_hiL l
  refine ⟨l.1, p_TP_needVersion l hV h3 (fun e => x1 (by rw [e]; rfl)) (fun i e ex hi g => ⟨l.1, p + 90, lTP_hi l, l9.1, l9.1, p + 91, l9.2.1.1, l9.2.1.2.1, ?_⟩)⟩
  have hil := (List.getElem?_eq_some_iff.mp hi).1
  refine p_at l9.2.1.2 (by decide) ?_
  rw [ex, rAt_n (by omega) (by decide)]
  show R (hI h (p + 92) i) h
  rw [(hV.2 i e hi).1]
  exact kk _ (by rw [g]; rfl)
end GET3
