section GET1
def lstAt {α : Type} (l : List α) (y : Int32) : Option α := if 0 ≤ y.toInt then l[y.toInt.toNat]? else none
theorem lstAt_n {α : Type} (l : List α) {j : Nat} (hj : j < 2 ^ 31) : lstAt l (nI j) = l[j]? := by
  unfold lstAt
  rw [nI_toInt hj, if_pos (by omega)]
  rfl
theorem lstAt_no {α : Type} {l : List α} {y : Int32} (hl : l.length < 2 ^ 31) (h : ∀ j, j < l.length → y ≠ nI j) : lstAt l y = none := by
  unfold lstAt
  by_cases c : 0 ≤ y.toInt
  · rw [if_pos c]
    refine List.getElem?_eq_none (Nat.le_of_not_lt fun g => h y.toInt.toNat g ?_)
    exact Int32.toInt_inj.mp (by rw [nI_toInt (by omega)]; omega)
  · rw [if_neg c]
theorem lstAt_in {α : Type} {l : List α} {y : Int32} (hl : l.length < 2 ^ 31) : (∃ j a, y = nI j ∧ l[j]? = some a ∧ lstAt l y = some a) ∨ ((∀ j, j < l.length → y ≠ nI j) ∧ lstAt l y = none) := by
  rcases i_mark y l.length hl with ⟨j, e, hj⟩ | g
  · refine Or.inl ⟨j, l[j], e, List.getElem?_eq_getElem hj, ?_⟩
    rw [e, lstAt_n l (by omega)]
    exact List.getElem?_eq_getElem hj
  · exact Or.inr ⟨g, lstAt_no hl g⟩
theorem FoP_at {h : tpH} {F : Nat → Nat → Int32} {x p D : Nat} {fr : List mT} (H : FoP h F x p D fr) {i : Nat} {t : mT} {a : Nat} (hi : fr[i]? = some t) (ha : hR h (p + 35) i = some a) : ∃ mk, lTr h a (pO t).length mk ∧ TrP F a t mk ∧ mk ≤ 300 ∧ (∀ m, tIn t m = true → m < mk) ∧ D ≤ a ∧ a + 19 ≤ hZ h := by
  obtain ⟨a', mk, b1, b2, b3, b4, b5, b6, b7⟩ := H.2.2 i t hi
  rw [ha] at b1
  have e := Option.some.inj b1
  subst e
  exact ⟨mk, b4, b5, b6, b7, b2, b3⟩
/-- a tree by its number, on the one side -/
theorem p_tree {h : tpH} {o p D : Nat} (l : lTP h o p) {fr : List mT} (hF : FoP h (hI h) o p D fr) {x : Int32} {X : String → tpH → Prop} {R : Option Nat → tpH → Prop} (x1 : lstAt fr x = none → X "java/lang/IndexOutOfBoundsException" (nC h 0 0 6))
    (kk : ∀ i t a mk, x = nI i → fr[i]? = some t → lstAt fr x = some t → hR h (p + 35) i = some a → lTr h a (pO t).length mk → TrP (hI h) a t mk → mk ≤ 300 → (∀ m, tIn t m = true → m < mk) → D ≤ a ∧ a + 19 ≤ hZ h → R (some a) h) : w_TP_needTree o x h X R := by
  have h40 := hF.2.1
  refine p_TP_needTree (F := hI h) l hF (fun g => x1 (lstAt_no (by omega) g)) (fun i t a e hi ha => ?_)
  obtain ⟨mk, b1, b2, b3, b4, b5⟩ := FoP_at hF hi ha
  have hil := (List.getElem?_eq_some_iff.mp hi).1
  exact kk i t a mk e hi (by rw [e, lstAt_n fr (by omega)]; exact hi) ha b1 b2 b3 b4 b5
theorem TrP_mark {F : Nat → Nat → Int32} {a mk : Nat} {t : mT} (H : TrP F a t mk) (hw : tWF 300 t) {j m : Nat} (hj : (pO t)[j]? = some m) : F (a + 2) j = nI m ∧ F (a + 4) j = tWo t m ∧ F (a + 6) j = nO ((tUp t m).map (pl t)) ∧ pl t m = j ∧ tIn t m = true := by
  have hjl := (List.getElem?_eq_some_iff.mp hj).1
  have hm : tIn t m = true := (pO_mem hw).mp (List.mem_of_getElem? hj)
  have e : pl t m = j := by
    have hA : pO t = (pO t).take j ++ m :: (pO t).drop (j + 1) := by
      have e1 : (pO t)[j] = m := by
        rw [List.getElem?_eq_getElem hjl] at hj
        exact Option.some.inj hj
      rw [← e1, ← List.drop_eq_getElem_cons hjl, List.take_append_drop]
    have := pl_mid hw hA
    rw [this, List.length_take]
    omega
  obtain ⟨h1, h2, h3, _⟩ := H.2.1 m hm
  rw [e] at h1 h2 h3
  exact ⟨h1, h2, h3, e, hm⟩
noncomputable def gSize (fr : List mT) (x : Int32) : Option Int32 := (lstAt fr x).map (fun t => nI (tCn t))
noncomputable def gMarkAt (fr : List mT) (x y : Int32) : Option Int32 := (lstAt fr x).bind (fun t => (lstAt (pO t) y).map nI)
def gValue (fr : List mT) (mk : Nat) (x y : Int32) : Option Int32 := (lstAt fr x).bind (fun t => if 0 ≤ y.toInt ∧ y.toInt < mk then some (if tIn t y.toInt.toNat = true then tWo t y.toInt.toNat else -1) else none)
def gParent (fr : List mT) (mk : Nat) (x y : Int32) : Option Int32 := (lstAt fr x).bind (fun t => if 0 ≤ y.toInt ∧ y.toInt < mk then some (if tIn t y.toInt.toNat = true then nO (tUp t y.toInt.toNat) else -1) else none)
theorem p_TP_size {h : tpH} {o p D : Nat} (l : lTP h o p) {fr : List mT} (hF : FoP h (hI h) o p D fr) (hw : ∀ (i : Nat) (t : mT), fr[i]? = some t → tWF 300 t) {x : Int32} {X : String → tpH → Prop} {R : Int32 → tpH → Prop} (x1 : gSize fr x = none → X "java/lang/IndexOutOfBoundsException" (nC h 0 0 6)) (kk : ∀ v, gSize fr x = some v → R v h) : w_TP_size o x h X R := by
  unfold gSize at x1 kk
  refine ⟨l.1, p_tree l hF (fun e => x1 (by rw [e]; rfl)) (fun i t a mk e hi hl ha b1 b2 b3 b4 b5 => ⟨a, rfl, b1.1, ?_⟩)⟩
  rw [b2.1, pO_len (hw i t hi)]
  exact kk _ (by rw [hl]; rfl)
theorem p_TP_markAt {h : tpH} {o p D : Nat} (l : lTP h o p) {fr : List mT} (hF : FoP h (hI h) o p D fr) (hw : ∀ (i : Nat) (t : mT), fr[i]? = some t → tWF 300 t) {x y : Int32} {X : String → tpH → Prop} {R : Int32 → tpH → Prop} (x1 : gMarkAt fr x y = none → X "java/lang/IndexOutOfBoundsException" (nC h 0 0 6)) (kk : ∀ v, gMarkAt fr x y = some v → R v h) : w_TP_markAt o x y h X R := by
  unfold gMarkAt at x1 kk
  refine ⟨l.1, p_tree l hF (fun e => x1 (by rw [e]; rfl)) (fun i t a mk e hi hl ha b1 b2 b3 b4 b5 => ?_)⟩
  have hwt := hw i t hi
  have h3 := pO_le hwt
  rw [hl] at x1 kk
  rcases lstAt_in (l := pO t) (y := y) (by omega) with ⟨j, m, ey, hj, g⟩ | ⟨g, g2⟩
  · have hjl := (List.getElem?_eq_some_iff.mp hj).1
    subst ey
    refine ⟨fun e => absurd e (nI_pos (by omega)), fun _ => ⟨a, rfl, b1.1, ?_⟩⟩
    rw [b2.1, nI_lt_iff (by omega) (by omega)]
    refine ⟨fun _ => ?_, fun e => absurd hjl e⟩
    show w_Tr_markOf a (nI j) (wI h (hI h)) _
    rw [e_Tr_markOf b1 h3 b3, rAt_n hjl (by omega), (TrP_mark b2 hwt hj).1]
    exact kk _ (by show (lstAt (pO t) (nI j)).map nI = _; rw [g]; rfl)
  · have no := x1 (by show (lstAt (pO t) y).map nI = _; rw [g2]; rfl)
    refine ⟨fun _ => no, fun e => ⟨a, rfl, b1.1, fun e2 => ?_, fun _ => no⟩⟩
    exfalso
    rw [b2.1] at e2
    rw [i_lt] at e e2
    rw [nI_toInt (by omega)] at e2
    have e0 : (0 : Int32).toInt = 0 := rfl
    rw [e0] at e
    exact g y.toInt.toNat (by omega) (Int32.toInt_inj.mp (by rw [nI_toInt (by omega)]; omega))
theorem p_TP_needMade {h : tpH} {o p mk : Nat} (l : lTP h o p) (h2 : hI h p 2 = nI mk) (hk : mk ≤ 300) {y : Int32} {X : String → tpH → Prop} {R : tpH → Prop} (x1 : ¬ (0 ≤ y.toInt ∧ y.toInt < mk) → X "java/lang/IndexOutOfBoundsException" (nC h 0 0 6)) (kk : ∀ m, y = nI m → m < mk → 0 ≤ y.toInt ∧ y.toInt < mk → y.toInt.toNat = m → R h) : w_TP_needMade o y h X R := by
  have e0 : (0 : Int32).toInt = 0 := rfl
  obtain ⟨t0, r0, o0, _⟩ := l
  refine ⟨fun e => x1 (fun g => ?_), fun e => ⟨t0, p + 0, r0, o0.1, ?_⟩⟩
  · rw [i_lt, e0] at e; omega
  · show (y < hI h p 2 → R h) ∧ (¬ y < hI h p 2 → _)
    rw [h2, i_lt, nI_toInt (by omega)]
    rw [i_lt, e0] at e
    exact ⟨fun g => kk y.toInt.toNat (Int32.toInt_inj.mp (by rw [nI_toInt (by omega)]; omega)) (by omega) (by omega) rfl, fun g => x1 (by omega)⟩
theorem p_TP_value {h : tpH} {o p D mk : Nat} (l : lTP h o p) (h2 : hI h p 2 = nI mk) (hk : mk ≤ 300) {fr : List mT} (hF : FoP h (hI h) o p D fr) (hw : ∀ (i : Nat) (t : mT), fr[i]? = some t → tWF 300 t) {x y : Int32} {X : String → tpH → Prop} {R : Int32 → tpH → Prop} (x1 : gValue fr mk x y = none → X "java/lang/IndexOutOfBoundsException" (nC h 0 0 6)) (kk : ∀ v, gValue fr mk x y = some v → R v h) : w_TP_value o x y h X R := by
  unfold gValue at x1 kk
  refine ⟨l.1, p_tree l hF (fun e => x1 (by rw [e]; rfl)) (fun i t a mk' e hi hl ha b1 b2 b3 b4 b5 => ⟨l.1, ?_⟩)⟩
  have hwt := hw i t hi
  have h3 := pO_le hwt
  rw [hl] at x1 kk
  refine p_TP_needMade l h2 hk (fun g => x1 (if_neg g)) (fun m ey hm gy em => ⟨a, rfl, b1.1, ?_⟩)
  have kk := kk _ (if_pos gy)
  rw [em] at kk
  show w_Tr_worthOfMark a y (wI h (hI h)) _
  rw [e_Tr_worthOfMark b1 h3 b3, ey]
  by_cases c : tIn t m = true
  · rw [rAt_n (b4 m c) (by omega), b2.2.2 m (b4 m c), if_pos c, rAt_n (pl_lt hwt c) (by omega), (b2.2.1 m c).2.1]
    rw [if_pos c] at kk
    exact kk
  · rw [if_neg c] at kk
    have : rAt (hI h (a + 18)) mk' (nI m) = -1 := by
      by_cases g : m < mk'
      · rw [rAt_n g (by omega), b2.2.2 m g, if_neg c]
      · exact rAt_o (by omega) (by omega)
    rw [this, rAt_m]
    exact kk
theorem p_TP_parent {h : tpH} {o p D mk : Nat} (l : lTP h o p) (h2 : hI h p 2 = nI mk) (hk : mk ≤ 300) {fr : List mT} (hF : FoP h (hI h) o p D fr) (hw : ∀ (i : Nat) (t : mT), fr[i]? = some t → tWF 300 t) {x y : Int32} {X : String → tpH → Prop} {R : Int32 → tpH → Prop} (x1 : gParent fr mk x y = none → X "java/lang/IndexOutOfBoundsException" (nC h 0 0 6)) (kk : ∀ v, gParent fr mk x y = some v → R v h) : w_TP_parent o x y h X R := by
  unfold gParent at x1 kk
  refine ⟨l.1, p_tree l hF (fun e => x1 (by rw [e]; rfl)) (fun i t a mk' e hi hl ha b1 b2 b3 b4 b5 => ⟨l.1, ?_⟩)⟩
  have hwt := hw i t hi
  have h3 := pO_le hwt
  rw [hl] at x1 kk
  refine p_TP_needMade l h2 hk (fun g => x1 (if_neg g)) (fun m ey hm gy em => ⟨a, rfl, b1.1, ?_⟩)
  have kk := kk _ (if_pos gy)
  rw [em] at kk
  show w_Tr_parentOfMark a y (wI h (hI h)) _
  rw [e_Tr_parentOfMark b1 h3 b3, ey]
  by_cases c : tIn t m = true
  · rw [rAt_n (b4 m c) (by omega), b2.2.2 m (b4 m c), if_pos c, rAt_n (pl_lt hwt c) (by omega), (b2.2.1 m c).2.2.1]
    rw [if_pos c] at kk
    cases hu : tUp t m with
    | none =>
      rw [hu] at kk
      show R (rAt _ _ (nO none)) _
      rw [nO_none, rAt_m]
      exact kk
    | some u =>
      have hui := hwt.1.2.2.2.2 m u c hu
      rw [hu] at kk
      show R (rAt _ _ (nI (pl t u))) _
      rw [rAt_n (pl_lt hwt hui) (by omega), (b2.2.1 u hui).1]
      exact kk
  · rw [if_neg c] at kk
    have : rAt (hI h (a + 18)) mk' (nI m) = -1 := by
      by_cases g : m < mk'
      · rw [rAt_n g (by omega), b2.2.2 m g, if_neg c]
      · exact rAt_o (by omega) (by omega)
    rw [this, rAt_m, rAt_m]
    exact kk
end GET1
