section FD1
/-! what the matching keeps: marks in both trees go with themselves, roots with roots -/
def KPm (t u : mT) (P Q : mP) : Prop := pOK t u Q ∧ ∀ y x, P.2 y = some x → Q.2 y = some x
theorem KP_p {t u : mT} {P Q : mP} (H : KPm t u P Q) {x y : Nat} (hx : tIn t x = true) (hy : tIn u y = true) (f1 : Q.1 x = none) (f2 : Q.2 y = none) : KPm t u P (pP Q x y) := by
  refine ⟨pOK_p H.1 hx hy f1 f2, fun z w e => ?_⟩
  have q := H.2 z w e
  have c : z ≠ y := fun g => by rw [g, f2] at q; cases q
  show (if z = y then some x else Q.2 z) = some w
  rw [if_neg c]
  exact q
theorem KP_op {t u : mT} {P Q : mP} (H : KPm t u P Q) {kd idn : Nat → Int32} {x : Nat} (hx : tIn t x = true) {o : Option Nat} (ho : ∀ y, o = some y → tIn u y = true ∧ mayB kd idn Q x y = true) : KPm t u P (opP Q x o) := by
  cases o with
  | none => exact H
  | some y =>
    have q := ho y rfl
    have n := mayB_n q.2
    exact KP_p H hx q.1 n.1 n.2
theorem KP_rt {t u : mT} (hw : tWF 300 t) (hu : tWF 300 u) {P Q : mP} (H : KPm t u P Q) : KPm t u P (rtS t u Q) := by
  unfold rtS
  by_cases c : Q.1 (tRt t) = none ∧ Q.2 (tRt u) = none
  · rw [if_pos c]
    exact KP_p H hw.2.1 hu.2.1 c.1 c.2
  · rw [if_neg c]
    exact H
theorem KP_id {kd idn : Nat → Int32} {t u : mT} (hu : tWF 300 u) {P Q : mP} {x : Nat} (hx : tIn t x = true) (H : KPm t u P Q) : KPm t u P (idS kd idn u Q x) := by
  rw [idS_eq]
  by_cases c : Q.1 x = none ∧ idn x ≠ -1
  · rw [if_pos c]
    exact KP_op H hx (fun y e => ⟨(pO_mem hu).mp (List.mem_of_find?_eq_some e), List.find?_some e⟩)
  · rw [if_neg c]
    exact H
theorem KP_al {kd idn : Nat → Int32} {t u : mT} (hw : tWF 300 t) (hu : tWF 300 u) {P Q : mP} {x : Nat} (hx : tIn t x = true) (H : KPm t u P Q) : KPm t u P (alS kd idn t u Q x) := by
  refine ⟨al_inv hw hu hx H.1, fun z w e => ?_⟩
  have q := H.2 z w e
  unfold alS
  by_cases c : pnO t Q x = true
  · rw [if_pos c]
    cases e2 : (pO u).find? (fun y => pnN u Q y && akB kd idn t u x y) with
    | none => exact q
    | some y =>
      have r := alH_of hw hu hx e2
      have n : z ∉ tPo u y := fun g => by
        rw [pnN_iff.mp r.2 z g] at q
        cases q
      show (brS kd idn t u Q x y).2 z = some w
      rw [brS_o2 n]
      exact q
  · rw [if_neg c]
    exact q
theorem KP_ab {kd idn : Nat → Int32} {t u : mT} (hw : tWF 300 t) (hu : tWF 300 u) {v : Bool} {y : Nat} {P Q : mP} (H : KPm t u P Q) : KPm t u P (abS kd idn t u v Q y) := by
  unfold abS
  cases Q.2 y with
  | none => exact H
  | some x =>
    refine f_inv (I := KPm t u P) _ Q (fun Q' c hc q => ?_) H
    unfold abC
    cases e : (tKi t x).find? (abB kd idn t u v Q' c) with
    | none => exact q
    | some k =>
      have k1 := List.mem_of_find?_eq_some e
      have k2 := List.find?_some e
      unfold abB at k2
      rw [Bool.and_eq_true] at k2
      have n := mayB_n k2.1
      exact KP_p q ((hw.1.2.1 k x).mp k1).1 ((hu.1.2.1 c y).mp hc).1 n.1 n.2
theorem KP_be {kd idn : Nat → Int32} {t u : mT} (hu : tWF 300 u) {P Q : mP} {x : Nat} (hx : tIn t x = true) (H : KPm t u P Q) : KPm t u P (beS kd idn t u Q x) :=
  KP_op H hx (fun y e => ⟨(pO_mem hu).mp (lk_may e).1, (lk_may e).2⟩)
theorem MTd_kp {kd idn : Nat → Int32} {t u : mT} (hw : tWF 300 t) (hu : tWF 300 u) : KPm t u (rtS t u ((pO t).foldl (smS u) mt0)) (MTd kd idn t u) := by
  have i0 : smI t u mt0 := ⟨⟨fun x y => ⟨fun g => (by cases g), fun g => (by cases g)⟩, fun x y g => (by cases g)⟩, fun x y g => (by cases g)⟩
  have i1 := f_inv (I := smI t u) (f := smS u) (pO t) mt0 (fun P x hx i => sm_inv ((pO_mem hw).mp hx) i) i0
  have a := f_inv (I := KPm t u (rtS t u ((pO t).foldl (smS u) mt0))) (pO t) (rtS t u ((pO t).foldl (smS u) mt0)) (fun Q x hx i => KP_id (kd := kd) (idn := idn) hu ((pO_mem hw).mp hx) i) ⟨rt_inv hw hu i1.1, fun _ _ e => e⟩
  have b := f_inv (I := KPm t u (rtS t u ((pO t).foldl (smS u) mt0))) (pO t) _ (fun Q x hx i => KP_al (kd := kd) (idn := idn) hw hu ((pO_mem hw).mp hx) i) a
  have c := f_inv (I := KPm t u (rtS t u ((pO t).foldl (smS u) mt0))) (pO u) _ (fun Q x hx i => KP_ab (kd := kd) (idn := idn) (v := true) (y := x) hw hu i) b
  have d := f_inv (I := KPm t u (rtS t u ((pO t).foldl (smS u) mt0))) (pO u) _ (fun Q x hx i => KP_ab (kd := kd) (idn := idn) (v := false) (y := x) hw hu i) c
  exact f_inv (I := KPm t u (rtS t u ((pO t).foldl (smS u) mt0))) (pO t).reverse _ (fun Q x hx i => KP_be (kd := kd) (idn := idn) hu ((pO_mem hw).mp (List.mem_reverse.mp hx)) i) d
theorem sm_keep {u : mT} {x : Nat} : ∀ (L : List Nat) (P : mP), P.2 x = some x → (L.foldl (smS u) P).2 x = some x
  | [], P, h => h
  | z :: L, P, h => by
    rw [List.foldl_cons]
    refine sm_keep L _ ?_
    unfold smS
    by_cases c : tIn u z = true
    · rw [if_pos c]
      show (if x = z then some z else P.2 x) = some x
      by_cases e : x = z
      · rw [if_pos e, e]
      · rw [if_neg e]; exact h
    · rw [if_neg c]; exact h
theorem sm_all {u : mT} {x : Nat} (hx : tIn u x = true) : ∀ (L : List Nat) (P : mP), x ∈ L → (L.foldl (smS u) P).2 x = some x
  | [], P, h => by cases h
  | z :: L, P, h => by
    rw [List.foldl_cons]
    rcases List.mem_cons.mp h with e | e
    · refine sm_keep L _ ?_
      unfold smS
      rw [← e, if_pos hx]
      show (if x = x then some x else P.2 x) = some x
      rw [if_pos rfl]
    · exact sm_all hx L _ e
theorem rt_kp {t u : mT} {P : mP} {y x : Nat} (h : P.2 y = some x) : (rtS t u P).2 y = some x := by
  unfold rtS
  by_cases c : P.1 (tRt t) = none ∧ P.2 (tRt u) = none
  · rw [if_pos c]
    have n : y ≠ tRt u := fun e => by rw [e, c.2] at h; cases h
    show (if y = tRt u then some (tRt t) else P.2 y) = some x
    rw [if_neg n]
    exact h
  · rw [if_neg c]; exact h
theorem MTd_same {kd idn : Nat → Int32} {t u : mT} (hw : tWF 300 t) (hu : tWF 300 u) {x : Nat} (hx : tIn t x = true) (hy : tIn u x = true) : (MTd kd idn t u).2 x = some x :=
  (MTd_kp hw hu).2 x x (rt_kp (sm_all hy _ _ ((pO_mem hw).mpr hx)))
theorem MTd_root {kd idn : Nat → Int32} {t u : mT} (hw : tWF 300 t) (hu : tWF 300 u) (h1 : tIn u (tRt t) = true → tRt t = tRt u) (h2 : tIn t (tRt u) = true → tRt u = tRt t) : (MTd kd idn t u).2 (tRt u) = some (tRt t) := by
  by_cases c : tRt t = tRt u
  · rw [← c]
    exact MTd_same hw hu hw.2.1 (by rw [c]; exact hu.2.1)
  · refine (MTd_kp hw hu).2 _ _ ?_
    have i0 : smI t u mt0 := ⟨⟨fun x y => ⟨fun g => (by cases g), fun g => (by cases g)⟩, fun x y g => (by cases g)⟩, fun x y g => (by cases g)⟩
    have i1 := f_inv (I := smI t u) (f := smS u) (pO t) mt0 (fun P x hx i => sm_inv ((pO_mem hw).mp hx) i) i0
    generalize (pO t).foldl (smS u) mt0 = P at i1
    have n1 : P.1 (tRt t) = none := by
      cases e : P.1 (tRt t) with
      | none => rfl
      | some y =>
        have q := i1.2 _ _ e
        have r := (i1.1.2 _ _ e).2
        rw [← q] at r
        exact absurd (h1 r) c
    have n2 : P.2 (tRt u) = none := by
      cases e : P.2 (tRt u) with
      | none => rfl
      | some x =>
        have e' := (i1.1.1 x (tRt u)).mpr e
        have q := i1.2 _ _ e'
        have r := (i1.1.2 _ _ e').1
        rw [q] at r
        exact absurd (h2 r).symm c
    unfold rtS
    rw [if_pos ⟨n1, n2⟩]
    show (if tRt u = tRt u then some (tRt t) else P.2 (tRt u)) = some (tRt t)
    rw [if_pos rfl]
/-! twins -/
def twF (P : mP) (y : Nat) : Nat := match P.2 y with
  | some x => x
  | none => y
theorem twF_s {P : mP} {y x : Nat} (e : P.2 y = some x) : twF P y = x := by unfold twF; rw [e]
theorem twF_n {P : mP} {y : Nat} (e : P.2 y = none) : twF P y = y := by unfold twF; rw [e]
/-- what the matching of two trees is, as far as the script asks -/
def fdP (t u : mT) (P : mP) : Prop := pOK t u P ∧ (∀ x, tIn t x = true → tIn u x = true → P.2 x = some x) ∧ P.2 (tRt u) = some (tRt t)
theorem tw_new {t u : mT} {P : mP} (H : fdP t u P) {y : Nat} (hy : tIn u y = true) (e : P.2 y = none) : tIn t y = false := by
  cases c : tIn t y with
  | false => rfl
  | true =>
    have := H.2.1 y c hy
    rw [e] at this
    cases this
theorem tw_inj {t u : mT} {P : mP} (H : fdP t u P) {y z : Nat} (hy : tIn u y = true) (hz : tIn u z = true) (e : twF P y = twF P z) : y = z := by
  cases e1 : P.2 y with
  | none =>
    cases e2 : P.2 z with
    | none => rw [twF_n e1, twF_n e2] at e; exact e
    | some x =>
      rw [twF_n e1, twF_s e2] at e
      have hx := (H.1.2 x z ((H.1.1 x z).mpr e2)).1
      rw [← e] at hx
      rw [tw_new H hy e1] at hx
      cases hx
  | some x =>
    cases e2 : P.2 z with
    | none =>
      rw [twF_s e1, twF_n e2] at e
      have hx := (H.1.2 x y ((H.1.1 x y).mpr e1)).1
      rw [e] at hx
      rw [tw_new H hz e2] at hx
      cases hx
    | some x' =>
      rw [twF_s e1, twF_s e2] at e
      have q1 := (H.1.1 x y).mpr e1
      have q2 := (H.1.1 x' z).mpr e2
      rw [e, q2] at q1
      exact (Option.some.inj q1).symm
theorem tw_rt {t u : mT} {P : mP} (H : fdP t u P) : twF P (tRt u) = tRt t := twF_s H.2.2
end FD1
