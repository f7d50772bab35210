section AKNODE
noncomputable def zr (t u : mT) (z : Nat) : Nat := if z < 300 then (tPo t z).length else (tPo u (z - 300)).length
theorem po_out {t : mT} (hw : fWF 300 t) {m : Nat} (hm : tIn t m = false) : tPo t m = [m] := by
  have e : tKi t m = [] := by
    cases ek : tKi t m with
    | nil => rfl
    | cons x K =>
      have := fKi_p hw (x := x) (p := m) (by rw [ek]; exact List.mem_cons_self)
      rw [hm] at this; simp at this
  rw [tPo_eq hw.2.2.2.1, e]
  rfl
theorem po_le {t : mT} (hw : fWF 300 t) (m : Nat) : (tPo t m).length ≤ 300 := by
  cases c : tIn t m with
  | false => rw [po_out hw c]; simp
  | true => exact nd_lt (tPo_nodup hw m) (fun x hx => hw.1 x (tPo_in hw c x hx))
theorem po_kid {t : mT} (hw : fWF 300 t) {m c : Nat} (hc : c ∈ tKi t m) : (tPo t c).length < (tPo t m).length := by
  rw [tPo_eq hw.2.2.2.1 m, List.length_cons]
  obtain ⟨A, B, e⟩ := List.append_of_mem hc
  rw [e, List.flatMap_append, List.flatMap_cons, List.length_append, List.length_append]
  omega
theorem zr_kid {t u : mT} (hw : fWF 300 t) (hu : fWF 300 u) : ∀ a, ∀ c ∈ zK t u a, zr t u c < zr t u a := fun a c hc => by
  unfold zK at hc
  unfold zr
  by_cases g : a < 300
  · rw [if_pos g] at hc ⊢
    have hc3 := hw.1 c (fKi_in hw hc).1
    rw [if_pos hc3]
    exact po_kid hw hc
  · rw [if_neg g] at hc ⊢
    obtain ⟨d, hd, rfl⟩ := List.mem_map.mp hc
    rw [if_neg (by omega), show 300 + d - 300 = d by omega]
    exact po_kid hu hd
theorem zr_le {t u : mT} (hw : fWF 300 t) (hu : fWF 300 u) (a : Nat) : zr t u a ≤ 300 := by
  unfold zr
  by_cases g : a < 300
  · rw [if_pos g]; exact po_le hw a
  · rw [if_neg g]; exact po_le hu _
theorem zlo_L {kd idn : Nat → Int32} {t u : mT} : ∀ a b, zL kd idn t u a = zL kd idn t u b → zlo kd a = zlo kd b := fun a b h => by
  have h1 : (zL kd idn t u a).1 = (zL kd idn t u b).1 := by rw [h]
  unfold zL at h1
  unfold zlo loK
  by_cases ga : a < 300 <;> by_cases gb : b < 300
  · rw [if_pos ga, if_pos gb] at h1 ⊢; have h1 : kd a = kd b := h1; rw [h1]
  · rw [if_pos ga, if_neg gb] at h1 ⊢; have h1 : kd a = kd (b - 300) := h1; rw [h1]
  · rw [if_neg ga, if_pos gb] at h1 ⊢; have h1 : kd (a - 300) = kd b := h1; rw [h1]
  · rw [if_neg ga, if_neg gb] at h1 ⊢; have h1 : kd (a - 300) = kd (b - 300) := h1; rw [h1]
/-- nodes of two trees are alike -/
theorem akN_iff {kd idn : Nat → Int32} {t u : mT} (hw : fWF 300 t) (hu : fWF 300 u) (a b : Nat) : akN kd idn t u a b ↔ zL kd idn t u a = zL kd idn t u b ∧ (zlo kd a = true → pm (akN kd idn t u) (zK t u a) (zK t u b)) ∧ (zlo kd a = false → all2 (akN kd idn t u) (zK t u a) (zK t u b)) := by
  have up : ∀ c ∈ zK t u a, ∀ d, alk (zK t u) (zL kd idn t u) (zlo kd) 300 c d ↔ akN kd idn t u c d := fun c hc d => by
    have h1 := zr_kid hw hu a c hc
    have h2 := zr_le hw hu a
    exact ⟨fun g => alk_fuel (zr_kid hw hu) 300 301 c d (by omega) (by omega) g, fun g => alk_fuel (zr_kid hw hu) 301 300 c d (by omega) (by omega) g⟩
  constructor
  · intro h
    exact ⟨h.1, fun g => pm_mono (fun c hc d _ q => (up c hc d).mp q) (h.2.1 g), fun g => all2_mono (fun c hc d _ q => (up c hc d).mp q) (h.2.2 g)⟩
  · intro h
    exact ⟨h.1, fun g => pm_mono (fun c hc d _ q => (up c hc d).mpr q) (h.2.1 g), fun g => all2_mono (fun c hc d _ q => (up c hc d).mpr q) (h.2.2 g)⟩
theorem akN_refl {kd idn : Nat → Int32} {t u : mT} (hw : fWF 300 t) (hu : fWF 300 u) (a : Nat) : akN kd idn t u a a := alk_refl (zr_kid hw hu) 301 a (by have := zr_le hw hu a; omega)
theorem akN_symm {kd idn : Nat → Int32} {t u : mT} {a b : Nat} (h : akN kd idn t u a b) : akN kd idn t u b a := alk_symm zlo_L 301 a b h
theorem akN_trans {kd idn : Nat → Int32} {t u : mT} {a b c : Nat} (h : akN kd idn t u a b) (g : akN kd idn t u b c) : akN kd idn t u a c := alk_trans zlo_L 301 a b c h g
/-- a node of the one against a node of the other -/
theorem all2_mapR {r : Nat → Nat → Prop} {f : Nat → Nat} : ∀ {A B : List Nat}, all2 r A (B.map f) ↔ all2 (fun a b => r a (f b)) A B
  | [], [] => Iff.rfl
  | a :: A, b :: B => by
    show (r a (f b) ∧ all2 r A (B.map f)) ↔ (r a (f b) ∧ all2 (fun a b => r a (f b)) A B)
    rw [all2_mapR]
  | [], _ :: _ => Iff.rfl
  | _ :: _, [] => Iff.rfl
theorem perm_mapR {f : Nat → Nat} : ∀ {P B : List Nat}, P.Perm (B.map f) → ∃ P' : List Nat, P = P'.map f ∧ P'.Perm B
  | [], B, h => by
    have : B = [] := List.map_eq_nil_iff.mp h.symm.eq_nil
    exact ⟨[], rfl, by rw [this]⟩
  | p :: P, B, h => by
    obtain ⟨b, hb, eb⟩ := List.mem_map.mp (h.mem_iff.mp (show p ∈ p :: P by simp))
    have q := List.perm_cons_erase hb
    have h2 := h.trans (q.map f)
    rw [List.map_cons, eb] at h2
    obtain ⟨P', e1, e2⟩ := perm_mapR h2.cons_inv
    exact ⟨b :: P', by rw [List.map_cons, eb, e1], (e2.cons b).trans q.symm⟩
theorem pm_mapR {r : Nat → Nat → Prop} {f : Nat → Nat} {A B : List Nat} : pm r A (B.map f) ↔ pm (fun a b => r a (f b)) A B := by
  constructor
  · rintro ⟨P, p1, p2⟩
    obtain ⟨P', e, q⟩ := perm_mapR p1
    subst e
    exact ⟨P', q, all2_mapR.mp p2⟩
  · rintro ⟨P, p1, p2⟩
    exact ⟨P.map f, p1.map f, all2_mapR.mpr p2⟩
theorem AK_iff {kd idn : Nat → Int32} {t u : mT} (hw : fWF 300 t) (hu : fWF 300 u) {x y : Nat} (hx : x < 300) : AK kd idn t u x y ↔ (kd x = kd y ∧ idn x = idn y ∧ tWo t x = tWo u y) ∧ (loK kd x = true → pm (AK kd idn t u) (tKi t x) (tKi u y)) ∧ (loK kd x = false → all2 (AK kd idn t u) (tKi t x) (tKi u y)) := by
  unfold AK
  rw [akN_iff hw hu]
  have e1 : zL kd idn t u x = (kd x, idn x, tWo t x) := if_pos hx
  have e2 : zL kd idn t u (300 + y) = (kd y, idn y, tWo u y) := by
    unfold zL
    rw [if_neg (by omega), show 300 + y - 300 = y by omega]
  have e3 : zlo kd x = loK kd x := if_pos hx
  have e4 : zK t u x = tKi t x := if_pos hx
  have e5 : zK t u (300 + y) = (tKi u y).map (300 + ·) := by
    unfold zK
    rw [if_neg (by omega), show 300 + y - 300 = y by omega]
  rw [e1, e2, e3, e4, e5, pm_mapR, all2_mapR]
  simp only [Prod.mk.injEq]
theorem AK_dif {kd idn : Nat → Int32} {t u : mT} {x x' y y' : Nat} (h1 : AK kd idn t u x y) (h2 : AK kd idn t u x' y) (h3 : AK kd idn t u x' y') : AK kd idn t u x y' := akN_trans (akN_trans h1 (akN_symm h2)) h3
theorem akB_iff {kd idn : Nat → Int32} {t u : mT} {x y : Nat} : akB kd idn t u x y = true ↔ AK kd idn t u x y := @decide_eq_true_iff _ (Classical.propDecidable _)
end AKNODE
