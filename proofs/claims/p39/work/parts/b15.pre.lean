section MPRE
theorem flt_fm {α : Type} (f : α → List Nat) (V : Nat → Bool) : ∀ L : List α, (L.flatMap f).filter V = L.flatMap (fun x => (f x).filter V)
  | [] => rfl
  | x :: L => by rw [List.flatMap_cons, List.flatMap_cons, List.filter_append, flt_fm f V L]
variable {mk R0 : Nat} {po : Nat → Int32} {b l r : mT}
def vsV (R0 : Nat) (s : mgS) (S : Nat → Bool) (y : Nat) : Bool := decide (y = R0) || (match sUp s y with
  | some q => S q
  | none => false)
theorem vsV_k {R0 : Nat} {s : mgS} {S : Nat → Bool} {y q : Nat} (hu : sUp s y = some q) (hS : S q = true) : vsV R0 s S y = true := by
  unfold vsV
  rw [hu]
  show (decide (y = R0) || S q) = true
  rw [hS, Bool.or_true]
theorem pre_S {T : mT} (hT : tWF 300 T) {s : mgS} (eu : tUp T = sUp s) {S : Nat → Bool} (up : ∀ z w, S z = true → sUp s z = some w → S w = true) : ∀ x, ∀ w, w ∈ tPo T x → S w = true → S x = true := by
  have h := hT.1.2.2.2.1
  refine tKi_ind h (fun x ih w hw hS => ?_)
  rcases (tPo_mem h).mp hw with e | ⟨c, hc, hw2⟩
  · rw [← e]; exact hS
  · have := ih c hc w hw2 hS
    have uc := ((hT.1.2.1 c x).mp hc).2
    rw [eu] at uc
    exact up c x this uc
theorem pre_V {T : mT} (hT : tWF 300 T) {s : mgS} (eu : tUp T = sUp s) (er : tRt T = R0) {S : Nat → Bool} (up : ∀ z w, S z = true → sUp s z = some w → S w = true) {x y : Nat} (hS : S x = false) (hy : y ∈ tPo T x) (hne : y ≠ x) : vsV R0 s S y = false := by
  have h := hT.1.2.2.2.1
  rcases tPo_up h x hy with e | ⟨w, hw, hwx⟩
  · exact absurd e hne
  · have uy := ((hT.1.2.1 y w).mp hw).2
    rw [eu] at uy
    unfold vsV
    rw [uy]
    show (decide (y = R0) || S w) = false
    have n1 : y ≠ R0 := fun e => by
      rw [e, ← er] at uy
      rw [← eu, hT.2.2.1] at uy
      cases uy
    have n2 : S w = false := by
      cases e : S w with
      | false => rfl
      | true =>
        rw [pre_S hT eu up x w hwx e] at hS
        cases hS
    rw [decide_eq_false n1, n2]
    rfl
theorem pre_eq {T : mT} (hT : tWF 300 T) {s : mgS} (eu : tUp T = sUp s) (er : tRt T = R0) {S : Nat → Bool} (up : ∀ z w, S z = true → sUp s z = some w → S w = true) {C : mT} (hC : tRk C) (k1 : ∀ x, S x = true → tKi C x = tKi T x) (k0 : ∀ x, S x = false → tKi C x = []) : ∀ x, vsV R0 s S x = true → tPo C x = (tPo T x).filter (vsV R0 s S) := by
  have h := hT.1.2.2.2.1
  refine tKi_ind h (fun x ih hv => ?_)
  rw [tPo_eq hC x, tPo_eq h x, List.filter_cons, if_pos hv, flt_fm]
  congr 1
  cases e : S x with
  | true =>
    rw [k1 x e]
    refine fm_congr (fun c hc => ih c hc ?_)
    have uc := ((hT.1.2.1 c x).mp hc).2
    rw [eu] at uc
    exact vsV_k uc e
  | false =>
    rw [k0 x e, List.flatMap_nil]
    refine (List.eq_nil_iff_forall_not_mem.mpr (fun y hy => ?_)).symm
    obtain ⟨c, hc, hyc⟩ := List.mem_flatMap.mp hy
    obtain ⟨y1, y2⟩ := List.mem_filter.mp hyc
    have yx : y ∈ tPo T x := (tPo_mem h).mpr (Or.inr ⟨c, hc, y1⟩)
    have ne : y ≠ x := fun q => by
      obtain ⟨rk, hrk⟩ := id h
      have r1 := tPo_rk h hrk c y1
      have r2 := hrk c x hc
      rw [q] at r1
      omega
    rw [pre_V hT eu er up e yx ne] at y2
    cases y2
/-- the children hung for the first i marks of the order -/
noncomputable def kvS (T : mT) (i : Nat) (q : Nat) : Bool := tIn T q && decide (pl T q < i)
noncomputable def Kv (T : mT) (i : Nat) (q : Nat) : List Nat := if kvS T i q = true then tKi T q else []
theorem kvS_iff {T : mT} {i q : Nat} : kvS T i q = true ↔ tIn T q = true ∧ pl T q < i := by
  unfold kvS
  rw [Bool.and_eq_true, decide_eq_true_iff]
theorem kvS_up {T : mT} (hT : tWF 300 T) {s : mgS} (eu : tUp T = sUp s) {i : Nat} : ∀ z w, kvS T i z = true → sUp s z = some w → kvS T i w = true := fun z w hz hu => by
  rw [kvS_iff] at hz ⊢
  rw [← eu] at hu
  have := pl_kid_lt hT ((hT.1.2.1 z w).mpr ⟨hz.1, hu⟩)
  exact ⟨hT.1.2.2.2.2 z w hz.1 hu, by omega⟩
theorem Kv_s {T : mT} (hT : tWF 300 T) {i m : Nat} (hm : tIn T m = true) (hp : pl T m = i) : mU (Kv T i) m (tKi T m) = Kv T (i + 1) ∧ Kv T i m = [] := by
  refine ⟨funext fun q => ?_, ?_⟩
  · by_cases c : q = m
    · rw [c, mU_s]
      unfold Kv
      rw [if_pos (kvS_iff.mpr ⟨hm, by omega⟩)]
    · rw [mU_n _ _ c]
      unfold Kv
      by_cases k : kvS T i q = true
      · obtain ⟨k1, k2⟩ := kvS_iff.mp k
        rw [if_pos k, if_pos (kvS_iff.mpr ⟨k1, by omega⟩)]
      · rw [if_neg k, if_neg (fun g => k ?_)]
        obtain ⟨k1, k2⟩ := kvS_iff.mp g
        have : pl T q ≠ i := fun e => c (pl_inj hT k1 hm (by omega))
        exact kvS_iff.mpr ⟨k1, by omega⟩
  · unfold Kv
    rw [if_neg (fun g => by have := (kvS_iff.mp g).2; omega)]
theorem Kv_0 (T : mT) : Kv T 0 = fun _ => [] := funext fun q => by
  unfold Kv
  rw [if_neg (fun g => absurd (kvS_iff.mp g).2 (Nat.not_lt_zero _))]
/-- what is next in the order -/
theorem pre_next {T : mT} (hT : tWF 300 T) {s : mgS} (eu : tUp T = sUp s) (er : tRt T = R0) {C : mT} (hC : tRk C) {i m : Nat} (hm : tIn T m = true) (hp : pl T m = i) (hk : ∀ x, tKi C x = Kv T (i + 1) x) : ∃ A L, tPo C R0 = A ++ m :: L ∧ headO L = headO ((pO T).drop (i + 1)) := by
  have e := pre_eq hT eu er (S := kvS T (i + 1)) (kvS_up hT eu) hC (fun x hx => by rw [hk]; unfold Kv; rw [if_pos hx]) (fun x hx => by rw [hk]; unfold Kv; rw [if_neg (by rw [hx]; exact Bool.false_ne_true)]) R0 (by unfold vsV; rw [decide_eq_true rfl]; rfl)
  have eT : tPo T R0 = pO T := by rw [← er]; rfl
  rw [eT] at e
  have hi : i < (pO T).length := by rw [← hp]; exact pl_lt hT hm
  obtain ⟨z, ez, pz, hz, _⟩ := dr_cons hT hi
  have zm : z = m := pl_inj hT hz hm (by omega)
  have eS : pO T = (pO T).take i ++ m :: (pO T).drop (i + 1) := by
    have := (List.take_append_drop i (pO T)).symm
    rw [ez, zm] at this
    exact this
  have vm : vsV R0 s (kvS T (i + 1)) m = true := by
    by_cases c : m = tRt T
    · unfold vsV
      rw [c, er, decide_eq_true rfl]
      rfl
    · obtain ⟨w, hw⟩ := Option.ne_none_iff_exists'.mp (hT.2.2.2 m hm c)
      have lt := pl_kid_lt hT ((hT.1.2.1 m w).mpr ⟨hm, hw⟩)
      have iw := hT.1.2.2.2.2 m w hm hw
      rw [eu] at hw
      exact vsV_k hw (kvS_iff.mpr ⟨iw, by omega⟩)
  refine ⟨((pO T).take i).filter (vsV R0 s (kvS T (i + 1))), ((pO T).drop (i + 1)).filter (vsV R0 s (kvS T (i + 1))), ?_, ?_⟩
  · rw [e]
    have := congrArg (List.filter (vsV R0 s (kvS T (i + 1)))) eS
    rw [List.filter_append, List.filter_cons, if_pos vm] at this
    exact this
  · by_cases c : i + 1 < (pO T).length
    · obtain ⟨y, ey, py, hy, _⟩ := dr_cons hT c
      have vy : vsV R0 s (kvS T (i + 1)) y = true := by
        have ny : y ≠ tRt T := fun q => by
          rw [q, pl_rt hT] at py
          omega
        obtain ⟨w, hw⟩ := Option.ne_none_iff_exists'.mp (hT.2.2.2 y hy ny)
        have lt := pl_kid_lt hT ((hT.1.2.1 y w).mpr ⟨hy, hw⟩)
        have iw := hT.1.2.2.2.2 y w hy hw
        rw [eu] at hw
        exact vsV_k hw (kvS_iff.mpr ⟨iw, by omega⟩)
      rw [ey, List.filter_cons, if_pos vy]
      rfl
    · rw [List.drop_eq_nil_of_le (by omega)]
      rfl
/-- the roots of all that is in -/
def spT (R0 : Nat) (s : mgS) (i : Nat) : mT := (R0, sWo s, fun _ => [], fun _ => none, fun x => decide (x = R0) || (sIn s x && decide (x < i)))
theorem spT_in {R0 : Nat} {s : mgS} {i x : Nat} : tIn (spT R0 s i) x = true ↔ (x = R0 ∨ (sIn s x = true ∧ x < i)) := by
  show (decide (x = R0) || (sIn s x && decide (x < i))) = true ↔ _
  rw [Bool.or_eq_true, Bool.and_eq_true, decide_eq_true_iff, decide_eq_true_iff]
theorem spT_wf {s : mgS} (HH : mgH mk R0 b l r) (I : mgI mk R0 po b l r s) (i : Nat) : fWF 300 (spT R0 s i) := by
  refine ⟨fun m hm => ?_, fun m q => ⟨fun g => (by cases g), fun g => (by cases g.2)⟩, fun q => List.nodup_nil, ⟨fun _ => 0, fun m q g => by cases g⟩, fun m q _ g => by cases g⟩
  have := HH.2.2.1
  rcases spT_in.mp hm with e | e
  · rw [e]
    have := (I.1 R0 I.2.2.2.2.1.1).1
    omega
  · have := (I.1 m e.1).1
    omega
end MPRE
