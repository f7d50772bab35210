/-! the picture of the heap: of each address its kind (0: not told; 1 .. 14: an object of tpCl's class; 15 .. 18: rows of int, boolean, long, double; 19, 20, 21: rows of Script, Step, Tree; 22: the law's own row), its length, its references, numbers, longs, doubles; the heap's size; the slots made -/
section TPH
abbrev tpH : Type := (Nat → Nat) × (Nat → Nat) × (Nat → Nat → Option Nat) × (Nat → Nat → Int32) × (Nat → Nat → Int64) × (Nat → Nat → UInt64) × Nat × Nat
def hT (h : tpH) : Nat → Nat := h.1
def hL (h : tpH) : Nat → Nat := h.2.1
def hR (h : tpH) : Nat → Nat → Option Nat := h.2.2.1
def hI (h : tpH) : Nat → Nat → Int32 := h.2.2.2.1
def hJ (h : tpH) : Nat → Nat → Int64 := h.2.2.2.2.1
def hF (h : tpH) : Nat → Nat → UInt64 := h.2.2.2.2.2.1
def hZ (h : tpH) : Nat := h.2.2.2.2.2.2.1
def hU (h : tpH) : Nat := h.2.2.2.2.2.2.2
def tpu {α : Type} (f : Nat → Nat → α) (a j : Nat) (v : α) : Nat → Nat → α := fun b k => if b = a ∧ k = j then v else f b k
def tpn {α : Type} (f : Nat → α) (a : Nat) (v : α) : Nat → α := fun b => if b = a then v else f b
def sI (h : tpH) (a j : Nat) (v : Int32) : tpH := (hT h, hL h, hR h, tpu (hI h) a j v, hJ h, hF h, hZ h, hU h)
def sR (h : tpH) (a j : Nat) (v : Option Nat) : tpH := (hT h, hL h, tpu (hR h) a j v, hI h, hJ h, hF h, hZ h, hU h)
def sJ (h : tpH) (a j : Nat) (v : Int64) : tpH := (hT h, hL h, hR h, hI h, tpu (hJ h) a j v, hF h, hZ h, hU h)
def sF (h : tpH) (a j : Nat) (v : UInt64) : tpH := (hT h, hL h, hR h, hI h, hJ h, tpu (hF h) a j v, hZ h, hU h)
def sA (h : tpH) (a : Nat) (f : Nat → Int32) : tpH := (hT h, hL h, hR h, tpn (hI h) a f, hJ h, hF h, hZ h, hU h)
/-- a new cell of kind k, of length n, of m slots -/
def nC (h : tpH) (k n m : Nat) : tpH := (tpn (hT h) (hZ h) k, tpn (hL h) (hZ h) n, tpn (hR h) (hZ h) (fun _ => none), tpn (hI h) (hZ h) (fun _ => 0), tpn (hJ h) (hZ h) (fun _ => 0), tpn (hF h) (hZ h) (fun _ => 0), hZ h + 1, hU h + m)
theorem tpu_s {α : Type} (f : Nat → Nat → α) (a j : Nat) (v : α) : tpu f a j v a j = v := by simp [tpu]
theorem tpu_a {α : Type} (f : Nat → Nat → α) (a j b k : Nat) (v : α) (h : b ≠ a) : tpu f a j v b k = f b k := by simp [tpu, h]
theorem tpu_j {α : Type} (f : Nat → Nat → α) (a j b k : Nat) (v : α) (h : k ≠ j) : tpu f a j v b k = f b k := by simp [tpu, h]
theorem tpu_fa {α : Type} (f : Nat → Nat → α) (a j b : Nat) (v : α) (h : b ≠ a) : tpu f a j v b = f b := by funext k; simp [tpu, h]
theorem tpn_s {α : Type} (f : Nat → α) (a : Nat) (v : α) : tpn f a v a = v := by simp [tpn]
theorem tpn_n {α : Type} (f : Nat → α) (a b : Nat) (v : α) (h : b ≠ a) : tpn f a v b = f b := by simp [tpn, h]
/-! values of a frame -/
abbrev tpV : Type := Int32 ⊕ Option Nat ⊕ UInt32 ⊕ Int64 ⊕ UInt64
abbrev vI (x : Int32) : tpV := .inl x
abbrev vR (r : Option Nat) : tpV := .inr (.inl r)
abbrev vF (u : UInt32) : tpV := .inr (.inr (.inl u))
abbrev vJ (j : Int64) : tpV := .inr (.inr (.inr (.inl j)))
abbrev vD (u : UInt64) : tpV := .inr (.inr (.inr (.inr u)))
def tpv : tpV → Value
  | .inl x => .int x
  | .inr (.inl r) => va_rf r
  | .inr (.inr (.inl u)) => .float u
  | .inr (.inr (.inr (.inl j))) => .long j
  | .inr (.inr (.inr (.inr u))) => .double u
def tpc : tpV → Nat
  | .inl _ => 1
  | .inr (.inl _) => 1
  | .inr (.inr (.inl _)) => 1
  | .inr (.inr (.inr (.inl _))) => 2
  | .inr (.inr (.inr (.inr _))) => 2
theorem va_rf_cat (r : Option Nat) : (va_rf r).category = 1 := by cases r <;> rfl
theorem tpv_cat : ∀ v : tpV, (tpv v).category = tpc v
  | .inl _ => rfl
  | .inr (.inl r) => va_rf_cat r
  | .inr (.inr (.inl _)) => rfl
  | .inr (.inr (.inr (.inl _))) => rfl
  | .inr (.inr (.inr (.inr _))) => rfl
theorem tpv_sum : ∀ st : List tpV, ((st.map tpv).map fun v => v.category).sum = (st.map tpc).sum
  | [] => rfl
  | v :: r => by
    have h := tpv_sum r
    simp only [List.map_cons, List.sum_cons, tpv_cat] at h ⊢
    rw [h]
/-! locals -/
def tpPr : Nat → List (Option tpV) → List (Nat × Value)
  | _, [] => []
  | i, none :: r => tpPr (i + 1) r
  | i, some v :: r => (i, tpv v) :: tpPr (i + 1) r
theorem tpPr_mem : ∀ (ls : List (Option tpV)) (k i : Nat) (v : tpV), ls[i]? = some (some v) → (k + i, tpv v) ∈ tpPr k ls
  | [], _, _, _, h => by simp at h
  | x :: r, k, 0, v, h => by
    simp only [List.getElem?_cons_zero, Option.some.injEq] at h
    subst h
    exact List.mem_cons_self
  | x :: r, k, i + 1, v, h => by
    have h2 := tpPr_mem r (k + 1) i v (by simpa using h)
    rw [show k + 1 + i = k + (i + 1) by omega] at h2
    cases x with
    | none => exact h2
    | some w => exact List.mem_cons_of_mem _ h2
theorem tpPr_of : ∀ (ls : List (Option tpV)) (k : Nat) (q : Nat × Value), q ∈ tpPr k ls → ∃ (i : Nat) (v : tpV), q = (k + i, tpv v) ∧ ls[i]? = some (some v)
  | [], _, _, h => nomatch h
  | none :: r, k, q, h => by
    obtain ⟨i, v, h1, h2⟩ := tpPr_of r (k + 1) q h
    exact ⟨i + 1, v, by rw [h1]; congr 1; omega, by simpa using h2⟩
  | some w :: r, k, q, h => by
    rcases List.mem_cons.mp h with h | h
    · exact ⟨0, w, h, rfl⟩
    · obtain ⟨i, v, h1, h2⟩ := tpPr_of r (k + 1) q h
      exact ⟨i + 1, v, by rw [h1]; congr 1; omega, by simpa using h2⟩
/-- the frame's locals show ls -/
def tpLs (n : Nat) (la : Array Slot) (ls : List (Option tpV)) : Prop := lv_has la n (tpPr 0 ls) ∧ ∀ (i : Nat) (v : tpV), ls[i]? = some (some v) → tpc v = 1
theorem tpLs.at {n : Nat} {la : Array Slot} {ls : List (Option tpV)} (h : tpLs n la ls) {i : Nat} {v : tpV} (hi : ls[i]? = some (some v)) : la[i]? = some (.val (tpv v)) := by
  have h2 := tpPr_mem ls 0 i v hi
  have h3 := h.1.2.2 _ h2
  simpa using h3
theorem tpLs.st {n : Nat} {la la' : Array Slot} {ls ls' : List (Option tpV)} {i : Nat} {v : tpV} (h : tpLs n la ls) (hv : tpc v = 1) (hl : ls.set i (some v) = ls')
    (h2 : lv_has la' n ((i, tpv v) :: (tpPr 0 ls).filter (fun q => !(q.1 == i) && !(q.1 + 1 == i && q.2.category == 2)))) : tpLs n la' ls' := by
  subst hl
  refine ⟨⟨h2.1, h2.2.1, fun q hq => ?_⟩, fun j w hw => ?_⟩
  · obtain ⟨j, w, rfl, hw⟩ := tpPr_of _ _ _ hq
    by_cases hj : j = i
    · subst hj
      have hw2 : w = v := by
        rw [List.getElem?_set] at hw
        split at hw
        · split at hw
          · exact (Option.some.inj (Option.some.inj hw)).symm
          · cases hw
        · rename_i hne; exact absurd rfl hne
      rw [hw2, Nat.zero_add]
      exact h2.2.2 _ List.mem_cons_self
    · rw [List.getElem?_set_ne (by omega)] at hw
      have h4 := tpPr_mem ls 0 j w hw
      refine h2.2.2 _ (List.mem_cons_of_mem _ (List.mem_filter.mpr ⟨h4, ?_⟩))
      have h5 := h.2 j w hw
      simp [tpv_cat, h5, hj]
  · by_cases hj : j = i
    · subst hj
      rw [List.getElem?_set] at hw
      split at hw
      · split at hw
        · rw [← Option.some.inj (Option.some.inj hw)]; exact hv
        · cases hw
      · rename_i hne; exact absurd rfl hne
    · rw [List.getElem?_set_ne (by omega)] at hw
      exact h.2 j w hw
theorem tpLs.fo {n : Nat} {la : Array Slot} {ls ls' : List (Option tpV)} (h : tpLs n la ls) (hs : ∀ (i : Nat) (v : tpV), ls'[i]? = some (some v) → ls[i]? = some (some v)) : tpLs n la ls' := by
  refine ⟨⟨h.1.1, h.1.2.1, fun q hq => ?_⟩, fun i v hi => h.2 i v (hs i v hi)⟩
  obtain ⟨i, v, rfl, hi⟩ := tpPr_of _ _ _ hq
  have h2 := tpPr_mem ls 0 i v (hs i v hi)
  exact h.1.2.2 _ h2
/-- ls' tells no more than ls -/
def tpFo : List (Option tpV) → List (Option tpV) → Prop
  | _, [] => True
  | [], _ :: _ => False
  | _ :: r, none :: r' => tpFo r r'
  | x :: r, some v :: r' => x = some v ∧ tpFo r r'
theorem tpFo.of : ∀ {ls ls' : List (Option tpV)}, tpFo ls ls' → ∀ (i : Nat) (v : tpV), ls'[i]? = some (some v) → ls[i]? = some (some v)
  | _, [], _, _, _, h => by simp at h
  | [], _ :: _, h0, _, _, _ => h0.elim
  | x :: r, none :: r', h0, 0, v, h => by simp at h
  | x :: r, none :: r', h0, i + 1, v, h => by
    have := tpFo.of (ls := r) (ls' := r') h0 i v (by simpa using h)
    simpa using this
  | x :: r, some w :: r', h0, 0, v, h => by
    have h1 : x = some w := h0.1
    rw [h1]
    simpa using h
  | x :: r, some w :: r', h0, i + 1, v, h => by
    have := tpFo.of (ls := r) (ls' := r') h0.2 i v (by simpa using h)
    simpa using this
/-! the cells -/
def tpFv (h : tpH) (a : Nat) (ty : FieldType) (j : Nat) : Value := match ty with
  | .object _ => va_rf (hR h a j)
  | .array _ => va_rf (hR h a j)
  | _ => .int (hI h a j)
def tpAx (h : tpH) (a : Nat) (k : Nat) : Option (Nat × vp_A) := match k with
  | 15 => some (15, hL h a, .inl (hI h a))
  | 16 => some (16, hL h a, .inl (hI h a))
  | 17 => some (17, hL h a, .inr (.inl (hJ h a)))
  | 18 => some (18, hL h a, .inr (.inr (.inr (.inl (hF h a)))))
  | 19 => some (19, hL h a, .inr (.inr (.inr (.inr (hR h a)))))
  | 20 => some (20, hL h a, .inr (.inr (.inr (.inr (hR h a)))))
  | 21 => some (21, hL h a, .inr (.inr (.inr (.inr (hR h a)))))
  | _ => none
def tpAt (D : va_G) (cy : Nat → ClassId) (h : tpH) (H : Heap) (a : Nat) : Prop :=
  (∀ (ci : Nat) (r : vw_C), hT h a = ci + 1 → tpCl[ci]? = some r → t_OB a (D.1 ci) r.2.2 (D.2 ci) H (fun j => tpFv h a (tpTy ci j) j)) ∧
  (∀ x : Nat × vp_A, tpAx h a (hT h a) = some x → H[a]? = some (vp_cell (cy x.1) x.2)) ∧
  (hT h a = 22 → ∃ scr : Cell, H[a]? = some scr ∧ scr.cls = cy 22 ∧ (∀ q, scr.vm ≠ .statics q) ∧ scr.vm ≠ .unknown ∧ scr.slots.size = hL h a ∧ ∀ j : Nat, j < hL h a → scr.slots[j]? = some (.int (hI h a j)))
/-- the heap H looks as h tells; all but the law's row lies from B on -/
def tpP (D : va_G) (cy : Nat → ClassId) (B : Nat) (h : tpH) (H : Heap) : Prop :=
  H.size = hZ h ∧ ∀ a : Nat, hT h a ≠ 0 → tpAt D cy h H a ∧ a < H.size ∧ (hT h a ≠ 22 → B ≤ a)
theorem tpP.ob {D : va_G} {cy : Nat → ClassId} {B : Nat} {h : tpH} {H : Heap} (hP : tpP D cy B h H) {a ci : Nat} {r : vw_C} (hk : hT h a = ci + 1) (hr : tpCl[ci]? = some r) : t_OB a (D.1 ci) r.2.2 (D.2 ci) H (fun j => tpFv h a (tpTy ci j) j) :=
  (hP.2 a (by omega)).1.1 ci r hk hr
theorem tpP.ar {D : va_G} {cy : Nat → ClassId} {B : Nat} {h : tpH} {H : Heap} (hP : tpP D cy B h H) {a : Nat} {x : Nat × vp_A} (h0 : hT h a ≠ 0) (hx : tpAx h a (hT h a) = some x) : H[a]? = some (vp_cell (cy x.1) x.2) :=
  (hP.2 a h0).1.2.1 x hx
theorem tpAt.kept {D : va_G} {cy : Nat → ClassId} {h h' : tpH} {H H' : Heap} {a : Nat} (k : tpAt D cy h H a) (e0 : hT h' a = hT h a) (e1 : hL h' a = hL h a) (e2 : hR h' a = hR h a) (e3 : hI h' a = hI h a) (e4 : hJ h' a = hJ h a) (e5 : hF h' a = hF h a) (q : H'[a]? = H[a]?) : tpAt D cy h' H' a := by
  refine ⟨fun ci r hk hr => ?_, fun x hx => ?_, fun h22 => ?_⟩
  · have h1 := (k.1 ci r (by rw [← e0]; exact hk) hr).kept q
    refine h1.to fun j _ => ?_
    unfold tpFv
    rw [e2, e3]
  · rw [q]
    refine k.2.1 x ?_
    rw [← hx, e0]
    unfold tpAx
    rw [e1, e2, e3, e4, e5]
  · rw [q, e1, e3]
    exact k.2.2 (by rw [← e0]; exact h22)
theorem tpP.upd {D : va_G} {cy : Nat → ClassId} {B : Nat} {h h' : tpH} {H H' : Heap} (hP : tpP D cy B h H) (a : Nat) (e0 : hT h' = hT h) (eZ : hZ h' = hZ h) (eo : ∀ b, b ≠ a → hL h' b = hL h b ∧ hR h' b = hR h b ∧ hI h' b = hI h b ∧ hJ h' b = hJ h b ∧ hF h' b = hF h b)
    (oq : ∀ q : Nat, q ≠ a → H'[q]? = H[q]?) (hs : H'.size = H.size) (ha : hT h a ≠ 0 → tpAt D cy h' H' a) : tpP D cy B h' H' := by
  refine ⟨by rw [hs, eZ]; exact hP.1, fun b hb => ?_⟩
  rw [e0] at hb ⊢
  obtain ⟨k1, k2, k3⟩ := hP.2 b hb
  refine ⟨?_, by rw [hs]; exact k2, k3⟩
  by_cases e : b = a
  · rw [e]; exact ha (by rw [← e]; exact hb)
  · obtain ⟨q1, q2, q3, q4, q5⟩ := eo b e
    exact k1.kept (by rw [e0]) q1 q2 q3 q4 q5 (oq b e)
theorem tpP.new {D : va_G} {cy : Nat → ClassId} {B : Nat} {h : tpH} {H H' : Heap} {k n m : Nat} (hP : tpP D cy B h H) (hs : H'.size = H.size + 1) (oq : ∀ q : Nat, q < H.size → H'[q]? = H[q]?) (hB : B ≤ H.size) (ha : k ≠ 0 → tpAt D cy (nC h k n m) H' H.size) : tpP D cy B (nC h k n m) H' := by
  refine ⟨by rw [hs, hP.1]; rfl, fun b hb => ?_⟩
  by_cases e : b = hZ h
  · have e2 : b = H.size := by rw [e, hP.1]
    have hk : k ≠ 0 := by
      intro h0
      apply hb
      show tpn (hT h) (hZ h) k b = 0
      rw [e, tpn_s]; exact h0
    exact ⟨by rw [e2]; exact ha hk, by omega, fun _ => by omega⟩
  · have e0 : hT (nC h k n m) b = hT h b := tpn_n _ _ _ _ e
    rw [e0] at hb ⊢
    obtain ⟨k1, k2, k3⟩ := hP.2 b hb
    refine ⟨k1.kept e0 (tpn_n _ _ _ _ e) (tpn_n _ _ _ _ e) (tpn_n _ _ _ _ e) (tpn_n _ _ _ _ e) (tpn_n _ _ _ _ e) (oq b k2), by omega, k3⟩
end TPH
