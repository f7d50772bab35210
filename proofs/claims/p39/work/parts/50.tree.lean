section MTREE
abbrev mT : Type := Nat × (Nat → Int32) × (Nat → List Nat) × (Nat → Option Nat) × (Nat → Bool)
def tRt (t : mT) : Nat := t.1
def tWo (t : mT) : Nat → Int32 := t.2.1
def tKi (t : mT) : Nat → List Nat := t.2.2.1
def tUp (t : mT) : Nat → Option Nat := t.2.2.2.1
def tIn (t : mT) : Nat → Bool := t.2.2.2.2
def tRk (t : mT) : Prop := ∃ rk : Nat → Nat, ∀ m p, m ∈ tKi t p → rk m < rk p
/-- a forest: the marks in it are below N, each parent's children are known without doubles -/
def fWF (N : Nat) (t : mT) : Prop :=
  (∀ m, tIn t m = true → m < N) ∧ (∀ m p, m ∈ tKi t p ↔ (tIn t m = true ∧ tUp t m = some p)) ∧ (∀ p, (tKi t p).Nodup) ∧ tRk t ∧ (∀ m p, tIn t m = true → tUp t m = some p → tIn t p = true)
def tWF (N : Nat) (t : mT) : Prop :=
  fWF N t ∧ tIn t (tRt t) = true ∧ tUp t (tRt t) = none ∧ (∀ m, tIn t m = true → m ≠ tRt t → tUp t m ≠ none)
theorem fm_congr {α β : Type} {f g : α → List β} : ∀ {l : List α}, (∀ x ∈ l, f x = g x) → l.flatMap f = l.flatMap g
  | [], _ => rfl
  | x :: r, h => by
    rw [List.flatMap_cons, List.flatMap_cons, h x List.mem_cons_self, fm_congr (fun y hy => h y (List.mem_cons_of_mem _ hy))]
def tPre (k : Nat → List Nat) : Nat → Nat → List Nat
  | 0, _ => []
  | n + 1, m => m :: (k m).flatMap (tPre k n)
theorem tPre_fuel {k : Nat → List Nat} {rk : Nat → Nat} (hrk : ∀ m p, m ∈ k p → rk m < rk p) : ∀ n n' m, rk m < n → rk m < n' → tPre k n m = tPre k n' m
  | 0, _, _, h, _ => by omega
  | n + 1, 0, _, _, h => by omega
  | n + 1, n' + 1, m, h1, h2 => by
    show m :: (k m).flatMap (tPre k n) = m :: (k m).flatMap (tPre k n')
    congr 1
    refine fm_congr fun c hc => ?_
    have := hrk c m hc
    exact tPre_fuel hrk n n' c (by omega) (by omega)
/-- the marks of the branch at m, in order -/
noncomputable def tPo (t : mT) (m : Nat) : List Nat := @dite _ (tRk t) (Classical.propDecidable _) (fun h => tPre (tKi t) (Classical.choose h m + 1) m) (fun _ => [])
theorem tPo_eq {t : mT} (h : tRk t) (m : Nat) : tPo t m = m :: (tKi t m).flatMap (tPo t) := by
  have e : ∀ x, tPo t x = tPre (tKi t) (Classical.choose h x + 1) x := fun x => by unfold tPo; rw [dif_pos h]
  have hrk := Classical.choose_spec h
  rw [e m]
  show m :: (tKi t m).flatMap (tPre (tKi t) (Classical.choose h m)) = _
  congr 1
  refine fm_congr fun c hc => ?_
  rw [e c]
  have := hrk c m hc
  exact tPre_fuel hrk _ _ c (by omega) (by omega)
theorem tKi_ind {t : mT} (h : tRk t) {P : Nat → Prop} (step : ∀ m, (∀ c ∈ tKi t m, P c) → P m) : ∀ m, P m := by
  obtain ⟨rk, hrk⟩ := h
  have key : ∀ n m, rk m < n → P m := by
    intro n
    induction n with
    | zero => intro m hm; omega
    | succ n ih =>
      intro m hm
      refine step m fun c hc => ih c ?_
      have := hrk c m hc
      omega
  exact fun m => key (rk m + 1) m (by omega)
theorem tPo_mem {t : mT} (h : tRk t) {x m : Nat} : x ∈ tPo t m ↔ x = m ∨ ∃ c ∈ tKi t m, x ∈ tPo t c := by
  rw [tPo_eq h m, List.mem_cons, List.mem_flatMap]
theorem tPo_self {t : mT} (h : tRk t) (m : Nat) : m ∈ tPo t m := (tPo_mem h).mpr (Or.inl rfl)
theorem tPo_kid {t : mT} (h : tRk t) {p x : Nat} (hx : x ∈ tKi t p) : ∀ m, p ∈ tPo t m → x ∈ tPo t m := by
  refine tKi_ind h (fun m ih hp => ?_)
  rcases (tPo_mem h).mp hp with rfl | ⟨c, hc, hp⟩
  · exact (tPo_mem h).mpr (Or.inr ⟨x, hx, tPo_self h x⟩)
  · exact (tPo_mem h).mpr (Or.inr ⟨c, hc, ih c hc hp⟩)
theorem tPo_up {t : mT} (h : tRk t) {x : Nat} : ∀ m, x ∈ tPo t m → x = m ∨ ∃ p, x ∈ tKi t p ∧ p ∈ tPo t m := by
  refine tKi_ind h (fun m ih hx => ?_)
  rcases (tPo_mem h).mp hx with rfl | ⟨c, hc, hx⟩
  · exact Or.inl rfl
  · rcases ih c hc hx with rfl | ⟨p, hp, hpc⟩
    · exact Or.inr ⟨m, hc, tPo_self h m⟩
    · exact Or.inr ⟨p, hp, (tPo_mem h).mpr (Or.inr ⟨c, hc, hpc⟩)⟩
theorem tPo_rk {t : mT} (h : tRk t) {rk : Nat → Nat} (hrk : ∀ m p, m ∈ tKi t p → rk m < rk p) {x : Nat} : ∀ m, x ∈ tPo t m → rk x ≤ rk m := by
  refine tKi_ind h (fun m ih hx => ?_)
  rcases (tPo_mem h).mp hx with rfl | ⟨c, hc, hx⟩
  · exact Nat.le_refl _
  · have h1 := ih c hc hx
    have h2 := hrk c m hc
    omega
theorem tUp_of {N : Nat} {t : mT} (hw : fWF N t) {x p q : Nat} (h1 : x ∈ tKi t p) (h2 : x ∈ tKi t q) : p = q := by
  have a := ((hw.2.1 x p).mp h1).2
  have b := ((hw.2.1 x q).mp h2).2
  exact Option.some.inj (a.symm.trans b)
theorem tPo_cmp {N : Nat} {t : mT} (hw : fWF N t) {x b : Nat} (hb : x ∈ tPo t b) : ∀ a, x ∈ tPo t a → a ∈ tPo t b ∨ b ∈ tPo t a := by
  have h := hw.2.2.2.1
  refine tKi_ind h (fun a ih hx => ?_)
  rcases (tPo_mem h).mp hx with rfl | ⟨c, hc, hx⟩
  · exact Or.inl hb
  · rcases ih c hc hx with h1 | h1
    · rcases tPo_up h b h1 with rfl | ⟨p, hp, hpb⟩
      · exact Or.inr ((tPo_mem h).mpr (Or.inr ⟨c, hc, tPo_self h c⟩))
      · rw [tUp_of hw hp hc] at hpb
        exact Or.inl hpb
    · exact Or.inr ((tPo_mem h).mpr (Or.inr ⟨c, hc, h1⟩))
theorem fm_nodup {f : Nat → List Nat} : ∀ {l : List Nat}, l.Nodup → (∀ x ∈ l, (f x).Nodup) → (∀ x ∈ l, ∀ y ∈ l, x ≠ y → ∀ z, z ∈ f x → z ∉ f y) → (l.flatMap f).Nodup
  | [], _, _, _ => List.nodup_nil
  | x :: r, h1, h2, h3 => by
    rw [List.flatMap_cons]
    have h1' := List.nodup_cons.mp h1
    refine List.nodup_append.mpr ⟨h2 x List.mem_cons_self, fm_nodup h1'.2 (fun y hy => h2 y (List.mem_cons_of_mem _ hy)) (fun a ha b hb => h3 a (List.mem_cons_of_mem _ ha) b (List.mem_cons_of_mem _ hb)), fun a ha b hb e => ?_⟩
    subst e
    obtain ⟨y, hy, hay⟩ := List.mem_flatMap.mp hb
    exact h3 x List.mem_cons_self y (List.mem_cons_of_mem _ hy) (fun e => h1'.1 (by rw [e]; exact hy)) a ha hay
theorem tPo_nodup {N : Nat} {t : mT} (hw : fWF N t) : ∀ m, (tPo t m).Nodup := by
  have h := hw.2.2.2.1
  obtain ⟨rk, hrk⟩ := id h
  refine tKi_ind h (fun m ih => ?_)
  rw [tPo_eq h m]
  refine List.nodup_cons.mpr ⟨fun hm => ?_, fm_nodup (hw.2.2.1 m) ih (fun x hx y hy hne z hzx hzy => ?_)⟩
  · obtain ⟨c, hc, hmc⟩ := List.mem_flatMap.mp hm
    have h1 := tPo_rk h hrk c hmc
    have h2 := hrk c m hc
    omega
  · have key : ∀ a b, a ∈ tKi t m → b ∈ tKi t m → a ≠ b → a ∈ tPo t b → False := by
      intro a b ha hb hab h5
      rcases tPo_up h b h5 with e | ⟨p, hp, hpb⟩
      · exact hab e
      · rw [tUp_of hw hp ha] at hpb
        have h1 := tPo_rk h hrk b hpb
        have h2 := hrk b m hb
        omega
    rcases tPo_cmp hw hzy x hzx with h5 | h5
    · exact key x y hx hy hne h5
    · exact key y x hy hx (Ne.symm hne) h5
theorem tPo_in {N : Nat} {t : mT} (hw : fWF N t) {m : Nat} (hm : tIn t m = true) : ∀ x, x ∈ tPo t m → tIn t x = true := by
  intro x hx
  rcases tPo_up hw.2.2.2.1 m hx with rfl | ⟨p, hp, -⟩
  · exact hm
  · exact ((hw.2.1 x p).mp hp).1
/-- a number above all of finitely many -/
theorem mx_lt (rk : Nat → Nat) : ∀ N : Nat, ∃ B : Nat, ∀ m, m < N → rk m < B
  | 0 => ⟨0, fun m h => by omega⟩
  | n + 1 => by
    obtain ⟨B, hB⟩ := mx_lt rk n
    refine ⟨B + rk n + 1, fun m hm => ?_⟩
    by_cases e : m = n
    · subst e; omega
    · have := hB m (by omega)
      omega
/-- from the root down to each mark -/
theorem tUp_ind {N : Nat} {t : mT} (hw : tWF N t) {P : Nat → Prop} (h0 : P (tRt t)) (hs : ∀ m p, m ∈ tKi t p → tIn t p = true → P p → P m) : ∀ m, tIn t m = true → P m := by
  obtain ⟨rk, hrk⟩ := hw.1.2.2.2.1
  obtain ⟨B, hB⟩ := mx_lt rk N
  have key : ∀ n m, tIn t m = true → B - rk m < n → P m := by
    intro n
    induction n with
    | zero => intro m _ h; omega
    | succ n ih =>
      intro m hm hn
      by_cases e : m = tRt t
      · rw [e]; exact h0
      · obtain ⟨p, hp⟩ := Option.ne_none_iff_exists'.mp (hw.2.2.2 m hm e)
        have hpi := hw.1.2.2.2.2 m p hm hp
        have hk : m ∈ tKi t p := (hw.1.2.1 m p).mpr ⟨hm, hp⟩
        have h1 := hrk m p hk
        have h2 := hB p (hw.1.1 p hpi)
        exact hs m p hk hpi (ih p hpi (by omega))
  exact fun m hm => key (B - rk m + 1) m hm (by omega)
theorem tPo_all {N : Nat} {t : mT} (hw : tWF N t) {m : Nat} : m ∈ tPo t (tRt t) ↔ tIn t m = true :=
  ⟨fun h => tPo_in hw.1 hw.2.1 m h, fun h => tUp_ind hw (P := fun m => m ∈ tPo t (tRt t)) (tPo_self hw.1.2.2.2.1 _) (fun m p hk _ hp => tPo_kid hw.1.2.2.2.1 hk _ hp) m h⟩
theorem nd_len : ∀ {l L : List Nat}, l.Nodup → (∀ x ∈ l, x ∈ L) → l.length ≤ L.length
  | [], _, _, _ => Nat.zero_le _
  | x :: r, L, h1, h2 => by
    have h1' := List.nodup_cons.mp h1
    have hx := h2 x List.mem_cons_self
    have h3 : r.length ≤ (L.erase x).length := nd_len h1'.2 (fun y hy => (List.mem_erase_of_ne (fun e => h1'.1 (by rw [← e]; exact hy))).mpr (h2 y (List.mem_cons_of_mem _ hy)))
    rw [List.length_erase_of_mem hx] at h3
    have h4 := List.length_pos_of_mem hx
    simp only [List.length_cons]
    omega
theorem nd_len_eq {l L : List Nat} (h1 : l.Nodup) (h2 : L.Nodup) (h : ∀ x, x ∈ l ↔ x ∈ L) : l.length = L.length :=
  Nat.le_antisymm (nd_len h1 fun x hx => (h x).mp hx) (nd_len h2 fun x hx => (h x).mpr hx)
theorem nd_lt {l : List Nat} {N : Nat} (h1 : l.Nodup) (h2 : ∀ x ∈ l, x < N) : l.length ≤ N := by
  have h := nd_len (L := List.range N) h1 (fun x hx => List.mem_range.mpr (h2 x hx))
  rw [List.length_range] at h
  exact h
theorem nd_split {m : Nat} : ∀ {A A' B B' : List Nat}, (A ++ m :: B).Nodup → A ++ m :: B = A' ++ m :: B' → A = A' ∧ B = B'
  | [], [], _, _, _, h => by
    simp only [List.nil_append, List.cons.injEq, true_and] at h
    exact ⟨rfl, h⟩
  | [], a :: A', B, B', hn, h => by
    simp only [List.nil_append, List.cons_append, List.cons.injEq] at h
    obtain ⟨rfl, h⟩ := h
    have h1 := (List.nodup_cons.mp hn).1
    exact absurd (by rw [h]; exact List.mem_append_right _ List.mem_cons_self) h1
  | a :: A, [], B, B', hn, h => by
    simp only [List.nil_append, List.cons_append, List.cons.injEq] at h
    obtain ⟨rfl, h⟩ := h
    have h1 := (List.nodup_cons.mp hn).1
    exact absurd (List.mem_append_right _ List.mem_cons_self) h1
  | a :: A, a' :: A', B, B', hn, h => by
    simp only [List.cons_append, List.cons.injEq] at h
    obtain ⟨rfl, h⟩ := h
    obtain ⟨h1, h2⟩ := nd_split (List.nodup_cons.mp hn).2 h
    exact ⟨by rw [h1], h2⟩
def tAt (t : mT) (m : Nat) (A l : List Nat) : Prop := tPo t (tRt t) = A ++ (tPo t m ++ l)
theorem tAt_rt (t : mT) : tAt t (tRt t) [] [] := by
  unfold tAt
  simp
theorem tAt_kid {t : mT} (h : tRk t) {p m : Nat} {A l K1 K2 : List Nat} (ha : tAt t p A l) (hk : tKi t p = K1 ++ m :: K2) : tAt t m (A ++ p :: K1.flatMap (tPo t)) (K2.flatMap (tPo t) ++ l) := by
  unfold tAt at ha ⊢
  rw [ha, tPo_eq h p, hk]
  simp [List.flatMap_append, List.append_assoc]
theorem tAt_ex {N : Nat} {t : mT} (hw : tWF N t) : ∀ m, tIn t m = true → ∃ A l, tAt t m A l := by
  refine tUp_ind hw ⟨[], [], tAt_rt t⟩ (fun m p hk _ ih => ?_)
  obtain ⟨A, l, ha⟩ := ih
  obtain ⟨K1, K2, e⟩ := List.append_of_mem hk
  exact ⟨_, _, tAt_kid hw.1.2.2.2.1 ha e⟩
end MTREE
