section ALIKE
theorem all2_len {r : Nat → Nat → Prop} : ∀ {A B : List Nat}, all2 r A B → A.length = B.length
  | [], [], _ => rfl
  | a :: A, b :: B, h => by simp [all2_len h.2]
  | [], _ :: _, h => h.elim
  | _ :: _, [], h => h.elim
theorem all2_mono {r s : Nat → Nat → Prop} : ∀ {A B : List Nat}, (∀ a ∈ A, ∀ b ∈ B, r a b → s a b) → all2 r A B → all2 s A B
  | [], [], _, _ => trivial
  | a :: A, b :: B, m, h => ⟨m a List.mem_cons_self b List.mem_cons_self h.1, all2_mono (fun x hx y hy => m x (List.mem_cons_of_mem _ hx) y (List.mem_cons_of_mem _ hy)) h.2⟩
  | [], _ :: _, _, h => h.elim
  | _ :: _, [], _, h => h.elim
theorem all2_refl {r : Nat → Nat → Prop} : ∀ {A : List Nat}, (∀ a ∈ A, r a a) → all2 r A A
  | [], _ => trivial
  | a :: A, m => ⟨m a List.mem_cons_self, all2_refl (fun x hx => m x (List.mem_cons_of_mem _ hx))⟩
theorem all2_flip {r s : Nat → Nat → Prop} : ∀ {A B : List Nat}, (∀ a ∈ A, ∀ b ∈ B, r a b → s b a) → all2 r A B → all2 s B A
  | [], [], _, _ => trivial
  | a :: A, b :: B, m, h => ⟨m a List.mem_cons_self b List.mem_cons_self h.1, all2_flip (fun x hx y hy => m x (List.mem_cons_of_mem _ hx) y (List.mem_cons_of_mem _ hy)) h.2⟩
  | [], _ :: _, _, h => h.elim
  | _ :: _, [], _, h => h.elim
theorem all2_trans {r s u : Nat → Nat → Prop} : ∀ {A B C : List Nat}, (∀ a b c, r a b → s b c → u a c) → all2 r A B → all2 s B C → all2 u A C
  | [], [], [], _, _, _ => trivial
  | a :: A, b :: B, c :: C, m, h, g => ⟨m a b c h.1 g.1, all2_trans m h.2 g.2⟩
  | [], _ :: _, _, _, h, _ => h.elim
  | _ :: _, [], _, _, h, _ => h.elim
  | [], [], _ :: _, _, _, g => g.elim
  | _ :: _, _ :: _, [], _, _, g => g.elim
theorem all2_perm {r : Nat → Nat → Prop} {B C : List Nat} (p : B.Perm C) : ∀ {A : List Nat}, all2 r A B → ∃ D, D.Perm A ∧ all2 r D C := by
  induction p with
  | nil => intro A h; exact ⟨A, List.Perm.refl _, h⟩
  | cons x _ ih =>
    intro A h
    cases A with
    | nil => exact h.elim
    | cons a A =>
      obtain ⟨D, d1, d2⟩ := ih h.2
      exact ⟨a :: D, d1.cons a, h.1, d2⟩
  | swap x y l =>
    intro A h
    cases A with
    | nil => exact h.elim
    | cons a A =>
      cases A with
      | nil => exact h.2.elim
      | cons a' A => exact ⟨a' :: a :: A, List.Perm.swap _ _ _, h.2.1, h.1, h.2.2⟩
  | trans _ _ ih1 ih2 =>
    intro A h
    obtain ⟨D, d1, d2⟩ := ih1 h
    obtain ⟨E, e1, e2⟩ := ih2 d2
    exact ⟨E, e1.trans d1, e2⟩
theorem all2_permL {r : Nat → Nat → Prop} {A B C : List Nat} (p : A.Perm C) (h : all2 r A B) : ∃ D, D.Perm B ∧ all2 r C D := by
  obtain ⟨D, d1, d2⟩ := all2_perm p (all2_flip (s := fun b a => r a b) (fun _ _ _ _ g => g) h)
  exact ⟨D, d1, all2_flip (fun _ _ _ _ g => g) d2⟩
/-- a pairing of all of one with all of the other -/
theorem pm_symm {r s : Nat → Nat → Prop} {A B : List Nat} (m : ∀ a b, r a b → s b a) (h : pm r A B) : pm s B A := by
  obtain ⟨P, p1, p2⟩ := h
  obtain ⟨D, d1, d2⟩ := all2_perm p1 p2
  exact ⟨D, d1, all2_flip (fun a _ b _ g => m a b g) d2⟩
theorem pm_trans {r s u : Nat → Nat → Prop} {A B C : List Nat} (m : ∀ a b c, r a b → s b c → u a c) (h : pm r A B) (g : pm s B C) : pm u A C := by
  obtain ⟨P, p1, p2⟩ := h
  obtain ⟨P2, q1, q2⟩ := g
  obtain ⟨D, d1, d2⟩ := all2_permL p1.symm q2
  exact ⟨D, d1.trans q1, all2_trans m p2 d2⟩
theorem pm_mono {r s : Nat → Nat → Prop} {A B : List Nat} (m : ∀ a ∈ A, ∀ b ∈ B, r a b → s a b) (h : pm r A B) : pm s A B := by
  obtain ⟨P, p1, p2⟩ := h
  exact ⟨P, p1, all2_mono (fun a ha b hb => m a ha b (p1.mem_iff.mp hb)) p2⟩
theorem pm_len {r : Nat → Nat → Prop} {A B : List Nat} (h : pm r A B) : A.length = B.length := by
  obtain ⟨P, p1, p2⟩ := h
  rw [all2_len p2, p1.length_eq]
/-! nodes alike -/
theorem alk_fuel {K : Nat → List Nat} {L : Nat → aLb} {lo : Nat → Bool} {rk : Nat → Nat} (hrk : ∀ a, ∀ c ∈ K a, rk c < rk a) : ∀ (n m a b : Nat), rk a < n → rk a < m → alk K L lo n a b → alk K L lo m a b
  | 0, m, a, b, h1, h2, h => by omega
  | n + 1, 0, a, b, h1, h2, h => by omega
  | n + 1, m + 1, a, b, h1, h2, h => by
    have key : ∀ c ∈ K a, ∀ d, alk K L lo n c d → alk K L lo m c d := fun c hc d g => by
      have := hrk a c hc
      exact alk_fuel hrk n m c d (by omega) (by omega) g
    exact ⟨h.1, fun g => pm_mono (fun c hc d _ q => key c hc d q) (h.2.1 g), fun g => all2_mono (fun c hc d _ q => key c hc d q) (h.2.2 g)⟩
theorem alk_refl {K : Nat → List Nat} {L : Nat → aLb} {lo : Nat → Bool} {rk : Nat → Nat} (hrk : ∀ a, ∀ c ∈ K a, rk c < rk a) : ∀ (n a : Nat), rk a < n → alk K L lo n a a
  | 0, a, h => by omega
  | n + 1, a, h => by
    have key : all2 (alk K L lo n) (K a) (K a) := all2_refl (fun c hc => by
      have := hrk a c hc
      exact alk_refl hrk n c (by omega))
    exact ⟨rfl, fun _ => ⟨K a, List.Perm.refl _, key⟩, fun _ => key⟩
theorem alk_symm {K : Nat → List Nat} {L : Nat → aLb} {lo : Nat → Bool} (hlo : ∀ a b, L a = L b → lo a = lo b) : ∀ (n a b : Nat), alk K L lo n a b → alk K L lo n b a
  | 0, a, b, h => h.elim
  | n + 1, a, b, h => by
    have e := hlo a b h.1
    exact ⟨h.1.symm, fun g => pm_symm (fun c d q => alk_symm hlo n c d q) (h.2.1 (by rw [e]; exact g)), fun g => all2_flip (fun c _ d _ q => alk_symm hlo n c d q) (h.2.2 (by rw [e]; exact g))⟩
theorem alk_trans {K : Nat → List Nat} {L : Nat → aLb} {lo : Nat → Bool} (hlo : ∀ a b, L a = L b → lo a = lo b) : ∀ (n a b c : Nat), alk K L lo n a b → alk K L lo n b c → alk K L lo n a c
  | 0, a, b, c, h, g => h.elim
  | n + 1, a, b, c, h, g => by
    have e := hlo a b h.1
    exact ⟨h.1.trans g.1, fun q => pm_trans (fun x y z => alk_trans hlo n x y z) (h.2.1 q) (g.2.1 (by rw [← e]; exact q)), fun q => all2_trans (fun x y z => alk_trans hlo n x y z) (h.2.2 q) (g.2.2 (by rw [← e]; exact q))⟩
/-! taking the first that goes, one after the other -/
def grd (r : Nat → Nat → Bool) : List Nat → List Nat → Bool
  | [], _ => true
  | a :: A, R => match R.find? (fun b => r a b) with
    | none => false
    | some b => grd r A (R.erase b)
theorem pm_cons {r : Nat → Nat → Prop} {a : Nat} {A R : List Nat} (hd : ∀ x x' y y', r x y → r x' y → r x' y' → r x y') (hn : R.Nodup) (h : pm r (a :: A) R) {b : Nat} (hb : b ∈ R) (hab : r a b) : pm r A (R.erase b) := by
  obtain ⟨P, p1, p2⟩ := h
  cases P with
  | nil => exact p2.elim
  | cons b1 P1 =>
    obtain ⟨g1, g2⟩ := p2
    have hbP : b ∈ b1 :: P1 := p1.mem_iff.mpr hb
    have pe : ((b1 :: P1).erase b).Perm (R.erase b) := p1.erase b
    by_cases c : b1 = b
    · rw [c, List.erase_cons_head] at pe
      exact ⟨P1, pe, g2⟩
    · have hb1 : b ∈ P1 := by
        rcases List.mem_cons.mp hbP with q | q
        · exact absurd q.symm c
        · exact q
      rw [List.erase_cons_tail (by simpa using c)] at pe
      -- the partner of b takes b1
      have key : ∀ (A P1 : List Nat), all2 r A P1 → b ∈ P1 → ∃ P2, P2.Perm (b1 :: P1.erase b) ∧ all2 r A P2 := by
        intro A
        induction A with
        | nil =>
          intro P1 h hb
          cases P1 with
          | nil => simp at hb
          | cons y P1 => exact h.elim
        | cons x A ih =>
          intro P1 h hb
          cases P1 with
          | nil => exact h.elim
          | cons y P1 =>
            by_cases e : y = b
            · refine ⟨b1 :: P1, ?_, hd x a b b1 (by rw [← e]; exact h.1) hab g1, h.2⟩
              rw [e, List.erase_cons_head]
            · have hb2 : b ∈ P1 := by
                rcases List.mem_cons.mp hb with q | q
                · exact absurd q.symm e
                · exact q
              obtain ⟨P2, q1, q2⟩ := ih P1 h.2 hb2
              refine ⟨y :: P2, ?_, h.1, q2⟩
              rw [List.erase_cons_tail (by simpa using e)]
              exact (q1.cons y).trans (List.Perm.swap _ _ _)
      obtain ⟨P2, q1, q2⟩ := key A P1 g2 hb1
      exact ⟨P2, q1.trans pe, q2⟩
theorem grd_iff {r : Nat → Nat → Bool} (hd : ∀ x x' y y', r x y = true → r x' y = true → r x' y' = true → r x y' = true) : ∀ (A R : List Nat), R.Nodup → A.length = R.length → (grd r A R = true ↔ pm (fun a b => r a b = true) A R)
  | [], R, hn, hl => by
    have : R = [] := List.length_eq_zero_iff.mp hl.symm
    subst this
    exact ⟨fun _ => ⟨[], List.Perm.refl _, trivial⟩, fun _ => rfl⟩
  | a :: A, R, hn, hl => by
    show (match R.find? (fun b => r a b) with
      | none => false
      | some b => grd r A (R.erase b)) = true ↔ _
    cases e : R.find? (fun b => r a b) with
    | none =>
      refine ⟨fun h => by simp at h, fun h => ?_⟩
      exfalso
      obtain ⟨P, p1, p2⟩ := h
      cases P with
      | nil => exact p2.elim
      | cons b1 P1 =>
        have := List.find?_eq_none.mp e b1 (p1.mem_iff.mp List.mem_cons_self)
        exact this p2.1
    | some b =>
      have hb := List.mem_of_find?_eq_some e
      have hr : r a b = true := by have := List.find?_some e; exact this
      have ih := grd_iff hd A (R.erase b) (hn.erase b) (by rw [List.length_erase_of_mem hb]; simp at hl; omega)
      show grd r A (R.erase b) = true ↔ _
      rw [ih]
      constructor
      · rintro ⟨P, p1, p2⟩
        exact ⟨b :: P, (p1.cons b).trans (List.perm_cons_erase hb).symm, hr, p2⟩
      · exact fun h => pm_cons hd hn h hb hr
/-- by numbers given to what is alike -/
theorem pm_map {r : Nat → Nat → Prop} {f : Nat → Nat} : ∀ {A B : List Nat}, (∀ a ∈ A, ∀ b ∈ B, (f a = f b ↔ r a b)) → (pm r A B ↔ (A.map f).Perm (B.map f))
  | [], B, hf => by
    constructor
    · rintro ⟨P, p1, p2⟩
      cases P with
      | nil => rw [p1.symm.eq_nil]
      | cons => exact p2.elim
    · intro h
      have : B.map f = [] := h.symm.eq_nil
      have : B = [] := List.map_eq_nil_iff.mp this
      subst this
      exact ⟨[], List.Perm.refl _, trivial⟩
  | a :: A, B, hf => by
    constructor
    · rintro ⟨P, p1, p2⟩
      have e : (a :: A).map f = P.map f := by
        have key : ∀ (X Y : List Nat), (∀ x ∈ X, ∀ y ∈ Y, r x y → f x = f y) → all2 r X Y → X.map f = Y.map f := by
          intro X
          induction X with
          | nil => intro Y _ h; cases Y with
            | nil => rfl
            | cons => exact h.elim
          | cons x X ih => intro Y m h; cases Y with
            | nil => exact h.elim
            | cons y Y =>
              rw [List.map_cons, List.map_cons, m x List.mem_cons_self y List.mem_cons_self h.1, ih Y (fun x' hx y' hy => m x' (List.mem_cons_of_mem _ hx) y' (List.mem_cons_of_mem _ hy)) h.2]
        exact key _ _ (fun x hx y hy => (hf x hx y (p1.mem_iff.mp hy)).mpr) p2
      rw [e]
      exact p1.map f
    · intro h
      have hm : f a ∈ B.map f := h.mem_iff.mp (by simp)
      obtain ⟨b, hb, eb⟩ := List.mem_map.mp hm
      have p := List.perm_cons_erase hb
      have h2 : (f a :: A.map f).Perm (f a :: (B.erase b).map f) := by
        have := h.trans (p.map f)
        rw [List.map_cons, List.map_cons, eb] at this
        exact this
      obtain ⟨P, q1, q2⟩ := (pm_map (fun x hx y hy => hf x (List.mem_cons_of_mem _ hx) y (List.mem_of_mem_erase hy))).mpr h2.cons_inv
      exact ⟨b :: P, (q1.cons b).trans p.symm, (hf a List.mem_cons_self b hb).mp eb.symm, q2⟩
end ALIKE
