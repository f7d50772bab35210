section ALIKE
theorem all2_mono {r s : Nat → Nat → Prop} : ∀ {A B : List Nat}, (∀ a ∈ A, ∀ b ∈ B, r a b → s a b) → all2 r A B → all2 s A B
  | [], [], _, _ => trivial
  | a :: A, b :: B, m, h => ⟨m a List.mem_cons_self b List.mem_cons_self h.1, all2_mono (fun x hx y hy => m x (List.mem_cons_of_mem _ hx) y (List.mem_cons_of_mem _ hy)) h.2⟩
  | [], _ :: _, _, h => h.elim
  | _ :: _, [], _, h => h.elim
theorem pm_mono {r s : Nat → Nat → Prop} {A B : List Nat} (m : ∀ a ∈ A, ∀ b ∈ B, r a b → s a b) (h : pm r A B) : pm s A B := by
  obtain ⟨P, p1, p2⟩ := h
  exact ⟨P, p1, all2_mono (fun a ha b hb => m a ha b (p1.mem_iff.mp hb)) p2⟩
end ALIKE
