section LTREE
theorem lcI_mem {lo : Bool} {K : List Nat} {m x : Nat} : x ∈ lcI lo K m ↔ x ∈ K ∨ x = m := by
  unfold lcI
  split
  · have e : x ∈ K ↔ x ∈ lowA K m ∨ x ∈ lowB K m := by
      have := low_app K m
      rw [← List.mem_append, this]
    rw [List.mem_append, List.mem_cons, e]
    constructor
    · rintro (g | g | g)
      · exact Or.inl (Or.inl g)
      · exact Or.inr g
      · exact Or.inl (Or.inr g)
    · rintro ((g | g) | g)
      · exact Or.inl g
      · exact Or.inr (Or.inr g)
      · exact Or.inr (Or.inl g)
  · rw [List.mem_append, List.mem_singleton]
theorem lcF_mem {lo : Bool} {p x : Nat} : ∀ (L : List lE) (K : List Nat), x ∈ L.foldl (lcS lo p) K ↔ x ∈ K ∨ ∃ e ∈ L, e.1 = x ∧ e.2.2 = some p ∧ e.1 ≠ p
  | [], K => by simp
  | e :: L, K => by
    rw [List.foldl_cons, lcF_mem L]
    have q : x ∈ lcS lo p K e ↔ x ∈ K ∨ (e.1 = x ∧ e.2.2 = some p ∧ e.1 ≠ p) := by
      unfold lcS
      by_cases c : e.2.2 = some p ∧ e.1 ≠ p
      · rw [if_pos c, lcI_mem]
        exact ⟨fun g => g.imp_right (fun g => ⟨g.symm, c⟩), fun g => g.imp_right (fun g => g.1.symm)⟩
      · rw [if_neg c]
        exact ⟨Or.inl, fun g => g.elim id (fun g => absurd g.2 c)⟩
    rw [q]
    constructor
    · rintro ((g | g) | ⟨e', g1, g2⟩)
      · exact Or.inl g
      · exact Or.inr ⟨e, List.mem_cons_self, g⟩
      · exact Or.inr ⟨e', List.mem_cons_of_mem _ g1, g2⟩
    · rintro (g | ⟨e', g1, g2⟩)
      · exact Or.inl (Or.inl g)
      · rcases List.mem_cons.mp g1 with rfl | g1
        · exact Or.inl (Or.inr g2)
        · exact Or.inr ⟨e', g1, g2⟩
theorem lcL_mem {lo : Bool} {p x : Nat} {L : List lE} : x ∈ lcL lo L p ↔ ∃ e ∈ L, e.1 = x ∧ e.2.2 = some p ∧ e.1 ≠ p := by
  unfold lcL
  rw [lcF_mem]
  exact ⟨fun g => g.elim (fun q => by cases q) id, Or.inr⟩
theorem lcF_f {p : Nat} : ∀ (L : List lE) (K : List Nat), L.foldl (lcS false p) K = K ++ (L.filter (fun e => decide (e.2.2 = some p ∧ e.1 ≠ p))).map (·.1)
  | [], K => by simp
  | e :: L, K => by
    rw [List.foldl_cons, lcF_f L]
    by_cases c : e.2.2 = some p ∧ e.1 ≠ p
    · have q : lcS false p K e = K ++ [e.1] := by
        unfold lcS
        rw [if_pos c]
        unfold lcI
        rw [if_neg (by simp)]
      rw [q, List.filter_cons_of_pos (by exact decide_eq_true c), List.map_cons, List.append_assoc]
      rfl
    · have q : lcS false p K e = K := if_neg c
      rw [q, List.filter_cons_of_neg (by simp only [decide_eq_true_eq]; exact c)]
theorem lcL_f (L : List lE) (p : Nat) : lcL false L p = (L.filter (fun e => decide (e.2.2 = some p ∧ e.1 ≠ p))).map (·.1) := by
  unfold lcL
  rw [lcF_f, List.nil_append]
theorem lcF_asc {p : Nat} : ∀ (L : List lE) (K : List Nat), K.Pairwise (· < ·) → (L.map (·.1)).Nodup → (∀ e ∈ L, e.1 ∉ K) → (L.foldl (lcS true p) K).Pairwise (· < ·)
  | [], K, h, _, _ => h
  | e :: L, K, h, hn, hd => by
    rw [List.map_cons] at hn
    obtain ⟨n1, n2⟩ := List.nodup_cons.mp hn
    rw [List.foldl_cons]
    refine lcF_asc L _ ?_ n2 (fun e' he' g => ?_)
    · unfold lcS
      split
      · unfold lcI
        rw [if_pos rfl]
        exact low_asc h (hd e List.mem_cons_self)
      · exact h
    · unfold lcS at g
      split at g
      · rcases lcI_mem.mp g with g | g
        · exact hd e' (List.mem_cons_of_mem _ he') g
        · exact n1 (by rw [← g]; exact List.mem_map_of_mem he')
      · exact hd e' (List.mem_cons_of_mem _ he') g
theorem asc_un : ∀ {A B : List Nat}, A.Pairwise (· < ·) → B.Pairwise (· < ·) → (∀ x, x ∈ A ↔ x ∈ B) → A = B
  | [], [], _, _, _ => rfl
  | [], b :: B, _, _, h => absurd ((h b).mpr List.mem_cons_self) (by simp)
  | a :: A, [], _, _, h => absurd ((h a).mp List.mem_cons_self) (by simp)
  | a :: A, b :: B, hA, hB, h => by
    obtain ⟨a1, a2⟩ := List.pairwise_cons.mp hA
    obtain ⟨b1, b2⟩ := List.pairwise_cons.mp hB
    have e : a = b := by
      rcases List.mem_cons.mp ((h a).mp List.mem_cons_self) with g | g
      · exact g
      · rcases List.mem_cons.mp ((h b).mpr List.mem_cons_self) with g2 | g2
        · exact g2.symm
        · have := b1 a g
          have := a1 b g2
          omega
    subst e
    congr 1
    refine asc_un a2 b2 (fun x => ⟨fun g => ?_, fun g => ?_⟩)
    · rcases List.mem_cons.mp ((h x).mp (List.mem_cons_of_mem _ g)) with q | q
      · have := a1 x g
        omega
      · exact q
    · rcases List.mem_cons.mp ((h x).mpr (List.mem_cons_of_mem _ g)) with q | q
      · have := b1 x g
        omega
      · exact q
/-- a row is a tree's -/
def LT (lo : Nat → Bool) (L : List lE) (T : mT) : Prop := (L.map (·.1)).Nodup ∧ rwT L (tIn T) (tWo T) (tUp T) ∧ ∀ p, tIn T p = true → lo p = false → lcL false L p = tKi T p
theorem ki_ne {t : mT} (h : tRk t) {m p : Nat} (hm : m ∈ tKi t p) : m ≠ p := fun e => by
  obtain ⟨rk, hr⟩ := h
  have := hr m p hm
  rw [e] at this
  omega
theorem LT_kids {lo : Nat → Bool} {L : List lE} {T : mT} (H : LT lo L T) (hw : fWF 300 T) (hl : tLo lo T) {p : Nat} (hp : tIn T p = true) : lcL (lo p) L p = tKi T p := by
  cases hb : lo p with
  | false => exact H.2.2 p hp hb
  | true =>
    refine asc_un (lcF_asc L [] List.Pairwise.nil H.1 (fun _ _ g => by cases g)) (hl p hp hb) (fun x => ?_)
    refine Iff.trans lcL_mem ⟨fun ⟨e, h1, h2, h3, h4⟩ => ?_, fun g => ?_⟩
    · have := (H.2.1.2 e h1).2
      rw [h3, h2] at this
      exact (hw.2.1 x p).mpr ⟨(H.2.1.1 x).mpr ⟨e, h1, h2⟩, this⟩
    · obtain ⟨g1, g2⟩ := (hw.2.1 x p).mp g
      obtain ⟨e, h1, h2⟩ := (H.2.1.1 x).mp g1
      have := (H.2.1.2 e h1).2
      rw [h2, g2] at this
      exact ⟨e, h1, h2, this.symm, by rw [h2]; exact ki_ne hw.2.2.2.1 g⟩
theorem LT_len {lo : Nat → Bool} {L : List lE} {T : mT} (H : LT lo L T) (hw : tWF 300 T) : L.length = (pO T).length := by
  have h1 : L.length = (L.map (·.1)).length := (List.length_map _).symm
  rw [h1]
  refine nd_len_eq H.1 (tPo_nodup hw.1 _) (fun x => ?_)
  rw [List.mem_map, show pO T = tPo T (tRt T) from rfl, tPo_all hw, H.2.1.1 x]
/-- a frame with new cells -/
def aFr (h h' : tpH) (T : Nat → Nat → Prop) (k u : Nat) : Prop := hFr h h' T (fun _ _ => False) ∧ hZ h' ≤ hZ h + k ∧ hU h' ≤ hU h + u
def nT0 : Nat → Nat → Prop := fun _ _ => False
theorem aFr_w {h : tpH} {F G : Nat → Nat → Int32} {T : Nat → Nat → Prop} (k : ∀ b j, ¬ T b j → G b j = F b j) : aFr (wI h F) (wI h G) T 0 0 := ⟨hFr_w (wI h F) (fun _ _ => False) (fun b j hb => k b j hb), Nat.le_refl _, Nat.le_refl _⟩
theorem aFr_tr {h h' h2 : tpH} {T T' : Nat → Nat → Prop} {k u k' u' : Nat} (a : aFr h h' T k u) (b : aFr h' h2 T' k' u') (c : ∀ x j, x < hZ h → T' x j → T x j) : aFr h h2 T (k + k') (u + u') := by
  obtain ⟨⟨a1, a2⟩, a3, a4⟩ := a
  obtain ⟨⟨b1, b2⟩, b3, b4⟩ := b
  refine ⟨⟨by omega, fun x hx => ?_⟩, by omega, by omega⟩
  obtain ⟨p1, p2, p3, p4, p5, p6⟩ := a2 x hx
  obtain ⟨q1, q2, q3, q4, q5, q6⟩ := b2 x (by omega)
  exact ⟨q1.trans p1, q2.trans p2, q3.trans p3, q4.trans p4, fun j hj => (q5 j (fun g => hj (c x j hx g))).trans (p5 j hj), fun j hj => (q6 j hj).trans (p6 j hj)⟩
theorem aFr_mono {h h' : tpH} {T T' : Nat → Nat → Prop} {k u k' u' : Nat} (a : aFr h h' T k u) (c : ∀ x j, x < hZ h → T x j → T' x j) (hk : k ≤ k') (hu : u ≤ u') : aFr h h' T' k' u' := by
  obtain ⟨⟨a1, a2⟩, a3, a4⟩ := a
  refine ⟨⟨a1, fun x hx => ?_⟩, by omega, by omega⟩
  obtain ⟨p1, p2, p3, p4, p5, p6⟩ := a2 x hx
  exact ⟨p1, p2, p3, p4, fun j hj => p5 j (fun g => hj (c x j hx g)), p6⟩
theorem aFr_I {h h' : tpH} {T : Nat → Nat → Prop} {k u b : Nat} (a : aFr h h' T k u) (hb : b < hZ h) (n : ∀ j, ¬ T b j) : hI h' b = hI h b := funext fun j => (a.1.2 b hb).2.2.2.2.1 j (n j)
theorem aFr_iA {h h' : tpH} {T : Nat → Nat → Prop} {k u b n : Nat} (a : aFr h h' T k u) (hb : b < hZ h) (H : iA h b n) : iA h' b n := ⟨((a.1.2 b hb).1).trans H.1, ((a.1.2 b hb).2.1).trans H.2⟩
theorem aFr_Z {h h' : tpH} {T : Nat → Nat → Prop} {k u : Nat} (a : aFr h h' T k u) : hZ h ≤ hZ h' := a.1.1
theorem aFr_n (h : tpH) (n m : Nat) (T : Nat → Nat → Prop) : aFr h (nC h 15 n m) T 1 m := ⟨hFr_sm (Nat.le_succ _) (fun b hb => hSm_nC h 15 n m b hb) T _, Nat.le_refl _, Nat.le_refl _⟩
theorem iA_n (h : tpH) (n m : Nat) : iA (nC h 15 n m) (hZ h) n := ⟨tpn_s _ _ _, tpn_s _ _ _⟩
theorem nC_0 (h : tpH) (n m j : Nat) : hI (nC h 15 n m) (hZ h) j = 0 := by
  show tpn (hI h) (hZ h) (fun _ => 0) (hZ h) j = 0
  rw [tpn_s]
end LTREE
