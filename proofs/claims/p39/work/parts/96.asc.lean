section ASC
theorem tw_all {p : Nat → Bool} : ∀ (L : List Nat), ∀ x ∈ L.takeWhile p, p x = true
  | [], x, h => by simp at h
  | a :: L, x, h => by
    by_cases c : p a = true
    · rw [List.takeWhile_cons_of_pos c] at h
      rcases List.mem_cons.mp h with e | e
      · rw [e]; exact c
      · exact tw_all L x e
    · rw [List.takeWhile_cons_of_neg c] at h
      simp at h
theorem dw_hd {p : Nat → Bool} : ∀ (L : List Nat) (c : Nat) (r : List Nat), L.dropWhile p = c :: r → p c = false
  | [], c, r, h => by simp at h
  | a :: L, c, r, h => by
    by_cases g : p a = true
    · rw [List.dropWhile_cons_of_pos g] at h
      exact dw_hd L c r h
    · rw [List.dropWhile_cons_of_neg g] at h
      simp only [List.cons.injEq] at h
      rw [← h.1]; simpa using g
theorem low_asc {l : List Nat} {m : Nat} (h : l.Pairwise (· < ·)) (hm : m ∉ l) : (lowA l m ++ m :: lowB l m).Pairwise (· < ·) := by
  have e := low_app l m
  rw [← e] at h hm
  obtain ⟨h1, h2, h3⟩ := List.pairwise_append.mp h
  have hB : ∀ x ∈ lowB l m, m < x := fun x hx => by
    unfold lowB at hx
    have := tw_all _ x (List.mem_reverse.mp hx)
    simpa using this
  have hA : ∀ x ∈ lowA l m, x < m := fun x hx => by
    have hm1 : m ∉ lowA l m := fun g => hm (List.mem_append_left _ g)
    unfold lowA at hx h1 hm1
    cases ed : l.reverse.dropWhile (fun c => decide (m < c)) with
    | nil => rw [ed] at hx; simp at hx
    | cons c r =>
      have hc := dw_hd _ c r ed
      rw [ed] at hx h1 hm1
      rw [List.reverse_cons] at hx h1 hm1
      have hcm : c ≤ m := by
        have := of_decide_eq_false hc
        omega
      have hne : c ≠ m := fun g => hm1 (by rw [g]; simp)
      rcases List.mem_append.mp hx with g | g
      · have := (List.pairwise_append.mp h1).2.2 x g c (by simp)
        omega
      · have : x = c := by simpa using g
        omega
  refine List.pairwise_append.mpr ⟨h1, List.pairwise_cons.mpr ⟨hB, h2⟩, fun x hx y hy => ?_⟩
  rcases List.mem_cons.mp hy with g | g
  · rw [g]; exact hA x hx
  · exact Nat.lt_trans (hA x hx) (hB y g)
theorem in_asc {l : List Nat} {m K : Nat} (h : l.Pairwise (· < ·)) (hm : m ∉ l) : (inKids true l m K).Pairwise (· < ·) := by
  unfold inKids hgA hgB
  rw [if_pos rfl, if_pos rfl]
  exact low_asc h hm
theorem trI_set {mk : Nat} {kd : Nat → Int32} {rt : Nat → Bool} {t : mT} (H : trI mk kd rt t) (m : Nat) (v : Int32) : trI mk kd rt (tSet t m v) := ⟨wSet H.1 m v, H.2.1, H.2.2⟩
theorem trI_node {mk : Nat} {kd : Nat → Int32} {rt : Nat → Bool} {t : mT} (H : trI mk kd rt t) (hk : mk < 300) (k v : Int32) {r : Nat} (hr : tIn t r = true) (K : Nat) : trI (mk + 1) (mU kd mk k) (mU rt mk false) (dNode t mk v r (loK kd r) K) := by
  have hno : tIn t mk = false := by
    cases c : tIn t mk with
    | false => rfl
    | true => exact absurd (H.2.1 mk c).1 (Nat.lt_irrefl _)
  have hrm : r ≠ mk := Nat.ne_of_lt (H.2.1 r hr).1
  have ht : tRt t ≠ mk := Nat.ne_of_lt (H.2.1 _ H.1.2.1).1
  refine ⟨wNode H.1 hno hk hr _ _, fun m hi => ?_, fun p hp hl => ?_⟩
  · have hi : mU (tIn t) mk true m = true := hi
    show m < mk + 1 ∧ (mU rt mk false m = true ↔ m = tRt t)
    by_cases e : m = mk
    · rw [e, mU_s]
      exact ⟨Nat.lt_succ_self _, fun g => by simp at g, fun g => absurd g.symm ht⟩
    · rw [mU_n _ _ e] at hi ⊢
      exact ⟨Nat.lt_succ_of_lt (H.2.1 m hi).1, (H.2.1 m hi).2⟩
  · have hp : mU (tIn t) mk true p = true := hp
    show (mU (mU (tKi t) mk []) r (inKids (loK kd r) (tKi t r) mk K) p).Pairwise (· < ·)
    have hl2 : p ≠ mk → loK kd p = true := fun e => by
      unfold loK at hl ⊢
      rw [mU_n _ _ e] at hl
      exact hl
    by_cases e : p = r
    · subst e
      rw [mU_s, hl2 hrm]
      refine in_asc (H.2.2 p hr (hl2 hrm)) (fun g => ?_)
      have := (fKi_in H.1.1 g).1
      rw [hno] at this
      simp at this
    · rw [mU_n _ _ e]
      by_cases e2 : p = mk
      · rw [e2, mU_s]; exact List.Pairwise.nil
      · rw [mU_n _ _ e2]
        rw [mU_n _ _ e2] at hp
        exact H.2.2 p hp (hl2 e2)
theorem trI_move {mk : Nat} {kd : Nat → Int32} {rt : Nat → Bool} {t : mT} (H : trI mk kd rt t) {m r : Nat} (hm : tIn t m = true) (hr : tIn t r = true) (hc : r ∉ tPo t m) (K : Nat) : trI mk kd rt (dMove t m r (loK kd r) K) := by
  refine ⟨wMove H.1 hm hr hc _ _, H.2.1, fun p hp hl => ?_⟩
  show (mU (fun p => (tKi t p).erase m) r (inKids (loK kd r) ((tKi t r).erase m) m K) p).Pairwise (· < ·)
  have hp : tIn t p = true := hp
  by_cases e : p = r
  · subst e
    rw [mU_s, hl]
    refine in_asc ((H.2.2 p hp hl).sublist List.erase_sublist) (fun g => ?_)
    exact ((H.1.1.2.2.1 p).mem_erase_iff.mp g).1 rfl
  · rw [mU_n _ _ e]
    exact (H.2.2 p hp hl).sublist List.erase_sublist
theorem trI_ers {mk : Nat} {kd : Nat → Int32} {rt : Nat → Bool} {t : mT} (H : trI mk kd rt t) {m : Nat} (hm : tIn t m = true) (hr : m ≠ tRt t) : trI mk kd rt (tErs t m) := by
  have hin : ∀ x, tIn (tErs t m) x = true → tIn t x = true := fun x hx => by
    have hx : (tIn t x && !decide (x ∈ tPo t m)) = true := hx
    exact (Bool.and_eq_true_iff.mp hx).1
  refine ⟨wErs H.1 hm hr, fun x hx => H.2.1 x (hin x hx), fun p hp hl => ?_⟩
  show (if p ∈ tPo t m then [] else (tKi t p).erase m).Pairwise (· < ·)
  by_cases c : p ∈ tPo t m
  · rw [if_pos c]; exact List.Pairwise.nil
  · rw [if_neg c]; exact (H.2.2 p (hin p hp) hl).sublist List.erase_sublist
end ASC
