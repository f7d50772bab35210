section MALIKE
def alR (F : Nat → Nat → Int32) (q : Nat) (t u : mT) : Prop := (∀ x, tIn t x = true → F (q + 28) x = nI (pl t x)) ∧ ∀ y, tIn u y = true → F (q + 29) y = nI (pl u y)
noncomputable def alT (F : Nat → Nat → Int32) (q : Nat) (kd idn : Nat → Int32) (t u : mT) (x y : Nat) : Prop := F (q + 27) (300 * pl t x + pl u y) = if akB kd idn t u x y = true then 1 else 0
theorem p_aaM {h : tpH} {Q q : Nat} {kd idn : Nat → Int32} {t u : mT} (M : lMd h Q q) {F : Nat → Nat → Int32} (hw : tWF 300 t) (hu : tWF 300 u) (hR0 : alR F q t u) {x y : Nat} (hx : tIn t x = true) (hy : tIn u y = true) (hT0 : alT F q kd idn t u x y) {R : Int32 → tpH → Prop} (k : R (if akB kd idn t u x y = true then 1 else 0) (wI h F)) : w_Md_areAlikeMarks Q (nI x) (nI y) (wI h F) R := by
  obtain ⟨a1, a2, a3⟩ := md_f M (j := 28) (kd := 15) (n := 300) (f := 38) (by decide)
  obtain ⟨b1, b2, b3⟩ := md_f M (j := 29) (kd := 15) (n := 300) (f := 39) (by decide)
  obtain ⟨c1, c2, c3⟩ := md_f M (j := 27) (kd := 16) (n := 90000) (f := 37) (by decide)
  have hx3 := hw.1.1 x hx
  have hy3 := hu.1.1 y hy
  have l1 := pl_lt hw hx
  have l2 := pl_lt hu hy
  have l3 := pO_le hw
  have l4 := pO_le hu
  refine ⟨M.1, q + 28, a3, a1, by rw [wI_L, a2]; exact vp_in_nI hx3 (by decide), q + 29, b3, b1, by rw [wI_L, b2]; exact vp_in_nI hy3 (by decide), q + 27, c3, c1, ?_⟩
  rw [nI_clamp (by omega), nI_clamp (by omega), wI_I, hR0.1 x hx, hR0.2 y hy, ix_e, nI_clamp (by omega)]
  have e : F (q + 27) (300 * pl t x + pl u y) = if akB kd idn t u x y = true then 1 else 0 := hT0
  rw [e]
  refine ⟨by rw [wI_L, c2]; exact vp_in_nI (by omega) (by decide), ?_, k⟩
  by_cases g : akB kd idn t u x y = true
  · rw [if_pos g]; exact Or.inr rfl
  · rw [if_neg g]; exact Or.inl rfl
/-- which are still to be had -/
def tkP (F : Nat → Nat → Int32) (q : Nat) (K : List Nat) (p : Nat → Bool) : Prop := ∀ z ∈ K, F (q + 30) z = if p z = true then 0 else 1
theorem p_partner8 {h : tpH} {Q q s' : Nat} {kd idn : Nat → Int32} {t u : mT} (M : lMd h Q q) (hs : s' < 42) {F : Nat → Nat → Int32} (hw : tWF 300 t) (hu : tWF 300 u) (hR0 : alR F q t u) {x : Nat} (hx : tIn t x = true) {K : List Nat} (hK : ∀ z ∈ K, tIn u z = true ∧ alT F q kd idn t u x z) {p : Nat → Bool} (hp : tkP F q K p) {R : Int32 → tpH → Prop} :
    ∀ (n : Nat) (L : List Nat) (v : Int32), (∀ z ∈ L, z ∈ K) → seg (fun z => F (q + 6) (300 * s' + z)) v L (-1) → L.length < n → R (nO (L.find? (fun z => p z && akB kd idn t u x z))) (wI h F) → w_Md_partnerOf_8 R n Q (nI s') (nI x) v (wI h F)
  | 0, L, v, h1, h2, h3, k => by omega
  | n + 1, [], v, h1, h2, h3, k => ⟨fun _ => k, fun g => absurd h2 g⟩
  | n + 1, z :: L, v, h1, h2, h3, k => by
    obtain ⟨a1, a2, a3⟩ := md_f M (j := 30) (kd := 16) (n := 300) (f := 40) (by decide)
    obtain ⟨e1, e2⟩ := h2
    subst e1
    have hz := hK z (h1 z List.mem_cons_self)
    have hz3 := hu.1.1 z hz.1
    have nxt : (p z && akB kd idn t u x z) = false → w_Md_partnerOf_37 R (w_Md_partnerOf_8 R n) Q (nI s') (nI x) (nI z) (wI h F) := fun g => by
      refine ⟨M.1, ?_⟩
      rw [e_Md_nextIn M hs hz3]
      refine p_partner8 M hs hw hu hR0 hx hK hp n L _ (fun y hy => h1 y (List.mem_cons_of_mem _ hy)) e2 (by simp at h3; omega) ?_
      rw [List.find?_cons_of_neg (by rw [g]; decide)] at k
      exact k
    have ev : hI (wI h F) (q + 30) (nI z).toNatClampNeg = if p z = true then 0 else 1 := by rw [nI_clamp (by omega)]; exact hp z (h1 z List.mem_cons_self)
    refine ⟨fun g => absurd g (nI_ne_m (by omega)), fun _ => ⟨M.1, q + 30, a3, a1, by rw [wI_L, a2]; exact vp_in_nI hz3 (by decide), ?_⟩⟩
    rw [ev]
    by_cases c : p z = true
    · rw [if_pos c]
      refine ⟨fun g => absurd rfl g, fun _ => p_aaM M hw hu hR0 hx hz.1 hz.2 ?_⟩
      by_cases c2 : akB kd idn t u x z = true
      · rw [if_pos c2]
        refine ⟨fun g => absurd g (by decide), fun _ => ?_⟩
        rw [List.find?_cons_of_pos (by rw [c, c2]; rfl)] at k
        exact k
      · rw [if_neg c2]
        exact ⟨fun _ => nxt (by simp [c2]), fun g => absurd rfl g⟩
    · rw [if_neg c]
      exact ⟨fun _ => nxt (by simp [c]), fun g => absurd g (by decide)⟩
/-! the loops over children -/
theorem tk_set {F : Nat → Nat → Int32} {q : Nat} {K : List Nat} {p : Nat → Bool} (hp : tkP F q K p) (b : Nat) : tkP (tpu F (q + 30) b 1) q K (fun z => p z && !decide (z = b)) := fun z hz => by
  by_cases c : z = b
  · rw [c, tpu_s]; simp
  · rw [tpu_j _ _ _ _ _ _ c, hp z hz]; simp [c]
theorem fi_er {K : List Nat} (hn : K.Nodup) (p : Nat → Bool) (b : Nat) : (K.filter p).erase b = K.filter (fun z => p z && !decide (z = b)) := by
  rw [List.Nodup.erase_eq_filter (hn.filter p) b, List.filter_filter]
  refine List.filter_congr fun z _ => ?_
  by_cases c : z = b <;> simp [c]
theorem p_al118L {h : tpH} {Q q s s' : Nat} {kd idn : Nat → Int32} {t u : mT} (M : lMd h Q q) (hs : s < 42) (hs' : s' < 42) (hw : tWF 300 t) (hu : tWF 300 u) {x y : Nat} (hx : tIn t x = true) (hy : tIn u y = true) {F0 : Nat → Nat → Int32} (hk0 : ¬ F0 q x < 4) (hR0 : alR F0 q t u) (hL' : MtL F0 q s' u) (hT0 : ∀ a ∈ tKi t x, ∀ b ∈ tKi u y, alT F0 q kd idn t u a b) {R : Int32 → tpH → Prop} :
    ∀ (n : Nat) (A C : List Nat) (v v' : Int32) (p : Nat → Bool) (F : Nat → Nat → Int32), (∀ b, b ≠ q + 30 → F b = F0 b) → (∀ a ∈ A, a ∈ tKi t x) → (∀ c ∈ C, c ∈ tKi u y) → A.length = C.length → seg (fun z => F (q + 6) (300 * s + z)) v' A (-1) → seg (fun z => F (q + 6) (300 * s' + z)) v C (-1) → tkP F q (tKi u y) p → A.length < n → (∀ G, (∀ b, b ≠ q + 30 → G b = F0 b) → R (if grd (akB kd idn t u) A ((tKi u y).filter p) = true then 1 else 0) (wI h G)) → w_Md_areLike_118 R n Q (nI s) (nI s') (nI x) (nI y) v v' (wI h F)
  | 0, A, C, v, v', p, F, f0, hA, hC, hl, sA, sC, hp, hn, kk => by omega
  | n + 1, [], C, v, v', p, F, f0, hA, hC, hl, sA, sC, hp, hn, kk => ⟨fun _ => kk F f0, fun g => absurd sA g⟩
  | n + 1, a :: A, [], v, v', p, F, f0, hA, hC, hl, sA, sC, hp, hn, kk => by simp at hl
  | n + 1, a :: A, c :: C, v, v', p, F, f0, hA, hC, hl, sA, sC, hp, hn, kk => by
    obtain ⟨a1, a2, a3⟩ := md_f M (j := 30) (kd := 16) (n := 300) (f := 40) (by decide)
    obtain ⟨e1, e2⟩ := sA
    obtain ⟨g1, g2⟩ := sC
    subst e1
    subst g1
    have haK := hA a List.mem_cons_self
    have ha := (fKi_in hw.1 haK).1
    have ha3 := hw.1.1 a ha
    have hc3 := hu.1.1 c (fKi_in hu.1 (hC c List.mem_cons_self)).1
    have hx3 := hw.1.1 x hx
    have hy3 := hu.1.1 y hy
    have hR1 : alR F q t u := by unfold alR; rw [f0 _ (by omega), f0 _ (by omega)]; exact hR0
    have hKK : ∀ z ∈ tKi u y, tIn u z = true ∧ alT F q kd idn t u a z := fun z hz => ⟨(fKi_in hu.1 hz).1, by unfold alT; rw [f0 _ (by omega)]; exact hT0 a haK z hz⟩
    have sy : seg (fun z => F (q + 6) (300 * s' + z)) (F (q + 5) (300 * s' + y)) (tKi u y) (-1) := by
      rw [f0 (q + 6) (by omega), f0 (q + 5) (by omega)]; exact (hL' y hy).2.2
    refine ⟨fun g => absurd g (nI_ne_m (by omega)), fun _ => ⟨M.1, ?_⟩⟩
    rw [e_Md_isOrdered M hx3, if_neg (by rw [f0 q (by omega)]; exact hk0)]
    refine ⟨fun _ => ⟨M.1, M.1, ?_⟩, fun g => absurd rfl g⟩
    rw [e_Md_firstIn M hs' hy3]
    refine ⟨(tKi u y).length + 1, p_partner8 M hs' hw hu hR1 ha hKK hp _ (tKi u y) _ (fun z hz => hz) sy (Nat.lt_succ_self _) ?_⟩
    have ef : (tKi u y).find? (fun z => p z && akB kd idn t u a z) = ((tKi u y).filter p).find? (fun z => akB kd idn t u a z) := by
      rw [List.find?_filter]
      congr 1
      funext z
      cases p z <;> cases akB kd idn t u a z <;> rfl
    rw [ef]
    have egrd : grd (akB kd idn t u) (a :: A) ((tKi u y).filter p) = match ((tKi u y).filter p).find? (fun b => akB kd idn t u a b) with
      | none => false
      | some b => grd (akB kd idn t u) A (((tKi u y).filter p).erase b) := rfl
    cases eb : ((tKi u y).filter p).find? (fun z => akB kd idn t u a z) with
    | none =>
      rw [eb] at egrd
      have kv := kk F f0
      rw [egrd] at kv
      exact ⟨fun g => absurd rfl g, fun _ => kv⟩
    | some b =>
      rw [eb] at egrd
      have egrd : grd (akB kd idn t u) (a :: A) ((tKi u y).filter p) = grd (akB kd idn t u) A (((tKi u y).filter p).erase b) := egrd
      have hbm := List.mem_of_find?_eq_some eb
      have hbK := (List.mem_filter.mp hbm).1
      have hb3 := hu.1.1 b (fKi_in hu.1 hbK).1
      refine ⟨fun _ => ⟨M.1, q + 30, a3, a1, by rw [wI_L, a2]; exact vp_in_nI (n := b) hb3 (by decide), fun h7 e7 => ?_⟩, fun g => absurd g (nI_ne_m (by omega))⟩
      have e7 : h7 = sI (wI h F) (q + 30) (nI b).toNatClampNeg 1 := e7
      rw [nI_clamp (by omega), sI_wI, wI_wI, wI_I] at e7
      subst e7
      rw [e_Md_nextIn M hs' hc3]
      refine ⟨M.1, ?_⟩
      rw [e_Md_nextIn M hs ha3]
      have f6 : tpu F (q + 30) b 1 (q + 6) = F (q + 6) := tpu_fa _ _ _ _ _ (by omega)
      rw [f6]
      refine p_al118L M hs hs' hw hu hx hy hk0 hR0 hL' hT0 n A C _ _ (fun z => p z && !decide (z = b)) (tpu F (q + 30) b 1) (fun d hd => by rw [tpu_fa _ _ _ _ _ hd]; exact f0 d hd) (fun z hz => hA z (List.mem_cons_of_mem _ hz)) (fun z hz => hC z (List.mem_cons_of_mem _ hz)) (by simpa using hl) (by rw [f6]; exact e2) (by rw [f6]; exact g2) (tk_set hp b) (by simp at hn; omega) (fun G hG => ?_)
      have kv := kk G hG
      rw [egrd] at kv
      rw [fi_er (hu.1.2.2.1 y) p b] at kv
      exact kv
noncomputable def a2B (r : Nat → Nat → Bool) : List Nat → List Nat → Bool
  | [], _ => true
  | _ :: _, [] => false
  | a :: A, b :: B => r a b && a2B r A B
theorem a2B_iff {r : Nat → Nat → Bool} : ∀ {A B : List Nat}, A.length = B.length → (a2B r A B = true ↔ all2 (fun a b => r a b = true) A B)
  | [], [], _ => ⟨fun _ => trivial, fun _ => rfl⟩
  | a :: A, b :: B, h => by
    show (r a b && a2B r A B) = true ↔ (r a b = true ∧ all2 (fun a b => r a b = true) A B)
    rw [Bool.and_eq_true, a2B_iff (by simpa using h)]
  | [], _ :: _, h => by simp at h
  | _ :: _, [], h => by simp at h
theorem p_al118O {h : tpH} {Q q s s' : Nat} {kd idn : Nat → Int32} {t u : mT} (M : lMd h Q q) (hs : s < 42) (hs' : s' < 42) (hw : tWF 300 t) (hu : tWF 300 u) {x y : Nat} (hx : tIn t x = true) (hy : tIn u y = true) {F0 : Nat → Nat → Int32} (hk0 : F0 q x < 4) (hR0 : alR F0 q t u) (hT0 : ∀ a ∈ tKi t x, ∀ b ∈ tKi u y, alT F0 q kd idn t u a b) {R : Int32 → tpH → Prop} :
    ∀ (n : Nat) (A C : List Nat) (v v' : Int32) (F : Nat → Nat → Int32), (∀ b, b ≠ q + 30 → F b = F0 b) → (∀ a ∈ A, a ∈ tKi t x) → (∀ c ∈ C, c ∈ tKi u y) → A.length = C.length → seg (fun z => F (q + 6) (300 * s + z)) v' A (-1) → seg (fun z => F (q + 6) (300 * s' + z)) v C (-1) → A.length < n → (∀ G, (∀ b, b ≠ q + 30 → G b = F0 b) → R (if a2B (akB kd idn t u) A C = true then 1 else 0) (wI h G)) → w_Md_areLike_118 R n Q (nI s) (nI s') (nI x) (nI y) v v' (wI h F)
  | 0, A, C, v, v', F, f0, hA, hC, hl, sA, sC, hn, kk => by omega
  | n + 1, [], C, v, v', F, f0, hA, hC, hl, sA, sC, hn, kk => ⟨fun _ => kk F f0, fun g => absurd sA g⟩
  | n + 1, a :: A, [], v, v', F, f0, hA, hC, hl, sA, sC, hn, kk => by simp at hl
  | n + 1, a :: A, c :: C, v, v', F, f0, hA, hC, hl, sA, sC, hn, kk => by
    obtain ⟨a1, a2, a3⟩ := md_f M (j := 30) (kd := 16) (n := 300) (f := 40) (by decide)
    obtain ⟨e1, e2⟩ := sA
    obtain ⟨g1, g2⟩ := sC
    subst e1
    subst g1
    have haK := hA a List.mem_cons_self
    have hcK := hC c List.mem_cons_self
    have ha := (fKi_in hw.1 haK).1
    have hc := (fKi_in hu.1 hcK).1
    have ha3 := hw.1.1 a ha
    have hc3 := hu.1.1 c hc
    have hx3 := hw.1.1 x hx
    have hR1 : alR F q t u := by unfold alR; rw [f0 _ (by omega), f0 _ (by omega)]; exact hR0
    have hT1 : alT F q kd idn t u a c := by unfold alT; rw [f0 _ (by omega)]; exact hT0 a haK c hcK
    have ea : a2B (akB kd idn t u) (a :: A) (c :: C) = (akB kd idn t u a c && a2B (akB kd idn t u) A C) := rfl
    refine ⟨fun g => absurd g (nI_ne_m (by omega)), fun _ => ⟨M.1, ?_⟩⟩
    rw [e_Md_isOrdered M hx3, if_pos (by rw [f0 q (by omega)]; exact hk0)]
    refine ⟨fun g => absurd g (by decide), fun _ => ⟨M.1, p_aaM M hw hu hR1 ha hc hT1 ?_⟩⟩
    by_cases g : akB kd idn t u a c = true
    · rw [if_pos g]
      refine ⟨fun g => absurd g (by decide), fun _ => ⟨fun _ => ⟨M.1, q + 30, a3, a1, by rw [wI_L, a2]; exact vp_in_nI hc3 (by decide), fun h7 e7 => ?_⟩, fun g => absurd g (nI_ne_m (by omega))⟩⟩
      rw [nI_clamp (by omega), sI_wI, wI_wI, wI_I] at e7
      subst e7
      rw [e_Md_nextIn M hs' hc3]
      refine ⟨M.1, ?_⟩
      rw [e_Md_nextIn M hs ha3]
      have f6 : tpu F (q + 30) c 1 (q + 6) = F (q + 6) := tpu_fa _ _ _ _ _ (by omega)
      rw [f6]
      refine p_al118O M hs hs' hw hu hx hy hk0 hR0 hT0 n A C _ _ (tpu F (q + 30) c 1) (fun d hd => by rw [tpu_fa _ _ _ _ _ hd]; exact f0 d hd) (fun z hz => hA z (List.mem_cons_of_mem _ hz)) (fun z hz => hC z (List.mem_cons_of_mem _ hz)) (by simpa using hl) (by rw [f6]; exact e2) (by rw [f6]; exact g2) (by simp at hn; omega) (fun G hG => ?_)
      have kv := kk G hG
      rw [ea, g, Bool.true_and] at kv
      exact kv
    · rw [if_neg g]
      have kv := kk F f0
      have gf : akB kd idn t u a c = false := by simpa using g
      rw [ea, gf, Bool.false_and] at kv
      exact ⟨fun _ => ⟨fun g => absurd rfl g, fun _ => kv⟩, fun g => absurd rfl g⟩
end MALIKE
