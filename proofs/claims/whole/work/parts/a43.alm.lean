section ALM
/-! nodes that are alike: who goes with whom, below two of them -/
theorem f_fil (p q : Nat → Bool) : ∀ L : List Nat, (L.filter p).find? q = L.find? (fun a => p a && q a)
  | [] => rfl
  | a :: L => by
    rw [List.filter_cons, List.find?_cons]
    by_cases c : p a = true
    · rw [if_pos c, List.find?_cons, f_fil p q L, c, Bool.true_and]
    · rw [if_neg c, f_fil p q L, Bool.eq_false_iff.mpr c, Bool.false_and]
theorem kpL_len (r : Nat → Nat → Bool) (L : List Nat) : ∀ (K T : List Nat), (kpL r L K T).length ≤ K.length
  | [], T => Nat.le_refl _
  | k :: K, T => by
    show (match L.find? (fun l => !T.contains l && r k l) with
      | some l => (k, l) :: kpL r L K (l :: T)
      | none => kpL r L K T).length ≤ _
    cases L.find? (fun l => !T.contains l && r k l) with
    | none => exact Nat.le_trans (kpL_len r L K T) (Nat.le_succ _)
    | some l => exact Nat.succ_le_succ (kpL_len r L K (l :: T))
theorem kpL_c (r : Nat → Nat → Bool) (L : List Nat) (k : Nat) (K T : List Nat) : kpL r L (k :: K) T = match L.find? (fun l => !T.contains l && r k l) with
    | some l => (k, l) :: kpL r L K (l :: T)
    | none => kpL r L K T := rfl
theorem kpL_ok {r : Nat → Nat → Bool} {L : List Nat} (hn : L.Nodup) : ∀ (K T : List Nat), grd r K (L.filter (fun l => !T.contains l)) = true → K.length = (L.filter (fun l => !T.contains l)).length → (kpL r L K T).map Prod.fst = K ∧ ((kpL r L K T).map Prod.snd).Perm (L.filter (fun l => !T.contains l)) ∧ ∀ q ∈ kpL r L K T, r q.1 q.2 = true
  | [], T, h, e => by
    refine ⟨rfl, ?_, fun q hq => by cases hq⟩
    rw [List.length_eq_zero_iff.mp e.symm]
    exact List.Perm.refl _
  | k :: K, T, h, e => by
    have h' : (match (L.filter (fun l => !T.contains l)).find? (fun b => r k b) with
      | none => false
      | some b => grd r K ((L.filter (fun l => !T.contains l)).erase b)) = true := h
    rw [kpL_c]
    rw [f_fil] at h'
    cases e1 : L.find? (fun l => !T.contains l && r k l) with
    | none =>
      rw [e1] at h'
      exact absurd h' Bool.false_ne_true
    | some l =>
      rw [e1] at h'
      have h2 : grd r K ((L.filter (fun l => !T.contains l)).erase l) = true := h'
      have hl := List.mem_of_find?_eq_some e1
      have hr := List.find?_some e1
      rw [Bool.and_eq_true] at hr
      have hm : l ∈ L.filter (fun l => !T.contains l) := List.mem_filter.mpr ⟨hl, hr.1⟩
      have ee : (L.filter (fun l => !T.contains l)).erase l = L.filter (fun a => !(l :: T).contains a) := by
        rw [List.Nodup.erase_eq_filter (hn.filter _), List.filter_filter]
        refine List.filter_congr (fun a _ => ?_)
        rw [List.contains_cons, Bool.not_or]
        rfl
      have len : K.length = (L.filter (fun a => !(l :: T).contains a)).length := by
        rw [← ee, List.length_erase_of_mem hm, ← e]
        rfl
      rw [ee] at h2
      obtain ⟨i1, i2, i3⟩ := kpL_ok hn K (l :: T) h2 len
      refine ⟨congrArg (k :: ·) i1, ?_, fun q hq => ?_⟩
      · exact (List.Perm.cons l (ee ▸ i2)).trans (List.perm_cons_erase hm).symm
      · rcases List.mem_cons.mp hq with g | g
        · rw [g]; exact hr.2
        · exact i3 q g
theorem kpL_at {r : Nat → Nat → Bool} {L : List Nat} : ∀ (K T : List Nat) (pre : List (Nat × Nat)) (k l : Nat) (post : List (Nat × Nat)), kpL r L K T = pre ++ (k, l) :: post → (kpL r L K T).map Prod.fst = K → L.find? (fun a => !((pre.map Prod.snd).reverse ++ T).contains a && r k a) = some l
  | [], T, pre, k, l, post, h, m => by
    have := congrArg List.length h
    rw [List.length_append] at this
    have e : (kpL r L [] T).length = 0 := rfl
    rw [e, List.length_cons] at this
    omega
  | k0 :: K, T, pre, k, l, post, h, m => by
    rw [kpL_c] at h m
    cases e1 : L.find? (fun a => !T.contains a && r k0 a) with
    | none =>
      rw [e1] at m
      have m' : (kpL r L K T).map Prod.fst = k0 :: K := m
      have := congrArg List.length m'
      rw [List.length_map, List.length_cons] at this
      have := kpL_len r L K T
      omega
    | some l0 =>
      rw [e1] at h m
      have h' : (k0, l0) :: kpL r L K (l0 :: T) = pre ++ (k, l) :: post := h
      have m' : k0 :: (kpL r L K (l0 :: T)).map Prod.fst = k0 :: K := m
      cases pre with
      | nil =>
        have := (List.cons.inj h').1
        rw [← (Prod.mk.inj this).1, ← (Prod.mk.inj this).2]
        exact e1
      | cons q pre =>
        have c := List.cons.inj h'
        have i := kpL_at K (l0 :: T) pre k l post c.2 (List.cons.inj m').2
        rw [← c.1]
        rw [List.map_cons, List.reverse_cons, List.append_assoc]
        exact i
theorem zip_ok {r : Nat → Nat → Prop} : ∀ {A B : List Nat}, all2 r A B → (A.zip B).map Prod.fst = A ∧ (A.zip B).map Prod.snd = B ∧ ∀ q ∈ A.zip B, r q.1 q.2
  | [], [], _ => ⟨rfl, rfl, fun q hq => by cases hq⟩
  | a :: A, b :: B, h => by
    obtain ⟨i1, i2, i3⟩ := zip_ok h.2
    refine ⟨congrArg (a :: ·) i1, congrArg (b :: ·) i2, fun q hq => ?_⟩
    rcases List.mem_cons.mp hq with g | g
    · rw [g]; exact h.1
    · exact i3 q g
  | [], _ :: _, h => h.elim
  | _ :: _, [], h => h.elim
theorem kp_ok {kd idn : Nat → Int32} {t u : mT} (hw : tWF 300 t) (hu : tWF 300 u) {x y : Nat} (hx : tIn t x = true) (h : AK kd idn t u x y) : (kp kd idn t u x y).map Prod.fst = tKi t x ∧ ((kp kd idn t u x y).map Prod.snd).Perm (tKi u y) ∧ ∀ q ∈ kp kd idn t u x y, AK kd idn t u q.1 q.2 := by
  obtain ⟨_, h1, h2⟩ := (AK_iff hw.1 hu.1 (hw.1.1 x hx)).mp h
  unfold kp
  by_cases c : loK kd x = true
  · rw [if_pos c]
    have p := pm_mono (s := fun a b => akB kd idn t u a b = true) (fun a _ b _ q => akB_iff.mpr q) (h1 c)
    have nd := hu.1.2.2.1 y
    have f0 : (tKi u y).filter (fun l => !([] : List Nat).contains l) = tKi u y := List.filter_eq_self.mpr (fun a _ => rfl)
    have g := (grd_iff (r := akB kd idn t u) (fun a a' b b' q1 q2 q3 => akB_iff.mpr (AK_dif (akB_iff.mp q1) (akB_iff.mp q2) (akB_iff.mp q3))) (tKi t x) (tKi u y) nd (pm_len p)).mpr p
    have k := kpL_ok nd (tKi t x) [] (by rw [f0]; exact g) (by rw [f0]; exact pm_len p)
    rw [f0] at k
    exact ⟨k.1, k.2.1, fun q hq => akB_iff.mp (k.2.2 q hq)⟩
  · rw [if_neg c]
    have z := zip_ok (h2 (Bool.eq_false_iff.mpr c))
    refine ⟨z.1, ?_, z.2.2⟩
    rw [z.2.1]
/-! the pairs of two branches that are alike -/
def alH (kd idn : Nat → Int32) (t u : mT) (x0 y0 : Nat) : Prop := (tWF 300 t ∧ tWF 300 u) ∧ tIn t x0 = true ∧ tIn u y0 = true ∧ AK kd idn t u x0 y0
theorem tT_0 {kd idn : Nat → Int32} {t u : mT} {x0 y0 : Nat} : tT kd idn t u x0 y0 x0 y0 := ⟨0, rfl, rfl⟩
theorem tT_s {kd idn : Nat → Int32} {t u : mT} {x0 y0 z w k l : Nat} (h : tT kd idn t u x0 y0 z w) (g : (k, l) ∈ kp kd idn t u z w) : tT kd idn t u x0 y0 k l := by
  obtain ⟨n, h⟩ := h
  exact ⟨n + 1, z, w, h, g⟩
theorem tT_c {kd idn : Nat → Int32} {t u : mT} {x0 y0 k l : Nat} (h : tT kd idn t u x0 y0 k l) : (k = x0 ∧ l = y0) ∨ ∃ z w, tT kd idn t u x0 y0 z w ∧ (k, l) ∈ kp kd idn t u z w := by
  obtain ⟨n, h⟩ := h
  cases n with
  | zero => exact Or.inl h
  | succ n =>
    obtain ⟨z, w, h1, h2⟩ := h
    exact Or.inr ⟨z, w, ⟨n, h1⟩, h2⟩
theorem kp_k {kd idn : Nat → Int32} {t u : mT} (hw : tWF 300 t) (hu : tWF 300 u) {x y k l : Nat} (hx : tIn t x = true) (h : AK kd idn t u x y) (g : (k, l) ∈ kp kd idn t u x y) : k ∈ tKi t x ∧ l ∈ tKi u y ∧ AK kd idn t u k l := by
  obtain ⟨h1, h2, h3⟩ := kp_ok hw hu hx h
  refine ⟨?_, ?_, h3 _ g⟩
  · rw [← h1]; exact List.mem_map.mpr ⟨_, g, rfl⟩
  · exact h2.mem_iff.mp (List.mem_map.mpr ⟨_, g, rfl⟩)
theorem tn_in {kd idn : Nat → Int32} {t u : mT} {x0 y0 : Nat} (H : alH kd idn t u x0 y0) : ∀ (n k l : Nat), tn kd idn t u x0 y0 n k l → k ∈ tPo t x0 ∧ l ∈ tPo u y0 ∧ AK kd idn t u k l ∧ tIn t k = true ∧ tIn u l = true
  | 0, k, l, h => by
    obtain ⟨⟨hw, hu⟩, hx, hy, ha⟩ := H
    rw [h.1, h.2]
    exact ⟨tPo_self hw.1.2.2.2.1 _, tPo_self hu.1.2.2.2.1 _, ha, hx, hy⟩
  | n + 1, k, l, h => by
    obtain ⟨z, w, h1, h2⟩ := h
    obtain ⟨i1, i2, i3, i4, i5⟩ := tn_in H n z w h1
    obtain ⟨⟨hw, hu⟩, hx, hy, ha⟩ := H
    obtain ⟨k1, k2, k3⟩ := kp_k hw hu i4 i3 h2
    exact ⟨tPo_kid hw.1.2.2.2.1 k1 x0 i1, tPo_kid hu.1.2.2.2.1 k2 y0 i2, k3, ((hw.1.2.1 k z).mp k1).1, ((hu.1.2.1 l w).mp k2).1⟩
theorem tT_in {kd idn : Nat → Int32} {t u : mT} {x0 y0 k l : Nat} (H : alH kd idn t u x0 y0) (h : tT kd idn t u x0 y0 k l) : k ∈ tPo t x0 ∧ l ∈ tPo u y0 ∧ AK kd idn t u k l ∧ tIn t k = true ∧ tIn u l = true := by
  obtain ⟨n, h⟩ := h
  exact tn_in H n k l h
theorem no_up {t : mT} (hw : tWF 300 t) {x z : Nat} (hx : tIn t x = true) (hz : z ∈ tPo t x) : x ∉ tKi t z := fun g => by
  have z1 := tPo_in hw.1 hx z hz
  have := ((pE_in hw hx z1).mp hz).1
  have := pl_kid_lt hw g
  omega
theorem tT_k {kd idn : Nat → Int32} {t u : mT} {x0 y0 z w k l : Nat} (H : alH kd idn t u x0 y0) (h : tT kd idn t u x0 y0 z w) (g : (k, l) ∈ kp kd idn t u z w) : k ∈ tKi t z ∧ l ∈ tKi u w := by
  have q := tT_in H h
  have r := kp_k H.1.1 H.1.2 q.2.2.2.1 q.2.2.1 g
  exact ⟨r.1, r.2.1⟩
theorem nd_fst : ∀ {L : List (Nat × Nat)} {k l l' : Nat}, (L.map Prod.fst).Nodup → (k, l) ∈ L → (k, l') ∈ L → l = l'
  | [], k, l, l', h, g, g' => by cases g
  | q :: L, k, l, l', h, g, g' => by
    rw [List.map_cons, List.nodup_cons] at h
    rcases List.mem_cons.mp g with e | e
    · rcases List.mem_cons.mp g' with e' | e'
      · exact (Prod.mk.inj (e.trans e'.symm)).2
      · exact absurd (List.mem_map.mpr ⟨_, e', by rw [← e]⟩) h.1
    · rcases List.mem_cons.mp g' with e' | e'
      · exact absurd (List.mem_map.mpr ⟨_, e, by rw [← e']⟩) h.1
      · exact nd_fst h.2 e e'
theorem nd_snd : ∀ {L : List (Nat × Nat)} {k k' l : Nat}, (L.map Prod.snd).Nodup → (k, l) ∈ L → (k', l) ∈ L → k = k'
  | [], k, k', l, h, g, g' => by cases g
  | q :: L, k, k', l, h, g, g' => by
    rw [List.map_cons, List.nodup_cons] at h
    rcases List.mem_cons.mp g with e | e
    · rcases List.mem_cons.mp g' with e' | e'
      · exact (Prod.mk.inj (e.trans e'.symm)).1
      · exact absurd (List.mem_map.mpr ⟨_, e', by rw [← e]⟩) h.1
    · rcases List.mem_cons.mp g' with e' | e'
      · exact absurd (List.mem_map.mpr ⟨_, e, by rw [← e']⟩) h.1
      · exact nd_snd h.2 e e'
theorem tT_fn {kd idn : Nat → Int32} {t u : mT} {x0 y0 : Nat} (H : alH kd idn t u x0 y0) : ∀ (N k l l' : Nat), pl t k < N → tT kd idn t u x0 y0 k l → tT kd idn t u x0 y0 k l' → l = l'
  | 0, k, l, l', hN, h, h' => by omega
  | N + 1, k, l, l', hN, h, h' => by
    have hw := H.1.1
    have hu := H.1.2
    rcases tT_c h with e | ⟨z, w, h1, h2⟩
    · rcases tT_c h' with e' | ⟨z', w', h1', h2'⟩
      · rw [e.2, e'.2]
      · rw [e.1] at h2'
        exact absurd (tT_k H h1' h2').1 (no_up hw H.2.1 (tT_in H h1').1)
    · have k1 := (tT_k H h1 h2).1
      rcases tT_c h' with e' | ⟨z', w', h1', h2'⟩
      · rw [e'.1] at k1
        exact absurd k1 (no_up hw H.2.1 (tT_in H h1).1)
      · have k1' := (tT_k H h1' h2').1
        have ez : z = z' := tUp_of hw.1 k1 k1'
        subst ez
        have lt := pl_kid_lt hw k1
        have ew : w = w' := tT_fn H N z w w' (by omega) h1 h1'
        subst ew
        have q := tT_in H h1
        have r := kp_ok hw hu q.2.2.2.1 q.2.2.1
        exact nd_fst (by rw [r.1]; exact hw.1.2.2.1 z) h2 h2'
theorem tT_inj {kd idn : Nat → Int32} {t u : mT} {x0 y0 : Nat} (H : alH kd idn t u x0 y0) : ∀ (N k k' l : Nat), pl u l < N → tT kd idn t u x0 y0 k l → tT kd idn t u x0 y0 k' l → k = k'
  | 0, k, k', l, hN, h, h' => by omega
  | N + 1, k, k', l, hN, h, h' => by
    have hw := H.1.1
    have hu := H.1.2
    rcases tT_c h with e | ⟨z, w, h1, h2⟩
    · rcases tT_c h' with e' | ⟨z', w', h1', h2'⟩
      · rw [e.1, e'.1]
      · rw [e.2] at h2'
        exact absurd (tT_k H h1' h2').2 (no_up hu H.2.2.1 (tT_in H h1').2.1)
    · have k1 := (tT_k H h1 h2).2
      rcases tT_c h' with e' | ⟨z', w', h1', h2'⟩
      · rw [e'.2] at k1
        exact absurd k1 (no_up hu H.2.2.1 (tT_in H h1).2.1)
      · have k1' := (tT_k H h1' h2').2
        have ew : w = w' := tUp_of hu.1 k1 k1'
        subst ew
        have lt := pl_kid_lt hu k1
        have ez : z = z' := tT_inj H N z z' w (by omega) h1 h1'
        subst ez
        have q := tT_in H h1
        have r := kp_ok hw hu q.2.2.2.1 q.2.2.1
        exact nd_snd (r.2.1.nodup_iff.mpr (hu.1.2.2.1 w)) h2 h2'
theorem tT_tot {kd idn : Nat → Int32} {t u : mT} {x0 y0 : Nat} (H : alH kd idn t u x0 y0) : ∀ (N k : Nat), pl t k < N → k ∈ tPo t x0 → ∃ l, tT kd idn t u x0 y0 k l
  | 0, k, hN, h => by omega
  | N + 1, k, hN, h => by
    have hw := H.1.1
    have hu := H.1.2
    rcases tPo_up hw.1.2.2.2.1 x0 h with e | ⟨p, h1, h2⟩
    · rw [e]; exact ⟨y0, tT_0⟩
    · have lt := pl_kid_lt hw h1
      obtain ⟨w, hT⟩ := tT_tot H N p (by omega) h2
      have q := tT_in H hT
      have r := kp_ok hw hu q.2.2.2.1 q.2.2.1
      rw [← r.1] at h1
      obtain ⟨⟨k', l⟩, g1, g2⟩ := List.mem_map.mp h1
      have e : k' = k := g2
      rw [e] at g1
      exact ⟨l, tT_s hT g1⟩
theorem tT_sur {kd idn : Nat → Int32} {t u : mT} {x0 y0 : Nat} (H : alH kd idn t u x0 y0) : ∀ (N l : Nat), pl u l < N → l ∈ tPo u y0 → ∃ k, tT kd idn t u x0 y0 k l
  | 0, l, hN, h => by omega
  | N + 1, l, hN, h => by
    have hw := H.1.1
    have hu := H.1.2
    rcases tPo_up hu.1.2.2.2.1 y0 h with e | ⟨p, h1, h2⟩
    · rw [e]; exact ⟨x0, tT_0⟩
    · have lt := pl_kid_lt hu h1
      obtain ⟨z, hT⟩ := tT_sur H N p (by omega) h2
      have q := tT_in H hT
      have r := kp_ok hw hu q.2.2.2.1 q.2.2.1
      have h3 := r.2.1.mem_iff.mpr h1
      obtain ⟨⟨k, l'⟩, g1, g2⟩ := List.mem_map.mp h3
      have e : l' = l := g2
      rw [e] at g1
      exact ⟨k, tT_s hT g1⟩
/-! the matching behind it -/
theorem twB_iff {kd idn : Nat → Int32} {t u : mT} {x0 y0 z w : Nat} : twB kd idn t u x0 y0 z w = true ↔ tT kd idn t u x0 y0 z w := by
  unfold twB
  exact @decide_eq_true_iff _ (Classical.propDecidable _)
theorem brS_T {kd idn : Nat → Int32} {t u : mT} {x0 y0 : Nat} (H : alH kd idn t u x0 y0) {P : mP} {z w : Nat} (h : tT kd idn t u x0 y0 z w) : (brS kd idn t u P x0 y0).1 z = some w ∧ (brS kd idn t u P x0 y0).2 w = some z := by
  obtain ⟨i1, i2, i3, i4, i5⟩ := tT_in H h
  have hw := H.1.1
  have hu := H.1.2
  constructor
  · show (if z ∈ tPo t x0 then (pO u).find? (fun w => twB kd idn t u x0 y0 z w) else P.1 z) = some w
    rw [if_pos i1]
    cases e : (pO u).find? (fun w => twB kd idn t u x0 y0 z w) with
    | none =>
      have := List.find?_eq_none.mp e w ((pO_mem hu).mpr i5)
      exact absurd (twB_iff.mpr h) this
    | some w' => rw [tT_fn H _ z w' w (Nat.lt_succ_self _) (twB_iff.mp (List.find?_some (p := fun w => twB kd idn t u x0 y0 z w) e)) h]
  · show (if w ∈ tPo u y0 then (pO t).find? (fun z => twB kd idn t u x0 y0 z w) else P.2 w) = some z
    rw [if_pos i2]
    cases e : (pO t).find? (fun z => twB kd idn t u x0 y0 z w) with
    | none =>
      have := List.find?_eq_none.mp e z ((pO_mem hw).mpr i4)
      exact absurd (twB_iff.mpr h) this
    | some z' => rw [tT_inj H _ z' z w (Nat.lt_succ_self _) (twB_iff.mp (List.find?_some (p := fun z => twB kd idn t u x0 y0 z w) e)) h]
theorem brS_o1 {kd idn : Nat → Int32} {t u : mT} {x0 y0 : Nat} {P : mP} {z : Nat} (h : z ∉ tPo t x0) : (brS kd idn t u P x0 y0).1 z = P.1 z := if_neg h
theorem brS_o2 {kd idn : Nat → Int32} {t u : mT} {x0 y0 : Nat} {P : mP} {w : Nat} (h : w ∉ tPo u y0) : (brS kd idn t u P x0 y0).2 w = P.2 w := if_neg h
theorem brS_u {kd idn : Nat → Int32} {t u : mT} {x0 y0 : Nat} (H : alH kd idn t u x0 y0) {P Q : mP} (h1 : ∀ z w, tT kd idn t u x0 y0 z w → Q.1 z = some w ∧ Q.2 w = some z) (h2 : ∀ z, z ∉ tPo t x0 → Q.1 z = P.1 z) (h3 : ∀ w, w ∉ tPo u y0 → Q.2 w = P.2 w) : Q = brS kd idn t u P x0 y0 := by
  have e1 : Q.1 = (brS kd idn t u P x0 y0).1 := funext (fun z => by
    by_cases c : z ∈ tPo t x0
    · obtain ⟨w, hT⟩ := tT_tot H _ z (Nat.lt_succ_self _) c
      rw [(h1 z w hT).1, (brS_T H hT).1]
    · rw [h2 z c, brS_o1 c])
  have e2 : Q.2 = (brS kd idn t u P x0 y0).2 := funext (fun w => by
    by_cases c : w ∈ tPo u y0
    · obtain ⟨z, hT⟩ := tT_sur H _ w (Nat.lt_succ_self _) c
      rw [(h1 z w hT).2, (brS_T H hT).2]
    · rw [h3 w c, brS_o2 c])
  exact Prod.ext e1 e2
theorem pnO_iff {t : mT} {P : mP} {x : Nat} : pnO t P x = true ↔ ∀ z ∈ tPo t x, P.1 z = none := by
  unfold pnO
  rw [List.all_eq_true]
  exact ⟨fun h z hz => of_decide_eq_true (h z hz), fun h z hz => decide_eq_true (h z hz)⟩
theorem pnN_iff {u : mT} {P : mP} {y : Nat} : pnN u P y = true ↔ ∀ w ∈ tPo u y, P.2 w = none := by
  unfold pnN
  rw [List.all_eq_true]
  exact ⟨fun h z hz => of_decide_eq_true (h z hz), fun h z hz => decide_eq_true (h z hz)⟩
theorem brS_ok {kd idn : Nat → Int32} {t u : mT} {x0 y0 : Nat} (H : alH kd idn t u x0 y0) {P : mP} (ok : pOK t u P) (h1 : pnO t P x0 = true) (h2 : pnN u P y0 = true) : pOK t u (brS kd idn t u P x0 y0) := by
  rw [pnO_iff] at h1
  rw [pnN_iff] at h2
  have n1 : ∀ a, P.1 a ≠ none → a ∉ tPo t x0 := fun a h g => h (h1 a g)
  have n2 : ∀ b, P.2 b ≠ none → b ∉ tPo u y0 := fun b h g => h (h2 b g)
  have q1 : ∀ a b, (brS kd idn t u P x0 y0).1 a = some b → tT kd idn t u x0 y0 a b ∨ (P.1 a = some b ∧ P.2 b = some a) := fun a b e => by
    by_cases c : a ∈ tPo t x0
    · obtain ⟨w, hT⟩ := tT_tot H _ a (Nat.lt_succ_self _) c
      rw [(brS_T H hT).1] at e
      rw [← Option.some.inj e]
      exact Or.inl hT
    · rw [brS_o1 c] at e
      exact Or.inr ⟨e, (ok.1 a b).mp e⟩
  have q2 : ∀ a b, (brS kd idn t u P x0 y0).2 b = some a → tT kd idn t u x0 y0 a b ∨ (P.1 a = some b ∧ P.2 b = some a) := fun a b e => by
    by_cases c : b ∈ tPo u y0
    · obtain ⟨z, hT⟩ := tT_sur H _ b (Nat.lt_succ_self _) c
      rw [(brS_T H hT).2] at e
      rw [← Option.some.inj e]
      exact Or.inl hT
    · rw [brS_o2 c] at e
      exact Or.inr ⟨(ok.1 a b).mpr e, e⟩
  have back : ∀ a b, (tT kd idn t u x0 y0 a b ∨ (P.1 a = some b ∧ P.2 b = some a)) → (brS kd idn t u P x0 y0).1 a = some b ∧ (brS kd idn t u P x0 y0).2 b = some a := fun a b h => by
    rcases h with h | ⟨e1, e2⟩
    · exact brS_T H h
    · rw [brS_o1 (n1 a (by rw [e1]; exact Option.some_ne_none _)), brS_o2 (n2 b (by rw [e2]; exact Option.some_ne_none _))]
      exact ⟨e1, e2⟩
  refine ⟨fun a b => ⟨fun e => (back a b (q1 a b e)).2, fun e => (back a b (q2 a b e)).1⟩, fun a b e => ?_⟩
  rcases q1 a b e with h | ⟨e1, _⟩
  · exact (tT_in H h).2.2.2
  · exact ok.2 a b e1
/-! on the way: the pairs with D are made -/
def wIv (kd idn : Nat → Int32) (t u : mT) (x0 y0 : Nat) (P : mP) (D : Nat → Prop) (Q : mP) : Prop := (∀ z w, tT kd idn t u x0 y0 z w → D z → Q.1 z = some w ∧ Q.2 w = some z) ∧ (∀ z, ¬ (z ∈ tPo t x0 ∧ D z) → Q.1 z = P.1 z) ∧ ∀ w, (∀ z, tT kd idn t u x0 y0 z w → ¬ D z) → Q.2 w = P.2 w
theorem wIv_p {kd idn : Nat → Int32} {t u : mT} {x0 y0 : Nat} (H : alH kd idn t u x0 y0) {P Q : mP} {D D' : Nat → Prop} {k l : Nat} (h : wIv kd idn t u x0 y0 P D Q) (hT : tT kd idn t u x0 y0 k l) (hD : ∀ z, D' z ↔ D z ∨ z = k) : wIv kd idn t u x0 y0 P D' (pP Q k l) := by
  unfold pP
  refine ⟨fun z w g1 g2 => ?_, fun z g => ?_, fun w g => ?_⟩
  · show (if z = k then some l else Q.1 z) = some w ∧ (if w = l then some k else Q.2 w) = some z
    by_cases c : z = k
    · rw [c] at g1 ⊢
      rw [tT_fn H _ k w l (Nat.lt_succ_self _) g1 hT, if_pos rfl, if_pos rfl]
      exact ⟨rfl, rfl⟩
    · have c2 : w ≠ l := fun e => c (by rw [e] at g1; exact tT_inj H _ z k l (Nat.lt_succ_self _) g1 hT)
      rw [if_neg c, if_neg c2]
      rcases (hD z).mp g2 with d | d
      · exact h.1 z w g1 d
      · exact absurd d c
  · show (if z = k then some l else Q.1 z) = P.1 z
    have c : z ≠ k := fun e => g (by rw [e]; exact ⟨(tT_in H hT).1, (hD k).mpr (Or.inr rfl)⟩)
    rw [if_neg c]
    exact h.2.1 z (fun q => g ⟨q.1, (hD z).mpr (Or.inl q.2)⟩)
  · show (if w = l then some k else Q.2 w) = P.2 w
    have c : w ≠ l := fun e => g k (by rw [e]; exact hT) ((hD k).mpr (Or.inr rfl))
    rw [if_neg c]
    exact h.2.2 w (fun z q d => g z q ((hD z).mpr (Or.inl d)))
theorem wIv_e {kd idn : Nat → Int32} {t u : mT} {x0 y0 : Nat} (H : alH kd idn t u x0 y0) {P Q : mP} {D D' : Nat → Prop} (h : wIv kd idn t u x0 y0 P D Q) (hD : ∀ z, z ∈ tPo t x0 → (D' z ↔ D z)) : wIv kd idn t u x0 y0 P D' Q :=
  ⟨fun z w g1 g2 => h.1 z w g1 ((hD z (tT_in H g1).1).mp g2), fun z g => h.2.1 z (fun q => g ⟨q.1, (hD z q.1).mpr q.2⟩), fun w g => h.2.2 w (fun z q d => g z q ((hD z (tT_in H q).1).mpr d))⟩
theorem wIv_end {kd idn : Nat → Int32} {t u : mT} {x0 y0 : Nat} (H : alH kd idn t u x0 y0) {P Q : mP} {D : Nat → Prop} (h : wIv kd idn t u x0 y0 P D Q) (hD : ∀ z, z ∈ tPo t x0 → D z) : Q = brS kd idn t u P x0 y0 :=
  brS_u H (fun z w g => h.1 z w g (hD z (tT_in H g).1)) (fun z g => h.2.1 z (fun q => g q.1)) (fun w g => h.2.2 w (fun z q _ => g (tT_in H q).2.1))
end ALM
