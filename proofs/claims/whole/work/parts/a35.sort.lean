section SORT
/-- what sorting in writes -/
def liFr (d : Nat) (F G : Nat → Nat → Int32) : Prop := ∀ b j, ¬ ((b = d ∧ (j = 7 ∨ j = 8)) ∨ (d + 2 ≤ b ∧ b ≤ d + 12)) → G b j = F b j
theorem liFr_tr {d : Nat} {F G H : Nat → Nat → Int32} (h1 : liFr d F G) (h2 : liFr d G H) : liFr d F H := fun b j hb => (h2 b j hb).trans (h1 b j hb)
theorem TrP_li {d a mk : Nat} {F G : Nat → Nat → Int32} {t : mT} (hd : a + 19 ≤ d ∨ d + 13 ≤ a) (f : liFr d F G) (H : TrP F a t mk) : TrP G a t mk := by
  obtain ⟨h1, h2, h3⟩ := H
  refine ⟨by rw [f _ _ (by omega)]; exact h1, fun x hx => ?_, fun m hm => by rw [f _ _ (by omega)]; exact h3 m hm⟩
  obtain ⟨q1, q2, q3, q4, q5, q6, q7, q8⟩ := h2 x hx
  refine ⟨?_, ?_, ?_, ?_, ?_, ?_, ?_, fun k hk => ?_⟩
  · rw [f _ _ (by omega)]; exact q1
  · rw [f _ _ (by omega)]; exact q2
  · rw [f _ _ (by omega)]; exact q3
  · rw [f _ _ (by omega)]; exact q4
  · rw [f _ _ (by omega)]; exact q5
  · rw [f _ _ (by omega)]; exact q6
  · rw [f _ _ (by omega)]; exact q7
  · rw [f _ _ (by omega)]; exact q8 k hk
theorem MaP_li {d p mk : Nat} {F G : Nat → Nat → Int32} {kd idn : Nat → Int32} (hd : p + 5 ≤ d ∨ d + 13 ≤ p) (f : liFr d F G) (H : MaP F p mk kd idn) : MaP G p mk kd idn :=
  ⟨by rw [f _ _ (by omega)]; exact H.1, fun m hm => by rw [f _ _ (by omega), f _ _ (by omega)]; exact H.2 m hm⟩
theorem zk_sp {t u : mT} (hw : tWF 300 t) (hu : tWF 300 u) {z c : Nat} (h : c ∈ zK t u z) : (z < 300 ∧ c < 300 ∧ tUp t c = some z) ∨ (300 ≤ z ∧ 300 ≤ c ∧ c < 600 ∧ tUp u (c - 300) = some (z - 300)) := by
  unfold zK at h
  by_cases g : z < 300
  · rw [if_pos g] at h
    have q := (hw.1.2.1 c z).mp h
    exact Or.inl ⟨g, hw.1.1 c q.1, q.2⟩
  · rw [if_neg g] at h
    obtain ⟨y, hy, e⟩ := List.mem_map.mp h
    have q := (hu.1.2.1 y _).mp hy
    have := hu.1.1 y q.1
    subst e
    refine Or.inr ⟨by omega, by omega, by omega, ?_⟩
    rw [Nat.add_sub_cancel_left]
    exact q.2
theorem zK_nd {t u : mT} (hw : tWF 300 t) (hu : tWF 300 u) (z : Nat) : (zK t u z).Nodup := by
  unfold zK
  by_cases g : z < 300
  · rw [if_pos g]; exact hw.1.2.2.1 z
  · rw [if_neg g]
    exact List.Pairwise.map _ (fun a b q e => q (by omega)) (hu.1.2.2.1 (z - 300))
theorem fl_len {t u : mT} (hw : tWF 300 t) (hu : tWF 300 u) {L : List Nat} (hn : L.Nodup) : (L.flatMap (zK t u)).length ≤ 600 := by
  refine nd_lt (fm_nodup hn (fun x _ => zK_nd hw hu x) (fun x _ y _ ne c c1 c2 => ne ?_)) (fun c hc => ?_)
  · rcases zk_sp hw hu c1 with ⟨g1, g2, g3⟩ | ⟨g1, g2, g3, g4⟩ <;> rcases zk_sp hw hu c2 with ⟨k1, k2, k3⟩ | ⟨k1, k2, k3, k4⟩
    · rw [g3] at k3
      exact Option.some.inj k3
    · omega
    · omega
    · rw [g4] at k4
      have := Option.some.inj k4
      omega
  · obtain ⟨x, _, hx⟩ := List.mem_flatMap.mp hc
    rcases zk_sp hw hu hx with ⟨g1, g2, g3⟩ | ⟨g1, g2, g3, g4⟩ <;> omega
theorem zin_lt {t u : mT} (hu : tWF 300 u) {z : Nat} (h : zin t u z) : z < 600 := by
  rcases h with ⟨g, _⟩ | ⟨g, g2⟩
  · omega
  · have := hu.1.1 _ g2
    omega
theorem zi_inj {t u : mT} (hw : tWF 300 t) (hu : tWF 300 u) {y z : Nat} (hy : zin t u y) (hz : zin t u z) (e : zi t u y = zi t u z) : y = z := by
  unfold zi at e
  have b1 := pO_le hw
  rcases hy with ⟨g, gi⟩ | ⟨g, gi⟩ <;> rcases hz with ⟨k, ki⟩ | ⟨k, ki⟩
  · rw [if_pos g, if_pos k] at e
    exact pl_inj hw gi ki e
  · rw [if_pos g, if_neg (by omega)] at e
    have := pl_lt hw gi
    omega
  · rw [if_neg (by omega), if_pos k] at e
    have := pl_lt hw ki
    omega
  · rw [if_neg (by omega), if_neg (by omega)] at e
    have := pl_inj hu gi ki (by omega)
    omega
theorem zi_lt {t u : mT} (hw : tWF 300 t) (hu : tWF 300 u) {y : Nat} (hy : zin t u y) : zi t u y < 600 := by
  have b1 := pO_le hw
  have b2 := pO_le hu
  unfold zi
  rcases hy with ⟨g, gi⟩ | ⟨g, gi⟩
  · rw [if_pos g]; have := pl_lt hw gi; omega
  · rw [if_neg (by omega)]; have := pl_lt hu gi; omega
theorem za {kd idn : Nat → Int32} {t u w : mT} {off m : Nat} (hA : (off = 0 ∧ w = t) ∨ (off = 300 ∧ w = u)) (h3 : m < 300) : zK t u (off + m) = (tKi w m).map (off + ·) ∧ zL kd idn t u (off + m) = (kd m, idn m, tWo w m) ∧ zlo kd (off + m) = loK kd m ∧ zi t u (off + m) = off + pl w m ∧ zm (off + m) = m ∧ (tIn w m = true → zin t u (off + m)) := by
  rcases hA with ⟨rfl, rfl⟩ | ⟨rfl, rfl⟩
  · unfold zK zL zlo zi zm zin
    simp only [Nat.zero_add]
    refine ⟨?_, ?_, ?_, ?_, ?_, fun g => Or.inl ⟨h3, g⟩⟩
    · rw [if_pos h3, List.map_id']
    · rw [if_pos h3]
    · rw [if_pos h3]
    · rw [if_pos h3]
    · rw [if_pos h3]
  · have q : ¬ 300 + m < 300 := by omega
    unfold zK zL zlo zi zm zin
    rw [if_neg q, if_neg q, if_neg q, if_neg q, if_neg q, Nat.add_sub_cancel_left]
    exact ⟨rfl, rfl, rfl, rfl, rfl, fun g => Or.inr ⟨by omega, g⟩⟩
theorem fam_fr {F G : Nat → Nat → Int32} {d : Nat} {kd idn : Nat → Int32} {t u : mT} {SL : List Nat} {nf ru : Nat} {fam rep : Nat → Nat} {RL : Nat → List Nat} {rs : Nat → Nat} (H : FamI F d kd idn t u SL nf ru fam rep RL rs) (hf : ∀ b j, ¬ (b = d + 12 ∧ ru ≤ j) → d ≤ b → b ≤ d + 12 → G b j = F b j) : FamI G d kd idn t u SL nf ru fam rep RL rs := by
  obtain ⟨⟨a1, a2, a3, a4⟩, H2, H3, H4, H5⟩ := H
  refine ⟨⟨by rw [hf _ _ (by omega) (by omega) (by omega)]; exact a1, by rw [hf _ _ (by omega) (by omega) (by omega)]; exact a2, a3, a4⟩, fun y hy => ?_, fun g hg => ?_, H4, H5⟩
  · obtain ⟨b1, b2, b3, b4, b5⟩ := H2 y hy
    exact ⟨b1, b2, b3, by rw [hf _ _ (by omega) (by omega) (by omega)]; exact b4, b5⟩
  · obtain ⟨r0, ⟨v1, v2, v3, v4⟩, v5, v6, q⟩ := H3 g hg
    refine ⟨r0, ⟨?_, ?_, ?_, ?_⟩, v5, rnP_fr v6 (fun j j1 j2 => hf _ _ (by omega) (by omega) (by omega)), q⟩
    · rw [hf _ _ (by omega) (by omega) (by omega)]; exact v1
    · rw [hf _ _ (by omega) (by omega) (by omega)]; exact v2
    · rw [hf _ _ (by omega) (by omega) (by omega)]; exact v3
    · rw [hf _ _ (by omega) (by omega) (by omega)]; exact v4
/-- one more node, of a known family -/
theorem fam_old {F G : Nat → Nat → Int32} {d : Nat} {kd idn : Nat → Int32} {t u : mT} {SL : List Nat} {nf ru : Nat} {fam rep : Nat → Nat} {RL : Nat → List Nat} {rs : Nat → Nat} (H : FamI F d kd idn t u SL nf ru fam rep RL rs) (hw : tWF 300 t) (hu : tWF 300 u) {z f : Nat} (hz : zin t u z) (hn : z ∉ SL) (hk : ∀ c ∈ zK t u z, c ∈ SL) (hf : f < nf) (ha : akN kd idn t u z (rep f)) (gz : G (d + 2) (zi t u z) = nI f) (g : ∀ b j, ¬ (b = d + 2 ∧ j = zi t u z) → d ≤ b → b ≤ d + 12 → G b j = F b j) : FamI G d kd idn t u (z :: SL) nf ru (fun y => if y = z then f else fam y) rep RL rs := by
  obtain ⟨⟨a1, a2, a3, a4⟩, H2, H3, H4, H5⟩ := H
  refine ⟨⟨by rw [g _ _ (by omega) (by omega) (by omega)]; exact a1, by rw [g _ _ (by omega) (by omega) (by omega)]; exact a2, by rw [List.length_cons]; omega, by rw [List.flatMap_cons, List.length_append]; omega⟩, fun y hy => ?_, fun f' hf' => ?_, H4, List.nodup_cons.mpr ⟨hn, H5⟩⟩
  · by_cases c : y = z
    · subst c
      simp only [if_true]
      exact ⟨hz, fun c hc => List.mem_cons_of_mem _ (hk c hc), hf, gz, ha⟩
    · obtain ⟨b1, b2, b3, b4, b5⟩ := H2 y ((List.mem_cons.mp hy).resolve_left c)
      simp only [if_neg c]
      refine ⟨b1, fun x hx => List.mem_cons_of_mem _ (b2 x hx), b3, ?_, b5⟩
      rw [g _ _ (fun e => c (zi_inj hw hu b1 hz e.2)) (by omega) (by omega)]
      exact b4
  · obtain ⟨⟨r1, r2⟩, ⟨v1, v2, v3, v4⟩, v5, v6, q1, q2, q3⟩ := H3 f' hf'
    have er : rep f' ≠ z := fun e => hn (e ▸ r1)
    have em : (zK t u (rep f')).map (fun y => if y = z then f else fam y) = (zK t u (rep f')).map fam := List.map_congr_left (fun y hy => by
        have q : y ≠ z := fun e => hn (e ▸ (H2 _ r1).2.1 y hy)
        simp only [if_neg q])
    rw [em]
    refine ⟨⟨List.mem_cons_of_mem _ r1, by simp only [if_neg er]; exact r2⟩, ⟨?_, ?_, ?_, ?_⟩, v5, rnP_fr v6 (fun j j1 j2 => g _ _ (by omega) (by omega) (by omega)), q1, q2, q3⟩
    · rw [g _ _ (by omega) (by omega) (by omega)]; exact v1
    · rw [g _ _ (by omega) (by omega) (by omega)]; exact v2
    · rw [g _ _ (by omega) (by omega) (by omega)]; exact v3
    · rw [g _ _ (by omega) (by omega) (by omega)]; exact v4
/-- one more node, of a new family -/
theorem fam_new {F G : Nat → Nat → Int32} {d : Nat} {kd idn : Nat → Int32} {t u : mT} {SL : List Nat} {nf ru : Nat} {fam rep : Nat → Nat} {RL : Nat → List Nat} {rs : Nat → Nat} (H : FamI F d kd idn t u SL nf ru fam rep RL rs) (hw : tWF 300 t) (hu : tWF 300 u) {z : Nat} (hz : zin t u z) (hn : z ∉ SL) (hk : ∀ c ∈ zK t u z, c ∈ SL) (ha : ∀ f, f < nf → ¬ akN kd idn t u z (rep f)) {RC : List Nat} (hRC : rnP F (d + 12) ru RC)
    (p1 : RC.Perm ((zK t u z).map fam)) (p2 : zlo kd z = true → RC.Pairwise (· ≤ ·)) (p3 : zlo kd z = false → RC = (zK t u z).map fam)
    (g7 : G d 7 = nI (nf + 1)) (g8 : G d 8 = nI (ru + RC.length)) (gz : G (d + 2) (zi t u z) = nI nf) (g4 : G (d + 4) nf = nI (zm z)) (g6 : G (d + 6) nf = (zL kd idn t u z).2.2) (gf : G (d + 8) nf = nI ru) (gc : G (d + 10) nf = nI RC.length)
    (g : ∀ b j, ¬ ((b = d + 2 ∧ j = zi t u z) ∨ (b = d ∧ (j = 7 ∨ j = 8)) ∨ ((b = d + 4 ∨ b = d + 6 ∨ b = d + 8 ∨ b = d + 10) ∧ j = nf)) → d ≤ b → b ≤ d + 12 → G b j = F b j) : FamI G d kd idn t u (z :: SL) (nf + 1) (ru + RC.length) (fun y => if y = z then nf else fam y) (fun f => if f = nf then z else rep f) (fun f => if f = nf then RC else RL f) (fun f => if f = nf then ru else rs f) := by
  obtain ⟨⟨a1, a2, a3, a4⟩, H2, H3, H4, H5⟩ := H
  have hl : RC.length = (zK t u z).length := by rw [p1.length_eq, List.length_map]
  have hzz : z ∉ zK t u z := fun e => hn (hk z e)
  refine ⟨⟨g7, g8, by rw [List.length_cons]; omega, by rw [List.flatMap_cons, List.length_append]; omega⟩, fun y hy => ?_, fun f' hf' => ?_, fun f f' h1 h2 h3 => ?_, List.nodup_cons.mpr ⟨hn, H5⟩⟩
  · by_cases c : y = z
    · subst c
      simp only [if_true]
      exact ⟨hz, fun c hc => List.mem_cons_of_mem _ (hk c hc), by omega, gz, akN_refl hw.1 hu.1 _⟩
    · obtain ⟨b1, b2, b3, b4, b5⟩ := H2 y ((List.mem_cons.mp hy).resolve_left c)
      have ne : fam y ≠ nf := by omega
      simp only [if_neg c, if_neg ne]
      refine ⟨b1, fun x hx => List.mem_cons_of_mem _ (b2 x hx), by omega, ?_, b5⟩
      rw [g _ _ (fun e => by
        rcases e with e | e | e
        · exact c (zi_inj hw hu b1 hz e.2)
        · omega
        · omega) (by omega) (by omega)]
      exact b4
  · by_cases c : f' = nf
    · subst c
      simp only [if_true]
      have em : (zK t u z).map (fun y => if y = z then f' else fam y) = (zK t u z).map fam := List.map_congr_left (fun y hy => by
        have q : y ≠ z := fun e => hzz (e ▸ hy)
        simp only [if_neg q])
      rw [em]
      exact ⟨⟨List.mem_cons_self, trivial⟩, ⟨g4, g6, gf, gc⟩, Nat.le_refl _, rnP_fr hRC (fun j j1 j2 => g _ _ (by omega) (by omega) (by omega)), p1, p2, p3⟩
    · have hf'' : f' < nf := by omega
      obtain ⟨⟨r1, r2⟩, ⟨v1, v2, v3, v4⟩, v5, v6, q1, q2, q3⟩ := H3 f' hf''
      simp only [if_neg c]
      have er : rep f' ≠ z := fun e => hn (e ▸ r1)
      have em : (zK t u (rep f')).map (fun y => if y = z then nf else fam y) = (zK t u (rep f')).map fam := List.map_congr_left (fun y hy => by
        have q : y ≠ z := fun e => hn (e ▸ (H2 _ r1).2.1 y hy)
        simp only [if_neg q])
      rw [em]
      refine ⟨⟨List.mem_cons_of_mem _ r1, by rw [if_neg er]; exact r2⟩, ⟨?_, ?_, ?_, ?_⟩, by omega, rnP_fr v6 (fun j j1 j2 => g _ _ (by omega) (by omega) (by omega)), q1, q2, q3⟩
      · rw [g _ _ (by omega) (by omega) (by omega)]; exact v1
      · rw [g _ _ (by omega) (by omega) (by omega)]; exact v2
      · rw [g _ _ (by omega) (by omega) (by omega)]; exact v3
      · rw [g _ _ (by omega) (by omega) (by omega)]; exact v4
  · by_cases c : f = nf <;> by_cases c' : f' = nf
    · omega
    · simp only [if_pos c, if_neg c'] at h3
      exact absurd h3 (ha f' (by omega))
    · simp only [if_neg c, if_pos c'] at h3
      exact absurd (akN_symm h3) (ha f (by omega))
    · simp only [if_neg c, if_neg c'] at h3
      exact H4 f f' (by omega) (by omega) h3
def FamE (F : Nat → Nat → Int32) (d : Nat) (kd idn : Nat → Int32) (t u : mT) (SL : List Nat) : Prop := ∃ nf ru fam rep RL rs, FamI F d kd idn t u SL nf ru fam rep RL rs
theorem p_Li_found {h : tpH} {d a mk' : Nat} {x : Option Nat} (l : lLi h d x) {w : mT} (la : lTr h a (pO w).length mk') (hk' : mk' ≤ 300) (hw : tWF 300 w) {m : Nat} (hm : tIn w m = true) {F : Nat → Nat → Int32} (H : TrP F a w mk') (hd : a + 19 ≤ d ∨ d + 13 ≤ a) {nf ru c : Nat} (h7 : F d 7 = nI nf) (h8 : F d 8 = nI ru) (hnf : nf < 600) {R : Int32 → tpH → Prop}
    (kk : ∀ G, G d 7 = nI (nf + 1) → G d 8 = nI (ru + c) → G (d + 4) nf = nI m → G (d + 6) nf = tWo w m → G (d + 8) nf = nI ru → G (d + 10) nf = nI c → (∀ b j, ¬ ((b = d ∧ (j = 7 ∨ j = 8)) ∨ ((b = d + 4 ∨ b = d + 6 ∨ b = d + 8 ∨ b = d + 10) ∧ j = nf)) → G b j = F b j) → R (nI nf) (wI h G)) : w_Li_found d (some a) (nI (pl w m)) (nI c) (wI h F) R := by
  obtain ⟨t0, _, _, ⟨m1, m2⟩, ⟨w1, w2⟩, ⟨f1, f2⟩, ⟨c1, c2⟩, _⟩ := id l
  have hpl := pl_lt hw hm
  have ple := pO_le hw
  obtain ⟨q1, q2, _⟩ := H.2.1 m hm
  have h7' : hI (wI h F) d 7 = nI nf := h7
  unfold w_Li_found
  rw [h7']
  refine ⟨t0, fun h2 e => ?_⟩
  have e2 : h2 = wI h (tpu F d 7 (nI nf + 1)) := e
  subst e2
  refine ⟨a, rfl, la.1, ?_⟩
  rw [e_Tr_markOf la ple hk', rAt_n hpl (by omega), tpu_o (by omega), q1]
  refine ⟨d + 3, m1, m2.1, p_put (rwL_w m2) (by decide) ?_⟩
  rw [wI_I, rPut_n hnf (by decide), wI_wI]
  refine ⟨t0, la.1, ?_⟩
  rw [e_Tr_worthOf la ple hk', rAt_n hpl (by omega), tpu_o (by omega), tpu_o (by omega), q2]
  refine ⟨d + 5, w1, w2.1, p_put (rwL_w w2) (by decide) ?_⟩
  rw [wI_I, rPut_n hnf (by decide), wI_wI]
  refine ⟨t0, d + 7, f1, f2.1, p_put (rwL_w f2) (by decide) ?_⟩
  rw [wI_I, rPut_n hnf (by decide), wI_wI, tpu_o (by omega), tpu_o (by omega), tpu_o (by omega), h8]
  refine ⟨t0, d + 9, c1, c2.1, p_put (rwL_w c2) (by decide) ?_⟩
  rw [wI_I, rPut_n hnf (by decide), wI_wI]
  refine ⟨t0, fun h3 e => ?_⟩
  rw [wI_I, tpu_o (by omega), tpu_o (by omega), tpu_o (by omega), tpu_o (by omega), tpu_o (by omega), h8, nI_add] at e
  rw [e]
  refine kk (tpu (tpu (tpu (tpu (tpu (tpu F d 7 (nI nf + 1)) (d + 4) nf (nI m)) (d + 6) nf (tWo w m)) (d + 8) nf (nI ru)) (d + 10) nf (nI c)) d 8 (nI (ru + c))) ?_ ?_ ?_ ?_ ?_ ?_ (fun b j hb => ?_)
  · rw [tpu_o (by omega), tpu_o (by omega), tpu_o (by omega), tpu_o (by omega), tpu_o (by omega), tpu_s, nI_1]
  · rw [tpu_s]
  · rw [tpu_o (by omega), tpu_o (by omega), tpu_o (by omega), tpu_o (by omega), tpu_s]
  · rw [tpu_o (by omega), tpu_o (by omega), tpu_o (by omega), tpu_s]
  · rw [tpu_o (by omega), tpu_o (by omega), tpu_s]
  · rw [tpu_o (by omega), tpu_s]
  · rw [tpu_o (by omega), tpu_o (by omega), tpu_o (by omega), tpu_o (by omega), tpu_o (by omega), tpu_o (by omega)]
end SORT
