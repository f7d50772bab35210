section MT4
theorem f_cg {p q : Nat → Bool} : ∀ {L : List Nat}, (∀ a ∈ L, p a = q a) → L.find? p = L.find? q
  | [], h => rfl
  | a :: L, h => by
    rw [List.find?_cons, List.find?_cons, h a List.mem_cons_self, f_cg (fun b hb => h b (List.mem_cons_of_mem _ hb))]
/-! one family -/
theorem fam_le {F : Nat → Nat → Int32} {d : Nat} {kd idn : Nat → Int32} {t u : mT} (hu : tWF 300 u) {SL : List Nat} {nf ru : Nat} {fam rep : Nat → Nat} {RL : Nat → List Nat} {rs : Nat → Nat} (H : FamI F d kd idn t u SL nf ru fam rep RL rs) : nf ≤ 600 := Nat.le_trans H.1.2.2.1 (nd_lt H.2.2.2.2 (fun y hy => zin_lt hu (H.2.1 y hy).1))
theorem p_oneF {h : tpH} {d : Nat} {x : Option Nat} (l : lLi h d x) {F : Nat → Nat → Int32} {kd idn : Nat → Int32} {t u : mT} (hw : tWF 300 t) (hu : tWF 300 u) {SL : List Nat} (E : FamE F d kd idn t u SL) {a b : Nat} (ha : tIn t a = true) (hb : tIn u b = true) (ia : a ∈ SL) (ib : 300 + b ∈ SL) {R : Int32 → tpH → Prop} (k1 : akB kd idn t u a b = true → R 1 (wI h F)) (k0 : akB kd idn t u a b = false → R 0 (wI h F)) : w_Li_areOneFamily d (nI (pl t a)) (nI (pl u b)) (wI h F) R := by
  obtain ⟨t0, x0, ⟨r1, r2⟩, _⟩ := id l
  obtain ⟨nf, ru, fam, rep, RL, rs, H⟩ := E
  have l3 := pl_lt hw ha
  have l4 := pl_lt hu hb
  have l5 := pO_le hw
  have l6 := pO_le hu
  have e3 : (300 : Int32) = nI 300 := rfl
  refine ⟨t0, d + 1, r1, r2.1, p_at (rwL_w r2) (by decide) ⟨t0, d + 1, r1, r2.1, p_at (rwL_w r2) (by decide) ?_⟩⟩
  rw [e3, nI_add, rAt_n (by omega) (by decide), rAt_n (by omega) (by decide), wI_I]
  obtain ⟨a1, a2, a3, a4, a5⟩ := H.2.1 _ ia
  obtain ⟨b1, b2, b3, b4, b5⟩ := H.2.1 _ ib
  have e1 : zi t u a = pl t a := by unfold zi; rw [if_pos (hw.1.1 _ ha)]
  have e2 : zi t u (300 + b) = 300 + pl u b := by unfold zi; rw [if_neg (by omega), Nat.add_sub_cancel_left]
  rw [e1] at a4
  rw [e2] at b4
  have nf6 := fam_le hu H
  rw [a4, b4]
  have fi := fam_iff H ia ib
  refine ⟨fun g => k0 ?_, fun g => k1 (akB_iff.mpr (fi.mp (nI_inj (by omega) (by omega) g)))⟩
  exact Bool.eq_false_iff.mpr (fun q => g (by rw [fi.mpr (akB_iff.mp q)]))
theorem FamE_fr {p : Nat} {F G : Nat → Nat → Int32} {kd idn : Nat → Int32} {t u : mT} {SL : List Nat} (f : ∀ b j, p + 37 ≤ b → b ≤ p + 49 → G b j = F b j) (E : FamE F (p + 37) kd idn t u SL) : FamE G (p + 37) kd idn t u SL := by
  obtain ⟨nf, ru, fam, rep, RL, rs, H⟩ := E
  exact ⟨nf, ru, fam, rep, RL, rs, fam_fr H (fun b j _ h1 h2 => f b j (by omega) (by omega))⟩
theorem p_fk3 {h : tpH} {p mk a mk1 b mk2 : Nat} {t u : mT} {kd idn : Nat → Int32} (X : MX h p mk a mk1 b mk2 t u) {F : Nat → Nat → Int32} (C : MXF F p mk a mk1 b mk2 t u kd idn) {Q : mP} (M : McP F p t u Q) {SL : List Nat} (E : FamE F (p + 37) kd idn t u SL) {k w : Nat} (hk : tIn t k = true) (hy : tIn u w = true) (ik : k ∈ SL) (il : ∀ l ∈ tKi u w, 300 + l ∈ SL) {R : Int32 → tpH → Prop} :
    ∀ (n i : Nat), i ≤ (tKi u w).length → (tKi u w).length < n + i → R (nO ((((tKi u w).drop i).find? (fun l => decide (Q.2 l = none) && akB kd idn t u k l)).map (pl u))) (wI h F) → w_Mt_firstAlikeKid_3 R n (p + 50) (some b) (nI (pl u w)) (nI (pl t k)) (nI i) (wI h F)
  | 0, i, h1, h2, kk => by omega
  | n + 1, i, h1, h2, kk => by
    obtain ⟨⟨lm, ll, lt⟩, ⟨la, la2, la3⟩, ⟨lb, lb2, lb3⟩, ⟨hw, hu⟩, hkm, ht, hum⟩ := id X
    obtain ⟨t0, x0, x1, ⟨r1, r2⟩, ⟨s1, s2⟩, _⟩ := id lt
    have l4 := pO_le hu
    have l5 := kid_le hu hy
    refine ⟨b, rfl, lb.1, ?_⟩
    rw [e_kids lb lb2 hu C.2.2 hy]
    by_cases hi : i < (tKi u w).length
    · obtain ⟨l, el, e1, hlm⟩ := l_dr hi
      have hlu := ((hu.1.2.1 l w).mp hlm).1
      have pq := pl_lt hu hlu
      rw [el, List.find?_cons] at kk
      have no : (decide (Q.2 l = none) && akB kd idn t u k l) = false → w_Mt_firstAlikeKid_3 R n (p + 50) (some b) (nI (pl u w)) (nI (pl t k)) (nI i + 1) (wI h F) := fun e => by
        rw [e] at kk
        rw [nI_1]
        exact p_fk3 X C M E hk hy ik il n (i + 1) (by omega) (by omega) kk
      refine ⟨fun g => absurd ((nI_le_iff (by omega) (by omega)).mp g) (by omega), fun _ => ⟨lb.1, ?_⟩⟩
      rw [e_kid lb lb2 hu C.2.2 hy e1]
      refine ⟨t0, p + 50 + 3, s1, s2.1, p_at (rwL_w s2) (by decide) ?_⟩
      have e2 : rAt (hI (wI h F) (p + 50 + 4)) 300 (nI (pl u l)) = nO ((Q.2 l).map (pl t)) := by
        rw [rAt_n (by omega) (by decide)]; exact M.2 l hlu
      rw [e2]
      refine ⟨fun g => no (by rw [decide_eq_false (fun q => g ((nO_pl hw).mpr q))]; rfl), fun g => ⟨t0, p + 37, x1, ll.1, p_oneF ll hw hu E hk hlu ik (il l hlm) (fun q => ⟨fun c => absurd c (by decide), fun _ => ?_⟩) (fun q => ⟨fun _ => no (by rw [q, Bool.and_false]), fun c => absurd rfl c⟩)⟩⟩
      have e3 : (decide (Q.2 l = none) && akB kd idn t u k l) = true := by rw [q, decide_eq_true ((nO_pl hw).mp g)]; rfl
      rw [e3] at kk
      exact kk
    · refine ⟨fun _ => ?_, fun g => absurd ((nI_le_iff (by omega) (by omega)).mpr (by omega)) g⟩
      rw [List.drop_eq_nil_of_le (by omega)] at kk
      exact kk
/-! pairing within: the kids of one node -/
theorem kp_ord {kd idn : Nat → Int32} {t u : mT} (hw : tWF 300 t) (hu : tWF 300 u) {x y : Nat} (hx : tIn t x = true) (h : AK kd idn t u x y) (c : loK kd x = false) : (kp kd idn t u x y).map Prod.snd = tKi u y := by
  obtain ⟨_, h1, h2⟩ := (AK_iff hw.1 hu.1 (hw.1.1 x hx)).mp h
  unfold kp
  rw [if_neg (by rw [c]; exact Bool.false_ne_true)]
  exact (zip_ok (h2 c)).2.1
def wD (t : mT) (x0 z : Nat) (L : List Nat) (c : Nat) : Prop := c = x0 ∨ (∃ q, tUp t c = some q ∧ pl t q < pl t z) ∨ c ∈ L
theorem at_map {f : Nat × Nat → Nat} {pre post : List (Nat × Nat)} {q : Nat × Nat} : ((pre ++ q :: post).map f)[pre.length]? = some (f q) := by
  rw [List.map_append, List.map_cons, List.getElem?_append_right (by rw [List.length_map]; exact Nat.le_refl _), List.length_map, Nat.sub_self]
  rfl
theorem p_w49 {h : tpH} {p mk a mk1 b mk2 : Nat} {t u : mT} {kd idn : Nat → Int32} (X : MX h p mk a mk1 b mk2 t u) {F0 : Nat → Nat → Int32} (C0 : MXF F0 p mk a mk1 b mk2 t u kd idn) {P : mP} {SL : List Nat} (E0 : FamE F0 (p + 37) kd idn t u SL) {x0 y0 : Nat} (H : alH kd idn t u x0 y0) (hN : pnN u P y0 = true) (iS : ∀ z ∈ tPo t x0, z ∈ SL) (iN : ∀ w ∈ tPo u y0, 300 + w ∈ SL) {z w : Nat} (hT : tT kd idn t u x0 y0 z w) {R : tpH → Prop} {x2 : Int32} {K : Nat → Option Nat → Int32 → Option Nat → Int32 → tpH → Prop} (kk : ∀ G Q, prFr p F0 G → McP G p t u Q → wIv kd idn t u x0 y0 P (wD t x0 z (tKi t z)) Q → K (p + 50) (some a) x2 (some b) (nI (pl t z) + 1) (wI h G)) :
    ∀ (n : Nat) (post pre : List (Nat × Nat)) (F : Nat → Nat → Int32) (Q : mP), kp kd idn t u z w = pre ++ post → post.length < n → prFr p F0 F → McP F p t u Q → wIv kd idn t u x0 y0 P (wD t x0 z (pre.map Prod.fst)) Q → w_Mt_pairWithin_49 R K n (p + 50) (some a) x2 (some b) (nI (pl t z)) (if kd z < 4 then 0 else 1) (nI (pl u w)) (nI pre.length) (wI h F)
  | 0, post, pre, F, Q, e, hn, f, M, I => by omega
  | n + 1, post, pre, F, Q, e, hn, f, M, I => by
    have C := MXF_fr X C0 (prFr_s f)
    have E := FamE_fr (fun c j h1 h2 => f c j (by omega)) E0
    obtain ⟨⟨lm, ll, lt⟩, ⟨la, la2, la3⟩, ⟨lb, lb2, lb3⟩, ⟨hw, hu⟩, hkm, ht, hum⟩ := id X
    obtain ⟨i1, i2, i3, hz, hwu⟩ := tT_in H hT
    obtain ⟨k1, k2, k3⟩ := kp_ok hw hu hz i3
    have l5 := kid_le hw hz
    have lk : (kp kd idn t u z w).length = (tKi t z).length := by rw [← k1, List.length_map]
    refine ⟨a, rfl, la.1, ?_⟩
    rw [e_kids la la2 hw C.2.1 hz]
    cases post with
    | nil =>
      rw [List.append_nil] at e
      refine ⟨fun _ => kk F Q f M ?_, fun g => absurd ((nI_le_iff (by omega) (by rw [← e]; omega)).mpr (by rw [← e]; omega)) g⟩
      rw [← k1, e]
      exact I
    | cons q post =>
      obtain ⟨k, l⟩ := q
      have lp : pre.length < (tKi t z).length := by
        rw [← lk, e, List.length_append, List.length_cons]
        omega
      have ek : (tKi t z)[pre.length]? = some k := by rw [← k1, e]; exact at_map
      have kl : (k, l) ∈ kp kd idn t u z w := by rw [e]; exact List.mem_append_right _ List.mem_cons_self
      obtain ⟨mk1', mk2', mk3'⟩ := kp_k hw hu hz i3 kl
      have hkt := ((hw.1.2.1 k z).mp mk1').1
      have hlu := ((hu.1.2.1 l w).mp mk2').1
      have hTk := tT_s hT kl
      have fin : w_Mt_pairWithin_98 R (w_Mt_pairWithin_49 R K n) (p + 50) (some a) x2 (some b) (nI (pl t z)) (if kd z < 4 then 0 else 1) (nI (pl u w)) (nI pre.length) (nI (pl u l)) (nI (pl t k)) (some (p + 50)) (wI h F) := by
        refine ⟨p + 50, rfl, lt.1, p_pair X M hkt hlu (fun G g1 g2 => ?_)⟩
        have r := p_w49 (R := R) X C0 E0 H hN iS iN hT kk n post (pre ++ [(k, l)]) G (pP Q k l) (by rw [e, List.append_assoc]; rfl) (by rw [List.length_cons] at hn; omega) (prFr_tr f g1) g2 (wIv_p H I hTk (fun c => ?_))
        · rw [List.length_append, List.length_cons, List.length_nil, Nat.zero_add] at r
          rw [nI_1]
          exact r
        · unfold wD
          rw [List.map_append, List.mem_append, List.map_cons, List.map_nil, List.mem_singleton]
          constructor
          · rintro (g | g | g | g)
            · exact Or.inl (Or.inl g)
            · exact Or.inl (Or.inr (Or.inl g))
            · exact Or.inl (Or.inr (Or.inr g))
            · exact Or.inr g
          · rintro ((g | g | g) | g)
            · exact Or.inl g
            · exact Or.inr (Or.inl g)
            · exact Or.inr (Or.inr (Or.inl g))
            · exact Or.inr (Or.inr (Or.inr g))
      refine ⟨fun g => absurd ((nI_le_iff (by omega) (by omega)).mp g) (by omega), fun _ => ⟨la.1, ?_⟩⟩
      rw [e_kid la la2 hw C.2.1 hz ek]
      have lo : loK kd z = !decide (kd z < 4) := rfl
      by_cases c4 : kd z < 4
      · rw [if_pos c4] at fin ⊢
        refine ⟨fun _ => ⟨b, rfl, lb.1, ?_⟩, fun g => absurd rfl g⟩
        have el : (tKi u w)[pre.length]? = some l := by rw [← kp_ord hw hu hz i3 (by rw [lo, decide_eq_true c4]; rfl), e]; exact at_map
        rw [e_kid lb lb2 hu C.2.2 hwu el]
        exact fin
      · rw [if_neg c4] at fin ⊢
        refine ⟨fun g => absurd g (by decide), fun _ => ⟨lt.1, (tKi u w).length + 1, p_fk3 X C M E hkt hwu (iS k (tPo_kid hw.1.2.2.2.1 mk1' x0 i1)) (fun c hc => iN c (tPo_kid hu.1.2.2.2.1 hc y0 i2)) _ 0 (Nat.zero_le _) (by omega) ?_⟩⟩
        have ekp : kp kd idn t u z w = kpL (akB kd idn t u) (tKi u w) (tKi t z) [] := by unfold kp; rw [if_pos (by rw [lo, decide_eq_false c4]; rfl)]
        have fa := kpL_at (tKi t z) [] pre k l post (ekp ▸ e) (ekp ▸ k1)
        have cg : (tKi u w).find? (fun c => decide (Q.2 c = none) && akB kd idn t u k c) = some l := by
          rw [← fa]
          refine f_cg (fun c hc => ?_)
          congr 1
          rw [List.append_nil, List.contains_reverse]
          by_cases m : c ∈ pre.map Prod.snd
          · obtain ⟨⟨d, c'⟩, m1, m2⟩ := List.mem_map.mp m
            have ec : c' = c := m2
            rw [ec] at m1
            have md : (d, c) ∈ kp kd idn t u z w := by rw [e]; exact List.mem_append_left _ m1
            have q := (I.1 d c (tT_s hT md) (Or.inr (Or.inr (List.mem_map.mpr ⟨_, m1, rfl⟩)))).2
            rw [q, decide_eq_false (by intro g; cases g), List.contains_iff_mem.mpr m]
            rfl
          · have n1 : (pre.map Prod.snd).contains c = false := Bool.eq_false_iff.mpr (fun g => m (List.contains_iff_mem.mp g))
            rw [n1]
            refine decide_eq_true ?_
            rw [I.2.2 c (fun d hd g => ?_)]
            · exact pnN_iff.mp hN c (tPo_kid hu.1.2.2.2.1 hc y0 i2)
            · rcases tT_c hd with g1 | ⟨z', w', h1, h2⟩
              · rw [g1.2] at hc
                exact no_up hu H.2.2.1 i2 hc
              · have kk2 := tT_k H h1 h2
                have ew : w' = w := tUp_of hu.1 kk2.2 hc
                subst ew
                have ez : z' = z := tT_inj H _ z' z w' (Nat.lt_succ_self _) h1 hT
                subst ez
                have up := ((hw.1.2.1 d z').mp kk2.1).2
                rcases g with g | ⟨q, q1, q2⟩ | g
                · rw [g] at kk2
                  exact no_up hw H.2.1 i1 kk2.1
                · rw [up] at q1
                  rw [Option.some.inj q1] at q2
                  omega
                · obtain ⟨⟨d', c'⟩, m1, m2⟩ := List.mem_map.mp g
                  have ed : d' = d := m2
                  rw [ed] at m1
                  have : c' = c := nd_fst (by rw [k1]; exact hw.1.2.2.1 z') (by rw [e]; exact List.mem_append_left _ m1) h2
                  exact m (List.mem_map.mpr ⟨_, m1, this⟩)
        rw [List.drop_zero, cg]
        exact fin
end MT4
