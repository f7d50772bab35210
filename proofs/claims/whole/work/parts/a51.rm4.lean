section RM4
/-! the reference: two branches that are alike -/
def stk (F : Nat → Nat → Int32) (q : Nat) (S : List (Nat × Nat)) : Prop := ∀ (j : Nat) (e : Nat × Nat), S[j]? = some e → F (q + 35) j = nI e.1 ∧ F (q + 36) j = nI e.2
theorem snoc {α : Type} : ∀ S : List α, S = [] ∨ ∃ S0 e, S = S0 ++ [e]
  | [] => Or.inl rfl
  | a :: l => by
    rcases snoc l with h | ⟨S0, e, h⟩
    · exact Or.inr ⟨[], a, by rw [h]; rfl⟩
    · exact Or.inr ⟨a :: S0, e, by rw [h]; rfl⟩
def fr105 (q : Nat) (F G : Nat → Nat → Int32) : Prop := ∀ b j, ¬ (b = q + 30 ∨ b = q + 35 ∨ b = q + 36) → G b j = F b j
theorem p_pb105 {h : tpH} {Q q mk s s' : Nat} {t u : mT} {kd idn : Nat → Int32} (X : RX h Q q mk s s' t u) {F1 : Nat → Nat → Int32} (C1 : RF F1 Q q mk s s' t u kd idn) {z w : Nat} (hz : tIn t z = true) (hwu : tIn u w = true) (hA : AK kd idn t u z w) {S0 : List (Nat × Nat)} (hS : S0.length + (kp kd idn t u z w).length ≤ 300) {R : tpH → Prop} {K : Nat → Int32 → Int32 → Int32 → tpH → Prop} (kk : ∀ G, fr105 q F1 G → stk G q (S0 ++ kp kd idn t u z w) → K Q (nI s) (nI s') (nI (S0.length + (kp kd idn t u z w).length)) (wI h G)) :
    ∀ (n : Nat) (post pre : List (Nat × Nat)) (F : Nat → Nat → Int32) (v8 v9 : Int32), kp kd idn t u z w = pre ++ post → post.length < n → fr105 q F1 F → tkP F q (tKi u w) (fun c => !decide (c ∈ pre.map Prod.snd)) → stk F q (S0 ++ pre) → seg (fun c => F1 (q + 6) (300 * s' + c)) v8 ((tKi u w).drop pre.length) (-1) → seg (fun c => F1 (q + 6) (300 * s + c)) v9 ((tKi t z).drop pre.length) (-1) → w_Md_pairBelow_105 R K n Q (nI s) (nI s') (nI (S0.length + pre.length)) (nI z) (nI w) v8 v9 (wI h F)
  | 0, post, pre, F, v8, v9, e, hn, f, T, S, g8, g9 => by omega
  | n + 1, post, pre, F, v8, v9, e, hn, f, T, S, g8, g9 => by
    have C := RF_fr X C1 (fun b j hb => f b j (by omega))
    obtain ⟨⟨ld, hQ⟩, ⟨hs, hs'⟩, hk, ⟨hw, hu⟩, ht, hum⟩ := id X
    obtain ⟨k1, k2, k3⟩ := kp_ok hw hu hz hA
    have lk : (kp kd idn t u z w).length = (tKi t z).length := by rw [← k1, List.length_map]
    have lk2 : (kp kd idn t u z w).length = (tKi u w).length := by rw [← k2.length_eq, List.length_map]
    cases post with
    | nil =>
      rw [List.append_nil] at e
      have e9 : v9 = -1 := by
        rw [List.drop_eq_nil_of_le (by rw [← lk, e]; exact Nat.le_refl _)] at g9
        exact g9
      rw [← e] at S
      refine ⟨fun _ => ?_, fun g => absurd e9 g⟩
      rw [← e]
      exact kk F f S
    | cons p0 post =>
      obtain ⟨k, l⟩ := p0
      have lp : pre.length < (tKi t z).length := by
        rw [← lk, e, List.length_append, List.length_cons]
        omega
      have lp2 : pre.length < (tKi u w).length := by omega
      have ek : (tKi t z)[pre.length]? = some k := by rw [← k1, e]; exact at_map
      have dk : (tKi t z).drop pre.length = k :: (tKi t z).drop (pre.length + 1) := by
        rw [List.drop_eq_getElem_cons lp, (List.getElem?_eq_some_iff.mp ek).2]
      have kl : (k, l) ∈ kp kd idn t u z w := by rw [e]; exact List.mem_append_right _ List.mem_cons_self
      obtain ⟨mk1, mk2, mk3⟩ := kp_k hw hu hz hA kl
      have hkt := ((hw.1.2.1 k z).mp mk1).1
      have hlu := ((hu.1.2.1 l w).mp mk2).1
      have kt3 := hw.1.1 k hkt
      have l3 := hu.1.1 l hlu
      have z3 := hw.1.1 z hz
      have w3 := hu.1.1 w hwu
      obtain ⟨c, dc, ec, hcm⟩ := l_dr lp2
      have hcu := ((hu.1.2.1 c w).mp hcm).1
      have c3 := hu.1.1 c hcu
      rw [dk] at g9
      rw [dc] at g8
      obtain ⟨e9, n9⟩ := g9
      obtain ⟨e8, n8⟩ := g8
      subst e9
      subst e8
      obtain ⟨a1, a2, a3⟩ := md_f ld (j := 30) (kd := 16) (n := 300) (f := 40) (by decide)
      obtain ⟨b1, b2, b3⟩ := md_f ld (j := 35) (kd := 15) (n := 300) (f := 45) (by decide)
      obtain ⟨d1, d2, d3⟩ := md_f ld (j := 36) (kd := 15) (n := 300) (f := 46) (by decide)
      have ll : S0.length + pre.length < 300 := by
        rw [e, List.length_append, List.length_cons] at hS
        omega
      have fin : w_Md_pairBelow_134 R (w_Md_pairBelow_105 R K n) Q (nI s) (nI s') (nI (S0.length + pre.length)) (nI z) (nI w) (nI c) (nI k) (nI l) (wI h F) := by
        refine ⟨ld.1, q + 30, a3, a1, by rw [wI_L, a2]; exact vp_in_nI l3 (by decide), fun h6 e6 => ?_⟩
        rw [nI_clamp (by omega), sI_wI, wI_wI, wI_I] at e6
        subst e6
        refine ⟨q + 35, b3, b1, by rw [wI_L, b2]; exact vp_in_nI ll (by decide), fun h6 e6 => ?_⟩
        rw [nI_clamp (by omega), sI_wI, wI_wI, wI_I] at e6
        subst e6
        refine ⟨q + 36, d3, d1, by rw [wI_L, d2]; exact vp_in_nI ll (by decide), fun h6 e6 => ?_⟩
        rw [nI_clamp (by omega), sI_wI, wI_wI, wI_I] at e6
        subst e6
        generalize hG : tpu (tpu (tpu F (q + 30) l 1) (q + 35) (S0.length + pre.length) (nI k)) (q + 36) (S0.length + pre.length) (nI l) = G
        have gG : fr105 q F1 G := fun b j hb => by rw [← hG, tpu_o (by omega), tpu_o (by omega), tpu_o (by omega)]; exact f b j hb
        rw [e_Md_nextIn ld hs' c3]
        refine ⟨ld.1, ?_⟩
        rw [e_Md_nextIn ld hs kt3, gG (q + 6) _ (by omega), gG (q + 6) _ (by omega), nI_1]
        have r := p_pb105 (R := R) X C1 hz hwu hA hS kk n post (pre ++ [(k, l)]) G (F1 (q + 6) (300 * s' + c)) (F1 (q + 6) (300 * s + k)) (by rw [e, List.append_assoc]; rfl) (by rw [List.length_cons] at hn; omega) gG (fun y hy => ?_) (fun j x hx => ?_) ?_ ?_
        · rw [List.length_append, List.length_cons, List.length_nil, Nat.zero_add, ← Nat.add_assoc] at r
          exact r
        · have q1 := tk_set T l y hy
          rw [← hG, tpu_o (by omega), tpu_o (by omega), q1]
          have eb : (!decide (y ∈ pre.map Prod.snd) && !decide (y = l)) = !decide (y ∈ (pre ++ [(k, l)]).map Prod.snd) := by
            rw [List.map_append, List.map_cons, List.map_nil]
            by_cases c1 : y ∈ pre.map Prod.snd
            · rw [decide_eq_true c1, decide_eq_true (List.mem_append_left _ c1)]; rfl
            · by_cases c2 : y = l
              · rw [decide_eq_false c1, decide_eq_true c2, decide_eq_true (List.mem_append_right _ (by rw [c2]; exact List.mem_singleton.mpr rfl))]; rfl
              · rw [decide_eq_false c1, decide_eq_false c2, decide_eq_false (fun g => (List.mem_append.mp g).elim c1 (fun g2 => c2 (List.mem_singleton.mp g2)))]; rfl
          exact congrArg (fun b => if b = true then (0 : Int32) else 1) eb
        · rw [← List.append_assoc] at hx
          by_cases c1 : j < (S0 ++ pre).length
          · rw [List.getElem?_append_left c1] at hx
            have q1 := S j x hx
            rw [List.length_append] at c1
            rw [← hG, tpu_o (by omega), tpu_o (by omega), tpu_o (by omega), tpu_o (by omega), tpu_o (by omega), tpu_o (by omega)]
            exact q1
          · have j1 := (List.getElem?_eq_some_iff.mp hx).1
            rw [List.length_append, List.length_cons, List.length_nil] at j1
            have ej : j = S0.length + pre.length := by
              rw [List.length_append] at j1 c1
              omega
            rw [List.getElem?_append_right (by omega), show j - (S0 ++ pre).length = 0 by rw [List.length_append]; omega] at hx
            have ex : (k, l) = x := Option.some.inj hx
            rw [← ex, ej, ← hG, tpu_o (by omega), tpu_s, tpu_s]
            exact ⟨rfl, rfl⟩
        · rw [List.length_append]
          exact n8
        · rw [List.length_append]
          exact n9
      refine ⟨fun g => absurd g (nI_ne_m (by omega)), fun _ => ⟨ld.1, ?_⟩⟩
      rw [e_Md_isOrdered ld z3]
      have fq : F q z = kd z := (C.1.2 z (ht z hz)).1
      rw [fq]
      have lo : loK kd z = !decide (kd z < 4) := rfl
      by_cases c4 : kd z < 4
      · rw [if_pos c4]
        refine ⟨fun g => absurd g (by decide), fun _ => ?_⟩
        have el : (tKi u w)[pre.length]? = some l := by rw [← kp_ord hw hu hz hA (by rw [lo, decide_eq_true c4]; rfl), e]; exact at_map
        have ecl : c = l := by rw [ec] at el; exact Option.some.inj el
        rw [← ecl] at fin
        exact fin
      · rw [if_neg c4]
        refine ⟨fun _ => ⟨ld.1, ⟨ld.1, ?_⟩⟩, fun g => absurd rfl g⟩
        rw [e_Md_firstIn ld hs' w3]
        refine ⟨(tKi u w).length + 1, p_partner8 ld hs' hw hu C.2.2.2.1 hkt (fun y hy => ⟨((hu.1.2.1 y w).mp hy).1, C.2.2.2.2 k hkt y ((hu.1.2.1 y w).mp hy).1⟩) T _ (tKi u w) _ (fun y hy => hy) (C.2.1.2.1 w hwu).2.2 (Nat.lt_succ_self _) ?_⟩
        have ekp : kp kd idn t u z w = kpL (akB kd idn t u) (tKi u w) (tKi t z) [] := by unfold kp; rw [if_pos (by rw [lo, decide_eq_false c4]; rfl)]
        have fa := kpL_at (tKi t z) [] pre k l post (ekp ▸ e) (ekp ▸ k1)
        have cg : (tKi u w).find? (fun c => (!decide (c ∈ pre.map Prod.snd)) && akB kd idn t u k c) = some l := by
          rw [← fa]
          refine f_cg (fun c hc => ?_)
          rw [List.append_nil, List.contains_reverse, List.contains_eq_mem]
        rw [cg]
        exact fin
theorem p_pb61 {h : tpH} {Q q mk s s' : Nat} {t u : mT} {kd idn : Nat → Int32} (X : RX h Q q mk s s' t u) {F1 : Nat → Nat → Int32} (C1 : RF F1 Q q mk s s' t u kd idn) {z w : Nat} (hz : tIn t z = true) (hwu : tIn u w = true) (hA : AK kd idn t u z w) {S0 : List (Nat × Nat)} (hS : S0.length + (kp kd idn t u z w).length ≤ 300) (S1 : stk F1 q S0) {R : tpH → Prop} {K : Nat → Int32 → Int32 → Int32 → tpH → Prop} (kk : ∀ G, fr105 q F1 G → stk G q (S0 ++ kp kd idn t u z w) → K Q (nI s) (nI s') (nI (S0.length + (kp kd idn t u z w).length)) (wI h G)) :
    ∀ (n : Nat) (Dn L : List Nat) (v : Int32) (F : Nat → Nat → Int32), tKi u w = Dn ++ L → (∀ b j, b ≠ q + 30 → F b j = F1 b j) → seg (fun c => F1 (q + 6) (300 * s' + c)) v L (-1) → (∀ c ∈ Dn, F (q + 30) c = 0) → L.length < n → w_Md_pairBelow_61 R K n Q (nI s) (nI s') (nI S0.length) (nI z) (nI w) v (wI h F)
  | 0, Dn, L, v, F, e, f0, sg, hd, hn => by omega
  | n + 1, Dn, [], v, F, e, f0, sg, hd, hn => by
    obtain ⟨⟨ld, hQ⟩, ⟨hs, hs'⟩, hk, ⟨hw, hu⟩, ht, hum⟩ := id X
    have z3 := hw.1.1 z hz
    have w3 := hu.1.1 w hwu
    refine ⟨fun _ => ⟨ld.1, ?_⟩, fun g => absurd sg g⟩
    rw [e_Md_firstIn ld hs' w3]
    refine ⟨ld.1, ?_⟩
    rw [e_Md_firstIn ld hs z3]
    refine ⟨(kp kd idn t u z w).length + 1, ?_⟩
    rw [f0 (q + 5) _ (by omega), f0 (q + 5) _ (by omega)]
    rw [List.append_nil] at e
    have r := p_pb105 (R := R) X C1 hz hwu hA hS kk ((kp kd idn t u z w).length + 1) (kp kd idn t u z w) [] F (F1 (q + 5) (300 * s' + w)) (F1 (q + 5) (300 * s + z)) rfl (Nat.lt_succ_self _) (fun b j hb => f0 b j (by omega)) (fun c hc => ?_) ?_ (C1.2.1.2.1 w hwu).2.2 (C1.2.1.1.1 z hz).2.2
    · exact r
    · rw [e] at hc
      rw [hd c hc]
      rfl
    · intro j x hx
      rw [List.append_nil] at hx
      rw [f0 _ _ (by omega), f0 _ _ (by omega)]
      exact S1 j x hx
  | n + 1, Dn, c :: L, v, F, e, f0, sg, hd, hn => by
    obtain ⟨⟨ld, hQ⟩, ⟨hs, hs'⟩, hk, ⟨hw, hu⟩, ht, hum⟩ := id X
    obtain ⟨a1, a2, a3⟩ := md_f ld (j := 30) (kd := 16) (n := 300) (f := 40) (by decide)
    obtain ⟨e1, e2⟩ := sg
    subst e1
    have hc := ((hu.1.2.1 c w).mp (by rw [e]; exact List.mem_append_right _ List.mem_cons_self)).1
    have c3 := hu.1.1 c hc
    refine ⟨fun g => absurd g (nI_ne_m (by omega)), fun _ => ⟨ld.1, q + 30, a3, a1, by rw [wI_L, a2]; exact vp_in_nI c3 (by decide), fun h6 e6 => ?_⟩⟩
    rw [nI_clamp (by omega), sI_wI, wI_wI, wI_I] at e6
    subst e6
    rw [e_Md_nextIn ld hs' c3, tpu_o (by omega), f0 (q + 6) _ (by omega)]
    refine p_pb61 X C1 hz hwu hA hS S1 kk n (Dn ++ [c]) L _ _ (by rw [e, List.append_assoc]; rfl) (fun b j hb => by rw [tpu_o (by omega)]; exact f0 b j hb) e2 (fun d hd' => ?_) (by rw [List.length_cons] at hn; omega)
    by_cases g : d = c
    · rw [g, tpu_s]
    · rw [tpu_o (by omega)]
      rcases List.mem_append.mp hd' with q1 | q1
      · exact hd d q1
      · exact absurd (List.mem_singleton.mp q1) g
noncomputable def mS (t : mT) (S : List (Nat × Nat)) : Nat := (S.map (fun e => (tPo t e.1).length)).sum
theorem mS_app (t : mT) (A B : List (Nat × Nat)) : mS t (A ++ B) = mS t A + mS t B := by
  unfold mS
  rw [List.map_append, List.sum_append]
theorem mS_len {t : mT} (hw : tWF 300 t) : ∀ S : List (Nat × Nat), S.length ≤ mS t S
  | [] => Nat.le_refl _
  | e :: S => by
    have i := mS_len hw S
    have p : 0 < (tPo t e.1).length := List.length_pos_of_mem (tPo_self hw.1.2.2.2.1 e.1)
    have : mS t (e :: S) = (tPo t e.1).length + mS t S := by unfold mS; rw [List.map_cons, List.sum_cons]
    rw [List.length_cons]
    omega
theorem mS_kp {kd idn : Nat → Int32} {t u : mT} (hw : tWF 300 t) (hu : tWF 300 u) {z w : Nat} (hz : tIn t z = true) (hA : AK kd idn t u z w) : mS t (kp kd idn t u z w) + 1 = (tPo t z).length := by
  have k1 := (kp_ok hw hu hz hA).1
  have e : mS t (kp kd idn t u z w) = (((kp kd idn t u z w).map Prod.fst).map (fun c => (tPo t c).length)).sum := by
    unfold mS
    rw [List.map_map]
    rfl
  rw [e, k1, tPo_eq hw.1.2.2.2.1 z, List.length_cons, List.length_flatMap]
def dis (t : mT) (S : List (Nat × Nat)) : Prop := S.Pairwise (fun e f => f.1 ∉ tPo t e.1 ∧ e.1 ∉ tPo t f.1)
def stD (t : mT) (x0 : Nat) (S : List (Nat × Nat)) (c : Nat) : Prop := c ∈ tPo t x0 ∧ ∀ e ∈ S, c ∉ tPo t e.1
theorem p_pb18 {h : tpH} {Q q mk s s' : Nat} {t u : mT} {kd idn : Nat → Int32} (X : RX h Q q mk s s' t u) {F0 : Nat → Nat → Int32} (C0 : RF F0 Q q mk s s' t u kd idn) {P : mP} {x0 y0 : Nat} (H : alH kd idn t u x0 y0) {R : tpH → Prop} (kk : ∀ G, (∀ b j, ¬ (b = q + 30 ∨ b = q + 31 ∨ b = q + 32 ∨ b = q + 35 ∨ b = q + 36) → G b j = F0 b j) → McM G q t u (brS kd idn t u P x0 y0) → R (wI h G)) :
    ∀ (n : Nat) (S : List (Nat × Nat)) (F : Nat → Nat → Int32) (P' : mP), mS t S < n → mS t S ≤ 300 → (∀ e ∈ S, tT kd idn t u x0 y0 e.1 e.2) → dis t S → (∀ b j, ¬ (b = q + 30 ∨ b = q + 31 ∨ b = q + 32 ∨ b = q + 35 ∨ b = q + 36) → F b j = F0 b j) → McM F q t u P' → stk F q S → wIv kd idn t u x0 y0 P (stD t x0 S) P' → w_Md_pairBelow_18 R n Q (nI s) (nI s') (nI S.length) (wI h F)
  | 0, S, F, P', h1, h2, h3, h4, f, M, st, I => by omega
  | n + 1, S, F, P', h1, h2, h3, h4, f, M, st, I => by
    have C := RF_fr X C0 (fun b j hb => f b j (by omega))
    obtain ⟨⟨ld, hQ⟩, ⟨hs, hs'⟩, hk, ⟨hw, hu⟩, ht, hum⟩ := id X
    rcases snoc S with e | ⟨S0, ⟨z, w⟩, e⟩
    · subst e
      refine ⟨fun _ => kk F f ?_, fun g => absurd (by decide) g⟩
      rw [← wIv_end H I (fun c hc => ⟨hc, fun e he => by cases he⟩)]
      exact M
    · subst e
      have hT : tT kd idn t u x0 y0 z w := h3 (z, w) (List.mem_append_right _ (List.mem_singleton.mpr rfl))
      obtain ⟨i1, i2, i3, hz, hwu⟩ := tT_in H hT
      have sl := mS_len hw (S0 ++ [(z, w)])
      have eS : mS t (S0 ++ [(z, w)]) = mS t S0 + (tPo t z).length := by
        rw [mS_app]
        unfold mS
        rw [List.map_cons, List.map_nil, List.sum_cons, List.sum_nil, Nat.add_zero]
      have eK := mS_kp hw hu hz i3
      have sl2 := mS_len hw (S0 ++ kp kd idn t u z w)
      rw [mS_app] at sl2
      rw [List.length_append] at sl2
      have ln : (S0 ++ [(z, w)]).length = S0.length + 1 := by rw [List.length_append]; rfl
      rw [ln] at sl ⊢
      obtain ⟨b1, b2, b3⟩ := md_f ld (j := 35) (kd := 15) (n := 300) (f := 45) (by decide)
      obtain ⟨d1, d2, d3⟩ := md_f ld (j := 36) (kd := 15) (n := 300) (f := 46) (by decide)
      have e0 : nI (S0.length + 1) + (-1 : Int32) = nI S0.length := nI_dn (by omega)
      have top := st S0.length (z, w) (by rw [List.getElem?_append_right (Nat.le_refl _), Nat.sub_self]; rfl)
      have eo : hI (wI h F) (q + 35) (nI S0.length).toNatClampNeg = nI z := by rw [nI_clamp (by omega)]; exact top.1
      have en : hI (wI h F) (q + 36) (nI S0.length).toNatClampNeg = nI w := by rw [nI_clamp (by omega)]; exact top.2
      have w3 := hu.1.1 w hwu
      rw [show w_Md_pairBelow_18 R (n + 1) = b_Md_pairBelow_18 R (w_Md_pairBelow_18 R n) from rfl]
      unfold b_Md_pairBelow_18
      rw [e0]
      refine ⟨fun g => absurd ((nI_le_iff (b := 0) (by omega) (by omega)).mp g) (by omega), fun _ => ⟨ld.1, q + 35, b3, b1, by rw [wI_L, b2]; exact vp_in_nI (by omega) (by decide), q + 36, d3, d1, by rw [wI_L, d2]; exact vp_in_nI (by omega) (by decide), ?_⟩⟩
      rw [eo, en]
      refine p_Mpair X M hz hwu (fun G g1 g2 => ⟨ld.1, ?_⟩)
      rw [e_Md_firstIn ld hs' w3]
      have C2 := RF_fr X C (pmFr_s g1)
      have st2 : stk G q S0 := fun j x hx => by
        rw [g1 _ _ (by omega), g1 _ _ (by omega)]
        exact st j x (by rw [List.getElem?_append_left (List.getElem?_eq_some_iff.mp hx).1]; exact hx)
      have dd := List.pairwise_append.mp h4
      have dz : ∀ e ∈ S0, z ∉ tPo t e.1 ∧ e.1 ∉ tPo t z := fun e he => dd.2.2 e he (z, w) (List.mem_singleton.mpr rfl)
      refine ⟨(tKi u w).length + 1, p_pb61 X C2 hz hwu i3 (by omega) st2 (fun G2 k1 k2 => ?_) _ [] (tKi u w) _ G rfl (fun _ _ _ => rfl) (C2.2.1.2.1 w hwu).2.2 (fun c hc => by cases hc) (Nat.lt_succ_self _)⟩
      rw [← List.length_append]
      have M2 : McM G2 q t u (pP P' z w) := ⟨fun x hx => (k1 _ _ (by omega)).trans (g2.1 x hx), fun y hy => (k1 _ _ (by omega)).trans (g2.2 y hy)⟩
      refine p_pb18 X C0 H kk n (S0 ++ kp kd idn t u z w) G2 _ (by rw [mS_app]; omega) (by rw [mS_app]; omega) (fun e he => ?_) ?_ (fun b j hb => (k1 b j (by omega)).trans ((g1 b j (by omega)).trans (f b j hb))) M2 k2 ?_
      · rcases List.mem_append.mp he with g | g
        · exact h3 e (List.mem_append_left _ g)
        · exact tT_s hT g
      · refine List.pairwise_append.mpr ⟨dd.1, ?_, fun e he f' hf => ?_⟩
        · have nd : ((kp kd idn t u z w).map Prod.fst).Nodup := by rw [(kp_ok hw hu hz i3).1]; exact hw.1.2.2.1 z
          have pw := List.pairwise_map.mp nd
          refine List.Pairwise.imp_of_mem (fun {e f'} he hf ne => ?_) pw
          have k1 := (kp_k hw hu hz i3 (show (e.1, e.2) ∈ _ from he)).1
          have k2 := (kp_k hw hu hz i3 (show (f'.1, f'.2) ∈ _ from hf)).1
          have sib : ∀ a b : Nat, a ∈ tKi t z → b ∈ tKi t z → a ≠ b → b ∉ tPo t a := fun a b ha hb ne g => by
            rcases tPo_up hw.1.2.2.2.1 a g with q1 | ⟨r, r1, r2⟩
            · exact ne q1.symm
            · have : r = z := tUp_of hw.1 r1 hb
              rw [this] at r2
              exact no_up hw ((hw.1.2.1 a z).mp ha).1 r2 ha
          exact ⟨sib _ _ k1 k2 ne, sib _ _ k2 k1 (Ne.symm ne)⟩
        · have k2 := (kp_k hw hu hz i3 (show (f'.1, f'.2) ∈ _ from hf)).1
          refine ⟨fun g => ?_, fun g => (dz e he).2 (tPo_tr hw.1.2.2.2.1 (tPo_kid hw.1.2.2.2.1 k2 z (tPo_self hw.1.2.2.2.1 z)) _ g)⟩
          rcases tPo_up hw.1.2.2.2.1 e.1 g with q1 | ⟨r, r1, r2⟩
          · exact (dz e he).2 (by rw [← q1]; exact tPo_kid hw.1.2.2.2.1 k2 z (tPo_self hw.1.2.2.2.1 z))
          · have : r = z := tUp_of hw.1 r1 k2
            rw [this] at r2
            exact (dz e he).1 r2
      · have step := wIv_p (D' := fun c => stD t x0 (S0 ++ [(z, w)]) c ∨ c = z) H I hT (fun c => Iff.rfl)
        refine wIv_e H step (fun c hc => ⟨fun g => ?_, fun g => ⟨hc, fun e he => ?_⟩⟩)
        · by_cases ez : c = z
          · exact Or.inr ez
          · refine Or.inl ⟨hc, fun e he m => ?_⟩
            rcases List.mem_append.mp he with q1 | q1
            · exact g.2 e (List.mem_append_left _ q1) m
            · rw [List.mem_singleton.mp q1] at m
              have m : c ∈ tPo t z := m
              rcases (tPo_mem hw.1.2.2.2.1).mp m with q2 | ⟨d, d1', d2'⟩
              · exact ez q2
              · rw [← (kp_ok hw hu hz i3).1] at d1'
                obtain ⟨e', e1, e2⟩ := List.mem_map.mp d1'
                rw [← e2] at d2'
                exact g.2 e' (List.mem_append_right _ e1) d2'
        · rcases List.mem_append.mp he with q1 | q1
          · rcases g with g | g
            · exact g.2 e (List.mem_append_left _ q1)
            · rw [g]; exact (dz e q1).1
          · have k2' := (kp_k hw hu hz i3 (show (e.1, e.2) ∈ _ from q1)).1
            rcases g with g | g
            · intro m
              exact g.2 (z, w) (List.mem_append_right _ (List.mem_singleton.mpr rfl)) (tPo_tr hw.1.2.2.2.1 (tPo_kid hw.1.2.2.2.1 k2' z (tPo_self hw.1.2.2.2.1 z)) _ m)
            · rw [g]
              intro m
              exact no_up hw ((hw.1.2.1 e.1 z).mp k2').1 m k2'
theorem p_MpB {h : tpH} {Q q mk s s' : Nat} {t u : mT} {kd idn : Nat → Int32} (X : RX h Q q mk s s' t u) {F : Nat → Nat → Int32} (C : RF F Q q mk s s' t u kd idn) {P : mP} (M : McM F q t u P) {x0 y0 : Nat} (H : alH kd idn t u x0 y0) {R : tpH → Prop} (kk : ∀ G, rmFr q F G → McM G q t u (brS kd idn t u P x0 y0) → R (wI h G)) : w_Md_pairBelow Q (nI s) (nI s') (nI x0) (nI y0) (wI h F) R := by
  obtain ⟨⟨ld, hQ⟩, ⟨hs, hs'⟩, hk, ⟨hw, hu⟩, ht, hum⟩ := id X
  obtain ⟨b1, b2, b3⟩ := md_f ld (j := 35) (kd := 15) (n := 300) (f := 45) (by decide)
  obtain ⟨d1, d2, d3⟩ := md_f ld (j := 36) (kd := 15) (n := 300) (f := 46) (by decide)
  have c0 : (0 : Int32).toNatClampNeg = 0 := by decide
  refine ⟨ld.1, q + 35, b3, b1, by rw [wI_L, b2]; exact vp_in_nI (n := 0) (by decide) (by decide), fun h6 e6 => ?_⟩
  rw [c0, sI_wI, wI_wI, wI_I] at e6
  subst e6
  refine ⟨q + 36, d3, d1, by rw [wI_L, d2]; exact vp_in_nI (n := 0) (by decide) (by decide), fun h6 e6 => ?_⟩
  rw [c0, sI_wI, wI_wI, wI_I] at e6
  subst e6
  have pl0 := po_le hw.1 x0
  have eS : mS t [(x0, y0)] = (tPo t x0).length := by
    unfold mS
    rw [List.map_cons, List.map_nil, List.sum_cons, List.sum_nil, Nat.add_zero]
  refine ⟨(tPo t x0).length + 1, ?_⟩
  refine p_pb18 X C H (fun G g1 g2 => kk G (fun b j hb => g1 b j (by omega)) g2) _ [(x0, y0)] _ P (by omega) (by omega) (fun e he => ?_) (List.pairwise_singleton _ _) (fun b j hb => by rw [tpu_o (by omega), tpu_o (by omega)]) ⟨fun x hx => by rw [tpu_o (by omega), tpu_o (by omega)]; exact M.1 x hx, fun y hy => by rw [tpu_o (by omega), tpu_o (by omega)]; exact M.2 y hy⟩ (fun j e he => ?_) ?_
  · rw [List.mem_singleton.mp he]; exact tT_0
  · have hj := (List.getElem?_eq_some_iff.mp he).1
    have j0 : j = 0 := by rw [List.length_cons, List.length_nil] at hj; omega
    rw [j0] at he ⊢
    rw [← Option.some.inj he, tpu_o (by omega), tpu_s, tpu_s]
    exact ⟨rfl, rfl⟩
  · exact ⟨fun c d _ g => absurd g.1 (g.2 _ (List.mem_singleton.mpr rfl)), fun _ _ => rfl, fun _ _ => rfl⟩
end RM4
