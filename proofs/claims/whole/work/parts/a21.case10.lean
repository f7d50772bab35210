section CASE10
theorem p_TP_needRoomForScript {h : tpH} {x p n : Nat} (l : lTP h x p) (h6 : hI h x 6 = nI n) (hn : n ≤ 40) {X : String → tpH → Prop} {R : tpH → Prop} (k1 : n < 40 → R h) (k2 : n = 40 → X "java/lang/IllegalStateException" (nC h 0 0 6)) : w_TP_needRoomForScript x h X R := by
  refine ⟨l.1, ?_⟩
  have e : (40 : Int32) = nI 40 := rfl
  rw [h6, e, nI_lt_iff (by omega) (by decide)]
  exact ⟨fun g => k1 g, fun g => k2 (by omega)⟩
theorem p_TP_keepScript {h : tpH} {x p D : Nat} {sc : List (List mSt)} (l : lTP h x p) (hxp : x < p) (hpD : p + 101 ≤ D) (hDz : D ≤ hZ h) (hS : ScP h x p D sc) (hlt : sc.length < 40) {s : List mSt} {a : Nat} (O : ScO h p D a s) {R : Int32 → tpH → Prop} (kk : ∀ h', hZ h' = hZ h → hU h' = hU h → hFr h h' (fun b j => b = x ∧ j = 6) (fun b j => b = p + 36 ∧ j = sc.length) → ScP h' x p D (sc ++ [s]) → R (nI sc.length) h') : w_TP_keepScript x (some a) h R := by
  have e40 : Int32.ofNat 40 = nI 40 := rfl
  obtain ⟨l1, l2, l3⟩ := lTP_sc l
  refine ⟨l.1, p + 36, l1, l2, ?_⟩
  rw [hS.1, l3, e40, nI_lt_iff (by omega) (by decide)]
  refine ⟨fun _ => ⟨vp_in_nI hlt (by decide), a, rfl, O.2.1, fun h10 e10 h12 e12 => ?_⟩, fun e => absurd hlt e⟩
  rw [nI_clamp (by omega)] at e10
  have ez : hZ h12 = hZ h := by rw [e12, e10]; rfl
  have eu : hU h12 = hU h := by rw [e12, e10]; rfl
  have eI : hI h12 = tpu (hI h) x 6 (nI (sc.length + 1)) := by
    rw [e12, e10]
    show tpu (hI h) x 6 (hI h x 6 + 1) = _
    rw [hS.1, nI_1]
  have eR : hR h12 = tpu (hR h) (p + 36) sc.length (some a) := by rw [e12, e10]; rfl
  have f : hFr h h12 (fun b j => b = x ∧ j = 6) (fun b j => b = p + 36 ∧ j = sc.length) := by
    refine ⟨by omega, fun b hb => ⟨by rw [e12, e10]; rfl, by rw [e12, e10]; rfl, by rw [e12, e10]; rfl, by rw [e12, e10]; rfl, fun j hj => ?_, fun j hj => ?_⟩⟩
    · rw [eI]; simp only [tpu]; rw [if_neg hj]
    · rw [eR]; simp only [tpu]; rw [if_neg hj]
  have nt : fNT p D (fun b j => b = x ∧ j = 6) (fun b j => b = p + 36 ∧ j = sc.length) := fun b j hb => ⟨fun g => by omega, fun g => by omega⟩
  have ev : hI h12 x 6 - 1 = nI sc.length := by rw [eI, tpu_s]; exact nI_pred _
  rw [ev]
  refine kk h12 ez eu f ⟨by rw [eI, tpu_s, List.length_append]; rfl, by rw [List.length_append]; exact hlt, fun i u hi => ?_⟩
  by_cases c : i < sc.length
  · rw [List.getElem?_append_left c] at hi
    obtain ⟨b, b1, b2⟩ := hS.2.2 i u hi
    exact ⟨b, by rw [eR, tpu_j _ _ _ _ _ _ (by omega)]; exact b1, ScO_fr b2 (by omega) f nt⟩
  · rw [List.getElem?_append_right (by omega)] at hi
    have hi0 : i = sc.length := by
      have := (List.getElem?_eq_some_iff.mp hi).1
      simp at this
      omega
    subst hi0
    rw [Nat.sub_self] at hi
    simp only [List.getElem?_cons_zero, Option.some.injEq] at hi
    subst hi
    exact ⟨a, by rw [eR, tpu_s], ScO_fr O (by omega) f nt⟩
theorem stP_sc {h h' : tpH} {x p D mk n : Nat} {kd idn : Nat → Int32} {dr : Option mT} {r : mRe} (H : stP h x p D mk kd idn dr r n) (hxp : x < p) (hpD : p + 101 ≤ D) (hDz : D ≤ hZ h) {T U : Nat → Nat → Prop} (a : hFr h h' T U) (nT : ∀ b j, T b j → b = x ∧ j = 6) (nU : ∀ b j, U b j → b = p + 36 ∧ j = r.2.1.length) {s : List mSt} (S' : ScP h' x p D (r.2.1 ++ [s])) : stP h' x p D mk kd idn dr (r.1, r.2.1 ++ [s], r.2.2) n := by
  obtain ⟨H1, H2, H3, H4, H5, H6, H7, H8, H9, H10, H11, H12⟩ := H
  have eI : ∀ b, p ≤ b → b < p + 101 → hI h' b = hI h b := fun b b1 hb => funext fun j => (a.2 b (by omega)).2.2.2.2.1 j (fun g => by have := nT _ _ g; omega)
  have e35 : hR h' (p + 35) = hR h (p + 35) := funext fun j => (a.2 (p + 35) (by omega)).2.2.2.2.2 j (fun g => by have := nU _ _ g; omega)
  refine ⟨lTP_hFr H1 hxp (by omega) a (fun b j hb g => by have := nU _ _ g; omega), MaP_k H2 (fun b b1 b2 => eI b (by omega) (by omega)), DrP_k H3 (fun b b1 b2 => eI b (by omega) (by omega)), fun j hj => by rw [eI (p + 68) (by omega) (by omega)]; exact H4 j hj,
    FoP_fr H5 (by omega) hpD hDz a (fun g => by have := nT _ _ g; omega) (fun b j hb g => by have := nT _ _ g; omega) (fun b j hb g => by have := nU _ _ g; omega) (fun i _ g => by have := nU _ _ g; omega), fun i j hi hj e => ?_, S', ?_, fun j hj => by rw [eI (p + 71) (by omega) (by omega)]; exact H9 j hj,
    CfP_fr H10 (by omega) a (fun b j hb => ⟨fun g => by have := nT _ _ g; omega, fun g => by have := nU _ _ g; omega⟩) (fun i a0 e => Or.inl (by rw [← e35]; exact e)), HiP_fr H11 (by rw [eI _ (by omega) (by omega)]) (fun b b1 b2 => eI b (by omega) (by omega)), MiP_fr H12 (by omega) a (fun b j b1 b2 g => by have := nT _ _ g; omega) (fun b j b1 b2 g => by have := nU _ _ g; omega) (fun i _ g => by have := nU _ _ g; omega)⟩
  · rw [e35] at e
    exact H6 i j hi hj e
  · rw [(a.2 x (by omega)).2.2.2.2.1 10 (fun g => by have := nT _ _ g; omega)]
    exact H8
theorem mIn_sc {mk : Nat} {kd : Nat → Int32} {rt : Nat → Bool} {dr : Option mT} {r : mRe} (H : mIn mk kd rt dr r) {s : List mSt} (h1 : s.length ≤ 100) (h2 : ∀ e ∈ s, stpI mk rt e) : mIn mk kd rt dr (r.1, r.2.1 ++ [s], r.2.2) := by
  obtain ⟨H1, H2, H3, H4, H5⟩ := H
  refine ⟨H1, H2, H3, fun u hu => ?_, H5⟩
  rcases List.mem_append.mp hu with g | g
  · exact H4 u g
  · have : u = s := by simpa using g
    rw [this]
    exact ⟨h1, h2⟩
theorem tnS_I {mk : Nat} {rt : Nat → Bool} {e : mSt} (H : stpI mk rt e) : stpI mk rt (tnS e) := by
  obtain ⟨H1, H2, H3, H4, H5⟩ := H
  refine ⟨?_, H2, fun g => H3 ?_, H5, H4⟩
  · show bkK e.1 ≤ 3
    unfold bkK
    by_cases c1 : e.1 = 1
    · rw [if_pos c1]; omega
    · rw [if_neg c1]
      by_cases c3 : e.1 = 3
      · rw [if_pos c3]; omega
      · rw [if_neg c3]; exact H1
  · have g : bkK e.1 = 1 ∨ bkK e.1 = 3 := g
    unfold bkK at g
    by_cases c1 : e.1 = 1
    · exact Or.inl c1
    · rw [if_neg c1] at g
      by_cases c3 : e.1 = 3
      · exact Or.inr c3
      · rw [if_neg c3] at g; exact g
theorem tnL_I {mk : Nat} {rt : Nat → Bool} {s : List mSt} (H : ∀ e ∈ s, stpI mk rt e) : ∀ e ∈ tnL s, stpI mk rt e := fun e he => by
  unfold tnL at he
  obtain ⟨e', h1, rfl⟩ := List.mem_map.mp he
  exact tnS_I (H e' (List.mem_reverse.mp h1))
theorem tnL_len (s : List mSt) : (tnL s).length = s.length := by unfold tnL; rw [List.length_map, List.length_reverse]
theorem p_TP_turn {h : tpH} {x p D : Nat} {sc : List (List mSt)} (l : lTP h x p) (hxp : x < p) (hpD : p + 101 ≤ D) (hDz : D ≤ hZ h) (hS : ScP h x p D sc) (h100 : ∀ s ∈ sc, s.length ≤ 100 ∧ ∀ e ∈ s, e.1 ≤ 3) {y : Int32} {X : String → tpH → Prop} {R : Int32 → tpH → Prop} (x1 : lstAt sc y = none → X "java/lang/IndexOutOfBoundsException" (nC h 0 0 6)) (x2 : ∀ s, lstAt sc y = some s → sc.length = 40 → X "java/lang/IllegalStateException" (nC h 0 0 6))
    (kk : ∀ s, lstAt sc y = some s → sc.length < 40 → ∀ h', hZ h' ≤ hZ h + 102 → hU h' ≤ hU h + 702 → hFr h h' (fun b j => b = x ∧ j = 6) (fun b j => b = p + 36 ∧ j = sc.length) → ScP h' x p D (sc ++ [tnL s]) → R (nI sc.length) h') : w_TP_turn x y h X R := by
  refine ⟨l.1, p_scr l hS x1 (fun i s a ey hi hl ha O => ⟨l.1, p_TP_needRoomForScript l hS.1 hS.2.1 (fun hlt => ⟨a, rfl, O.2.1, ?_⟩) (fun e => x2 s hl e)⟩)⟩
  have hs := h100 s (List.mem_of_getElem? hi)
  refine p_Sc_turnedBack O hs.1 hs.2 hpD hDz (fun h' B f z u => ⟨?_, ?_⟩)
  · rw [(f.2 x (by omega)).1]; exact l.1
  · have hS' := ScP_fr hS hxp (by omega) f (fNT_no p D) (fun g => g) (fun i _ g => g)
    have l' : lTP h' x p := lTP_hFr l hxp (by omega) f (fun b j _ g => g.elim)
    refine p_TP_keepScript l' hxp hpD (by omega) hS' hlt (ScB_O B) (fun h2 z2 u2 f2 S2 => kk s hl hlt h2 (by omega) (by omega) (hFr_mono (hFr_tr f f2) (fun b j _ g => g.elim (fun q => q.elim) id) (fun b j _ g => g.elim (fun q => q.elim) id)) S2)
/-! the other side -/
theorem p_mturn63 {h : tpH} {Q q n i0 : Nat} (M : lMd h Q q) (hQ : Q < q) (hn : n < 40) (hi0 : i0 < n) {F : Nat → Nat → Int32} {s : List mSt} (hs : s.length ≤ 100) (hsc : ∀ (j : Nat) (e : mSt), s[j]? = some e → StM F q (100 * i0 + j) e ∧ e.1 ≤ 3) (h10 : F Q 10 = nI n) {R : Int32 → tpH → Prop}
    (kk : ∀ G, (∀ (j : Nat) (e : mSt), (tnL s)[j]? = some e → StM G q (100 * n + j) e) → G (q + 7) n = nI s.length → G Q 10 = nI (n + 1) → (∀ b j, ¬ ((b = Q ∧ j = 10) ∨ (b = q + 7 ∧ j = n) ∨ (q + 8 ≤ b ∧ b ≤ q + 17 ∧ 100 * n ≤ j)) → G b j = F b j) → R (nI n) (wI h G)) :
    ∀ (m i : Nat) (G : Nat → Nat → Int32), i < m → i ≤ s.length → (∀ (j : Nat) (e : mSt), (((s.drop i).reverse).map tnS)[j]? = some e → StM G q (100 * n + j) e) → G (q + 7) n = nI (s.length - i) → (∀ b j, ¬ ((b = q + 7 ∧ j = n) ∨ (q + 8 ≤ b ∧ b ≤ q + 17 ∧ 100 * n ≤ j)) → G b j = F b j) → w_Md_turn_63 R m Q (nI i0) (nI (100 * i0 + i) - 1) (wI h G)
  | 0, i, G, h1, h2, h3, h4, h5 => by omega
  | m + 1, 0, G, h1, h2, h3, h4, h5 => by
    have e1 : (100 : Int32) * nI i0 = nI (100 * i0) := by
      have e : (100 : Int32) = nI 100 := rfl
      rw [e, mI_mul]
    have lt : nI (100 * i0 + 0) - 1 < (100 : Int32) * nI i0 := by
      rw [e1, i_lt, nI_toInt (by omega), nI_p1 (by omega)]
      omega
    refine ⟨fun _ => ⟨M.1, fun h3' e3 => ?_⟩, fun g => absurd lt g⟩
    have e10 : hI (wI h G) Q 10 = nI n := by rw [wI_I, h5 Q 10 (by omega)]; exact h10
    rw [e10, sI_wI, wI_wI, wI_I, nI_1] at e3
    subst e3
    have er : hI (wI h (tpu G Q 10 (nI (n + 1)))) Q 10 - 1 = nI n := by rw [wI_I, tpu_s]; exact nI_pred n
    rw [er]
    refine kk _ (fun j e hj => StM_fr (h3 j e hj) (fun b b1 b2 => tpu_o (by omega))) (by rw [tpu_o (by omega)]; exact h4) (tpu_s _ _ _ _) (fun b j hb => ?_)
    rw [tpu_o (by omega)]
    exact h5 b j (by omega)
  | m + 1, i + 1, G, h1, h2, h3, h4, h5 => by
    obtain ⟨o1, o2, o3⟩ := md_f M (j := 8) (kd := 15) (n := 4100) (f := 12) (by decide)
    have e1 : (100 : Int32) * nI i0 = nI (100 * i0) := by
      have e : (100 : Int32) = nI 100 := rfl
      rw [e, mI_mul]
    have ep : nI (100 * i0 + (i + 1)) - 1 = nI (100 * i0 + i) := nI_pred (100 * i0 + i)
    rw [ep]
    have hi := List.getElem?_eq_getElem (l := s) (i := i) (by omega)
    generalize s[i] = e at hi
    have hst : StM G q (100 * i0 + i) e := StM_fr (hsc i e hi).1 (fun b b1 b2 => h5 b _ (by omega))
    have hdrop : (s.drop i).reverse.map tnS = ((s.drop (i + 1)).reverse.map tnS) ++ [tnS e] := by
      have : s.drop i = e :: s.drop (i + 1) := by
        rw [List.drop_eq_getElem_cons (show i < s.length by omega)]
        rw [List.getElem?_eq_getElem (show i < s.length by omega)] at hi
        rw [Option.some.inj hi]
      rw [this, List.reverse_cons, List.map_append]
      rfl
    have ll : (((s.drop (i + 1)).reverse).map tnS).length = s.length - (i + 1) := by rw [List.length_map, List.length_reverse, List.length_drop]
    have e10 : hI (wI h G) Q 10 = nI n := by rw [wI_I, h5 Q 10 (by omega)]; exact h10
    have ek : hI (wI h G) (q + 8) (nI (100 * i0 + i)).toNatClampNeg = nI e.1 := by rw [nI_clamp (by omega)]; exact hst.1
    have key : ∀ t0 : Int32, t0 = nI (bkK e.1) → w_Md_turn_102 R (w_Md_turn_63 R m) Q (nI i0) (nI (100 * i0 + i)) t0 (nI n) (some Q) (wI h G) := fun t0 et => by
      refine p_turn102 M (by omega) h4 (by omega) (by omega) (by omega) ?_
      have e3 : nI (100 * i0 + i) + (-1) = nI (100 * i0 + i) - 1 := (Int32.sub_eq_add_neg _ _).symm
      rw [e3]
      refine p_mturn63 M hQ hn hi0 hs hsc h10 kk m i _ (by omega) (by omega) (fun j e' hj => ?_) ?_ (fun b j hb => ?_)
      · rw [hdrop] at hj
        by_cases cj : j < s.length - (i + 1)
        · rw [List.getElem?_append_left (by omega)] at hj
          exact StM_fr (h3 j e' hj) (fun b b1 b2 => uTb_o _ _ _ (by omega))
        · rw [List.getElem?_append_right (by omega)] at hj
          have hjl := (List.getElem?_eq_some_iff.mp hj).1
          have hjl : j - (((s.drop (i + 1)).reverse).map tnS).length < 1 := hjl
          have ej : j = s.length - (i + 1) := by omega
          subst ej
          rw [ll, Nat.sub_self] at hj
          simp only [List.getElem?_cons_zero, Option.some.injEq] at hj
          subst hj
          exact uTb_st hst et
      · rw [uTb_c]
        congr 1
        omega
      · rw [uTb_o _ _ _ (by omega)]
        exact h5 b j hb
    have bk := (hsc i e hi).2
    refine ⟨fun g => ?_, fun _ => ⟨M.1, q + 8, o3, o1, by rw [wI_L, o2]; exact vp_in_nI (by omega) (by decide), ?_⟩⟩
    · rw [e1] at g
      exact absurd ((nI_lt_iff (by omega) (by omega)).mp g) (by omega)
    · rw [ek, e10]
      refine ⟨fun n1 => ⟨fun n3 => key _ ?_, fun e3 => key _ ?_⟩, fun e1 => key _ ?_⟩
      · have m1 : e.1 ≠ 1 := fun g => n1 (by rw [g]; rfl)
        have m3 : e.1 ≠ 3 := fun g => n3 (by rw [g]; rfl)
        unfold bkK
        rw [if_neg m1, if_neg m3]
      · have m1 : e.1 ≠ 1 := fun g => n1 (by rw [g]; rfl)
        have m3 : e.1 = 3 := nI_inj (by omega) (by decide) e3
        unfold bkK
        rw [if_neg m1, if_pos m3]
        rfl
      · have m1 : e.1 = 1 := nI_inj (by omega) (by decide) e1
        unfold bkK
        rw [if_pos m1]
        rfl

theorem p_Md_turn {h : tpH} {Q q : Nat} (M : lMd h Q q) (hQ : Q < q) {F : Nat → Nat → Int32} {sc : List (List mSt)} (hS : ScM F Q q sc) (h40 : sc.length ≤ 40) (h100 : ∀ s ∈ sc, s.length ≤ 100 ∧ ∀ e ∈ s, e.1 ≤ 3) {y : Int32} {R : Int32 → tpH → Prop} (x1 : lstAt sc y = none → R 0 (wI h (tpu F Q 31 1))) (x2 : ∀ s, lstAt sc y = some s → sc.length = 40 → R 0 (wI h (tpu F Q 31 2)))
    (kk : ∀ s, lstAt sc y = some s → sc.length < 40 → ∀ G, ScM G Q q (sc ++ [tnL s]) → G Q 31 = 0 → (∀ b j, ¬ ((b = Q ∧ (j = 10 ∨ j = 31)) ∨ (q + 7 ≤ b ∧ b ≤ q + 17)) → G b j = F b j) → R (nI sc.length) (wI h G)) : w_Md_turn Q y (wI h F) R := by
  obtain ⟨o1, o2, o3⟩ := md_f M (j := 7) (kd := 15) (n := 41) (f := 11) (by decide)
  have stop : ∀ c : Int32, ¬ c ≤ 0 → R 0 (wI h (tpu F Q 31 c)) → w_Md_turn_27 R Q y c (some Q) (wI h F) := fun c hc hr => by
    refine ⟨Q, rfl, M.1, fun h4 e4 => ?_⟩
    rw [sI_wI, wI_wI, wI_I] at e4
    subst e4
    exact ⟨M.1, fun e => absurd (show tpu F Q 31 c Q 31 ≤ 0 from e) (by rw [tpu_s]; exact hc), fun _ => hr⟩
  refine ⟨M.1, ?_⟩
  rw [e_Md_isScript M h40 hS.1]
  cases e : lstAt sc y with
  | none =>
    rw [if_neg (lst_none e)]
    exact ⟨fun g => absurd rfl g, fun _ => stop 1 (by decide) (x1 e)⟩
  | some s =>
    obtain ⟨c1, c2, c3⟩ := lst_some e
    have cl := lst_cl e
    have hs := h100 s (List.mem_of_getElem? c2)
    rw [if_pos c1]
    have e40 : (40 : Int32) = nI 40 := rfl
    refine ⟨fun _ => ⟨M.1, fun g => ?_, fun g => ?_⟩, fun g => absurd g (by decide)⟩
    · rw [wI_I, hS.1, e40] at g
      have hlt : sc.length < 40 := Nat.lt_of_le_of_ne h40 (fun g2 => g (by rw [g2]))
      refine ⟨Q, rfl, M.1, fun h4 e4 => ?_⟩
      rw [sI_wI, wI_wI, wI_I] at e4
      subst e4
      have e10 : hI (wI h (tpu F Q 31 0)) Q 10 = nI sc.length := by rw [wI_I, tpu_o (by omega)]; exact hS.1
      refine ⟨M.1, fun _ => ⟨q + 7, o3, o1, by rw [e10, wI_L, o2]; exact vp_in_nI (by omega) (by decide), fun h12 e12 => ?_⟩, fun e => absurd (show tpu F Q 31 0 Q 31 ≤ 0 by rw [tpu_s]; decide) e⟩
      rw [e10, nI_clamp (by omega), sI_wI, wI_wI, wI_I] at e12
      subst e12
      have e7 : hI (wI h (tpu (tpu F Q 31 0) (q + 7) sc.length 0)) (q + 7) y.toNatClampNeg = nI s.length := by
        rw [wI_I, cl, tpu_o (by omega), tpu_o (by omega)]
        exact (hS.2 _ s c2).1
      refine ⟨q + 7, o3, o1, by rw [wI_L, o2, c3]; exact vp_in_nI (by omega) (by decide), s.length + 1, ?_⟩
      rw [e7, c3, ix_100]
      rw [← c3]
      have key := p_mturn63 (R := R) M hQ hlt (i0 := y.toInt.toNat) (by omega) (F := tpu (tpu F Q 31 0) (q + 7) sc.length 0) (s := s) hs.1 (fun j e hj => ⟨StM_fr ((hS.2 _ s c2).2 j e hj) (fun b b1 b2 => by rw [tpu_o (by omega), tpu_o (by omega)]), hs.2 e (List.mem_of_getElem? hj)⟩) (by rw [tpu_o (by omega), tpu_o (by omega)]; exact hS.1) (fun G k1 k2 k3 k4 => kk s e hlt G ⟨by rw [k3, List.length_append]; rfl, fun i u hi => ?_⟩ ?_ (fun b j hb => ?_)) (s.length + 1) s.length (tpu (tpu F Q 31 0) (q + 7) sc.length 0) (by omega) (Nat.le_refl _) (fun j e hj => by rw [List.drop_length] at hj; simp at hj) (by rw [tpu_s, Nat.sub_self]; rfl) (fun b j hb => rfl)
      · rw [← c3] at key
        exact key
      · by_cases c : i < sc.length
        · rw [List.getElem?_append_left c] at hi
          obtain ⟨g1, g2⟩ := hS.2 i u hi
          refine ⟨?_, fun j e hj => StM_fr (g2 j e hj) (fun b b1 b2 => ?_)⟩
          · rw [k4 _ _ (by omega), tpu_o (by omega), tpu_o (by omega)]
            exact g1
          · have := (h100 u (List.mem_of_getElem? hi)).1
            have := (List.getElem?_eq_some_iff.mp hj).1
            rw [k4 _ _ (by omega), tpu_o (by omega), tpu_o (by omega)]
        · rw [List.getElem?_append_right (by omega)] at hi
          have hi0 : i = sc.length := by
            have := (List.getElem?_eq_some_iff.mp hi).1
            simp at this
            omega
          subst hi0
          rw [Nat.sub_self] at hi
          simp only [List.getElem?_cons_zero, Option.some.injEq] at hi
          subst hi
          exact ⟨by rw [tnL_len]; exact k2, k1⟩
      · rw [k4 _ _ (by omega), tpu_o (by omega), tpu_s]
      · rw [k4 _ _ (by omega), tpu_o (by omega), tpu_o (by omega)]
    · rw [wI_I, hS.1, e40] at g
      exact stop 2 (by decide) (x2 s e (nI_inj (b := 40) (by omega) (by decide) g))
theorem stM_sc {h : tpH} {Q q mk : Nat} {kd idn : Nat → Int32} {dr : Option mT} {r : mRe} (H : stM h Q q mk kd idn dr r) (hQ : Q < q) (hw : ∀ (i : Nat) (t : mT), r.1[i]? = some t → tWF 300 t) {G : Nat → Nat → Int32} {sc' : List (List mSt)} (hS : ScM G Q q sc') (fr : ∀ b j, ¬ ((b = Q ∧ (j = 10 ∨ j = 31)) ∨ (q + 7 ≤ b ∧ b ≤ q + 17) ∨ (q + 2 ≤ b ∧ b ≤ q + 6 ∧ j ≥ (if b = q + 2 then 41 else 12300)) ∨ (q + 24 ≤ b ∧ b < q + 46)) → G b j = hI h b j) (hw2 : ∀ t, dr = some t → tWF 300 t) : stM (wI h G) Q q mk kd idn dr (r.1, sc', r.2.2) := by
  obtain ⟨m1, m2, m3, m4, m5, m6, m7, m8, m9⟩ := H
  have f2 : ∀ j, j < 41 → G (q + 2) j = hI h (q + 2) j := fun j hj => fr _ _ (fun g => by rw [if_pos rfl] at g; omega)
  have f3 : ∀ b, q + 3 ≤ b → b ≤ q + 6 → ∀ j, j < 12300 → G b j = hI h b j := fun b b1 b2 j hj => fr _ _ (fun g => by rw [if_neg (by omega)] at g; omega)
  have f0 : ∀ b j, (b < q + 2 ∨ (q + 18 ≤ b ∧ b ≤ q + 23)) → ¬ (b = Q ∧ (j = 10 ∨ j = 31)) → G b j = hI h b j := fun b j hb hc => fr _ _ (fun g => by omega)
  refine ⟨m1, MaM_fr m2 (f0 _ _ (by omega) (by omega)) (fun b hb => funext fun j => f0 _ _ (by omega) (by omega)), ?_, FoM_fr m4 hw (f0 _ _ (by omega) (by omega)) (fun j hj => f2 j (by omega)) (fun b b1 b2 j hj => f3 b b1 b2 j (by omega)), hS, (f0 _ _ (by omega) (by omega)).trans m6, fun j hj => (f0 _ _ (by omega) (by omega)).trans (m7 j hj), CfM_fr m8 (f0 _ _ (by omega) (by omega)) (funext fun j => f0 _ _ (by omega) (by omega)), VsM_fr m9 (f0 _ _ (by omega) (by omega)) (fun b b1 b2 i _ => f0 _ _ (by omega) (by omega))⟩
  cases dr with
  | none => exact ⟨(f0 _ _ (by omega) (by omega)).trans m3.1, fun m hm => (f3 _ (by omega) (by omega) _ (by omega)).trans (m3.2 m hm)⟩
  | some u => exact ⟨(f0 _ _ (by omega) (by omega)).trans m3.1, MtP_k (hw2 u rfl) m3.2 (f2 _ (by omega)) (fun b b1 b2 j j1 j2 => f3 b b1 b2 j (by omega))⟩

theorem lw_turn {b L z : Nat} {xs : Nat → Int32} (hL0 : L ≤ 3072) : lwOK (lwI b L z xs) b z (z + 102) (z + 149) (z + 150) L w_Lw_law_760 := by
  intro R K k h I h6 kk
  obtain ⟨hb, hC, mk, kd, idn, rt, dr, r, n, hm, hP, hM, hB⟩ := I
  have vp : ∀ j, j < 6 → ∀ h', lwC b L z xs h' → vp_in (nI (6 * k) + nI j) (hL h' b) := fun j hj h' hC => lw_vp hL0 hC.2.2.2.1 h6 hj
  have hz := hB.2.1
  have hwf := mIn_wf hm
  obtain ⟨hdw, hdm⟩ := mIn_dw hm
  refine ⟨b, rfl, hC.2.2.1, vp 1 (by decide) h hC, z, rfl, hP.1.1, ?_⟩
  rw [hC.2.2.2.2]
  generalize e1 : xs (nI (6 * k) + 1).toNatClampNeg = A1
  refine p_TP_turn hP.1 (by omega) (D := z + 151) (by omega) hz hP.2.2.2.2.2.2.1 (fun s hs => ⟨(hm.2.2.2.1 s hs).1, fun e he => ((hm.2.2.2.1 s hs).2 e he).1⟩) (fun e => Or.inl ⟨rfl, ?_⟩) (fun s e e40 => Or.inr ⟨rfl, ?_⟩) (fun s e hlt h' z1 u1 f1 S1 => lw_put (lwC_fr hC hb hz f1 (fun j g => by omega)).1 ?_)
  · have H := lw_exc (k := k) hb hC hm hP hM hB
    obtain ⟨-, hC7, hM7, -⟩ := id H
    refine ⟨hC7.2.2.1, vp 1 (by decide) _ hC7, z + 102, rfl, hM7.1.1, ?_⟩
    rw [hC7.2.2.2.2, e1]
    exact p_Md_turn hM7.1 (by omega) hM7.2.2.2.2.1 hP.2.2.2.2.2.2.1.2.1 (fun s hs => ⟨(hm.2.2.2.1 s hs).1, fun e he => ((hm.2.2.2.1 s hs).2 e he).1⟩) (fun _ => lw_xt H hwf (by decide) (tpu_s _ _ _ _) (lw_x1 1) kk) (fun s e' => by rw [e] at e'; simp at e') (fun s e' => by rw [e] at e'; simp at e')
  · have H := lw_exc (k := k) hb hC hm hP hM hB
    obtain ⟨-, hC7, hM7, -⟩ := id H
    refine ⟨hC7.2.2.1, vp 1 (by decide) _ hC7, z + 102, rfl, hM7.1.1, ?_⟩
    rw [hC7.2.2.2.2, e1]
    exact p_Md_turn hM7.1 (by omega) hM7.2.2.2.2.1 hP.2.2.2.2.2.2.1.2.1 (fun s hs => ⟨(hm.2.2.2.1 s hs).1, fun e he => ((hm.2.2.2.1 s hs).2 e he).1⟩) (fun e' => by rw [e] at e'; simp at e') (fun _ _ _ => lw_xt H hwf (by decide) (tpu_s _ _ _ _) (lw_x1 2) kk) (fun _ _ g => absurd g (by omega))
  · obtain ⟨c1, c2, c3⟩ := lst_some e
    have hs := hm.2.2.2.1 s (List.mem_of_getElem? c2)
    have hP7 := stP_sc hP (by omega) (by omega) hz f1 (fun b j g => g) (fun b j g => g) S1
    have H := lw_sJ (lw_cls (k := k) hb hC hm hM hB f1 (fun c j g => by omega) (fun c j g => by omega) (mIn_sc hm (by rw [tnL_len]; exact hs.1) (tnL_I hs.2)) hP7 ⟨Nat.le_refl _, hB.1⟩ (by omega) (by omega)) (z + 149) 0 (nI r.2.1.length).toInt64
    obtain ⟨-, hC7, hM7, -⟩ := id H
    refine ⟨hC7.2.2.1, vp 1 (by decide) _ hC7, z + 102, rfl, hM7.1.1, ?_⟩
    rw [hC7.2.2.2.2, e1]
    refine p_Md_turn hM7.1 (by omega) hM7.2.2.2.2.1 hP.2.2.2.2.2.2.1.2.1 (fun s hs => ⟨(hm.2.2.2.1 s hs).1, fun e he => ((hm.2.2.2.1 s hs).2 e he).1⟩) (fun e' => by rw [e] at e'; simp at e') (fun _ _ g => absurd g (by omega)) (fun s' e' _ G k1 k2 k3 => ?_)
    have es : s = s' := by rw [e] at e'; exact Option.some.inj e'
    subst es
    exact lw_tail hM7.1.1 k2 hC7.1 (fun _ => tpu_s _ _ _ _) (kk _ (lw_fin H (fun c j hc => k3 c j (by omega)) (stM_sc hM7 (by omega) hwf k1 (fun c j hc => k3 c j (by omega)) hdw)))

end CASE10
