section MT2
theorem idS_eq (kd idn : Nat → Int32) (u : mT) (P : mP) (x : Nat) : idS kd idn u P x = if P.1 x = none ∧ idn x ≠ -1 then opP P x ((pO u).find? (mayB kd idn P x)) else P := rfl
theorem l_dr {l : List Nat} {i : Nat} (hi : i < l.length) : ∃ x, l.drop i = x :: l.drop (i + 1) ∧ l[i]? = some x ∧ x ∈ l := ⟨l[i], List.drop_eq_getElem_cons hi, List.getElem?_eq_getElem hi, List.getElem_mem hi⟩
theorem e_kid {h : tpH} {a mk : Nat} {w : mT} (l : lTr h a (pO w).length mk) (hk : mk ≤ 300) (hw : tWF 300 w) {F : Nat → Nat → Int32} (H : TrP F a w mk) {m j k : Nat} (hm : tIn w m = true) (e : (tKi w m)[j]? = some k) (R : Int32 → tpH → Prop) : w_Tr_kid a (nI (pl w m)) (nI j) (wI h F) R = R (nI (pl w k)) (wI h F) := by
  have hj := (List.getElem?_eq_some_iff.mp e).1
  have ek := (List.getElem?_eq_some_iff.mp e).2
  have hkm : k ∈ tKi w m := List.mem_of_getElem? e
  have eK : tKi w m = (tKi w m).take j ++ k :: (tKi w m).drop (j + 1) := by
    rw [← ek, ← List.drop_eq_getElem_cons hj, List.take_append_drop]
  have hl : ((tKi w m).take j).length = j := by rw [List.length_take]; omega
  have erk : rkO w k = j := by rw [rkO_mid hw eK, hl]
  obtain ⟨_, _, _, _, _, q6, q7, q8⟩ := H.2.1 m hm
  have q9 := q8 k hkm
  rw [erk] at q9
  have hpl := pl_lt hw hm
  have ple := pO_le hw
  have hkf := kfO_le hw hm
  rw [e_Tr_kid l ple hk, if_neg (nI_pos (by omega)), rAt_n hpl (by omega), q7, if_neg (fun g => absurd ((nI_le_iff (by omega) (by omega)).mp g) (by omega)), rAt_n hpl (by omega), q6, nI_add, rAt_n (by omega) (by omega), q9]
theorem e_kids {h : tpH} {a mk : Nat} {w : mT} (l : lTr h a (pO w).length mk) (hk : mk ≤ 300) (hw : tWF 300 w) {F : Nat → Nat → Int32} (H : TrP F a w mk) {m : Nat} (hm : tIn w m = true) (R : Int32 → tpH → Prop) : w_Tr_kidsOf a (nI (pl w m)) (wI h F) R = R (nI (tKi w m).length) (wI h F) := by
  have hpl := pl_lt hw hm
  have ple := pO_le hw
  rw [e_Tr_kidsOf l ple hk, rAt_n hpl (by omega), (H.2.1 m hm).2.2.2.2.2.2.1]
theorem kid_le {w : mT} (hw : tWF 300 w) {m : Nat} (hm : tIn w m = true) : (tKi w m).length ≤ 300 := by
  have := kfO_le hw hm
  have := pO_le hw
  omega
theorem p_wf3 {h : tpH} {p mk a mk1 b mk2 : Nat} {t u : mT} {kd idn : Nat → Int32} (X : MX h p mk a mk1 b mk2 t u) {F : Nat → Nat → Int32} (C : MXF F p mk a mk1 b mk2 t u kd idn) {P : mP} (M : McP F p t u P) {x : Nat} (hx : tIn t x = true) {R : tpH → Prop} :
    ∀ (n i : Nat), i ≤ (pO u).length → (pO u).length < n + i → (∀ G, prFr p F G → McP G p t u (opP P x (((pO u).drop i).find? (mayB kd idn P x))) → R (wI h G)) → w_Mt_pairWithFirst_3 R n (p + 50) (some a) (nI (pl t x)) (some b) (nI i) (wI h F)
  | 0, i, h1, h2, kk => by omega
  | n + 1, i, h1, h2, kk => by
    obtain ⟨⟨lm, ll, lt⟩, ⟨la, la2, la3⟩, ⟨lb, lb2, lb3⟩, ⟨hw, hu⟩, hk, ht, hum⟩ := id X
    have l4 := pO_le hu
    refine ⟨b, rfl, lb.1, ?_⟩
    rw [wI_I, C.2.2.1]
    by_cases hi : i < (pO u).length
    · obtain ⟨y, ey, py, hy, ny⟩ := dr_cons hu hi
      rw [ey, List.find?_cons] at kk
      refine ⟨fun g => absurd ((nI_le_iff (by omega) (by omega)).mp g) (by omega), fun _ => ⟨lt.1, ?_⟩⟩
      rw [← py]
      refine p_mayPair X C M hx hy (fun e => ⟨fun g => absurd g (by decide), fun _ => ⟨lt.1, p_pair X M hx hy (fun G g1 g2 => ?_)⟩⟩) (fun e => ⟨fun _ => ?_, fun g => absurd rfl g⟩)
      · rw [e] at kk
        exact kk G g1 g2
      · rw [nI_1, py]
        rw [e] at kk
        exact p_wf3 X C M hx n (i + 1) (by omega) (by omega) kk
    · refine ⟨fun _ => kk F (fun _ _ _ => rfl) ?_, fun g => absurd ((nI_le_iff (by omega) (by omega)).mpr (by omega)) g⟩
      rw [List.drop_eq_nil_of_le (by omega)]
      exact M
theorem p_id2 {h : tpH} {p mk a mk1 b mk2 : Nat} {t u : mT} {kd idn : Nat → Int32} (X : MX h p mk a mk1 b mk2 t u) {F0 : Nat → Nat → Int32} (C0 : MXF F0 p mk a mk1 b mk2 t u kd idn) {R : tpH → Prop} :
    ∀ (n i : Nat) (F : Nat → Nat → Int32) (P : mP), i ≤ (pO t).length → (pO t).length < n + i → prFr p F0 F → McP F p t u P → (∀ G, prFr p F0 G → McP G p t u (((pO t).drop i).foldl (idS kd idn u) P) → R (wI h G)) → w_Mt_pairIdentities_2 R n (p + 50) (some a) (some b) (nI i) (wI h F)
  | 0, i, F, P, h1, h2, f, M, kk => by omega
  | n + 1, i, F, P, h1, h2, f, M, kk => by
    have C := MXF_fr X C0 (prFr_s f)
    obtain ⟨⟨lm, ll, lt⟩, ⟨la, la2, la3⟩, ⟨lb, lb2, lb3⟩, ⟨hw, hu⟩, hk, ht, hum⟩ := id X
    obtain ⟨t0, x0, x1, ⟨r1, r2⟩, ⟨s1, s2⟩, _⟩ := id lt
    have l3 := pO_le hw
    refine ⟨a, rfl, la.1, ?_⟩
    rw [wI_I, C.2.1.1]
    by_cases hi : i < (pO t).length
    · obtain ⟨x, ex, px, hx, nx⟩ := dr_cons hw hi
      rw [ex, List.foldl_cons, idS_eq] at kk
      have xm := (ht x hx).1
      have e1 : rAt (hI (wI h F) (p + 50 + 2)) 300 (nI (pl t x)) = nO ((P.1 x).map (pl u)) := by
        rw [rAt_n (by omega) (by decide)]; exact M.1 x hx
      have skip : ¬ (P.1 x = none ∧ idn x ≠ -1) → w_Mt_pairIdentities_2 R n (p + 50) (some a) (some b) (nI (pl t x) + 1) (wI h F) := fun g => by
        rw [if_neg g] at kk
        rw [nI_1, px]
        exact p_id2 X C0 n (i + 1) F P (by omega) (by omega) f M kk
      refine ⟨fun g => absurd ((nI_le_iff (by omega) (by omega)).mp g) (by omega), fun _ => ⟨t0, p + 50 + 1, r1, r2.1, p_at (rwL_w r2) (by decide) ?_⟩⟩
      rw [← px, e1]
      refine ⟨fun g => skip (fun q => g ((nO_pl hu).mpr q.1)), fun g1 => ⟨t0, la.1, ?_⟩⟩
      rw [e_Tr_markOf la l3 la2, rAt_n (by omega) (by omega), (C.2.1.2.1 x hx).1]
      refine ⟨p, x0, lm.1, ?_⟩
      rw [e_Ma_identityOf lm, rAt_n (by omega) n300, (C.1.2 x xm).2]
      refine ⟨fun g => skip (fun q => q.2 g), fun g2 => ⟨t0, (pO u).length + 1, ?_⟩⟩
      rw [if_pos ⟨(nO_pl hu).mp g1, g2⟩] at kk
      refine p_wf3 X C M hx _ 0 (Nat.zero_le _) (by omega) (fun G q1 q2 => ?_)
      rw [nI_1, px]
      exact p_id2 X C0 n (i + 1) G _ (by omega) (by omega) (prFr_tr f q1) q2 kk
    · refine ⟨fun _ => kk F f ?_, fun g => absurd ((nI_le_iff (by omega) (by omega)).mpr (by omega)) g⟩
      rw [List.drop_eq_nil_of_le (by omega)]
      exact M
/-! from above -/
theorem p_ak3 {h : tpH} {p mk a mk1 b mk2 : Nat} {t u : mT} {kd idn : Nat → Int32} (X : MX h p mk a mk1 b mk2 t u) {F : Nat → Nat → Int32} (C : MXF F p mk a mk1 b mk2 t u kd idn) {P : mP} (M : McP F p t u P) {x c : Nat} (hx : tIn t x = true) (hc : tIn u c = true) {v : Bool} {R : tpH → Prop} :
    ∀ (n i : Nat), i ≤ (tKi t x).length → (tKi t x).length < n + i → (∀ G, prFr p F G → McP G p t u (opQ P (((tKi t x).drop i).find? (abB kd idn t u v P c)) c) → R (wI h G)) → w_Mt_pairKid_3 R n (p + 50) (some a) (nI (pl t x)) (some b) (nI (pl u c)) (if v = true then 1 else 0) (nI i) (wI h F)
  | 0, i, h1, h2, kk => by omega
  | n + 1, i, h1, h2, kk => by
    obtain ⟨⟨lm, ll, lt⟩, ⟨la, la2, la3⟩, ⟨lb, lb2, lb3⟩, ⟨hw, hu⟩, hk, ht, hum⟩ := id X
    have l3 := pO_le hw
    have l4 := pO_le hu
    have l5 := kid_le hw hx
    refine ⟨a, rfl, la.1, ?_⟩
    rw [e_kids la la2 hw C.2.1 hx]
    by_cases hi : i < (tKi t x).length
    · obtain ⟨k, ek, e1, hkm⟩ := l_dr hi
      have hkt := ((hw.1.2.1 k x).mp hkm).1
      rw [ek, List.find?_cons] at kk
      have pk := pl_lt hw hkt
      have pc := pl_lt hu hc
      have no : abB kd idn t u v P c k = false → w_Mt_pairKid_3 R n (p + 50) (some a) (nI (pl t x)) (some b) (nI (pl u c)) (if v = true then 1 else 0) (nI i + 1) (wI h F) := fun e => by
        rw [e] at kk
        rw [nI_1]
        exact p_ak3 X C M hx hc n (i + 1) (by omega) (by omega) kk
      have yes : abB kd idn t u v P c k = true → w_Mt_pairKid_55 R (p + 50) (nI (pl u c)) (nI (pl t k)) (wI h F) := fun e => by
        rw [e] at kk
        exact ⟨lt.1, p_pair X M hkt hc kk⟩
      refine ⟨fun g => absurd ((nI_le_iff (by omega) (by omega)).mp g) (by omega), fun _ => ⟨la.1, ?_⟩⟩
      rw [e_kid la la2 hw C.2.1 hx e1]
      refine ⟨lt.1, p_mayPair X C M hkt hc (fun e => ⟨fun g => absurd g (by decide), fun _ => ⟨fun g => yes ?_, fun g => ?_⟩⟩) (fun e => ⟨fun _ => no ?_, fun g => absurd rfl g⟩)⟩
      · unfold abB
        cases v with
        | true => exact absurd g (by decide)
        | false => rw [e]; rfl
      · refine ⟨la.1, ?_⟩
        rw [e_Tr_worthOf la l3 la2, rAt_n pk (by omega), (C.2.1.2.1 k hkt).2.1]
        refine ⟨b, rfl, lb.1, ?_⟩
        rw [e_Tr_worthOf lb l4 lb2, rAt_n pc (by omega), (C.2.2.2.1 c hc).2.1]
        cases v with
        | false => exact absurd rfl g
        | true =>
          refine ⟨fun q => no ?_, fun q => yes ?_⟩
          · unfold abB
            rw [e, decide_eq_false q]; rfl
          · unfold abB
            rw [e, decide_eq_true q]; rfl
      · unfold abB
        rw [e]; rfl
    · refine ⟨fun _ => kk F (fun _ _ _ => rfl) ?_, fun g => absurd ((nI_le_iff (by omega) (by omega)).mpr (by omega)) g⟩
      rw [List.drop_eq_nil_of_le (by omega)]
      exact M
theorem p_ab26 {h : tpH} {p mk a mk1 b mk2 : Nat} {t u : mT} {kd idn : Nat → Int32} (X : MX h p mk a mk1 b mk2 t u) {F0 : Nat → Nat → Int32} (C0 : MXF F0 p mk a mk1 b mk2 t u kd idn) {x y : Nat} (hx : tIn t x = true) (hy : tIn u y = true) {v : Bool} {K : Nat → Option Nat → Option Nat → Int32 → Int32 → tpH → Prop} {R : tpH → Prop} :
    ∀ (n i : Nat) (F : Nat → Nat → Int32) (P : mP), i ≤ (tKi u y).length → (tKi u y).length < n + i → prFr p F0 F → McP F p t u P → (∀ G, prFr p F0 G → McP G p t u (((tKi u y).drop i).foldl (abC kd idn t u v x) P) → K (p + 50) (some a) (some b) (if v = true then 1 else 0) (nI (pl u y) + 1) (wI h G)) → w_Mt_pairFromAbove_26 R K n (p + 50) (some a) (some b) (if v = true then 1 else 0) (nI (pl u y)) (nI (pl t x)) (nI i) (wI h F)
  | 0, i, F, P, h1, h2, f, M, kk => by omega
  | n + 1, i, F, P, h1, h2, f, M, kk => by
    have C := MXF_fr X C0 (prFr_s f)
    obtain ⟨⟨lm, ll, lt⟩, ⟨la, la2, la3⟩, ⟨lb, lb2, lb3⟩, ⟨hw, hu⟩, hk, ht, hum⟩ := id X
    have px := pl_le hw x
    have l5 := kid_le hu hy
    refine ⟨fun g => absurd g (nI_ne_m (by omega)), fun _ => ⟨b, rfl, lb.1, ?_⟩⟩
    rw [e_kids lb lb2 hu C.2.2 hy]
    by_cases hi : i < (tKi u y).length
    · obtain ⟨k, ek, e1, hkm⟩ := l_dr hi
      have hku := ((hu.1.2.1 k y).mp hkm).1
      rw [ek, List.foldl_cons] at kk
      refine ⟨fun g => absurd ((nI_le_iff (by omega) (by omega)).mp g) (by omega), fun _ => ⟨lb.1, ?_⟩⟩
      rw [e_kid lb lb2 hu C.2.2 hy e1]
      refine ⟨lt.1, (tKi t x).length + 1, p_ak3 X C M hx hku _ 0 (Nat.zero_le _) (by omega) (fun G q1 q2 => ?_)⟩
      rw [nI_1]
      exact p_ab26 X C0 hx hy n (i + 1) G _ (by omega) (by omega) (prFr_tr f q1) q2 kk
    · refine ⟨fun _ => kk F f ?_, fun g => absurd ((nI_le_iff (by omega) (by omega)).mpr (by omega)) g⟩
      rw [List.drop_eq_nil_of_le (by omega)]
      exact M
/-- matched nodes stand in their trees, and the matching reads the same both ways -/
def pOK (t u : mT) (P : mP) : Prop := (∀ x y, P.1 x = some y ↔ P.2 y = some x) ∧ ∀ x y, P.1 x = some y → tIn t x = true ∧ tIn u y = true
theorem pOK_p {t u : mT} {P : mP} (H : pOK t u P) {x y : Nat} (hx : tIn t x = true) (hy : tIn u y = true) (f1 : P.1 x = none) (f2 : P.2 y = none) : pOK t u (pP P x y) := by
  refine ⟨fun x' y' => ?_, fun x' y' e => ?_⟩
  · show (if x' = x then some y else P.1 x') = some y' ↔ (if y' = y then some x else P.2 y') = some x'
    by_cases c : x' = x <;> by_cases d : y' = y
    · rw [if_pos c, if_pos d, c, d]; exact ⟨fun _ => rfl, fun _ => rfl⟩
    · rw [if_pos c, if_neg d, c]
      refine ⟨fun e => absurd (Option.some.inj e).symm d, fun e => ?_⟩
      have := (H.1 x y').mpr e
      rw [f1] at this; simp at this
    · rw [if_neg c, if_pos d, d]
      refine ⟨fun e => ?_, fun e => absurd (Option.some.inj e).symm c⟩
      have := (H.1 x' y).mp e
      rw [f2] at this; simp at this
    · rw [if_neg c, if_neg d]; exact H.1 x' y'
  · have e : (if x' = x then some y else P.1 x') = some y' := e
    by_cases c : x' = x
    · rw [if_pos c] at e
      rw [c, ← Option.some.inj e]
      exact ⟨hx, hy⟩
    · rw [if_neg c] at e
      exact H.2 x' y' e
end MT2
