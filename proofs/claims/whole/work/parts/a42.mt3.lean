section MT3
/-! the matching stays consistent -/
theorem f_inv {α β : Type} {I : α → Prop} {f : α → β → α} : ∀ (l : List β) (P : α), (∀ P x, x ∈ l → I P → I (f P x)) → I P → I (l.foldl f P)
  | [], P, h, i => i
  | x :: l, P, h, i => by
    rw [List.foldl_cons]
    exact f_inv l (f P x) (fun Q y hy q => h Q y (List.mem_cons_of_mem _ hy) q) (h P x (List.mem_cons_self) i)
theorem mayB_n {kd idn : Nat → Int32} {P : mP} {x y : Nat} (h : mayB kd idn P x y = true) : P.1 x = none ∧ P.2 y = none := by
  unfold mayB at h
  rw [Bool.and_eq_true, Bool.and_eq_true] at h
  exact ⟨of_decide_eq_true h.1, of_decide_eq_true h.2.1⟩
theorem pOK_op {t u : mT} {P : mP} (H : pOK t u P) {kd idn : Nat → Int32} {x : Nat} (hx : tIn t x = true) {o : Option Nat} (ho : ∀ y, o = some y → tIn u y = true ∧ mayB kd idn P x y = true) : pOK t u (opP P x o) := by
  cases o with
  | none => exact H
  | some y =>
    have q := ho y rfl
    have n := mayB_n q.2
    exact pOK_p H hx q.1 n.1 n.2
def smI (t u : mT) (P : mP) : Prop := pOK t u P ∧ ∀ x y, P.1 x = some y → x = y
theorem sm_inv {t u : mT} {P : mP} {x : Nat} (hx : tIn t x = true) (H : smI t u P) : smI t u (smS u P x) := by
  unfold smS
  by_cases c : tIn u x = true
  · rw [if_pos c]
    have H2 : ∀ x y, P.2 y = some x → x = y := fun a b e => H.2 a b ((H.1.1 a b).mpr e)
    unfold pP
    refine ⟨⟨fun a b => ?_, fun a b e => ?_⟩, fun a b e => ?_⟩
    · show (if a = x then some x else P.1 a) = some b ↔ (if b = x then some x else P.2 b) = some a
      by_cases c1 : a = x
      · by_cases c2 : b = x
        · rw [if_pos c1, if_pos c2, c1, c2]
        · rw [if_pos c1, if_neg c2]
          exact ⟨fun e => absurd (Option.some.inj e).symm c2, fun e => absurd ((H2 a b e).symm.trans c1) c2⟩
      · by_cases c2 : b = x
        · rw [if_neg c1, if_pos c2]
          exact ⟨fun e => absurd ((H.2 a b e).trans c2) c1, fun e => absurd (Option.some.inj e).symm c1⟩
        · rw [if_neg c1, if_neg c2]
          exact H.1.1 a b
    · have e' : (if a = x then some x else P.1 a) = some b := e
      by_cases c1 : a = x
      · rw [if_pos c1] at e'
        rw [← Option.some.inj e', c1]
        exact ⟨hx, c⟩
      · rw [if_neg c1] at e'
        exact H.1.2 a b e'
    · have e' : (if a = x then some x else P.1 a) = some b := e
      by_cases c1 : a = x
      · rw [if_pos c1] at e'
        exact c1.trans (Option.some.inj e')
      · rw [if_neg c1] at e'
        exact H.2 a b e'
  · rw [if_neg c]
    exact H
theorem rt_inv {t u : mT} (hw : tWF 300 t) (hu : tWF 300 u) {P : mP} (H : pOK t u P) : pOK t u (rtS t u P) := by
  unfold rtS
  by_cases c : P.1 (tRt t) = none ∧ P.2 (tRt u) = none
  · rw [if_pos c]
    exact pOK_p H hw.2.1 hu.2.1 c.1 c.2
  · rw [if_neg c]
    exact H
theorem id_inv {kd idn : Nat → Int32} {t u : mT} (hu : tWF 300 u) {P : mP} {x : Nat} (hx : tIn t x = true) (H : pOK t u P) : pOK t u (idS kd idn u P x) := by
  rw [idS_eq]
  by_cases c : P.1 x = none ∧ idn x ≠ -1
  · rw [if_pos c]
    exact pOK_op H hx (fun y e => ⟨(pO_mem hu).mp (List.mem_of_find?_eq_some e), List.find?_some e⟩)
  · rw [if_neg c]
    exact H
theorem abC_inv {kd idn : Nat → Int32} {t u : mT} (hw : tWF 300 t) {v : Bool} {x c : Nat} (hc : tIn u c = true) {P : mP} (H : pOK t u P) : pOK t u (abC kd idn t u v x P c) := by
  unfold abC
  cases e : (tKi t x).find? (abB kd idn t u v P c) with
  | none => exact H
  | some k =>
    have k1 := List.mem_of_find?_eq_some e
    have k2 := List.find?_some e
    unfold abB at k2
    rw [Bool.and_eq_true] at k2
    have n := mayB_n k2.1
    exact pOK_p H ((hw.1.2.1 k x).mp k1).1 hc n.1 n.2
theorem ab_inv {kd idn : Nat → Int32} {t u : mT} (hw : tWF 300 t) (hu : tWF 300 u) {v : Bool} {y : Nat} {P : mP} (H : pOK t u P) : pOK t u (abS kd idn t u v P y) := by
  unfold abS
  cases P.2 y with
  | none => exact H
  | some x => exact f_inv _ P (fun Q c hc q => abC_inv hw ((hu.1.2.1 c y).mp hc).1 q) H
theorem ls_may {kd idn : Nat → Int32} {t u : mT} {P : mP} {x : Nat} : ∀ (l : List Nat) (s : Option Nat × UInt32) (y : Nat), (l.foldl (lsS kd idn t u P x) s).1 = some y → s.1 = some y ∨ (y ∈ l ∧ mayB kd idn P x y = true)
  | [], s, y, h => Or.inl h
  | z :: l, s, y, h => by
    rw [List.foldl_cons] at h
    rcases ls_may l _ y h with g | g
    · unfold lsS at g
      by_cases c : (mayB kd idn P x z && gtB (lkM t u P x z) s.2) = true
      · rw [if_pos c] at g
        rw [Bool.and_eq_true] at c
        have e : z = y := Option.some.inj g
        exact Or.inr ⟨e ▸ List.mem_cons_self, e ▸ c.1⟩
      · rw [if_neg c] at g
        exact Or.inl g
    · exact Or.inr ⟨List.mem_cons_of_mem _ g.1, g.2⟩
theorem lk_may {kd idn : Nat → Int32} {t u : mT} {P : mP} {x y : Nat} (h : lsK kd idn t u P x = some y) : y ∈ pO u ∧ mayB kd idn P x y = true := by
  rcases ls_may (pO u) _ y h with g | g
  · cases g
  · exact g
theorem be_inv {kd idn : Nat → Int32} {t u : mT} (hu : tWF 300 u) {P : mP} {x : Nat} (hx : tIn t x = true) (H : pOK t u P) : pOK t u (beS kd idn t u P x) :=
  pOK_op H hx (fun y e => ⟨(pO_mem hu).mp (lk_may e).1, (lk_may e).2⟩)
/-! from above: all places -/
theorem p_ab3 {h : tpH} {p mk a mk1 b mk2 : Nat} {t u : mT} {kd idn : Nat → Int32} (X : MX h p mk a mk1 b mk2 t u) {F0 : Nat → Nat → Int32} (C0 : MXF F0 p mk a mk1 b mk2 t u kd idn) {v : Bool} {R : tpH → Prop} :
    ∀ (n i : Nat) (F : Nat → Nat → Int32) (P : mP), i ≤ (pO u).length → (pO u).length < n + i → prFr p F0 F → McP F p t u P → pOK t u P → (∀ G, prFr p F0 G → McP G p t u (((pO u).drop i).foldl (abS kd idn t u v) P) → R (wI h G)) → w_Mt_pairFromAbove_3 R n (p + 50) (some a) (some b) (if v = true then 1 else 0) (nI i) (wI h F)
  | 0, i, F, P, h1, h2, f, M, ok, kk => by omega
  | n + 1, i, F, P, h1, h2, f, M, ok, kk => by
    have C := MXF_fr X C0 (prFr_s f)
    obtain ⟨⟨lm, ll, lt⟩, ⟨la, la2, la3⟩, ⟨lb, lb2, lb3⟩, ⟨hw, hu⟩, hk, ht, hum⟩ := id X
    obtain ⟨t0, x0, x1, ⟨r1, r2⟩, ⟨s1, s2⟩, _⟩ := id lt
    have l4 := pO_le hu
    refine ⟨b, rfl, lb.1, ?_⟩
    rw [wI_I, C.2.2.1]
    by_cases hi : i < (pO u).length
    · obtain ⟨y, ey, py, hy, ny⟩ := dr_cons hu hi
      rw [ey, List.foldl_cons] at kk
      refine ⟨fun g => absurd ((nI_le_iff (by omega) (by omega)).mp g) (by omega), fun _ => ⟨t0, p + 50 + 3, s1, s2.1, p_at (rwL_w s2) (by decide) ?_⟩⟩
      have e2 : rAt (hI (wI h F) (p + 50 + 4)) 300 (nI (pl u y)) = nO ((P.2 y).map (pl t)) := by
        rw [rAt_n (by omega) (by decide)]; exact M.2 y hy
      rw [← py, e2]
      have o1 : pOK t u (abS kd idn t u v P y) := ab_inv hw hu ok
      cases e : P.2 y with
      | none =>
        have ea : abS kd idn t u v P y = P := by unfold abS; rw [e]
        rw [ea] at kk
        refine ⟨1, fun _ => ?_, fun g => absurd rfl g⟩
        rw [nI_1, py]
        exact p_ab3 X C0 n (i + 1) F P (by omega) (by omega) f M ok kk
      | some x =>
        have hx := (ok.2 x y ((ok.1 x y).mpr e)).1
        have ea : abS kd idn t u v P y = (tKi u y).foldl (abC kd idn t u v x) P := by unfold abS; rw [e]
        refine ⟨(tKi u y).length + 1, p_ab26 X C0 hx hy _ 0 F P (Nat.zero_le _) (by omega) f M (fun G q1 q2 => ?_)⟩
        rw [nI_1, py]
        rw [List.drop_zero, ← ea] at q2
        exact p_ab3 X C0 n (i + 1) G _ (by omega) (by omega) q1 q2 o1 kk
    · refine ⟨fun _ => kk F f ?_, fun g => absurd ((nI_le_iff (by omega) (by omega)).mpr (by omega)) g⟩
      rw [List.drop_eq_nil_of_le (by omega)]
      exact M
/-! counting the hits -/
def htFr (p : Nat) (F G : Nat → Nat → Int32) : Prop := ∀ b j, b ≠ p + 60 → G b j = F b j
theorem htFr_tr {p : Nat} {F G H : Nat → Nat → Int32} (h1 : htFr p F G) (h2 : htFr p G H) : htFr p F H := fun b j e => (h2 b j e).trans (h1 b j e)
theorem htFr_s {p : Nat} {F G : Nat → Nat → Int32} (h : htFr p F G) : sFr p F G := fun b j e => h b j (by omega)
theorem McP_ht {p : Nat} {F G : Nat → Nat → Int32} {t u : mT} {P : mP} (h : htFr p F G) (M : McP F p t u P) : McP G p t u P := ⟨fun x hx => (h _ _ (by omega)).trans (M.1 x hx), fun y hy => (h _ _ (by omega)).trans (M.2 y hy)⟩
def hq (t u : mT) (P : mP) (x i j : Nat) : Prop := ∃ z w, tIn t z = true ∧ pl t x < pl t z ∧ pl t z < i ∧ P.1 z = some w ∧ pl u w = j
noncomputable def hqI (t u : mT) (P : mP) (x i j : Nat) : Int32 := @ite _ (hq t u P x i j) (Classical.propDecidable _) 1 0
theorem hqI_1 {t u : mT} {P : mP} {x i j : Nat} (h : hq t u P x i j) : hqI t u P x i j = 1 := by unfold hqI; rw [if_pos h]
theorem hqI_0 {t u : mT} {P : mP} {x i j : Nat} (h : ¬ hq t u P x i j) : hqI t u P x i j = 0 := by unfold hqI; rw [if_neg h]
theorem hqI_e {t u : mT} {P : mP} {x i i' j : Nat} (h : hq t u P x i j ↔ hq t u P x i' j) : hqI t u P x i j = hqI t u P x i' j := by
  by_cases c : hq t u P x i j
  · rw [hqI_1 c, hqI_1 (h.mp c)]
  · rw [hqI_0 c, hqI_0 (fun g => c (h.mpr g))]
theorem hqI_h {t u : mT} {P : mP} {x j : Nat} : hqI t u P x (pE t x) j = if hitB t u P x j = true then 1 else 0 := by
  by_cases c : hq t u P x (pE t x) j
  · rw [hqI_1 c, if_pos (hitB_iff.mpr c)]
  · rw [hqI_0 c, if_neg (fun g => c (hitB_iff.mp g))]
theorem p_h70 {h : tpH} {p mk a mk1 b mk2 : Nat} {t u : mT} {kd idn : Nat → Int32} (X : MX h p mk a mk1 b mk2 t u) {F0 : Nat → Nat → Int32} (C0 : MXF F0 p mk a mk1 b mk2 t u kd idn) {P : mP} {x : Nat} {R : tpH → Prop} (kk : ∀ G, htFr p F0 G → (∀ j, j ≤ (pO u).length → G (p + 60) j = nI (cH t u P x j)) → R (wI h G)) :
    ∀ (n i : Nat) (F : Nat → Nat → Int32), 0 < i → i ≤ (pO u).length + 1 → (pO u).length + 1 < n + i → htFr p F0 F → (∀ j, j < i → F (p + 60) j = nI (cH t u P x j)) → (∀ j, i ≤ j + 1 → j < (pO u).length → F (p + 60) (j + 1) = hqI t u P x (pE t x) j) → w_Mt_countHits_70 R n (p + 50) (some b) (nI i) (wI h F)
  | 0, i, F, h0, h1, h2, f, A, B => by omega
  | n + 1, i, F, h0, h1, h2, f, A, B => by
    have C := MXF_fr X C0 (htFr_s f)
    obtain ⟨⟨lm, ll, lt⟩, ⟨la, la2, la3⟩, ⟨lb, lb2, lb3⟩, ⟨hw, hu⟩, hk, ht, hum⟩ := id X
    obtain ⟨t0, x0, x1, _, _, _, _, ⟨s1, s2⟩⟩ := id lt
    have l4 := pO_le hu
    refine ⟨b, rfl, lb.1, ?_⟩
    rw [wI_I, C.2.2.1]
    by_cases hi : i ≤ (pO u).length
    · refine ⟨fun g => absurd ((nI_lt_iff (by omega) (by omega)).mp g) (by omega), fun _ => ⟨t0, p + 50 + 9, s1, s2.1, p_at (rwL_w s2) (by decide) ⟨t0, p + 50 + 9, s1, s2.1, p_at (rwL_w s2) (by decide) ⟨s2.1, p_put (rwL_w s2) (by decide) ?_⟩⟩⟩⟩
      have e1 : nI i - (1 : Int32) = nI (i - 1) := by rw [Int32.sub_eq_add_neg]; exact nI_dn h0
      have q1 := A (i - 1) (by omega)
      have q2 := B (i - 1) (by omega) (by omega)
      rw [show i - 1 + 1 = i by omega] at q2
      rw [e1, wI_I, rAt_n (by omega) (by decide), rAt_n (by omega) (by decide), rPut_n (by omega) (by decide), wI_wI, show p + 50 + 10 = p + 60 by omega, q1, q2, nI_1]
      refine p_h70 X C0 kk n (i + 1) _ (by omega) (by omega) (by omega) (fun c j hc => by rw [tpu_o (by omega)]; exact f c j hc) (fun j hj => ?_) (fun j hj hj2 => ?_)
      · by_cases c : j = i
        · rw [c, tpu_s]
          have e2 := cH_s t u P x (i - 1)
          rw [show i - 1 + 1 = i by omega] at e2
          rw [e2, hqI_h]
          by_cases c2 : hitB t u P x (i - 1) = true
          · rw [if_pos c2, if_pos c2, Int32.add_comm, nI_1]
          · rw [if_neg c2, if_neg c2, Int32.zero_add, Nat.add_zero]
        · rw [tpu_o (by omega)]
          exact A j (by omega)
      · rw [tpu_o (by omega)]
        exact B j (by omega) hj2
    · refine ⟨fun _ => kk F f (fun j hj => A j (by omega)), fun g => absurd ((nI_lt_iff (by omega) (by omega)).mpr (by omega)) g⟩
theorem p_h19 {h : tpH} {p mk a mk1 b mk2 : Nat} {t u : mT} {kd idn : Nat → Int32} (X : MX h p mk a mk1 b mk2 t u) {F0 : Nat → Nat → Int32} (C0 : MXF F0 p mk a mk1 b mk2 t u kd idn) {P : mP} (M0 : McP F0 p t u P) (ok : pOK t u P) {x : Nat} (hx : tIn t x = true) {R : tpH → Prop} (kk : ∀ G, htFr p F0 G → (∀ j, j ≤ (pO u).length → G (p + 60) j = nI (cH t u P x j)) → R (wI h G)) :
    ∀ (n i : Nat) (F : Nat → Nat → Int32), pl t x < i → i ≤ pE t x → pE t x < n + i → htFr p F0 F → F (p + 60) 0 = 0 → (∀ j, j < (pO u).length → F (p + 60) (j + 1) = hqI t u P x i j) → w_Mt_countHits_19 R n (p + 50) (some a) (nI (pl t x)) (some b) (nI i) (wI h F)
  | 0, i, F, h0, h1, h2, f, A, B => by omega
  | n + 1, i, F, h0, h1, h2, f, A, B => by
    have C := MXF_fr X C0 (htFr_s f)
    have M := McP_ht f M0
    obtain ⟨⟨lm, ll, lt⟩, ⟨la, la2, la3⟩, ⟨lb, lb2, lb3⟩, ⟨hw, hu⟩, hk, ht, hum⟩ := id X
    obtain ⟨t0, x0, x1, ⟨r1, r2⟩, _, _, _, ⟨s1, s2⟩⟩ := id lt
    have l3 := pO_le hw
    have l4 := pO_le hu
    have pn := pE_n hw hx
    have px := pl_lt hw hx
    refine ⟨a, rfl, la.1, ?_⟩
    rw [e_Tr_endOf la l3 la2, rAt_n px (by omega), (C.2.1.2.1 x hx).2.2.2.1]
    by_cases hi : i < pE t x
    · obtain ⟨z, ez, pz, hz, nz⟩ := dr_cons hw (show i < (pO t).length by omega)
      have e1 : rAt (hI (wI h F) (p + 50 + 2)) 300 (nI i) = nO ((P.1 z).map (pl u)) := by
        rw [rAt_n (by omega) (by decide), ← pz]; exact M.1 z hz
      refine ⟨fun g => absurd ((nI_le_iff (by omega) (by omega)).mp g) (by omega), fun _ => ⟨t0, p + 50 + 1, r1, r2.1, p_at (rwL_w r2) (by decide) ?_⟩⟩
      rw [e1]
      cases e : P.1 z with
      | none =>
        refine ⟨fun _ => ?_, fun g => absurd rfl g⟩
        rw [nI_1]
        refine p_h19 X C0 M0 ok hx kk n (i + 1) F (by omega) (by omega) (by omega) f A (fun j hj => (B j hj).trans (hqI_e ⟨fun ⟨z', w, g1, g2, g3, g4⟩ => ⟨z', w, g1, g2, by omega, g4⟩, fun ⟨z', w, g1, g2, g3, g4, g5⟩ => ⟨z', w, g1, g2, ?_, g4, g5⟩⟩))
        by_cases c : pl t z' = i
        · rw [pl_inj hw g1 hz (by omega), e] at g4
          cases g4
        · omega
      | some w =>
        have hwu := (ok.2 z w e).2
        have pw := pl_lt hu hwu
        refine ⟨fun g => absurd g (nI_ne_m (by show pl u w < _; omega)), fun _ => ⟨t0, p + 50 + 1, r1, r2.1, p_at (rwL_w r2) (by decide) ⟨p + 50 + 9, s1, s2.1, p_put (rwL_w s2) (by decide) ?_⟩⟩⟩
        rw [e1, e]
        show w_Mt_countHits_19 R n (p + 50) (some a) (nI (pl t x)) (some b) (nI i + 1) (wI (wI h F) (rPut (hI (wI h F)) (p + 50 + 10) 301 (nI (pl u w) + 1) 1))
        rw [nI_1, nI_1, wI_I, rPut_n (by omega) (by decide), wI_wI, show p + 50 + 10 = p + 60 by omega]
        refine p_h19 X C0 M0 ok hx kk n (i + 1) _ (by omega) (by omega) (by omega) (fun c j hc => by rw [tpu_o (by omega)]; exact f c j hc) (by rw [tpu_o (by omega)]; exact A) (fun j hj => ?_)
        by_cases c : j = pl u w
        · rw [c, tpu_s, hqI_1 ⟨z, w, hz, by omega, by omega, e, rfl⟩]
        · rw [tpu_o (by omega), B j hj]
          refine hqI_e ⟨fun ⟨z', w', g1, g2, g3, g4⟩ => ⟨z', w', g1, g2, by omega, g4⟩, fun ⟨z', w', g1, g2, g3, g4, g5⟩ => ⟨z', w', g1, g2, ?_, g4, g5⟩⟩
          by_cases c2 : pl t z' = i
          · rw [pl_inj hw g1 hz (by omega), e] at g4
            exact absurd ((congrArg (pl u) (Option.some.inj g4)).trans g5).symm c
          · omega
    · refine ⟨fun _ => ⟨(pO u).length + 1, ?_⟩, fun g => absurd ((nI_le_iff (by omega) (by omega)).mpr (by omega)) g⟩
      have ei : i = pE t x := by omega
      rw [ei] at B
      have z1 : (1 : Int32) = nI 1 := rfl
      rw [z1]
      exact p_h70 X C0 kk _ 1 F (by omega) (by omega) (by omega) f (fun j hj => by rw [show j = 0 by omega]; exact A) (fun j _ hj => B j hj)
theorem p_hits {h : tpH} {p mk a mk1 b mk2 : Nat} {t u : mT} {kd idn : Nat → Int32} (X : MX h p mk a mk1 b mk2 t u) {F : Nat → Nat → Int32} (C : MXF F p mk a mk1 b mk2 t u kd idn) {P : mP} (M : McP F p t u P) (ok : pOK t u P) {x : Nat} (hx : tIn t x = true) {R : tpH → Prop} (kk : ∀ G, htFr p F G → (∀ j, j ≤ (pO u).length → G (p + 60) j = nI (cH t u P x j)) → R (wI h G)) : w_Mt_countHits (p + 50) (some a) (nI (pl t x)) (some b) (wI h F) R := by
  obtain ⟨⟨lm, ll, lt⟩, ⟨la, la2, la3⟩, ⟨lb, lb2, lb3⟩, ⟨hw, hu⟩, hk, ht, hum⟩ := id X
  obtain ⟨t0, x0, x1, _, _, _, _, ⟨s1, s2⟩⟩ := id lt
  have l4 := pO_le hu
  have b1 := blw_le hw hx
  refine ⟨t0, b, rfl, lb.1, p + 50 + 9, s1, s2.1, ?_⟩
  rw [wI_I, C.2.2.1, nI_1]
  refine p_fill (rwL_w s2) (by decide) (by omega) ⟨pE t x + 1, ?_⟩
  rw [nI_1, wI_I, wI_wI, show p + 50 + 10 = p + 60 by omega]
  refine p_h19 X C M ok hx kk _ (pl t x + 1) _ (by omega) (by omega) (by omega) (fun c j hc => by rw [rFill_ne hc]) (rFill_in (by omega)) (fun j hj => ?_)
  rw [rFill_in (by omega), hqI_0 (fun ⟨z, w, g1, g2, g3, g4⟩ => by omega)]
theorem p_lkh {h : tpH} {p mk a mk1 b mk2 : Nat} {t u : mT} {kd idn : Nat → Int32} (X : MX h p mk a mk1 b mk2 t u) {F : Nat → Nat → Int32} (C : MXF F p mk a mk1 b mk2 t u kd idn) {P : mP} (ok : pOK t u P) {x y : Nat} (hx : tIn t x = true) (hy : tIn u y = true) (H : ∀ j, j ≤ (pO u).length → F (p + 60) j = nI (cH t u P x j)) {R : UInt32 → tpH → Prop} (kk : R (lkM t u P x y) (wI h F)) : w_Mt_likenessByHits (p + 50) (nI (blw t x)) (some b) (nI (pl u y)) (wI h F) R := by
  obtain ⟨⟨lm, ll, lt⟩, ⟨la, la2, la3⟩, ⟨lb, lb2, lb3⟩, ⟨hw, hu⟩, hk, ht, hum⟩ := id X
  obtain ⟨t0, x0, x1, _, _, _, _, ⟨s1, s2⟩⟩ := id lt
  have l4 := pO_le hu
  have py := pl_lt hu hy
  have b1 := blw_le hw hx
  have b2 := blw_le hu hy
  have pn := pE_n hu hy
  have c1 := cC_le hw P x y (u := u)
  refine ⟨b, rfl, lb.1, ?_⟩
  have e1 : nI (pE u y) - nI (pl u y) - (1 : Int32) = nI (blw u y) := by
    rw [nI_sub2 (by omega), Int32.sub_eq_add_neg]
    exact (nI_dn (by omega)).trans (congrArg nI (by omega))
  rw [e_Tr_below lb l4 lb2, rAt_n py (by omega), (C.2.2.2.1 y hy).2.2.2.1, e1, nI_add]
  unfold lkM at kk
  by_cases c : blw t x + blw u y = 0
  · rw [if_pos c] at kk
    rw [c]
    exact ⟨fun g => absurd g (by decide), fun _ => kk⟩
  · rw [if_neg c] at kk
    have z0 : (0 : Int32) = nI 0 := rfl
    refine ⟨fun _ => ⟨t0, lb.1, ?_⟩, fun g => absurd ((nI_lt_iff (a := 0) (by omega) (by omega)).mpr (by omega)) g⟩
    rw [e_Tr_endOf lb l4 lb2, rAt_n py (by omega), (C.2.2.2.1 y hy).2.2.2.1]
    refine ⟨p + 50 + 9, s1, s2.1, p_at (rwL_w s2) (by decide) ⟨t0, p + 50 + 9, s1, s2.1, p_at (rwL_w s2) (by decide) ?_⟩⟩
    have z2 : (2 : Int32) = nI 2 := rfl
    rw [nI_1, wI_I, rAt_n (by omega) (by decide), rAt_n (by omega) (by decide), show p + 50 + 10 = p + 60 by omega, H _ (by omega), H _ (by omega), cH_cC hw hu ok hx hy, nI_sub2 (by omega), Nat.add_sub_cancel_left, z2, mI_mul]
    exact ⟨fq_ok (by omega) (by omega) c, kk⟩
/-! the likest node, and the walk from below -/
theorem gt_lo {v b : UInt32} (h : (Op.cmpValue (FP.fcmp v (1056964608 : UInt32)) .l) < 0) : gtB v b = false := by unfold gtB; rw [decide_eq_true h]; rfl
theorem gt_le {v b : UInt32} (h : (Op.cmpValue (FP.fcmp v b) .l) ≤ 0) : gtB v b = false := by unfold gtB; rw [decide_eq_true h]; exact Bool.and_false _
theorem gt_y {v b : UInt32} (h1 : ¬ (Op.cmpValue (FP.fcmp v (1056964608 : UInt32)) .l) < 0) (h2 : ¬ (Op.cmpValue (FP.fcmp v b) .l) ≤ 0) : gtB v b = true := by unfold gtB; rw [decide_eq_false h1, decide_eq_false h2]; rfl
theorem e_belo {h : tpH} {a mk : Nat} {w : mT} (l : lTr h a (pO w).length mk) (hk : mk ≤ 300) (hw : tWF 300 w) {F : Nat → Nat → Int32} (H : TrP F a w mk) {m : Nat} (hm : tIn w m = true) (R : Int32 → tpH → Prop) : w_Tr_below a (nI (pl w m)) (wI h F) R = R (nI (blw w m)) (wI h F) := by
  have l4 := pO_le hw
  have py := pl_lt hw hm
  have b2 := blw_le hw hm
  have pn := pE_n hw hm
  have e1 : nI (pE w m) - nI (pl w m) - (1 : Int32) = nI (blw w m) := by
    rw [nI_sub2 (by omega), Int32.sub_eq_add_neg]
    exact (nI_dn (by omega)).trans (congrArg nI (by omega))
  rw [e_Tr_below l l4 hk, rAt_n py (by omega), (H.2.1 m hm).2.2.2.1, e1]
theorem p_lk16 {h : tpH} {p mk a mk1 b mk2 : Nat} {t u : mT} {kd idn : Nat → Int32} (X : MX h p mk a mk1 b mk2 t u) {F : Nat → Nat → Int32} (C : MXF F p mk a mk1 b mk2 t u kd idn) {P : mP} (M : McP F p t u P) (ok : pOK t u P) {x : Nat} (hx : tIn t x = true) (H : ∀ j, j ≤ (pO u).length → F (p + 60) j = nI (cH t u P x j)) {R : Int32 → tpH → Prop} :
    ∀ (n i : Nat) (s : Option Nat × UInt32), i ≤ (pO u).length → (pO u).length < n + i → R (nO (((((pO u).drop i).foldl (lsS kd idn t u P x) s).1).map (pl u))) (wI h F) → w_Mt_likestOf_16 R n (p + 50) (some a) (nI (pl t x)) (some b) (nO (s.1.map (pl u))) s.2 (nI i) (wI h F)
  | 0, i, s, h1, h2, kk => by omega
  | n + 1, i, s, h1, h2, kk => by
    obtain ⟨⟨lm, ll, lt⟩, ⟨la, la2, la3⟩, ⟨lb, lb2, lb3⟩, ⟨hw, hu⟩, hk, ht, hum⟩ := id X
    have l4 := pO_le hu
    refine ⟨b, rfl, lb.1, ?_⟩
    rw [wI_I, C.2.2.1]
    by_cases hi : i < (pO u).length
    · obtain ⟨y, ey, py, hy, ny⟩ := dr_cons hu hi
      rw [ey, List.foldl_cons] at kk
      have no : (mayB kd idn P x y && gtB (lkM t u P x y) s.2) = false → w_Mt_likestOf_16 R n (p + 50) (some a) (nI (pl t x)) (some b) (nO (s.1.map (pl u))) s.2 (nI (pl u y) + 1) (wI h F) := fun g => by
        have e : lsS kd idn t u P x s y = s := by unfold lsS; rw [if_neg (by rw [g]; exact Bool.false_ne_true)]
        rw [e] at kk
        rw [nI_1, py]
        exact p_lk16 X C M ok hx H n (i + 1) s (by omega) (by omega) kk
      refine ⟨fun g => absurd ((nI_le_iff (by omega) (by omega)).mp g) (by omega), fun _ => ⟨lt.1, ?_⟩⟩
      rw [← py]
      refine p_mayPair X C M hx hy (fun e => ⟨fun g => absurd g (by decide), fun _ => ⟨a, rfl, la.1, ?_⟩⟩) (fun e => ⟨fun _ => no (by rw [e]; rfl), fun g => absurd rfl g⟩)
      rw [e_belo la la2 hw C.2.1 hx]
      refine ⟨lt.1, p_lkh X C ok hx hy H ⟨fun g => no (by rw [gt_lo g, Bool.and_false]), fun g1 => ⟨fun g => no (by rw [gt_le g, Bool.and_false]), fun g2 => ?_⟩⟩⟩
      have e3 : lsS kd idn t u P x s y = (some y, lkM t u P x y) := by unfold lsS; rw [if_pos (by rw [e, gt_y g1 g2]; rfl)]
      rw [e3] at kk
      have r := p_lk16 X C M ok hx H n (i + 1) (some y, lkM t u P x y) (by omega) (by omega) kk
      rw [← py, ← nI_1] at r
      exact r
    · refine ⟨fun _ => ?_, fun g => absurd ((nI_le_iff (by omega) (by omega)).mpr (by omega)) g⟩
      rw [List.drop_eq_nil_of_le (by omega)] at kk
      exact kk
theorem p_lkst {h : tpH} {p mk a mk1 b mk2 : Nat} {t u : mT} {kd idn : Nat → Int32} (X : MX h p mk a mk1 b mk2 t u) {F : Nat → Nat → Int32} (C : MXF F p mk a mk1 b mk2 t u kd idn) {P : mP} (M : McP F p t u P) (ok : pOK t u P) {x : Nat} (hx : tIn t x = true) {R : Int32 → tpH → Prop} (kk : ∀ G, htFr p F G → R (nO ((lsK kd idn t u P x).map (pl u))) (wI h G)) : w_Mt_likestOf (p + 50) (some a) (nI (pl t x)) (some b) (wI h F) R := by
  have lt := X.1.2.2
  refine ⟨lt.1, p_hits X C M ok hx (fun G f H => ⟨(pO u).length + 1, ?_⟩)⟩
  have z0 : (0 : Int32) = nI 0 := rfl
  rw [z0]
  exact p_lk16 X (MXF_fr X C (htFr_s f)) (McP_ht f M) ok hx H _ 0 (none, FP.fconst0) (Nat.zero_le _) (by omega) (kk G f)
def bFr (p : Nat) (F G : Nat → Nat → Int32) : Prop := ∀ b j, ¬ (b = p + 52 ∨ b = p + 54 ∨ b = p + 60) → G b j = F b j
theorem bFr_tr {p : Nat} {F G H : Nat → Nat → Int32} (h1 : bFr p F G) (h2 : bFr p G H) : bFr p F H := fun b j e => (h2 b j e).trans (h1 b j e)
theorem bFr_s {p : Nat} {F G : Nat → Nat → Int32} (h : bFr p F G) : sFr p F G := fun b j e => h b j (by omega)
theorem bFr_h {p : Nat} {F G : Nat → Nat → Int32} (h : htFr p F G) : bFr p F G := fun b j e => h b j (by omega)
theorem bFr_p {p : Nat} {F G : Nat → Nat → Int32} (h : prFr p F G) : bFr p F G := fun b j e => h b j (by omega)
theorem p_be7 {h : tpH} {p mk a mk1 b mk2 : Nat} {t u : mT} {kd idn : Nat → Int32} (X : MX h p mk a mk1 b mk2 t u) {F0 : Nat → Nat → Int32} (C0 : MXF F0 p mk a mk1 b mk2 t u kd idn) {R : tpH → Prop} :
    ∀ (n i : Nat) (F : Nat → Nat → Int32) (P : mP), i ≤ (pO t).length → i < n → bFr p F0 F → McP F p t u P → pOK t u P → (∀ G, bFr p F0 G → McP G p t u (((pO t).take i).reverse.foldl (beS kd idn t u) P) → R (wI h G)) → w_Mt_pairFromBelow_7 R n (p + 50) (some a) (some b) (nI i + (-1)) (wI h F)
  | 0, i, F, P, h1, h2, f, M, ok, kk => by omega
  | n + 1, 0, F, P, h1, h2, f, M, ok, kk => ⟨fun _ => kk F f M, fun g => absurd (by decide) g⟩
  | n + 1, i + 1, F, P, h1, h2, f, M, ok, kk => by
    have C := MXF_fr X C0 (bFr_s f)
    obtain ⟨⟨lm, ll, lt⟩, ⟨la, la2, la3⟩, ⟨lb, lb2, lb3⟩, ⟨hw, hu⟩, hk, ht, hum⟩ := id X
    obtain ⟨t0, x0, x1, ⟨r1, r2⟩, ⟨s1, s2⟩, _⟩ := id lt
    have l3 := pO_le hw
    obtain ⟨x, ex, px, hx, nx⟩ := dr_cons hw (show i < (pO t).length by omega)
    have et : (pO t).take (i + 1) = (pO t).take i ++ [x] := by
      rw [List.take_add_one]
      have := pO_at hw hx
      rw [px] at this
      rw [this]
      rfl
    rw [et, List.reverse_append] at kk
    have kk' : ∀ G, bFr p F0 G → McP G p t u (((pO t).take i).reverse.foldl (beS kd idn t u) (beS kd idn t u P x)) → R (wI h G) := kk
    have e0 : nI (i + 1) + (-1 : Int32) = nI i := nI_dn (by omega)
    rw [e0, ← px]
    have e1 : rAt (hI (wI h F) (p + 50 + 2)) 300 (nI (pl t x)) = nO ((P.1 x).map (pl u)) := by
      rw [rAt_n (by omega) (by decide)]; exact M.1 x hx
    have skip : P.1 x ≠ none ∨ tKi t x = [] → w_Mt_pairFromBelow_7 R n (p + 50) (some a) (some b) (nI (pl t x) + (-1)) (wI h F) := fun g => by
      rw [be_skip hw hu hx g] at kk'
      rw [px]
      exact p_be7 X C0 n i F P (by omega) (by omega) f M ok kk'
    refine ⟨fun g => absurd g (nI_pos (by omega)), fun _ => ⟨t0, p + 50 + 1, r1, r2.1, p_at (rwL_w r2) (by decide) ?_⟩⟩
    rw [e1]
    refine ⟨fun g => skip (Or.inl (fun q => g ((nO_pl hu).mpr q))), fun g1 => ⟨a, rfl, la.1, ?_⟩⟩
    rw [e_kids la la2 hw C.2.1 hx]
    have kl := kid_le hw hx
    refine ⟨fun g => skip (Or.inr (List.eq_nil_of_length_eq_zero ?_)), fun g2 => ⟨lt.1, p_lkst X C M ok hx (fun G q1 => ?_)⟩⟩
    · have := (nI_le_iff (b := 0) (by omega) (by omega)).mp g
      omega
    · have M1 := McP_ht q1 M
      have o1 : pOK t u (beS kd idn t u P x) := be_inv hu hx ok
      unfold beS at kk' o1
      cases e : lsK kd idn t u P x with
      | none =>
        rw [e] at kk'
        refine ⟨fun _ => ?_, fun g => absurd rfl g⟩
        rw [px]
        exact p_be7 X C0 n i G P (by omega) (by omega) (bFr_tr f (bFr_h q1)) M1 ok kk'
      | some y =>
        rw [e] at kk' o1
        have hy := (pO_mem hu).mp (lk_may e).1
        have py := pl_lt hu hy
        have l4 := pO_le hu
        refine ⟨fun g => absurd g (nI_ne_m (by show pl u y < _; omega)), fun _ => ⟨lt.1, p_pair X M1 hx hy (fun G2 q2 q3 => ?_)⟩⟩
        rw [px]
        exact p_be7 X C0 n i G2 _ (by omega) (by omega) (bFr_tr (bFr_tr f (bFr_h q1)) (bFr_p q2)) q3 o1 kk'
end MT3
