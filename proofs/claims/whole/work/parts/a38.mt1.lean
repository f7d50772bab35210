section MT1
/-! matching as mathematics: who is matched with whom, both ways -/
theorem pl_le {t : mT} (hw : tWF 300 t) (x : Nat) : pl t x ≤ 300 := by
  have h1 : pl t x ≤ (pO t).length := List.idxOf_le_length
  have h2 := pO_le hw
  omega
theorem nO_pl {t : mT} (hw : tWF 300 t) {o : Option Nat} : nO (o.map (pl t)) = -1 ↔ o = none := by
  cases o with
  | none => exact ⟨fun _ => rfl, fun _ => rfl⟩
  | some k =>
    have := pl_le hw k
    exact ⟨fun e => absurd e (nI_ne_m (by omega)), fun e => by simp at e⟩
/-- what the rooms look like that matching reads -/
def MX (h : tpH) (p mk a mk1 b mk2 : Nat) (t u : mT) : Prop :=
  (lMa h p ∧ lLi h (p + 37) (some p) ∧ lMt h (p + 50) (some p) (some (p + 37))) ∧ (lTr h a (pO t).length mk1 ∧ mk1 ≤ 300 ∧ p + 101 ≤ a) ∧ (lTr h b (pO u).length mk2 ∧ mk2 ≤ 300 ∧ p + 101 ≤ b) ∧
    (tWF 300 t ∧ tWF 300 u) ∧ mk ≤ 300 ∧ (∀ m, tIn t m = true → m < mk ∧ m < mk1) ∧ ∀ m, tIn u m = true → m < mk ∧ m < mk2
def MXF (F : Nat → Nat → Int32) (p mk a mk1 b mk2 : Nat) (t u : mT) (kd idn : Nat → Int32) : Prop := MaP F p mk kd idn ∧ TrP F a t mk1 ∧ TrP F b u mk2
def sFr (p : Nat) (F G : Nat → Nat → Int32) : Prop := ∀ b j, ¬ (p + 37 ≤ b ∧ b ≤ p + 60) → G b j = F b j
def prFr (p : Nat) (F G : Nat → Nat → Int32) : Prop := ∀ b j, ¬ (b = p + 52 ∨ b = p + 54) → G b j = F b j
theorem prFr_tr {p : Nat} {F G H : Nat → Nat → Int32} (h1 : prFr p F G) (h2 : prFr p G H) : prFr p F H := fun b j hb => (h2 b j hb).trans (h1 b j hb)
theorem prFr_s {p : Nat} {F G : Nat → Nat → Int32} (h : prFr p F G) : sFr p F G := fun b j hb => h b j (by omega)
theorem sFr_tr {p : Nat} {F G H : Nat → Nat → Int32} (h1 : sFr p F G) (h2 : sFr p G H) : sFr p F H := fun b j hb => (h2 b j hb).trans (h1 b j hb)
theorem TrP_kb {a mk : Nat} {F G : Nat → Nat → Int32} {t : mT} (f : ∀ b, a ≤ b → b < a + 19 → G b = F b) (H : TrP F a t mk) : TrP G a t mk := by
  unfold TrP at H ⊢
  rw [f a (by omega) (by omega), f (a + 2) (by omega) (by omega), f (a + 4) (by omega) (by omega), f (a + 6) (by omega) (by omega), f (a + 8) (by omega) (by omega), f (a + 10) (by omega) (by omega), f (a + 12) (by omega) (by omega), f (a + 14) (by omega) (by omega), f (a + 16) (by omega) (by omega), f (a + 18) (by omega) (by omega)]
  exact H
theorem MXF_fr {h : tpH} {p mk a mk1 b mk2 : Nat} {t u : mT} {kd idn : Nat → Int32} (X : MX h p mk a mk1 b mk2 t u) {F G : Nat → Nat → Int32} (C : MXF F p mk a mk1 b mk2 t u kd idn) (f : sFr p F G) : MXF G p mk a mk1 b mk2 t u kd idn := by
  have h1 := X.2.1.2.2
  have h2 := X.2.2.1.2.2
  exact ⟨MaP_k C.1 (fun c c1 c2 => funext fun j => f c j (by omega)), TrP_kb (fun c c1 c2 => funext fun j => f c j (by omega)) C.2.1, TrP_kb (fun c c1 c2 => funext fun j => f c j (by omega)) C.2.2⟩
theorem p_pair {h : tpH} {p mk a mk1 b mk2 : Nat} {t u : mT} (X : MX h p mk a mk1 b mk2 t u) {F : Nat → Nat → Int32} {P : mP} (M : McP F p t u P) {x y : Nat} (hx : tIn t x = true) (hy : tIn u y = true) {R : tpH → Prop} (kk : ∀ G, prFr p F G → McP G p t u (pP P x y) → R (wI h G)) : w_Mt_pair (p + 50) (nI (pl t x)) (nI (pl u y)) (wI h F) R := by
  obtain ⟨⟨lm, ll, lt⟩, ⟨la, la2, la3⟩, ⟨lb, lb2, lb3⟩, ⟨hw, hu⟩, hk, ht, hum⟩ := X
  obtain ⟨t0, x0, x1, ⟨r1, r2⟩, ⟨s1, s2⟩, _⟩ := id lt
  have hpx := pl_lt hw hx
  have hpy := pl_lt hu hy
  have l3 := pO_le hw
  have l4 := pO_le hu
  refine ⟨t0, p + 50 + 1, r1, r2.1, p_put (rwL_w r2) (by decide) ?_⟩
  rw [wI_I, rPut_n (by omega) (by decide), wI_wI]
  refine ⟨t0, p + 50 + 3, s1, s2.1, p_put (rwL_w s2) (by decide) ?_⟩
  rw [wI_I, rPut_n (by omega) (by decide), wI_wI]
  refine kk _ (fun c j hc => by rw [tpu_o (by omega), tpu_o (by omega)]) ⟨fun z hz => ?_, fun z hz => ?_⟩
  · rw [tpu_o (by omega)]
    unfold pP
    by_cases c : z = x
    · subst c
      rw [show p + 52 = p + 50 + 2 by omega, tpu_s]
      simp only [if_true]
      rfl
    · rw [tpu_o (fun e => c (pl_inj hw hz hx e.2))]
      simp only [if_neg c]
      exact M.1 z hz
  · unfold pP
    by_cases c : z = y
    · subst c
      rw [show p + 54 = p + 50 + 4 by omega, tpu_s]
      simp only [if_true]
      rfl
    · rw [tpu_o (fun e => c (pl_inj hu hz hy e.2)), tpu_o (by omega)]
      simp only [if_neg c]
      exact M.2 z hz
theorem p_mayPair {h : tpH} {p mk a mk1 b mk2 : Nat} {t u : mT} {kd idn : Nat → Int32} (X : MX h p mk a mk1 b mk2 t u) {F : Nat → Nat → Int32} (C : MXF F p mk a mk1 b mk2 t u kd idn) {P : mP} (M : McP F p t u P) {x y : Nat} (hx : tIn t x = true) (hy : tIn u y = true) {R : Int32 → tpH → Prop} (k1 : mayB kd idn P x y = true → R 1 (wI h F)) (k0 : mayB kd idn P x y = false → R 0 (wI h F)) : w_Mt_mayPair (p + 50) (some a) (nI (pl t x)) (some b) (nI (pl u y)) (wI h F) R := by
  obtain ⟨⟨lm, ll, lt⟩, ⟨la, la2, la3⟩, ⟨lb, lb2, lb3⟩, ⟨hw, hu⟩, hk, ht, hum⟩ := X
  obtain ⟨t0, x0, x1, ⟨r1, r2⟩, ⟨s1, s2⟩, _⟩ := id lt
  have hpx := pl_lt hw hx
  have hpy := pl_lt hu hy
  have l3 := pO_le hw
  have l4 := pO_le hu
  refine ⟨t0, p + 50 + 1, r1, r2.1, p_at (rwL_w r2) (by decide) ?_⟩
  have e1 : rAt (hI (wI h F) (p + 50 + 2)) 300 (nI (pl t x)) = nO ((P.1 x).map (pl u)) := by
    rw [rAt_n (by omega) (by decide)]; exact M.1 x hx
  have e2 : rAt (hI (wI h F) (p + 50 + 4)) 300 (nI (pl u y)) = nO ((P.2 y).map (pl t)) := by
    rw [rAt_n (by omega) (by decide)]; exact M.2 y hy
  rw [e1]
  refine ⟨fun g => k0 ?_, fun g1 => ⟨t0, p + 50 + 3, s1, s2.1, p_at (rwL_w s2) (by decide) ?_⟩⟩
  · unfold mayB
    rw [decide_eq_false (fun e => g ((nO_pl hu).mpr e))]
    rfl
  · rw [e2]
    refine ⟨fun g => k0 ?_, fun g2 => ⟨t0, a, rfl, la.1, ?_⟩⟩
    · unfold mayB
      rw [decide_eq_false (fun e => g ((nO_pl hw).mpr e)), Bool.false_and, Bool.and_false]
    · rw [e_Tr_markOf la l3 la2, rAt_n hpx (by omega), (C.2.1.2.1 x hx).1]
      refine ⟨b, rfl, lb.1, ?_⟩
      rw [e_Tr_markOf lb l4 lb2, rAt_n hpy (by omega), (C.2.2.2.1 y hy).1]
      refine ⟨p, x0, lm.1, ?_⟩
      have xm := (ht x hx).1
      have ym := (hum y hy).1
      rw [e_Ma_agree lm, rAt_n (by omega) n300, rAt_n (by omega) n300, rAt_n (by omega) n300, rAt_n (by omega) n300, (C.1.2 x xm).1, (C.1.2 x xm).2, (C.1.2 y ym).1, (C.1.2 y ym).2]
      by_cases c : kd x = kd y ∧ idn x = idn y
      · rw [if_pos c]
        refine ⟨fun g => absurd g (by decide), fun _ => k1 ?_⟩
        unfold mayB
        rw [decide_eq_true ((nO_pl hu).mp g1), decide_eq_true ((nO_pl hw).mp g2), decide_eq_true c.1, decide_eq_true c.2]
        rfl
      · rw [if_neg c]
        refine ⟨fun _ => k0 ?_, fun g => absurd rfl g⟩
        unfold mayB
        cases q1 : decide (kd x = kd y) with
        | false => rw [Bool.false_and, Bool.and_false, Bool.and_false]
        | true =>
          have q2 : decide (idn x = idn y) = false := decide_eq_false (fun e => c ⟨of_decide_eq_true q1, e⟩)
          rw [q2, Bool.and_false, Bool.and_false, Bool.and_false]
theorem p_sm2 {h : tpH} {p mk a mk1 b mk2 : Nat} {t u : mT} {kd idn : Nat → Int32} (X : MX h p mk a mk1 b mk2 t u) {F0 : Nat → Nat → Int32} (C0 : MXF F0 p mk a mk1 b mk2 t u kd idn) {R : tpH → Prop} :
    ∀ (n i : Nat) (F : Nat → Nat → Int32) (P : mP), i ≤ (pO t).length → (pO t).length < n + i → prFr p F0 F → McP F p t u P → (∀ G, prFr p F0 G → McP G p t u (((pO t).drop i).foldl (smS u) P) → R (wI h G)) → w_Mt_pairSameMarks_2 R n (p + 50) (some a) (some b) (nI i) (wI h F)
  | 0, i, F, P, h1, h2, f, M, kk => by omega
  | n + 1, i, F, P, h1, h2, f, M, kk => by
    have C := MXF_fr X C0 (prFr_s f)
    obtain ⟨⟨lm, ll, lt⟩, ⟨la, la2, la3⟩, ⟨lb, lb2, lb3⟩, ⟨hw, hu⟩, hk, ht, hum⟩ := id X
    have l3 := pO_le hw
    have l4 := pO_le hu
    refine ⟨a, rfl, la.1, ?_⟩
    rw [wI_I, C.2.1.1]
    by_cases hi : i < (pO t).length
    · obtain ⟨x, ex, px, hx, nx⟩ := dr_cons hw hi
      rw [ex, List.foldl_cons] at kk
      have xm := (ht x hx).1
      refine ⟨fun g => absurd ((nI_le_iff (by omega) (by omega)).mp g) (by omega), fun _ => ?_⟩
      rw [← px, e_Tr_markOf la l3 la2, rAt_n (by omega) (by omega), (C.2.1.2.1 x hx).1]
      refine ⟨b, rfl, lb.1, ?_⟩
      rw [e_Tr_placeOf lb l4 lb2, tr_pl C.2.2 lb2 (fun m hm => (hum m hm).2) (by omega)]
      by_cases c : tIn u x = true
      · have := pl_lt hu c
        rw [if_pos c]
        refine ⟨fun g => absurd g (nI_ne_m (by omega)), fun _ => ⟨lt.1, p_pair X M hx c (fun G g1 g2 => ?_)⟩⟩
        rw [nI_1, px]
        refine p_sm2 X C0 n (i + 1) G _ (by omega) (by omega) (prFr_tr f g1) g2 ?_
        rw [show smS u P x = pP P x x from if_pos c] at kk
        exact kk
      · rw [if_neg c]
        refine ⟨fun _ => ?_, fun g => absurd rfl g⟩
        rw [nI_1, px]
        refine p_sm2 X C0 n (i + 1) F P (by omega) (by omega) f M ?_
        rw [show smS u P x = P from if_neg c] at kk
        exact kk
    · refine ⟨fun _ => kk F f ?_, fun g => absurd ((nI_le_iff (by omega) (by omega)).mpr (by omega)) g⟩
      rw [List.drop_eq_nil_of_le (by omega)]
      exact M
theorem p_rt {h : tpH} {p mk a mk1 b mk2 : Nat} {t u : mT} (X : MX h p mk a mk1 b mk2 t u) {F : Nat → Nat → Int32} {P : mP} (M : McP F p t u P) {R : tpH → Prop} (kk : ∀ G, prFr p F G → McP G p t u (rtS t u P) → R (wI h G)) : w_Mt_pairRoots (p + 50) (wI h F) R := by
  obtain ⟨⟨lm, ll, lt⟩, ⟨la, la2, la3⟩, ⟨lb, lb2, lb3⟩, ⟨hw, hu⟩, hk, ht, hum⟩ := id X
  obtain ⟨t0, x0, x1, ⟨r1, r2⟩, ⟨s1, s2⟩, _⟩ := id lt
  have z0 : (0 : Int32) = nI (pl t (tRt t)) := by rw [pl_rt hw]; decide
  have z1 : (0 : Int32) = nI (pl u (tRt u)) := by rw [pl_rt hu]; decide
  have l3 := pl_lt hw hw.2.1
  have l4 := pl_lt hu hu.2.1
  have l5 := pO_le hw
  have l6 := pO_le hu
  refine ⟨t0, p + 50 + 1, r1, r2.1, p_at (rwL_w r2) (by decide) ?_⟩
  have e1 : rAt (hI (wI h F) (p + 50 + 2)) 300 0 = nO ((P.1 (tRt t)).map (pl u)) := by
    rw [z0, rAt_n (by omega) (by decide)]; exact M.1 _ hw.2.1
  have e2 : rAt (hI (wI h F) (p + 50 + 4)) 300 0 = nO ((P.2 (tRt u)).map (pl t)) := by
    rw [z1, rAt_n (by omega) (by decide)]; exact M.2 _ hu.2.1
  have no : ¬ (P.1 (tRt t) = none ∧ P.2 (tRt u) = none) → R (wI h F) := fun g => by
    refine kk F (fun _ _ _ => rfl) ?_
    rw [show rtS t u P = P from if_neg g]
    exact M
  rw [e1]
  refine ⟨fun g => no (fun e => g ((nO_pl hu).mpr e.1)), fun g1 => ⟨t0, p + 50 + 3, s1, s2.1, p_at (rwL_w s2) (by decide) ?_⟩⟩
  rw [e2]
  refine ⟨fun g => no (fun e => g ((nO_pl hw).mpr e.2)), fun g2 => ⟨t0, ?_⟩⟩
  have k := p_pair X M hw.2.1 hu.2.1 (R := R) (fun G f g => by
    refine kk G f ?_
    rw [show rtS t u P = pP P (tRt t) (tRt u) from if_pos ⟨(nO_pl hu).mp g1, (nO_pl hw).mp g2⟩]
    exact g)
  rw [← z0, ← z1] at k
  exact k
end MT1
