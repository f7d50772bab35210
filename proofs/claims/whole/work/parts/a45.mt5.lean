section MT5
theorem p_w10 {h : tpH} {p mk a mk1 b mk2 : Nat} {t u : mT} {kd idn : Nat → Int32} (X : MX h p mk a mk1 b mk2 t u) {F0 : Nat → Nat → Int32} (C0 : MXF F0 p mk a mk1 b mk2 t u kd idn) {P : mP} {SL : List Nat} (E0 : FamE F0 (p + 37) kd idn t u SL) {x0 y0 : Nat} (H : alH kd idn t u x0 y0) (hN : pnN u P y0 = true) (iS : ∀ z ∈ tPo t x0, z ∈ SL) (iN : ∀ w ∈ tPo u y0, 300 + w ∈ SL) {R : tpH → Prop} (kk : ∀ G, prFr p F0 G → McP G p t u (brS kd idn t u P x0 y0) → R (wI h G)) :
    ∀ (n i : Nat) (F : Nat → Nat → Int32) (Q : mP), pl t x0 ≤ i → i ≤ pE t x0 → pE t x0 < n + i → prFr p F0 F → McP F p t u Q → wIv kd idn t u x0 y0 P (fun c => c = x0 ∨ ∃ q, tUp t c = some q ∧ pl t q < i) Q → w_Mt_pairWithin_10 R n (p + 50) (some a) (nI (pl t x0)) (some b) (nI i) (wI h F)
  | 0, i, F, Q, h0, h1, h2, f, M, I => by omega
  | n + 1, i, F, Q, h0, h1, h2, f, M, I => by
    have C := MXF_fr X C0 (prFr_s f)
    obtain ⟨⟨lm, ll, lt⟩, ⟨la, la2, la3⟩, ⟨lb, lb2, lb3⟩, ⟨hw, hu⟩, hkm, ht, hum⟩ := id X
    obtain ⟨t0, e0, e1, ⟨r1, r2⟩, ⟨s1, s2⟩, _⟩ := id lt
    have hx := H.2.1
    have l3 := pO_le hw
    have pn := pE_n hw hx
    have px := pl_lt hw hx
    refine ⟨a, rfl, la.1, ?_⟩
    rw [e_Tr_endOf la l3 la2, rAt_n px (by omega), (C.2.1.2.1 x0 hx).2.2.2.1]
    by_cases hi : i < pE t x0
    · obtain ⟨z, hz, pz⟩ := pl_of hw (show i < (pO t).length by omega)
      have zx : z ∈ tPo t x0 := (pE_in hw hx hz).mpr ⟨by omega, by omega⟩
      obtain ⟨w, hT⟩ := tT_tot H _ z (Nat.lt_succ_self _) zx
      have q1 := (I.1 z w hT (by
        rcases tPo_up hw.1.2.2.2.1 x0 zx with g | ⟨q, g1, g2⟩
        · exact Or.inl g
        · exact Or.inr ⟨q, ((hw.1.2.1 z q).mp g1).2, by have := pl_kid_lt hw g1; omega⟩)).1
      refine ⟨fun g => absurd ((nI_le_iff (by omega) (by omega)).mp g) (by omega), fun _ => ⟨t0, la.1, ?_⟩⟩
      have e2 : rAt (F (a + 2)) (pO t).length (nI i) = nI z := by rw [← pz, rAt_n (by omega) (by omega)]; exact (C.2.1.2.1 z hz).1
      rw [e_Tr_markOf la l3 la2, e2]
      have zm' := (ht z hz).1
      refine ⟨p, e0, lm.1, ?_⟩
      rw [e_Ma_isLoose lm, rAt_n (by omega) n300, (C.1.2 z zm').1]
      refine ⟨t0, p + 50 + 1, r1, r2.1, p_at (rwL_w r2) (by decide) ⟨(kp kd idn t u z w).length + 1, ?_⟩⟩
      have e3 : rAt (hI (wI h F) (p + 50 + 2)) 300 (nI i) = nI (pl u w) := by
        rw [rAt_n (by omega) (by decide), ← pz]
        have := M.1 z hz
        rw [q1] at this
        exact this
      rw [e3, ← pz]
      have r := p_w49 (R := R) X C0 E0 H hN iS iN hT (x2 := nI (pl t x0)) (K := w_Mt_pairWithin_10 R n) (fun G Q' g1 g2 g3 => by
        rw [nI_1, pz]
        refine p_w10 X C0 E0 H hN iS iN kk n (i + 1) G Q' (by omega) (by omega) (by omega) g1 g2 (wIv_e H g3 (fun c hc => ?_))
        have hcI := tPo_in hw.1 hx c hc
        constructor
        · rintro (g | ⟨q, q1, q2⟩)
          · exact Or.inl g
          · by_cases c2 : pl t q = i
            · have eq : q = z := pl_inj hw (hw.1.2.2.2.2 c q hcI q1) hz (by omega)
              rw [eq] at q1
              exact Or.inr (Or.inr ((hw.1.2.1 c z).mpr ⟨hcI, q1⟩))
            · exact Or.inr (Or.inl ⟨q, q1, by omega⟩)
        · rintro (g | ⟨q, q1, q2⟩ | g)
          · exact Or.inl g
          · exact Or.inr ⟨q, q1, by omega⟩
          · exact Or.inr ⟨z, ((hw.1.2.1 c z).mp g).2, by omega⟩) ((kp kd idn t u z w).length + 1) (kp kd idn t u z w) [] F Q rfl (Nat.lt_succ_self _) f M (wIv_e H I (fun c hc => by
        unfold wD
        rw [pz]
        constructor
        · rintro (g | g | g)
          · exact Or.inl g
          · exact Or.inr g
          · cases g
        · rintro (g | g)
          · exact Or.inl g
          · exact Or.inr (Or.inl g)))
      exact r
    · refine ⟨fun _ => ?_, fun g => absurd ((nI_le_iff (by omega) (by omega)).mpr (by omega)) g⟩
      refine kk F f ?_
      rw [← wIv_end H I (fun z zx => ?_)]
      · exact M
      · rcases tPo_up hw.1.2.2.2.1 x0 zx with g | ⟨q, g1, g2⟩
        · exact Or.inl g
        · exact Or.inr ⟨q, ((hw.1.2.1 z q).mp g1).2, by have := ((pE_in hw hx (tPo_in hw.1 hx q g2)).mp g2).2; omega⟩
theorem p_pw {h : tpH} {p mk a mk1 b mk2 : Nat} {t u : mT} {kd idn : Nat → Int32} (X : MX h p mk a mk1 b mk2 t u) {F0 : Nat → Nat → Int32} (C0 : MXF F0 p mk a mk1 b mk2 t u kd idn) {P : mP} (M : McP F0 p t u P) {SL : List Nat} (E0 : FamE F0 (p + 37) kd idn t u SL) {x0 y0 : Nat} (H : alH kd idn t u x0 y0) (hN : pnN u P y0 = true) (iS : ∀ z ∈ tPo t x0, z ∈ SL) (iN : ∀ w ∈ tPo u y0, 300 + w ∈ SL) {R : tpH → Prop} (kk : ∀ G, prFr p F0 G → McP G p t u (brS kd idn t u P x0 y0) → R (wI h G)) : w_Mt_pairWithin (p + 50) (some a) (nI (pl t x0)) (some b) (nI (pl u y0)) (wI h F0) R := by
  have hw := H.1.1
  refine ⟨X.1.2.2.1, p_pair X M H.2.1 H.2.2.1 (fun G g1 g2 => ⟨pE t x0 + 1, ?_⟩)⟩
  have b1 := blw_le hw H.2.1
  refine p_w10 X C0 E0 H hN iS iN kk _ (pl t x0) G _ (Nat.le_refl _) (by omega) (by omega) g1 g2 ?_
  have i0 : wIv kd idn t u x0 y0 P (fun _ => False) P := ⟨fun _ _ _ g => g.elim, fun _ _ => rfl, fun _ _ => rfl⟩
  have i1 := wIv_p (D' := fun c => c = x0) H i0 tT_0 (fun z => ⟨fun g => Or.inr g, fun g => g.elim (fun q => q.elim) id⟩)
  refine wIv_e H i1 (fun c hc => ⟨fun g => ?_, fun g => Or.inl g⟩)
  rcases g with g | ⟨q, q1, q2⟩
  · exact g
  · rcases tPo_up hw.1.2.2.2.1 x0 hc with g | ⟨q', g1, g2⟩
    · exact g
    · have e := ((hw.1.2.1 c q').mp g1).2
      rw [q1] at e
      have := ((pE_in hw H.2.1 (tPo_in hw.1 H.2.1 q' g2)).mp g2).1
      rw [← Option.some.inj e] at this
      omega
/-! those above are bound -/
def fnFr (p : Nat) (F G : Nat → Nat → Int32) : Prop := ∀ b j, b ≠ p + 58 → G b j = F b j
theorem fnFr_tr {p : Nat} {F G H : Nat → Nat → Int32} (h1 : fnFr p F G) (h2 : fnFr p G H) : fnFr p F H := fun b j e => (h2 b j e).trans (h1 b j e)
theorem fnFr_s {p : Nat} {F G : Nat → Nat → Int32} (h : fnFr p F G) : sFr p F G := fun b j e => h b j (by omega)
theorem p_bn9 {h : tpH} {p mk a mk1 b mk2 : Nat} {t u : mT} {kd idn : Nat → Int32} (X : MX h p mk a mk1 b mk2 t u) {F0 : Nat → Nat → Int32} (C0 : MXF F0 p mk a mk1 b mk2 t u kd idn) {R : tpH → Prop} :
    ∀ (n i : Nat) (c : Option Nat) (F : Nat → Nat → Int32), 0 < n → i ≤ (pO u).length → (∀ cc, c = some cc → tIn u cc = true ∧ i + pl u cc < (pO u).length ∧ pl u cc + 1 < n) → fnFr p F0 F → (∀ G, fnFr p F0 G → (∀ y, tIn u y = true → ((∃ cc, c = some cc ∧ cc ∈ tPo u y) → G (p + 58) (pl u y) = 0) ∧ (¬ (∃ cc, c = some cc ∧ cc ∈ tPo u y) → G (p + 58) (pl u y) = F (p + 58) (pl u y))) → R (wI h G)) → w_Mt_bindAbove_9 R n (p + 50) (some b) (nO (c.map (pl u))) (nI i) (wI h F)
  | 0, i, c, F, h0, h1, h2, f, kk => by omega
  | n + 1, i, c, F, h0, h1, h2, f, kk => by
    have C := MXF_fr X C0 (fnFr_s f)
    obtain ⟨⟨lm, ll, lt⟩, ⟨la, la2, la3⟩, ⟨lb, lb2, lb3⟩, ⟨hw, hu⟩, hkm, ht, hum⟩ := id X
    obtain ⟨t0, e0, e1, _, _, _, ⟨s1, s2⟩, _⟩ := id lt
    have l4 := pO_le hu
    refine ⟨b, rfl, lb.1, ?_⟩
    rw [wI_I, C.2.2.1]
    cases c with
    | none =>
      have k := kk F f (fun y hy => ⟨fun g => (by obtain ⟨cc, e, _⟩ := g; cases e), fun _ => rfl⟩)
      exact ⟨fun _ => k, fun _ => ⟨fun _ => k, fun g => absurd rfl g⟩⟩
    | some cc =>
      obtain ⟨hc, c1, c2⟩ := h2 cc rfl
      refine ⟨fun g => absurd ((nI_le_iff (by omega) (by omega)).mp g) (by omega), fun _ => ⟨fun g => absurd g (nI_ne_m (by show pl u cc < _; omega)), fun _ => ⟨t0, p + 50 + 7, s1, s2.1, p_put (rwL_w s2) (by decide) ⟨lb.1, ?_⟩⟩⟩⟩
      show w_Tr_upOf b (nI (pl u cc)) (wI (wI h F) (rPut (hI (wI h F)) (p + 50 + 8) 300 (nI (pl u cc)) 0)) _
      rw [wI_I, rPut_n (by omega) (by decide), wI_wI, show p + 50 + 8 = p + 58 by omega]
      have f2 : fnFr p F0 (tpu F (p + 58) (pl u cc) 0) := fun c j hc => by rw [tpu_o (by omega)]; exact f c j hc
      rw [e_Tr_upOf lb l4 lb2, rAt_n (by omega) (by omega), ((MXF_fr X C0 (fnFr_s f2)).2.2.2.1 cc hc).2.2.1, nI_1]
      refine p_bn9 X C0 n (i + 1) (tUp u cc) _ (by omega) (by omega) (fun c' e => ?_) f2 (fun G g1 g2 => ?_)
      · have hk : cc ∈ tKi u c' := (hu.1.2.1 cc c').mpr ⟨hc, e⟩
        have := pl_kid_lt hu hk
        exact ⟨hu.1.2.2.2.2 cc c' hc e, by omega, by omega⟩
      · have rem : ∀ y, (∃ d, some cc = some d ∧ d ∈ tPo u y) ↔ (cc = y ∨ ∃ c', tUp u cc = some c' ∧ c' ∈ tPo u y) := fun y => by
          constructor
          · rintro ⟨d, e, m⟩
            rw [← Option.some.inj e] at m
            rcases tPo_up hu.1.2.2.2.1 y m with g | ⟨q, g1, g2⟩
            · exact Or.inl g
            · exact Or.inr ⟨q, ((hu.1.2.1 cc q).mp g1).2, g2⟩
          · rintro (g | ⟨q, g1, g2⟩)
            · exact ⟨cc, rfl, by rw [← g]; exact tPo_self hu.1.2.2.2.1 cc⟩
            · exact ⟨cc, rfl, tPo_kid hu.1.2.2.2.1 ((hu.1.2.1 cc q).mpr ⟨hc, g1⟩) y g2⟩
        refine kk G g1 (fun y hy => ⟨fun g => ?_, fun g => ?_⟩)
        · by_cases r : ∃ c', tUp u cc = some c' ∧ c' ∈ tPo u y
          · exact (g2 y hy).1 r
          · rcases (rem y).mp g with g | g
            · rw [(g2 y hy).2 r, ← g, tpu_s]
            · exact absurd g r
        · have n1 : cc ≠ y := fun e => g ((rem y).mpr (Or.inl e))
          have n2 : ¬ ∃ c', tUp u cc = some c' ∧ c' ∈ tPo u y := fun e => g ((rem y).mpr (Or.inr e))
          rw [(g2 y hy).2 n2, tpu_o (fun e => n1 (pl_inj hu hc hy e.2.symm))]
theorem p_bnd {h : tpH} {p mk a mk1 b mk2 : Nat} {t u : mT} {kd idn : Nat → Int32} (X : MX h p mk a mk1 b mk2 t u) {F : Nat → Nat → Int32} (C : MXF F p mk a mk1 b mk2 t u kd idn) {y0 : Nat} (hy : tIn u y0 = true) {R : tpH → Prop} (kk : ∀ G, fnFr p F G → (∀ y, tIn u y = true → ((y ≠ y0 ∧ y0 ∈ tPo u y) → G (p + 58) (pl u y) = 0) ∧ (¬ (y ≠ y0 ∧ y0 ∈ tPo u y) → G (p + 58) (pl u y) = F (p + 58) (pl u y))) → R (wI h G)) : w_Mt_bindAbove (p + 50) (some b) (nI (pl u y0)) (wI h F) R := by
  obtain ⟨⟨lm, ll, lt⟩, ⟨la, la2, la3⟩, ⟨lb, lb2, lb3⟩, ⟨hw, hu⟩, hkm, ht, hum⟩ := id X
  have l4 := pO_le hu
  have p1 := pl_lt hu hy
  refine ⟨b, rfl, lb.1, ?_⟩
  rw [e_Tr_upOf lb l4 lb2, rAt_n (by omega) (by omega), (C.2.2.2.1 y0 hy).2.2.1]
  have z0 : (0 : Int32) = nI 0 := rfl
  refine ⟨(pO u).length + 2, ?_⟩
  rw [z0]
  have rem : ∀ y, (∃ c', tUp u y0 = some c' ∧ c' ∈ tPo u y) ↔ (y ≠ y0 ∧ y0 ∈ tPo u y) := fun y => by
    constructor
    · rintro ⟨q, g1, g2⟩
      have k := (hu.1.2.1 y0 q).mpr ⟨hy, g1⟩
      refine ⟨fun e => ?_, tPo_kid hu.1.2.2.2.1 k y g2⟩
      rw [e] at g2
      exact no_up hu hy g2 k
    · rintro ⟨g1, g2⟩
      rcases tPo_up hu.1.2.2.2.1 y g2 with g | ⟨q, q1, q2⟩
      · exact absurd g.symm g1
      · exact ⟨q, ((hu.1.2.1 y0 q).mp q1).2, q2⟩
  refine p_bn9 X C _ 0 (tUp u y0) F (by omega) (Nat.zero_le _) (fun c' e => ?_) (fun _ _ _ => rfl) (fun G g1 g2 => kk G g1 (fun y hy2 => ⟨fun g => (g2 y hy2).1 ((rem y).mpr g), fun g => (g2 y hy2).2 (fun q => g ((rem y).mp q))⟩))
  have hk : y0 ∈ tKi u c' := (hu.1.2.1 y0 c').mpr ⟨hy, e⟩
  have := pl_kid_lt hu hk
  exact ⟨hu.1.2.2.2.2 y0 c' hy e, by omega, by omega⟩
/-! the first alike -/
def KN (F : Nat → Nat → Int32) (p : Nat) (u : mT) (SL : List Nat) (Q : mP) : Prop := ∀ y, tIn u y = true → (F (p + 58) (pl u y) = 1 → 300 + y ∈ SL) ∧ ((F (p + 58) (pl u y) = 1 ∧ Q.2 y = none) ↔ pnN u Q y = true)
theorem p_fa2 {h : tpH} {p mk a mk1 b mk2 : Nat} {t u : mT} {kd idn : Nat → Int32} (X : MX h p mk a mk1 b mk2 t u) {F : Nat → Nat → Int32} (C : MXF F p mk a mk1 b mk2 t u kd idn) {Q : mP} (M : McP F p t u Q) {SL : List Nat} (E : FamE F (p + 37) kd idn t u SL) (N : KN F p u SL Q) {x : Nat} (hx : tIn t x = true) (ix : x ∈ SL) {R : Int32 → tpH → Prop} :
    ∀ (n i : Nat), i ≤ (pO u).length → (pO u).length < n + i → R (nO ((((pO u).drop i).find? (fun y => pnN u Q y && akB kd idn t u x y)).map (pl u))) (wI h F) → w_Mt_firstAlike_2 R n (p + 50) (some b) (nI (pl t x)) (nI i) (wI h F)
  | 0, i, h1, h2, kk => by omega
  | n + 1, i, h1, h2, kk => by
    obtain ⟨⟨lm, ll, lt⟩, ⟨la, la2, la3⟩, ⟨lb, lb2, lb3⟩, ⟨hw, hu⟩, hkm, ht, hum⟩ := id X
    obtain ⟨t0, e0, e1, ⟨r1, r2⟩, ⟨s1, s2⟩, _, ⟨q1, q2⟩, _⟩ := id lt
    have l4 := pO_le hu
    refine ⟨b, rfl, lb.1, ?_⟩
    rw [wI_I, C.2.2.1]
    by_cases hi : i < (pO u).length
    · obtain ⟨y, ey, py, hy, ny⟩ := dr_cons hu hi
      rw [ey, List.find?_cons] at kk
      have no : (pnN u Q y && akB kd idn t u x y) = false → w_Mt_firstAlike_2 R n (p + 50) (some b) (nI (pl t x)) (nI i + 1) (wI h F) := fun e => by
        rw [e] at kk
        rw [nI_1]
        exact p_fa2 X C M E N hx ix n (i + 1) (by omega) (by omega) kk
      have nf : ¬ (F (p + 58) (pl u y) = 1 ∧ Q.2 y = none) → w_Mt_firstAlike_2 R n (p + 50) (some b) (nI (pl t x)) (nI i + 1) (wI h F) := fun g => no (by rw [Bool.eq_false_iff.mpr (fun q => g ((N y hy).2.mpr q))]; rfl)
      refine ⟨fun g => absurd ((nI_le_iff (by omega) (by omega)).mp g) (by omega), fun _ => ⟨t0, p + 50 + 7, q1, q2.1, p_at (rwL_w q2) (by decide) ?_⟩⟩
      have e2 : rAt (hI (wI h F) (p + 50 + 4)) 300 (nI i) = nO ((Q.2 y).map (pl t)) := by
        rw [rAt_n (by omega) (by decide), ← py]; exact M.2 y hy
      have e3 : rAt (hI (wI h F) (p + 50 + 8)) 300 (nI i) = F (p + 58) (pl u y) := by
        rw [rAt_n (by omega) (by decide), ← py]; rfl
      rw [e3]
      refine ⟨fun g => nf (fun q => g q.1), fun g1 => ⟨t0, p + 50 + 3, s1, s2.1, p_at (rwL_w s2) (by decide) ?_⟩⟩
      rw [e2]
      refine ⟨fun g => nf (fun q => g ((nO_pl hw).mpr q.2)), fun g2 => ⟨t0, p + 37, e1, ll.1, ?_⟩⟩
      rw [← py]
      refine p_oneF ll hw hu E hx hy ix ((N y hy).1 g1) (fun q => ⟨fun c => absurd c (by decide), fun _ => ?_⟩) (fun q => ⟨fun _ => ?_, fun c => absurd rfl c⟩)
      · have e4 : (pnN u Q y && akB kd idn t u x y) = true := by rw [q, (N y hy).2.mp ⟨g1, (nO_pl hw).mp g2⟩]; rfl
        rw [e4] at kk
        exact kk
      · rw [py]
        exact no (by rw [q, Bool.and_false])
    · refine ⟨fun _ => ?_, fun g => absurd ((nI_le_iff (by omega) (by omega)).mpr (by omega)) g⟩
      rw [List.drop_eq_nil_of_le (by omega)] at kk
      exact kk
/-! all that are alike -/
def alFr (p : Nat) (F G : Nat → Nat → Int32) : Prop := ∀ b j, ¬ (b = p + 52 ∨ b = p + 54 ∨ b = p + 58) → G b j = F b j
theorem alFr_tr {p : Nat} {F G H : Nat → Nat → Int32} (h1 : alFr p F G) (h2 : alFr p G H) : alFr p F H := fun b j e => (h2 b j e).trans (h1 b j e)
theorem alFr_s {p : Nat} {F G : Nat → Nat → Int32} (h : alFr p F G) : sFr p F G := fun b j e => h b j (by omega)
theorem alH_of {kd idn : Nat → Int32} {t u : mT} (hw : tWF 300 t) (hu : tWF 300 u) {P : mP} {x y : Nat} (hx : tIn t x = true) (e : (pO u).find? (fun y => pnN u P y && akB kd idn t u x y) = some y) : alH kd idn t u x y ∧ pnN u P y = true := by
  have m := (pO_mem hu).mp (List.mem_of_find?_eq_some e)
  have s := List.find?_some (p := fun y => pnN u P y && akB kd idn t u x y) e
  have s' : (pnN u P y && akB kd idn t u x y) = true := s
  rw [Bool.and_eq_true] at s'
  exact ⟨⟨⟨hw, hu⟩, hx, m, akB_iff.mp s'.2⟩, s'.1⟩
theorem al_inv {kd idn : Nat → Int32} {t u : mT} (hw : tWF 300 t) (hu : tWF 300 u) {P : mP} {x : Nat} (hx : tIn t x = true) (ok : pOK t u P) : pOK t u (alS kd idn t u P x) := by
  unfold alS
  by_cases c : pnO t P x = true
  · rw [if_pos c]
    cases e : (pO u).find? (fun y => pnN u P y && akB kd idn t u x y) with
    | none => exact ok
    | some y =>
      have q := alH_of hw hu hx e
      exact brS_ok q.1 ok c q.2
  · rw [if_neg c]
    exact ok
def JO (t : mT) (P0 : mP) (i : Nat) (Q : mP) : Prop := (∀ z, P0.1 z ≠ none → Q.1 z = P0.1 z) ∧ ∀ z, Q.1 z ≠ P0.1 z → ∃ x', tIn t x' = true ∧ pl t x' < i ∧ z ∈ tPo t x' ∧ ∀ w ∈ tPo t x', Q.1 w ≠ none
theorem JO_s {t : mT} {P0 Q : mP} {i : Nat} (h : JO t P0 i Q) : JO t P0 (i + 1) Q := ⟨h.1, fun z g => by
  obtain ⟨x', a, b, c⟩ := h.2 z g
  exact ⟨x', a, by omega, c⟩⟩
theorem JO_pl {t : mT} (hw : tWF 300 t) {P0 Q : mP} {x : Nat} (hx : tIn t x = true) (h : JO t P0 (pl t x) Q) (h1 : pnO t P0 x = true) (h2 : Q.1 x = none) : pnO t Q x = true := by
  rw [pnO_iff] at h1 ⊢
  intro z hz
  by_cases c : Q.1 z = P0.1 z
  · rw [c]; exact h1 z hz
  · obtain ⟨x', a, b, d, e⟩ := h.2 z c
    rcases tPo_cmp hw.1 hz x' d with g | g
    · have := ((pE_in hw hx a).mp g).1
      omega
    · exact absurd h2 (e x g)
theorem JO_br {kd idn : Nat → Int32} {t u : mT} {P0 Q : mP} {x y : Nat} (H : alH kd idn t u x y) (h : JO t P0 (pl t x) Q) (h1 : pnO t Q x = true) : JO t P0 (pl t x + 1) (brS kd idn t u Q x y) := by
  rw [pnO_iff] at h1
  refine ⟨fun z g => ?_, fun z g => ?_⟩
  · have e := h.1 z g
    have n : z ∉ tPo t x := fun m => g (by rw [← e]; exact h1 z m)
    rw [brS_o1 n]
    exact e
  · by_cases m : z ∈ tPo t x
    · refine ⟨x, H.2.1, by omega, m, fun w hw => ?_⟩
      obtain ⟨v, hT⟩ := tT_tot H _ w (Nat.lt_succ_self _) hw
      rw [(brS_T H hT).1]
      exact Option.some_ne_none _
    · rw [brS_o1 m] at g
      obtain ⟨x', a, b, c, d⟩ := h.2 z g
      refine ⟨x', a, by omega, c, fun w hw => ?_⟩
      have n : w ∉ tPo t x := fun q => d w hw (h1 w q)
      rw [brS_o1 n]
      exact d w hw
theorem KN_br {kd idn : Nat → Int32} {t u : mT} {Q : mP} {x y : Nat} (H : alH kd idn t u x y) (hN : pnN u Q y = true) {F G : Nat → Nat → Int32} {p : Nat} {SL : List Nat} (N : KN F p u SL Q) (g : ∀ z, tIn u z = true → ((z ≠ y ∧ y ∈ tPo u z) → G (p + 58) (pl u z) = 0) ∧ (¬ (z ≠ y ∧ y ∈ tPo u z) → G (p + 58) (pl u z) = F (p + 58) (pl u z))) : KN G p u SL (brS kd idn t u Q x y) := by
  have hu := H.1.2
  intro z hz
  have na : G (p + 58) (pl u z) = 1 → ¬ (z ≠ y ∧ y ∈ tPo u z) := fun e q => by
    rw [(g z hz).1 q] at e
    exact absurd e (by decide)
  have some' : ∀ w ∈ tPo u y, (brS kd idn t u Q x y).2 w ≠ none := fun w hw => by
    obtain ⟨k, hT⟩ := tT_sur H _ w (Nat.lt_succ_self _) hw
    rw [(brS_T H hT).2]
    exact Option.some_ne_none _
  refine ⟨fun e => (N z hz).1 ?_, ⟨fun e => ?_, fun e => ?_⟩⟩
  · rw [← (g z hz).2 (na e)]; exact e
  · have n := na e.1
    have m : z ∉ tPo u y := fun q => some' z q e.2
    have e1 : F (p + 58) (pl u z) = 1 := by rw [← (g z hz).2 n]; exact e.1
    have e2 : Q.2 z = none := by rw [← brS_o2 (kd := kd) (idn := idn) (t := t) (x0 := x) m]; exact e.2
    have pz := pnN_iff.mp ((N z hz).2.mp ⟨e1, e2⟩)
    refine pnN_iff.mpr (fun w hw => ?_)
    have nw : w ∉ tPo u y := fun q => by
      rcases tPo_cmp hu.1 hw y q with c | c
      · exact n ⟨fun e => m (by rw [e]; exact tPo_self hu.1.2.2.2.1 y), c⟩
      · exact m c
    rw [brS_o2 nw]
    exact pz w hw
  · have pz := pnN_iff.mp e
    have self := pz z (tPo_self hu.1.2.2.2.1 z)
    have ni : ∀ w ∈ tPo u z, w ∉ tPo u y := fun w hw q => some' w q (pz w hw)
    have n : ¬ (z ≠ y ∧ y ∈ tPo u z) := fun q => ni y q.2 (tPo_self hu.1.2.2.2.1 y)
    have pq : pnN u Q z = true := pnN_iff.mpr (fun w hw => by
      have := pz w hw
      rw [brS_o2 (ni w hw)] at this
      exact this)
    rw [(g z hz).2 n]
    exact ⟨((N z hz).2.mpr pq).1, self⟩
theorem p_al2 {h : tpH} {p mk a mk1 b mk2 : Nat} {t u : mT} {kd idn : Nat → Int32} (X : MX h p mk a mk1 b mk2 t u) {F0 : Nat → Nat → Int32} (C0 : MXF F0 p mk a mk1 b mk2 t u kd idn) {P0 : mP} {SL : List Nat} (E0 : FamE F0 (p + 37) kd idn t u SL) (A0 : ∀ x, tIn t x = true → (F0 (p + 56) (pl t x) = 1 ↔ pnO t P0 x = true) ∧ (pnO t P0 x = true → x ∈ SL)) {R : tpH → Prop} :
    ∀ (n i : Nat) (F : Nat → Nat → Int32) (Q : mP), i ≤ (pO t).length → (pO t).length < n + i → alFr p F0 F → McP F p t u Q → pOK t u Q → JO t P0 i Q → KN F p u SL Q → (∀ G, alFr p F0 G → McP G p t u (((pO t).drop i).foldl (alS kd idn t u) Q) → R (wI h G)) → w_Mt_pairAlike_2 R n (p + 50) (some a) (some b) (nI i) (wI h F)
  | 0, i, F, Q, h1, h2, f, M, ok, J, N, kk => by omega
  | n + 1, i, F, Q, h1, h2, f, M, ok, J, N, kk => by
    have C := MXF_fr X C0 (alFr_s f)
    have E := FamE_fr (fun c j h1 h2 => f c j (by omega)) E0
    obtain ⟨⟨lm, ll, lt⟩, ⟨la, la2, la3⟩, ⟨lb, lb2, lb3⟩, ⟨hw, hu⟩, hkm, ht, hum⟩ := id X
    obtain ⟨t0, e0, e1, ⟨r1, r2⟩, ⟨s1, s2⟩, ⟨q1, q2⟩, _⟩ := id lt
    have l3 := pO_le hw
    refine ⟨a, rfl, la.1, ?_⟩
    rw [wI_I, C.2.1.1]
    by_cases hi : i < (pO t).length
    · obtain ⟨x, ex, px, hx, nx⟩ := dr_cons hw hi
      rw [ex, List.foldl_cons] at kk
      rw [← px] at J
      have skip : alS kd idn t u Q x = Q → w_Mt_pairAlike_2 R n (p + 50) (some a) (some b) (nI i + 1) (wI h F) := fun g => by
        rw [g] at kk
        rw [nI_1]
        exact p_al2 X C0 E0 A0 n (i + 1) F Q (by omega) (by omega) f M ok (px ▸ JO_s J) N kk
      have npl : ¬ (pnO t P0 x = true ∧ Q.1 x = none) → alS kd idn t u Q x = Q := fun g => by
        refine if_neg (fun c => g ?_)
        rw [pnO_iff] at c
        refine ⟨pnO_iff.mpr (fun z hz => Classical.byContradiction (fun q => q ?_)), c x (tPo_self hw.1.2.2.2.1 x)⟩
        rw [← J.1 z q]
        exact c z hz
      refine ⟨fun g => absurd ((nI_le_iff (by omega) (by omega)).mp g) (by omega), fun _ => ⟨t0, p + 50 + 5, q1, q2.1, p_at (rwL_w q2) (by decide) ?_⟩⟩
      have e2 : rAt (hI (wI h F) (p + 50 + 6)) 300 (nI i) = F0 (p + 56) (pl t x) := by
        rw [rAt_n (by omega) (by decide), ← px]; exact f _ _ (by omega)
      have e3 : rAt (hI (wI h F) (p + 50 + 2)) 300 (nI i) = nO ((Q.1 x).map (pl u)) := by
        rw [rAt_n (by omega) (by decide), ← px]; exact M.1 x hx
      rw [e2]
      refine ⟨fun g => skip (npl (fun q => g ((A0 x hx).1.mpr q.1))), fun g1 => ⟨t0, p + 50 + 1, r1, r2.1, p_at (rwL_w r2) (by decide) ?_⟩⟩
      rw [e3]
      refine ⟨fun g => skip (npl (fun q => g ((nO_pl hu).mpr q.2))), fun g2 => ⟨t0, (pO u).length + 1, ?_⟩⟩
      have p0 := (A0 x hx).1.mp g1
      have pq := JO_pl hw hx J p0 ((nO_pl hu).mp g2)
      have ix := (A0 x hx).2 p0
      have z0 : (0 : Int32) = nI 0 := rfl
      have eal : alS kd idn t u Q x = alO kd idn t u Q x ((pO u).find? (fun y => pnN u Q y && akB kd idn t u x y)) := if_pos pq
      have o1 := al_inv (kd := kd) (idn := idn) hw hu hx ok
      rw [z0, ← px]
      refine p_fa2 X C M E N hx ix _ 0 (Nat.zero_le _) (by omega) ?_
      rw [List.drop_zero]
      cases e : (pO u).find? (fun y => pnN u Q y && akB kd idn t u x y) with
      | none =>
        rw [e] at eal
        refine ⟨fun _ => ?_, fun g => absurd rfl g⟩
        rw [px]
        exact skip eal
      | some y =>
        rw [e] at eal
        have eal' : alS kd idn t u Q x = brS kd idn t u Q x y := eal
        obtain ⟨H, hN⟩ := alH_of hw hu hx e
        have hy := H.2.2.1
        have py := pl_lt hu hy
        have l4 := pO_le hu
        rw [pnO_iff] at p0
        rw [eal'] at kk o1
        refine ⟨fun g => absurd g (nI_ne_m (by show pl u y < _; omega)), fun _ => ⟨t0, p_pw X C M E H hN (fun z hz => (A0 z (tPo_in hw.1 hx z hz)).2 (pnO_iff.mpr (fun v hv => p0 v (tPo_tr hw.1.2.2.2.1 hz v hv)))) (fun w hw' => ?_) (fun G g1' g2' => ⟨t0, ?_⟩)⟩⟩
        · have hwi := tPo_in hu.1 hy w hw'
          rw [pnN_iff] at hN
          exact (N w hwi).1 ((N w hwi).2.mpr (pnN_iff.mpr (fun v hv => hN v (tPo_tr hu.1.2.2.2.1 hw' v hv)))).1
        · refine p_bnd X (MXF_fr X C (prFr_s g1')) hy (fun G2 k1 k2 => ?_)
          have M2 : McP G2 p t u (brS kd idn t u Q x y) := ⟨fun z hz => (k1 _ _ (by omega)).trans (g2'.1 z hz), fun z hz => (k1 _ _ (by omega)).trans (g2'.2 z hz)⟩
          rw [nI_1, px]
          exact p_al2 X C0 E0 A0 n (i + 1) G2 _ (by omega) (by omega) (fun c j hc => (k1 c j (by omega)).trans ((g1' c j (by omega)).trans (f c j hc))) M2 o1 (px ▸ JO_br H J pq) (KN_br H hN N (fun z hz => ⟨(k2 z hz).1, fun q => ((k2 z hz).2 q).trans (g1' _ _ (by omega))⟩)) kk
    · refine ⟨fun _ => kk F f ?_, fun g => absurd ((nI_le_iff (by omega) (by omega)).mpr (by omega)) g⟩
      rw [List.drop_eq_nil_of_le (by omega)]
      exact M
end MT5
