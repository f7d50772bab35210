section FD4
theorem p_St_late {h1 h3 : tpH} {p D : Nat} (hz : p + 101 ≤ hZ h1) (hD : D ≤ hZ h1) (f : hFr (nC h1 11 0 6) h3 no2 no2) {k m : Nat} {wb wa : Int32} {w g : mSp} {u v : Nat} (hu : SpP h3 p D u w) (hv : SpP h3 p D v g) {R : tpH → Prop} (kk : ∀ h', StP h' p D (hZ h1) (k, m, wb, wa, w, g) → hFr h1 h' no2 no2 → hZ h' = hZ h3 → hU h' = hU h3 → R h') : hT h3 (hZ h1) = 11 ∧ w_St_init (hZ h1) (nI k) (nI m) wb wa (some u) (some v) h3 R := by
  have zc : hZ (nC h1 11 0 6) = hZ h1 + 1 := rfl
  have t0 : hT h3 (hZ h1) = 11 := by rw [(f.2 (hZ h1) (by omega)).1]; exact tpn_s _ _ _
  have z3 := f.1
  refine ⟨t0, t0, fun h2 e2 h4 e4 h6 e6 h8 e8 h10 e10 h12 e12 => ?_⟩
  have eT : hT h12 = hT h3 := by rw [e12, e10, e8, e6, e4, e2]; rfl
  have eL : hL h12 = hL h3 := by rw [e12, e10, e8, e6, e4, e2]; rfl
  have eJ : hJ h12 = hJ h3 := by rw [e12, e10, e8, e6, e4, e2]; rfl
  have eF : hF h12 = hF h3 := by rw [e12, e10, e8, e6, e4, e2]; rfl
  have eI : hI h12 = tpu (tpu (tpu (tpu (hI h3) (hZ h1) 0 (nI k)) (hZ h1) 1 (nI m)) (hZ h1) 2 wb) (hZ h1) 3 wa := by rw [e12, e10, e8, e6, e4, e2]; rfl
  have eR : hR h12 = tpu (tpu (hR h3) (hZ h1) 4 (some u)) (hZ h1) 5 (some v) := by rw [e12, e10, e8, e6, e4, e2]; rfl
  have eZ : hZ h12 = hZ h3 := by rw [e12, e10, e8, e6, e4, e2]; rfl
  have eU : hU h12 = hU h3 := by rw [e12, e10, e8, e6, e4, e2]; rfl
  have f2 : hFr h1 h12 no2 no2 := ⟨by omega, fun b hb => by
    obtain ⟨q1, q2, q3, q4, q5, q6⟩ := hSm_nC h1 11 0 6 b hb
    obtain ⟨r1, r2, r3, r4, r5, r6⟩ := f.2 b (by omega)
    refine ⟨by rw [eT, r1]; exact q1, by rw [eL, r2]; exact q2, by rw [eJ, r3]; exact q5, by rw [eF, r4]; exact q6, fun j _ => ?_, fun j _ => ?_⟩
    · rw [eI, tpu_fa _ _ _ _ _ (by omega), tpu_fa _ _ _ _ _ (by omega), tpu_fa _ _ _ _ _ (by omega), tpu_fa _ _ _ _ _ (by omega), r5 j (fun g => g.elim), q4]
    · rw [eR, tpu_fa _ _ _ _ _ (by omega), tpu_fa _ _ _ _ _ (by omega), r6 j (fun g => g.elim), q3]⟩
  have sp : ∀ {b s}, SpP h3 p D b s → SpP h12 p D b s := fun {b s} H => by
    obtain ⟨s0, s1, s2, s3, s4⟩ := H
    have nb : b ≠ hZ h1 := fun q => by rw [q, t0] at s1; cases s1
    have eb : hI h12 b = hI h3 b := by rw [eI, tpu_fa _ _ _ _ _ nb, tpu_fa _ _ _ _ _ nb, tpu_fa _ _ _ _ _ nb, tpu_fa _ _ _ _ _ nb]
    exact ⟨s0.elim Or.inl (fun q => Or.inr ⟨q.1, by omega⟩), by rw [eT]; exact s1, by rw [eb]; exact s2, by rw [eb]; exact s3, by rw [eb]; exact s4⟩
  refine kk h12 ⟨⟨hD, by omega⟩, by rw [eT]; exact t0, ?_, ?_, ?_, ?_, ⟨u, ?_, sp hu⟩, v, ?_, sp hv⟩ f2 eZ eU
  · rw [eI]; simp [tpu]
  · rw [eI]; simp [tpu]
  · rw [eI]; simp [tpu]
  · rw [eI]; simp [tpu]
  · rw [eR]; simp [tpu]
  · rw [eR]; simp [tpu]
theorem aK_last {K : List Nat} (hn : K.Nodup) {a : Option Nat} (ha : ∀ b, a = some b → b ∈ K) : lastO (K.take (aK K a)) = nO a := by
  cases a with
  | none => rfl
  | some b =>
    show nO (K.take (K.idxOf b + 1)).getLast? = nO (some b)
    rw [take_ix1 hn (ha b rfl)]
theorem p_cHang {h : tpH} {p : Nat} (lb : lBu h (p + 20) (some p)) (lm : lMa h p) {F : Nat → Nat → Int32} {c : mT} (hB : BuP F (p + 20) c) (hw : fWF 300 c) {m r : Nat} (hi : tIn c m = true) (hup : tUp c m = none) (hr : tIn c r = true) {a : Option Nat} (ha : ∀ b, a = some b → b ∈ tKi c r) {lo : Bool} (hlo : F (p + 2) r < 4 ↔ lo = false) {R : tpH → Prop} (kk : ∀ G, BuP G (p + 20) (tHng c m r (inKids lo (tKi c r) m (aK (tKi c r) a))) → (∀ b, b ≠ p + 26 → b ≠ p + 28 → b ≠ p + 30 → b ≠ p + 32 → b ≠ p + 34 → G b = F b) → R (wI h G)) : w_Bu_hang (p + 20) (nI m) (nI r) (nO a) (wI h F) R := by
  obtain ⟨hB2, hf2⟩ := bu_hng hB hw (p := r) hi hup hr (in_split lo (tKi c r) m (aK (tKi c r) a))
  rw [← aK_last (hw.2.2.1 r) ha]
  exact p_Bu_hang lb lm (BuP_L hB) hw hr (hw.1 m hi) hlo (kk _ hB2 (fun b b1 b2 b3 b4 b5 => hf2 b b1 b2 b3 b4 b5))
theorem mvB_s (lo : Nat → Bool) (c : mT) (x r b : Nat) : mvB lo c x r (some b) = (!decide (tUp c x = some r) || (!lo r && decide (x ∈ (tKi c r).take ((tKi c r).idxOf b)))) := rfl
theorem p_htm {h : tpH} {p mk : Nat} {kd idn : Nat → Int32} (lm : lMa h p) (lb : lBu h (p + 20) (some p)) (lf : lFi h (p + 61) (some p) (some (p + 20)) (some (p + 50))) (hM : MaP (hI h) p mk kd idn) (hk : mk ≤ 300) {c : mT} (hB : BuP (hI h) (p + 20) c) (hw : fWF 300 c) {x r : Nat} (hx : tIn c x = true) (hr : tIn c r = true) (hrm : r < mk) {a : Option Nat} (ha : ∀ b, a = some b → b ∈ tKi c r) {R : Int32 → tpH → Prop} (k1 : mvB (loK kd) c x r a = true → R 1 h) (k0 : mvB (loK kd) c x r a = false → R 0 h) : w_Fi_hasToMove (p + 61) (nI x) (nI r) (nO a) h R := by
  obtain ⟨g0, g1, g2, g3, _⟩ := lf
  have x3 := hw.1 x hx
  have r3 := hw.1 r hr
  have nu := (hB.2.2 x hx).2.1
  refine ⟨g0, p + 20, g2, lb.1, ?_⟩
  show w_Bu_upOf (p + 20) (nI x) (wI h (hI h)) _
  rw [e_Bu_upOf lb, rAt_n x3 n300, nu]
  have up : nO (tUp c x) = nI r ↔ tUp c x = some r := by
    cases e : tUp c x with
    | none => exact ⟨fun g => absurd g.symm (nI_ne_m (by omega)), fun g => (by cases g)⟩
    | some q =>
      have q3 := hw.1 q (hw.2.2.2.2 x q hx e)
      exact ⟨fun g => by rw [nI_inj (by omega) (by omega) g], fun g => by rw [Option.some.inj g]; rfl⟩
  refine ⟨fun e => ⟨g0, p, g1, lm.1, ?_⟩, fun e => k1 ?_⟩
  · have e' := up.mp e
    rw [e_Ma_isLoose lm, rAt_n r3 n300, (hM.2 r hrm).1]
    have lo := loK_iff kd r
    by_cases c4 : kd r < 4
    · rw [if_pos c4]
      refine ⟨fun g => absurd rfl g, fun _ => ?_⟩
      have l0 := lo.mp c4
      cases a with
      | none => exact ⟨fun _ => k0 (by unfold mvB; rw [decide_eq_true e', l0]; rfl), fun g => absurd rfl g⟩
      | some b =>
        have hb := ha b rfl
        have b3 := hw.1 b ((hw.2.1 b r).mp hb).1
        obtain ⟨A, B, eK⟩ := List.append_of_mem hb
        have ix : (tKi c r).take ((tKi c r).idxOf b) = A := by rw [idx_split (hw.2.2.1 r) eK, eK, List.take_left' rfl]
        refine ⟨fun g => absurd g (nI_ne_m (by omega)), fun _ => ⟨g0, p + 20, g2, lb.1, p_Bu_standsAhead lb (BuP_L hB) hw eK x3 ?_⟩⟩
        by_cases m : x ∈ A
        · rw [if_pos m]
          exact ⟨fun g => absurd g (by decide), fun _ => k1 (by rw [mvB_s, decide_eq_true e', l0, ix, decide_eq_true m]; rfl)⟩
        · rw [if_neg m]
          exact ⟨fun _ => k0 (by rw [mvB_s, decide_eq_true e', l0, ix, decide_eq_false m]; rfl), fun g => absurd rfl g⟩
    · rw [if_neg c4]
      have l1 : loK kd r = true := by
        cases q : loK kd r with
        | true => rfl
        | false => exact absurd (lo.mpr q) c4
      exact ⟨fun _ => k0 (by unfold mvB; rw [decide_eq_true e', l1]; rfl), fun g => absurd g (by decide)⟩
  · unfold mvB
    rw [decide_eq_false (fun q => e (up.mpr q))]
    rfl
/-! naming the twins -/
def fdU (t u : mT) (P : mP) (l : List mSt) (y : Nat) : Option (List mSt) := match P.2 y with
  | some x => if tWo t x = tWo u y then some l else addO l (0, x, tWo t x, tWo u y, nwh, nwh)
  | none => some l
theorem fdU_n {t u : mT} {P : mP} {l : List mSt} {y : Nat} (e : P.2 y = none) : fdU t u P l y = some l := by unfold fdU; rw [e]
theorem fdU_s {t u : mT} {P : mP} {l : List mSt} {y x : Nat} (e : P.2 y = some x) : fdU t u P l y = if tWo t x = tWo u y then some l else addO l (0, x, tWo t x, tWo u y, nwh, nwh) := by unfold fdU; rw [e]
def fsT (p z0 c : Nat) : Prop := c = p + 63 ∨ z0 ≤ c
theorem SS_le {h : tpH} {p D z0 a : Nat} {l : List mSt} (H : SS h p D z0 a (some l)) : l.length ≤ 100 := by
  obtain ⟨_, _, _, c', _, _, _, H8, _⟩ := H
  exact H8
theorem p_name {h : tpH} {x p D z0 mk a mk1 b mk2 : Nat} {t u : mT} {kd idn : Nat → Int32} {P : mP} (X : fX h x p D z0 mk a mk1 b mk2 t u kd idn P) {sa : Nat} {l : List mSt} (S : SS h p D z0 sa (some l)) {y : Nat} (hy : tIn u y = true) {R : tpH → Prop} (kk : ∀ h', SS h' p D z0 sa (fdU t u P l y) → hFr h h' (fun c _ => fsT p z0 c) (fun c _ => z0 ≤ c) → (∀ j, hI h' (p + 63) j = if j = pl u y then nO (P.2 y) else hI h (p + 63) j) → hZ h' + 3 * l.length ≤ hZ h + 3 * bz (fdU t u P l y) → hU h' + 12 * l.length ≤ hU h + 12 * bz (fdU t u P l y) → R h') : w_Fi_nameTwin (p + 61) (some a) (some b) (nI (pl u y)) (some sa) h R := by
  obtain ⟨lm, lb, lt, lf⟩ := fX_l X
  obtain ⟨g0, g1, g2, g3, ⟨g4, s4⟩, g5, g6, g7, g8⟩ := id lf
  obtain ⟨⟨l0, x1, x2, x3, x4⟩, ⟨m1, n1⟩, ⟨a1, a2, a3, a4, a5⟩, ⟨b1, b2, b3, b4, b5⟩, M, ⟨hk, ht, hum⟩, ⟨hw, hu, HP⟩⟩ := id X
  obtain ⟨t0, e0, e1, _, ⟨s1, s2⟩, _⟩ := id lt
  have py := pl_lt hu hy
  have l3 := pO_le hw
  have l4 := pO_le hu
  have le := SS_le S
  refine ⟨g0, p + 50, g3, t0, ?_⟩
  show w_Mt_oldOf (p + 50) (nI (pl u y)) (wI h (hI h)) _
  refine ⟨t0, p + 50 + 3, s1, s2.1, p_at (rwL_w s2) (by decide) ?_⟩
  have ev : rAt (hI (wI h (hI h)) (p + 50 + 4)) 300 (nI (pl u y)) = nO ((P.2 y).map (pl t)) := by rw [rAt_n (by omega) (by decide)]; exact M.2 y hy
  rw [ev]
  have emk : rAt (hI h (a + 2)) (pO t).length (nO ((P.2 y).map (pl t))) = nO (P.2 y) ∧ (∀ xx, P.2 y = some xx → tIn t xx = true ∧ rAt (hI h (a + 4)) (pO t).length (nO ((P.2 y).map (pl t))) = tWo t xx) := by
    cases e : P.2 y with
    | none => exact ⟨rAt_m, fun xx g => by cases g⟩
    | some xx =>
      have hx := (HP.1.2 xx y ((HP.1.1 xx y).mpr e)).1
      refine ⟨?_, fun x' g => ?_⟩
      · show rAt _ _ (nI (pl t xx)) = nI xx
        rw [rAt_n (pl_lt hw hx) (by omega)]
        exact (a5.2.1 xx hx).1
      · rw [← Option.some.inj g]
        refine ⟨hx, ?_⟩
        show rAt _ _ (nI (pl t xx)) = tWo t xx
        rw [rAt_n (pl_lt hw hx) (by omega)]
        exact (a5.2.1 xx hx).2.1
  refine ⟨a, rfl, a1.1, ?_⟩
  rw [e_Tr_markOf a1 l3 a2, emk.1]
  refine ⟨g0, p + 61 + 1, g4, s4.1, p_put (rwL_w s4) (by decide) ?_⟩
  rw [wI_I, wI_wI, rPut_n (by omega) (by decide)]
  generalize eF1 : tpu (hI h) (p + 61 + 2) (pl u y) (nO (P.2 y)) = F1
  have f1 : hFr h (wI h F1) (fun c _ => fsT p z0 c) (fun c _ => z0 ≤ c) := hFr_w h _ (fun c j hc => by unfold fsT at hc; rw [← eF1, tpu_o (by omega)])
  have r1 : ∀ j, F1 (p + 63) j = if j = pl u y then nO (P.2 y) else hI h (p + 63) j := fun j => by
    rw [← eF1]
    by_cases q : j = pl u y
    · rw [if_pos q, q, show p + 63 = p + 61 + 2 by omega, tpu_s]
    · rw [if_neg q, tpu_o (by omega)]
  have S1 : SS (wI h F1) p D z0 sa (some l) := SS_fr S (by omega) x2 x3 (hFr_w h _ (fun c j hc => by unfold fdT at hc; rw [← eF1, tpu_o (by omega)]))
  have X1 := fX_fr X (hFr_mono f1 (fun c j _ g => by unfold fsT at g; unfold fdT; omega) (fun c j _ g => g))
  refine ⟨a1.1, ?_⟩
  have ew : F1 (a + 4) = hI h (a + 4) := by rw [← eF1, tpu_fa _ _ _ _ _ (by omega)]
  have eu' : F1 (b + 4) = hI h (b + 4) := by rw [← eF1, tpu_fa _ _ _ _ _ (by omega)]
  rw [e_Tr_worthOf a1 l3 a2, ew]
  refine ⟨b, rfl, b1.1, ?_⟩
  rw [e_Tr_worthOf b1 l4 b2, rAt_n py (by omega), eu', (b5.2.1 y hy).2.1]
  cases e : P.2 y with
  | none =>
    rw [fdU_n e, e] at kk
    exact ⟨fun _ => kk _ S1 f1 (fun j => by rw [wI_I, r1 j, e]) (Nat.le_refl _) (Nat.le_refl _), fun g => absurd rfl g⟩
  | some xx =>
    obtain ⟨hx, exw⟩ := emk.2 xx e
    rw [e] at exw
    rw [fdU_s e, e] at kk
    rw [exw]
    have px := pl_lt hw hx
    refine ⟨fun g => absurd g (nI_ne_m (by show pl t xx < _; omega)), fun _ => ⟨fun g => ?_, fun g => ?_⟩⟩
    · rw [if_pos g] at kk
      exact kk _ S1 f1 (fun j => by rw [wI_I, r1 j, e]) (Nat.le_refl _) (Nat.le_refl _)
    · rw [if_neg g] at kk
      intro a27 h28 e27 e28
      subst e27 e28
      have nw := fX_no X1
      have lf' := (fX_l X1).2.2.2
      obtain ⟨k0, _, _, _, _, _, _, k7, _⟩ := lf'
      have sm61 := hSm_nC (wI h F1) 11 0 6 (p + 61) (by show p + 61 < hZ h; omega)
      refine ⟨by rw [sm61.1]; exact k0, ?_⟩
      rw [show hR (nC (wI h F1) 11 0 6) (p + 61) 6 = some (p + 68) from by rw [sm61.2.2.1]; exact k7]
      refine p_St_new (h := wI h F1) (p := p) (D := D) (k := 0) (m := xx) (by show p + 101 ≤ hZ h; omega) (by show D ≤ hZ h; omega) nw nw (fun h2 q1 q2 q3 q4 => ?_)
      have S2 : SS h2 p D z0 sa (some l) := SS_fr S1 (by show p + 101 ≤ hZ h; omega) x2 x3 (hFr_mono q2 (fun _ _ _ g => g.elim) (fun _ _ _ g => g))
      have S2' : ScB h2 p D z0 sa 100 l := S2
      refine ⟨sa, rfl, S2'.2.1, ?_⟩
      have z1 : hZ (wI h F1) = hZ h := rfl
      have u1 : hU (wI h F1) = hU h := rfl
      refine p_addO S2' (by omega) q1 (fun h3 v1 v2 v3 v4 => kk h3 v1 ?_ (fun j => ?_) ?_ ?_)
      · exact hFr_mono (hFr_tr (hFr_tr f1 q2) v2) (fun c j _ g => g.elim (fun g => g.elim id (fun g => g.elim)) (fun g => Or.inr g)) (fun c j _ g => g.elim (fun g => g.elim id (fun g => g.elim)) id)
      · rw [(v2.2 (p + 63) (by omega)).2.2.2.2.1 j (by omega), (q2.2 (p + 63) (by omega)).2.2.2.2.1 j (fun g => g.elim), wI_I, r1 j, e]
      · have := bz_add le (0, xx, tWo t xx, tWo u y, nwh, nwh)
        omega
      · have := bz_add le (0, xx, tWo t xx, tWo u y, nwh, nwh)
        omega
end FD4
