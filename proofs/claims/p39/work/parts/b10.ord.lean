section MORD
def rwK (F : Nat → Nat → Int32) (r : Nat) (L : List Nat) : Prop := F r 1 = nI L.length ∧ ∀ (i x : Nat), L[i]? = some x → F (r + 1) i = nI x
theorem rwK_k {F G : Nat → Nat → Int32} {r : Nat} {L : List Nat} (H : rwK F r L) (k : ∀ c, c = r ∨ c = r + 1 → G c = F c) : rwK G r L := ⟨by rw [k r (by omega)]; exact H.1, fun i x hi => by rw [k (r + 1) (by omega)]; exact H.2 i x hi⟩
theorem p_pushS {h : tpH} {r c n u : Nat} {v : Int32} (H : rwL h r c n) (hrc : r ≠ c) (hu : hI h r 1 = nI u) (hlt : u < n) (hn : n < 2 ^ 30) {R : tpH → Prop} (kk : R (wI h (tpu (tpu (hI h) c u v) r 1 (nI (u + 1))))) : w_Ro_push r v h R := by
  have H' := H
  obtain ⟨H1, H2, H3, H4⟩ := H'
  refine ⟨H1, c, H2, H3, ?_⟩
  have en : ∀ k, Int32.ofNat k = nI k := fun _ => rfl
  rw [hu, H4, en, nI_lt_iff (by omega) (by omega)]
  exact ⟨fun _ => p_push32 H hrc hu hlt hn kk, fun g => absurd hlt g⟩
variable {x p D z0 mk e0 e1 a1 k1 a2 k2 a3 k3 : Nat} {kd idn po : Nat → Int32} {b l r : mT}
/-- which of the children are shared -/
def shQ (b : mT) (s : mgS) (q m : Nat) : Bool := decide (sUp s m = some q) && (tIn b m && decide (tUp b m = some q))
theorem shQ_iff {b : mT} (hb : fWF 300 b) {s : mgS} {q m : Nat} : shQ b s q m = true ↔ m ∈ shL b s q := by
  unfold shQ
  rw [shL_iff hb, Bool.and_eq_true, Bool.and_eq_true, decide_eq_true_iff, decide_eq_true_iff]
  exact ⟨fun g => ⟨g.2, g.1⟩, fun g => ⟨g.2, g.1⟩⟩
theorem sdL_q {t b : mT} (hb : fWF 300 b) (s : mgS) (q : Nat) : (tKi t q).filter (shQ b s q) = sdL t b s q := by
  unfold sdL
  refine List.filter_congr (fun m _ => ?_)
  cases e : shQ b s q m with
  | true => exact (decide_eq_true ((shQ_iff hb).mp e)).symm
  | false => exact (decide_eq_false (fun g => by rw [(shQ_iff hb).mpr g] at e; cases e)).symm
theorem shL_q {b : mT} (hb : fWF 300 b) (s : mgS) (q : Nat) : (tKi b q).filter (shQ b s q) = shL b s q := by
  unfold shL
  refine List.filter_congr (fun m hm => ?_)
  obtain ⟨h1, h2⟩ := (hb.2.1 m q).mp hm
  unfold shQ
  rw [h1, decide_eq_true h2, Bool.true_and, Bool.and_true]
theorem p_rd15 {h0 : tpH} {s : mgS} {R0 q a k rr : Nat} {t : mT} (H0 : MG h0 x p D z0 mk e0 e1 a1 k1 a2 k2 a3 k3 kd idn po b l r) (HH : mgH mk R0 b l r) (I : mgI mk R0 po b l r s) (W0 : rsP (hI h0) p mk s) (T0 : ∀ h, MG h x p D z0 mk e0 e1 a1 k1 a2 k2 a3 k3 kd idn po b l r → trX h D z0 e0 e1 mk a k t) (hq : tIn t q = true) (hr : (rr = p + 80 ∨ rr = p + 82 ∨ rr = p + 84) ∧ rwL h0 rr (rr + 1) 300) {R : tpH → Prop} (fin : ∀ F, (∀ c, c ≠ rr → c ≠ rr + 1 → F c = hI h0 c) → rwK F rr ((tKi t q).filter (shQ b s q)) → R (wI h0 F)) :
    ∀ (f j : Nat) (F : Nat → Nat → Int32), j ≤ (tKi t q).length → (tKi t q).length < f + j → (∀ c, c ≠ rr → c ≠ rr + 1 → F c = hI h0 c) → rwK F rr (((tKi t q).take j).filter (shQ b s q)) → w_Mg_readShared_15 R f (p + 69) (some a1) (some a) (nI q) (some rr) (nI (pl t q)) (nI j) (wI h0 F)
  | 0, j, F, h1, h2, fr, K => by omega
  | f + 1, j, F, h1, h2, fr, K => by
    have f1 : hFr h0 (wI h0 F) (mtT p z0 e0 e1) (cfU p) := mt_w F (fun c j hc => by rw [fr c (by omega) (by omega)])
    have H := MG_fr H0 f1
    obtain ⟨X, B, _⟩ := id H
    have T := T0 _ H
    obtain ⟨l1, ⟨l2, _⟩, l3, l4, l5, _⟩ := id T
    obtain ⟨g0, _, _, _, _, ⟨r5, w5⟩, _⟩ := mgRw X.1.1
    have hk := X.2.2.1
    have q3 := l4.1.1 q hq
    have ps := pl_lt l4 hq
    have pq := pO_le l4
    have lk := ki_len l4.1 q
    have lc := tCn_le t
    have W : rsP F p mk s := rsP_k W0 (fun c hc => fr c (by omega) (by omega))
    refine ⟨a, rfl, l1.1, ?_⟩
    rw [e_Tr_kidsOf (show lTr h0 a _ _ from l1) pq l2, rAt_n ps (by omega), show F (a + 14) (pl t q) = nI (tKi t q).length from (l3.2.1 q hq).2.2.2.2.2.2.1]
    by_cases hj : j < (tKi t q).length
    · have ek := List.getElem?_eq_getElem hj
      have ed := List.drop_eq_getElem_cons hj
      generalize (tKi t q)[j] = c at ek ed
      have hc := (l4.1.2.1 c q).mp (List.mem_of_getElem? ek)
      have c3 := l4.1.1 c hc.1
      have cm := (l5 c hc.1).1
      have pc := pl_lt l4 hc.1
      have et : (tKi t q).take (j + 1) = (tKi t q).take j ++ [c] := by rw [List.take_add_one, ek]; rfl
      refine ⟨fun g => absurd ((nI_le_iff (by omega) (by omega)).mp g) (by omega), fun _ => ⟨l1.1, ?_⟩⟩
      rw [e_kid (show lTr h0 a _ _ from l1) l2 l4 (show TrP F a t k from l3) hq ek]
      refine ⟨l1.1, ?_⟩
      rw [e_Tr_markOf (show lTr h0 a _ _ from l1) pq l2, rAt_n pc (by omega), show F (a + 2) (pl t c) = nI c from (l3.2.1 c hc.1).1]
      refine ⟨g0, p + 76, r5, w5.1, p_at w5 (by decide) ?_⟩
      rw [rAt_n (by omega) (by decide), show hI (wI h0 F) (p + 77) c = nO (sUp s c) from (W c cm).2.2, nI_1]
      have skip : shQ b s q c = false → w_Mg_readShared_15 R f (p + 69) (some a1) (some a) (nI q) (some rr) (nI (pl t q)) (nI (j + 1)) (wI h0 F) := fun e => by
        refine p_rd15 H0 HH I W0 T0 hq hr fin f (j + 1) F (by omega) (by omega) fr ?_
        rw [et, List.filter_append, List.filter_cons_of_neg (by rw [e]; exact Bool.false_ne_true)]
        rw [List.filter_nil, List.append_nil]
        exact K
      have eqv : nO (sUp s c) = nI q ↔ sUp s c = some q := by
        cases eu : sUp s c with
        | none => exact ⟨fun g => absurd g.symm (nI_ne_m (by omega)), fun g => by cases g⟩
        | some y =>
          have := up_lt HH I eu
          exact ⟨fun g => by rw [nI_inj (by omega) (by omega) g], fun g => by rw [Option.some.inj g]; rfl⟩
      refine ⟨fun g => skip ?_, fun g => ⟨a1, rfl, B.1.1, tx_under B c3 q3 ?_⟩⟩
      · unfold shQ
        rw [decide_eq_false (fun z => g (eqv.mpr z)), Bool.false_and]
      · have g' := eqv.mp g
        cases eb : (tIn b c && decide (tUp b c = some q)) with
        | false =>
          rw [if_neg Bool.false_ne_true]
          exact ⟨fun _ => skip (by unfold shQ; rw [eb, Bool.and_false]), fun z => absurd rfl z⟩
        | true =>
          rw [if_pos rfl]
          refine ⟨fun z => absurd z (by decide), fun _ => ⟨rr, rfl, hr.2.1, ?_⟩⟩
          have lf : (((tKi t q).take j).filter (shQ b s q)).length ≤ j := by
            have h1' := List.length_filter_le (shQ b s q) ((tKi t q).take j)
            rw [List.length_take] at h1'
            omega
          refine p_pushS (rwL_w hr.2) (by omega) (show F rr 1 = _ from K.1) (by omega) (by decide) ?_
          rw [wI_wI, wI_I]
          refine p_rd15 H0 HH I W0 T0 hq hr fin f (j + 1) _ (by omega) (by omega) (fun d d1 d2 => by rw [tpu_fa _ _ _ _ _ d1, tpu_fa _ _ _ _ _ d2]; exact fr d d1 d2) ?_
          have es : shQ b s q c = true := by unfold shQ; rw [decide_eq_true g', eb]; rfl
          rw [et, List.filter_append, List.filter_cons_of_pos es, List.filter_nil]
          refine ⟨by rw [tpu_s, List.length_append]; rfl, fun i y hi => ?_⟩
          by_cases ci : i < (((tKi t q).take j).filter (shQ b s q)).length
          · rw [List.getElem?_append_left ci] at hi
            rw [tpu_o (by omega), tpu_o (by omega)]
            exact K.2 i y hi
          · rw [List.getElem?_append_right (by omega)] at hi
            have hi0 : i = (((tKi t q).take j).filter (shQ b s q)).length := by
              have h1' := (List.getElem?_eq_some_iff.mp hi).1
              have h2' : i - (((tKi t q).take j).filter (shQ b s q)).length < 1 := h1'
              omega
            subst hi0
            rw [Nat.sub_self] at hi
            have he : c = y := Option.some.inj hi
            rw [tpu_o (by omega), tpu_s, he]
    · rw [List.take_of_length_le (by omega)] at K
      exact ⟨fun _ => fin F fr K, fun g => absurd ((nI_le_iff (by omega) (by omega)).mpr (by omega)) g⟩
theorem p_read {h : tpH} {s : mgS} {R0 q a k rr : Nat} {t : mT} (H : MG h x p D z0 mk e0 e1 a1 k1 a2 k2 a3 k3 kd idn po b l r) (HH : mgH mk R0 b l r) (I : mgI mk R0 po b l r s) (W : rsP (hI h) p mk s) (T0 : ∀ h, MG h x p D z0 mk e0 e1 a1 k1 a2 k2 a3 k3 kd idn po b l r → trX h D z0 e0 e1 mk a k t) (q3 : q < 300) (hr : (rr = p + 80 ∨ rr = p + 82 ∨ rr = p + 84) ∧ rwL h rr (rr + 1) 300) {R : tpH → Prop} (fin : ∀ F, (∀ c, c ≠ rr → c ≠ rr + 1 → F c = hI h c) → rwK F rr ((tKi t q).filter (shQ b s q)) → R (wI h F)) : w_Mg_readShared (p + 69) (some a1) (some a) (nI q) (some rr) h R := by
  refine ⟨rr, rfl, hr.2.1, hr.2.1, fun h4 e4 => ?_⟩
  have e4' : h4 = wI h (tpu (hI h) rr 1 0) := e4
  subst e4'
  have f1 : hFr h (wI h (tpu (hI h) rr 1 0)) (mtT p z0 e0 e1) (cfU p) := mt_w _ (fun c j hc => tpu_o (by omega))
  have H1 := MG_fr H f1
  have T := T0 _ H1
  obtain ⟨l1, ⟨l2, _⟩, l3, l4, l5, _⟩ := id T
  have fr0 : ∀ c, c ≠ rr → c ≠ rr + 1 → tpu (hI h) rr 1 0 c = hI h c := fun c d1 d2 => tpu_fa _ _ _ _ _ d1
  refine ⟨a, rfl, l1.1, ?_⟩
  rw [e_Tr_placeOf (show lTr h a _ _ from l1) (pO_le l4) l2, show rAt (tpu (hI h) rr 1 0 (a + 18)) k (nI q) = (if tIn t q = true then nI (pl t q) else -1) from tr_pl l3 l2 (fun m hm => (l5 m hm).2) q3]
  have K0 : rwK (tpu (hI h) rr 1 0) rr [] := ⟨tpu_s _ _ _ _, fun i x hi => by simp at hi⟩
  cases e : tIn t q with
  | true =>
    rw [if_pos rfl]
    refine ⟨(tKi t q).length + 1, ?_⟩
    exact p_rd15 H HH I W T0 e hr fin _ 0 _ (Nat.zero_le _) (by omega) fr0 (by rw [List.take_zero]; exact K0)
  | false =>
    rw [if_neg Bool.false_ne_true]
    have ek : tKi t q = [] := by
      cases c : tKi t q with
      | nil => rfl
      | cons y L =>
        have hy := (l4.1.2.1 y q).mp (by rw [c]; exact List.mem_cons_self)
        rw [l4.1.2.2.2.2 y q hy.1 hy.2] at e
        cases e
    refine ⟨1, a, rfl, l1.1, ?_⟩
    rw [e_Tr_kidsOf (show lTr h a _ _ from l1) (pO_le l4) l2, rAt_m]
    exact ⟨fun _ => fin _ fr0 (by rw [ek]; exact K0), fun g => absurd (show (-1 : Int32) ≤ 0 by decide) g⟩
theorem p_trn2 {h : tpH} {rr : Nat} {L : List Nat} (B : trX h D z0 e0 e1 mk a1 k1 b) (hb : ∀ m ∈ L, tIn b m = true) (hl : L.length ≤ 300) (w : rwL h rr (rr + 1) 300) (K : rwK (hI h) rr L) {R : Int32 → tpH → Prop} (k1' : trnB (pl b) L = true → R 1 h) (k0 : trnB (pl b) L = false → R 0 h) : ∀ (f : Nat) (A C : List Nat) (y : Nat), L = A ++ y :: C → C.length < f → trnB (pl b) L = trnB (pl b) (y :: C) → w_Mg_isTurned_2 R f (some a1) (some rr) (nI (A.length + 1)) h
  | 0, A, C, y, e, h1, h2 => by omega
  | f + 1, A, C, y, e, h1, h2 => by
    obtain ⟨b1, ⟨b2, _⟩, b3, b4, b5, _⟩ := id B
    have pq := pO_le b4
    refine ⟨rr, rfl, w.1, ?_⟩
    rw [K.1]
    have hlen : L.length = A.length + (C.length + 1) := by rw [e, List.length_append, List.length_cons]
    cases C with
    | nil =>
      have hlen : L.length = A.length + 1 := hlen
      rw [hlen]
      exact ⟨fun _ => k0 (by rw [h2]; rfl), fun g => absurd (Int32.le_refl _) g⟩
    | cons z C =>
      simp only [List.length_cons] at hlen h1
      refine ⟨fun g => absurd ((nI_le_iff (by omega) (by omega)).mp g) (by omega), fun _ => p_at w (by decide) ?_⟩
      have ey : L[A.length]? = some y := by rw [e, List.getElem?_append_right (Nat.le_refl _), Nat.sub_self]; rfl
      have ez : L[A.length + 1]? = some z := by rw [e, List.getElem?_append_right (by omega), show A.length + 1 - A.length = 1 by omega]; rfl
      have iy := hb y (List.mem_of_getElem? ey)
      have iz := hb z (List.mem_of_getElem? ez)
      have y3 := b4.1.1 y iy
      have z3 := b4.1.1 z iz
      have py := pl_lt b4 iy
      have pz := pl_lt b4 iz
      rw [rAt_n (by omega) (by decide), K.2 _ z ez]
      refine ⟨a1, rfl, b1.1, ?_⟩
      show w_Tr_placeOf a1 (nI z) (wI h (hI h)) _
      rw [e_Tr_placeOf b1 pq b2, tr_pl b3 b2 (fun m hm => (b5 m hm).2) z3, if_pos iz]
      refine ⟨w.1, p_at w (by decide) ?_⟩
      have em : nI (A.length + 1) - 1 = nI A.length := nI_pred _
      rw [em, wI_I, rAt_n (by omega) (by decide), K.2 _ y ey]
      refine ⟨b1.1, ?_⟩
      rw [e_Tr_placeOf b1 pq b2, tr_pl b3 b2 (fun m hm => (b5 m hm).2) y3, if_pos iy, wI_self, nI_1]
      have et : trnB (pl b) (y :: z :: C) = (decide (pl b z < pl b y) || trnB (pl b) (z :: C)) := rfl
      rw [et] at h2
      refine ⟨fun g => ?_, fun g => k1' ?_⟩
      · have g' := (nI_le_iff (by omega) (by omega)).mp g
        rw [decide_eq_false (show ¬ pl b z < pl b y by omega), Bool.false_or] at h2
        have := p_trn2 B hb hl w K k1' k0 f (A ++ [y]) C z (by rw [e, List.append_assoc]; rfl) (by omega) h2
        rw [List.length_append] at this
        exact this
      · rw [h2, decide_eq_true (show pl b z < pl b y from Classical.byContradiction (fun q => g ((nI_le_iff (by omega) (by omega)).mpr (by omega))))]
        rfl
theorem p_turned {h : tpH} {o rr : Nat} {L : List Nat} (B : trX h D z0 e0 e1 mk a1 k1 b) (hb : ∀ m ∈ L, tIn b m = true) (hl : L.length ≤ 300) (w : rwL h rr (rr + 1) 300) (K : rwK (hI h) rr L) {R : Int32 → tpH → Prop} (k1' : trnB (pl b) L = true → R 1 h) (k0 : trnB (pl b) L = false → R 0 h) : w_Mg_isTurned o (some a1) (some rr) h R := by
  refine ⟨L.length + 1, ?_⟩
  cases L with
  | nil =>
    refine ⟨rr, rfl, w.1, ?_⟩
    rw [K.1]
    exact ⟨fun _ => k0 rfl, fun g => absurd (show nI 0 ≤ (1 : Int32) by decide) g⟩
  | cons y C => exact p_trn2 B hb hl w K k1' k0 _ [] C y rfl (by rw [List.length_cons]; omega) rfl
theorem p_hsp15 {h : tpH} {r1 r2 : Nat} {L M : List Nat} (w1 : rwL h r1 (r1 + 1) 300) (w2 : rwL h r2 (r2 + 1) 300) (K1 : rwK (hI h) r1 L) (K2 : rwK (hI h) r2 M) (hl : L.length ≤ 300) (hL : ∀ m ∈ L, m < 300) (hM : ∀ m ∈ M, m < 300) {R : Int32 → tpH → Prop} (k1' : L = M → R 1 h) (k0 : L ≠ M → R 0 h) : ∀ (f : Nat) (A C E : List Nat), L = A ++ C → M = A ++ E → C.length = E.length → C.length < f → w_Ro_hasSamePushed_15 R f r1 (some r2) (nI A.length) h
  | 0, A, C, E, e1, e2, h1, h2 => by omega
  | f + 1, A, [], E, e1, e2, h1, h2 => by
    have eE : E = [] := by
      cases E with
      | nil => rfl
      | cons _ _ => cases h1
    refine ⟨w1.1, ?_⟩
    rw [K1.1, e1, List.append_nil]
    exact ⟨fun _ => k1' (by rw [e1, e2, eE]), fun g => absurd (Int32.le_refl _) g⟩
  | f + 1, A, y :: C, [], e1, e2, h1, h2 => by cases h1
  | f + 1, A, y :: C, z :: E, e1, e2, h1, h2 => by
    simp only [List.length_cons] at h1 h2
    have hlen : L.length = A.length + (C.length + 1) := by rw [e1, List.length_append, List.length_cons]
    have ey : L[A.length]? = some y := by rw [e1, List.getElem?_append_right (Nat.le_refl _), Nat.sub_self]; rfl
    have ez : M[A.length]? = some z := by rw [e2, List.getElem?_append_right (Nat.le_refl _), Nat.sub_self]; rfl
    have y3 := hL y (List.mem_of_getElem? ey)
    have z3 := hM z (List.mem_of_getElem? ez)
    refine ⟨w1.1, ?_⟩
    rw [K1.1]
    refine ⟨fun g => absurd ((nI_le_iff (by omega) (by omega)).mp g) (by omega), fun _ => p_at w1 (by decide) ?_⟩
    rw [rAt_n (by omega) (by decide), K1.2 _ y ey]
    refine ⟨r2, rfl, w2.1, p_at w2 (by decide) ?_⟩
    rw [rAt_n (by omega) (by decide), K2.2 _ z ez, nI_1]
    refine ⟨fun g => ?_, fun g => k0 (fun q => g ?_)⟩
    · have eyz : y = z := nI_inj (by omega) (by omega) g
      have := p_hsp15 w1 w2 K1 K2 hl hL hM k1' k0 f (A ++ [y]) C E (by rw [e1, List.append_assoc]; rfl) (by rw [e2, eyz, List.append_assoc]; rfl) (by omega) (by omega)
      rw [List.length_append] at this
      exact this
    · rw [q, ez] at ey
      rw [Option.some.inj ey]
theorem p_hsp {h : tpH} {r1 r2 : Nat} {L M : List Nat} (w1 : rwL h r1 (r1 + 1) 300) (w2 : rwL h r2 (r2 + 1) 300) (K1 : rwK (hI h) r1 L) (K2 : rwK (hI h) r2 M) (hl : L.length ≤ 300) (hm : M.length ≤ 300) (hL : ∀ m ∈ L, m < 300) (hM : ∀ m ∈ M, m < 300) {R : Int32 → tpH → Prop} (k1' : L = M → R 1 h) (k0 : L ≠ M → R 0 h) : w_Ro_hasSamePushed r1 (some r2) h R := by
  refine ⟨w1.1, r2, rfl, w2.1, ?_⟩
  rw [K1.1, K2.1]
  refine ⟨fun g => ⟨L.length + 1, ?_⟩, fun g => k0 (fun q => g (by rw [q]))⟩
  exact p_hsp15 w1 w2 K1 K2 hl hL hM k1' k0 _ [] L M rfl rfl (nI_inj (by omega) (by omega) g) (Nat.lt_succ_self _)
end MORD
