section CASE21
theorem mem_dr {w : mT} (hw : tWF 300 w) {c j : Nat} (hc : tIn w c = true) (hj : j ≤ pl w c) : c ∈ (pO w).drop j := by
  refine List.mem_of_getElem? (i := pl w c - j) ?_
  rw [List.getElem?_drop, show j + (pl w c - j) = pl w c by omega]
  exact pO_at hw hc
theorem dr_cons {w : mT} (hw : tWF 300 w) {i : Nat} (hi : i < (pO w).length) : ∃ x, (pO w).drop i = x :: (pO w).drop (i + 1) ∧ pl w x = i ∧ tIn w x = true ∧ x ∉ (pO w).drop (i + 1) := by
  have e := List.drop_eq_getElem_cons hi
  obtain ⟨q1, q2⟩ := pl_at hw (List.getElem?_eq_getElem hi)
  refine ⟨_, e, q1, q2, ?_⟩
  have nd := List.Pairwise.sublist (List.drop_sublist i (pO w)) (pO_nd hw)
  rw [e] at nd
  exact (List.nodup_cons.mp nd).1
theorem p_ra35 {h : tpH} {d p mk b mk' : Nat} (l : lLi h d (some p)) (lm : lMa h p) {t u : mT} (lb : lTr h b (pO u).length mk') (hk' : mk' ≤ 300) (hw : tWF 300 t) (hu : tWF 300 u) {kd idn : Nat → Int32} (hk : mk ≤ 300) {F0 : Nat → Nat → Int32} (hM : MaP F0 p mk kd idn) (H0 : TrP F0 b u mk') (hd : b + 19 ≤ d ∨ d + 13 ≤ b) (hp : p + 5 ≤ d ∨ d + 13 ≤ p) (ht : ∀ m, tIn t m = true → m < mk) (hum : ∀ m, tIn u m = true → m < mk) {R : Int32 → tpH → Prop} (kk : ∀ G, liFr d F0 G → R (if akB kd idn t u (tRt t) (tRt u) = true then 1 else 0) (wI h G)) :
    ∀ (n i : Nat) (F : Nat → Nat → Int32), i ≤ (pO u).length → i < n → liFr d F0 F → FamE F d kd idn t u (((pO u).drop i).map (300 + ·) ++ pO t) → w_Li_rootsAlike_35 R n d (some b) (nI i - 1) (wI h F)
  | 0, i, F, h1, h2, f, H => by omega
  | n + 1, 0, F, h1, h2, f, H => by
    obtain ⟨t0, x0, ⟨r1, r2⟩, _⟩ := id l
    refine ⟨fun _ => ⟨t0, t0, d + 1, r1, r2.1, p_at (rwL_w r2) (by decide) ⟨t0, d + 1, r1, r2.1, p_at (rwL_w r2) (by decide) ?_⟩⟩, fun g => absurd (by decide) g⟩
    obtain ⟨nf, ru, fam, rep, RL, rs, H⟩ := H
    have z0 : (0 : Int32) = nI 0 := by decide
    have z3 : (300 : Int32) + 0 = nI 300 := by decide
    rw [z3, rAt_n (by decide) (by decide)]
    have ez : rAt (hI (wI h F) (d + 2)) 600 0 = F (d + 2) 0 := by rw [z0, rAt_n (by decide) (by decide)]; rfl
    rw [ez, wI_I]
    have i1 : tRt t ∈ ((pO u).drop 0).map (300 + ·) ++ pO t := List.mem_append_right _ ((pO_mem hw).mpr hw.2.1)
    have i2 : 300 + tRt u ∈ ((pO u).drop 0).map (300 + ·) ++ pO t := List.mem_append_left _ (List.mem_map.mpr ⟨tRt u, by rw [List.drop_zero]; exact (pO_mem hu).mpr hu.2.1, rfl⟩)
    obtain ⟨a1, a2, a3, a4, a5⟩ := H.2.1 _ i1
    obtain ⟨b1, b2, b3, b4, b5⟩ := H.2.1 _ i2
    have e1 : zi t u (tRt t) = 0 := by unfold zi; rw [if_pos (hw.1.1 _ hw.2.1), pl_rt hw]
    have e2 : zi t u (300 + tRt u) = 300 := by unfold zi; rw [if_neg (by omega), Nat.add_sub_cancel_left, pl_rt hu]
    rw [e1] at a4
    rw [e2] at b4
    have nf6 : nf ≤ 600 := Nat.le_trans H.1.2.2.1 (nd_lt H.2.2.2.2 (fun y hy => zin_lt hu (H.2.1 y hy).1))
    rw [a4, b4]
    have fi := fam_iff H i1 i2
    have k := kk F f
    refine ⟨fun g => ⟨Or.inl rfl, ?_⟩, fun g => ⟨Or.inr rfl, ?_⟩⟩
    · rw [if_neg (fun q => g (by rw [fi.mpr (akB_iff.mp q)]))] at k
      exact k
    · rw [if_pos (akB_iff.mpr (fi.mp (nI_inj (by omega) (by omega) g)))] at k
      exact k
  | n + 1, i + 1, F, h1, h2, f, H => by
    obtain ⟨x, ex, px, hx, nx⟩ := dr_cons hu (show i < (pO u).length by omega)
    have l3 := pO_le hu
    have ei : nI i = nI (pl u x) := by rw [px]
    have e3 : (300 : Int32) = nI 300 := by decide
    rw [show nI (i + 1) - 1 = nI i from nI_pred i]
    refine ⟨fun g => absurd g (nI_pos (by omega)), fun _ => ⟨l.1, ?_⟩⟩
    rw [ei, e3]
    refine p_Li_sortIn l lm lb hk' hw hu (Or.inr ⟨rfl, rfl⟩) hx hk (MaP_li hp f hM) (TrP_li hd f H0) hd hp H (fun z hz => ?_) (hum x hx) (fun g => ?_) (fun c hc => ?_) (fun G g1 g2 => ?_)
    · rcases List.mem_append.mp hz with g | g
      · obtain ⟨y, hy, ey⟩ := List.mem_map.mp g
        have := hum y ((pO_mem hu).mp (List.mem_of_mem_drop hy))
        rw [← ey]
        unfold zm
        rw [if_neg (by omega)]
        omega
      · have i3 := (pO_mem hw).mp g
        have := ht z i3
        unfold zm
        rw [if_pos (by omega)]
        exact this
    · rcases List.mem_append.mp g with g | g
      · obtain ⟨y, hy, ey⟩ := List.mem_map.mp g
        have : y = x := by omega
        exact nx (this ▸ hy)
      · have := hw.1.1 _ ((pO_mem hw).mp g)
        omega
    · have := pl_kid_lt hu hc
      exact List.mem_append_left _ (List.mem_map.mpr ⟨c, mem_dr hu (fKi_in hu.1 hc).1 (by omega), rfl⟩)
    · rw [← ei, (Int32.sub_eq_add_neg _ _).symm]
      refine p_ra35 l lm lb hk' hw hu hk hM H0 hd hp ht hum kk n i G (by omega) (by omega) (liFr_tr f g2) ?_
      rw [ex, List.map_cons, List.cons_append]
      exact g1
theorem p_ra11 {h : tpH} {d p mk a mk1 b mk' : Nat} (l : lLi h d (some p)) (lm : lMa h p) {t u : mT} (la : lTr h a (pO t).length mk1) (hk1 : mk1 ≤ 300) (lb : lTr h b (pO u).length mk') (hk' : mk' ≤ 300) (hw : tWF 300 t) (hu : tWF 300 u) {kd idn : Nat → Int32} (hk : mk ≤ 300) {F0 : Nat → Nat → Int32} (hM : MaP F0 p mk kd idn) (H1 : TrP F0 a t mk1) (hd1 : a + 19 ≤ d ∨ d + 13 ≤ a) (H0 : TrP F0 b u mk') (hd : b + 19 ≤ d ∨ d + 13 ≤ b) (hp : p + 5 ≤ d ∨ d + 13 ≤ p) (ht : ∀ m, tIn t m = true → m < mk) (hum : ∀ m, tIn u m = true → m < mk) {R : Int32 → tpH → Prop} (kk : ∀ G, liFr d F0 G → R (if akB kd idn t u (tRt t) (tRt u) = true then 1 else 0) (wI h G)) :
    ∀ (n i : Nat) (F : Nat → Nat → Int32), i ≤ (pO t).length → i < n → liFr d F0 F → FamE F d kd idn t u ((pO t).drop i) → w_Li_rootsAlike_11 R n d (some a) (some b) (nI i - 1) (wI h F)
  | 0, i, F, h1, h2, f, H => by omega
  | n + 1, 0, F, h1, h2, f, H => by
    refine ⟨fun _ => ⟨b, rfl, lb.1, (pO u).length + 1, ?_⟩, fun g => absurd (by decide) g⟩
    rw [wI_I, (TrP_li hd f H0).1]
    refine p_ra35 l lm lb hk' hw hu hk hM H0 hd hp ht hum kk _ _ F (Nat.le_refl _) (Nat.lt_succ_self _) f ?_
    rw [List.drop_length, List.map_nil, List.nil_append]
    exact H
  | n + 1, i + 1, F, h1, h2, f, H => by
    obtain ⟨x, ex, px, hx, nx⟩ := dr_cons hw (show i < (pO t).length by omega)
    have l3 := pO_le hw
    have ei : nI i = nI (pl t x) := by rw [px]
    have e3 : (0 : Int32) = nI 0 := by decide
    rw [show nI (i + 1) - 1 = nI i from nI_pred i]
    refine ⟨fun g => absurd g (nI_pos (by omega)), fun _ => ⟨l.1, ?_⟩⟩
    rw [ei, e3]
    refine p_Li_sortIn l lm la hk1 hw hu (Or.inl ⟨rfl, rfl⟩) hx hk (MaP_li hp f hM) (TrP_li hd1 f H1) hd1 hp H (fun z hz => ?_) (ht x hx) (fun g => ?_) (fun c hc => ?_) (fun G g1 g2 => ?_)
    · have i3 := (pO_mem hw).mp (List.mem_of_mem_drop hz)
      have := ht z i3
      unfold zm
      rw [if_pos (by omega)]
      exact this
    · rw [Nat.zero_add] at g
      exact nx g
    · have := pl_kid_lt hw hc
      rw [Nat.zero_add]
      exact mem_dr hw (fKi_in hw.1 hc).1 (by omega)
    · rw [← ei, (Int32.sub_eq_add_neg _ _).symm]
      refine p_ra11 l lm la hk1 lb hk' hw hu hk hM H1 hd1 H0 hd hp ht hum kk n i G (by omega) (by omega) (liFr_tr f g2) ?_
      rw [Nat.zero_add] at g1
      rw [ex]
      exact g1
theorem Fam0 {F : Nat → Nat → Int32} {d : Nat} {kd idn : Nat → Int32} {t u : mT} (h7 : F d 7 = 0) (h8 : F d 8 = 0) : FamE F d kd idn t u [] :=
  ⟨0, 0, fun _ => 0, fun _ => 0, fun _ => [], fun _ => 0, ⟨h7, h8, Nat.le_refl _, Nat.zero_le _⟩, fun z hz => absurd hz List.not_mem_nil, fun f hf => absurd hf (Nat.not_lt_zero _), fun f g hf => absurd hf (Nat.not_lt_zero _), List.nodup_nil⟩
theorem p_Li_clear {h : tpH} {d : Nat} {x : Option Nat} (l : lLi h d x) (F : Nat → Nat → Int32) {R : tpH → Prop} (k : R (wI h (tpu (tpu F d 7 0) d 8 0))) : w_Li_clear d (wI h F) R := by
  refine ⟨l.1, fun h2 e2 h4 e4 => ?_⟩
  rw [sI_wI, wI_wI, wI_I] at e2
  subst e2
  rw [sI_wI, wI_wI, wI_I] at e4
  subst e4
  exact k
theorem p_Li_rootsAlike {h : tpH} {d p mk a mk1 b mk' : Nat} (l : lLi h d (some p)) (lm : lMa h p) {t u : mT} (la : lTr h a (pO t).length mk1) (hk1 : mk1 ≤ 300) (lb : lTr h b (pO u).length mk') (hk' : mk' ≤ 300) (hw : tWF 300 t) (hu : tWF 300 u) {kd idn : Nat → Int32} (hk : mk ≤ 300) {F : Nat → Nat → Int32} (hM : MaP F p mk kd idn) (H1 : TrP F a t mk1) (hd1 : a + 19 ≤ d ∨ d + 13 ≤ a) (H0 : TrP F b u mk') (hd : b + 19 ≤ d ∨ d + 13 ≤ b) (hp : p + 5 ≤ d ∨ d + 13 ≤ p) (ht : ∀ m, tIn t m = true → m < mk) (hum : ∀ m, tIn u m = true → m < mk) {R : Int32 → tpH → Prop} (kk : ∀ G, liFr d F G → R (if akB kd idn t u (tRt t) (tRt u) = true then 1 else 0) (wI h G)) : w_Li_rootsAlike d (some a) (some b) (wI h F) R := by
  refine ⟨l.1, p_Li_clear l F ⟨a, rfl, la.1, (pO t).length + 1, ?_⟩⟩
  rw [wI_I, tpu_o (by omega), tpu_o (by omega), H1.1]
  refine p_ra11 l lm la hk1 lb hk' hw hu hk hM H1 hd1 H0 hd hp ht hum kk _ _ _ (Nat.le_refl _) (Nat.lt_succ_self _) (fun b j hb => by rw [tpu_o (by omega), tpu_o (by omega)]) ?_
  rw [List.drop_length]
  exact Fam0 (by rw [tpu_o (by omega), tpu_s]) (tpu_s _ _ _ _)
theorem p_TP_areAlike {h : tpH} {o p D mk : Nat} (l : lTP h o p) {kd idn : Nat → Int32} (hM : MaP (hI h) p mk kd idn) (hk : mk ≤ 300) {fr : List mT} (hF : FoP h (hI h) o p D fr) (hpD : p + 101 ≤ D) (hw : ∀ (i : Nat) (t : mT), fr[i]? = some t → tWF 300 t) (hmk : ∀ (i : Nat) (t : mT), fr[i]? = some t → ∀ m, tIn t m = true → m < mk) {x y : Int32} {X : String → tpH → Prop} {R : Int32 → tpH → Prop} (x1 : gAlike kd idn fr x y = none → X "java/lang/IndexOutOfBoundsException" (nC h 0 0 6)) (kk : ∀ v, gAlike kd idn fr x y = some v → (v = 0 ∨ v = 1) → ∀ G, liFr (p + 37) (hI h) G → R v (wI h G)) : w_TP_areAlike o x y h X R := by
  unfold gAlike at x1 kk
  obtain ⟨t0, m0, m1, c0, c1, c2, c3, c4, c5, c6, c7, l0, l1, _⟩ := id l
  refine ⟨l.1, p_tree l hF (fun e => x1 (by rw [e]; rfl)) (fun i t a mk1 e hi hl ha b1 b2 b3 b4 b5 => ⟨l.1, p_tree l hF (fun e => x1 (by rw [hl, e]; rfl)) (fun j u b mk2 e' hj hl' hb d1 d2 d3 d4 d5 => ⟨a, rfl, b1.1, b, rfl, d1.1, ?_⟩)⟩)⟩
  rw [hl, hl'] at kk
  have hwt := hw i t hi
  have hwu := hw j u hj
  have l3 := pO_le hwt
  have l4 := pO_le hwu
  have kk := kk _ rfl
  have kv : ((if akB kd idn t u (tRt t) (tRt u) = true then 1 else 0 : Int32) = 0 ∨ (if akB kd idn t u (tRt t) (tRt u) = true then 1 else 0 : Int32) = 1) := by
    by_cases c : akB kd idn t u (tRt t) (tRt u) = true
    · rw [if_pos c]; exact Or.inr rfl
    · rw [if_neg c]; exact Or.inl rfl
  rw [b2.1, d2.1]
  refine ⟨fun ne => ?_, fun _ => ⟨l.1, p + 37, l0, l1.1, ?_⟩⟩
  · have k := kk kv (hI h) (fun _ _ _ => rfl)
    rw [if_neg (fun q => ne (by rw [AK_len hwt hwu (akB_iff.mp q)]))] at k
    exact k
  · show w_Li_rootsAlike (p + 37) (some a) (some b) (wI h (hI h)) _
    refine p_Li_rootsAlike l1 m1 b1 b3 d1 d3 hwt hwu hk hM b2 (by omega) d2 (by omega) (by omega) (hmk i t hi) (hmk j u hj) (fun G g => ?_)
    have k := kk kv G g
    by_cases c : akB kd idn t u (tRt t) (tRt u) = true
    · rw [if_pos c] at k ⊢
      exact ⟨fun e => absurd e (by decide), fun _ => k⟩
    · rw [if_neg c] at k ⊢
      exact ⟨fun _ => k, fun e => absurd rfl e⟩
theorem stM_al {h : tpH} {Q q mk : Nat} {kd idn : Nat → Int32} {dr : Option mT} {r : mRe} (H : stM h Q q mk kd idn dr r) (hQ : Q < q) (hw : ∀ (i : Nat) (t : mT), r.1[i]? = some t → tWF 300 t) {G : Nat → Nat → Int32} (fr : ∀ b j, ¬ ((b = Q ∧ (j = 31 ∨ j = 34 ∨ j = 35)) ∨ (q + 24 ≤ b ∧ b < q + 46)) → G b j = hI h b j) : stM (wI h G) Q q mk kd idn dr r := by
  obtain ⟨H1, H2, H3, H4⟩ := H
  have eI : ∀ b, b ≠ Q → (b < q + 24) → G b = hI h b := fun b hb hc => funext fun j => fr b j (by omega)
  exact ⟨H1, MaM_fr H2 (fr _ _ (by omega)) (fun b hb => eI b (by omega) (by omega)), DrM_fr H3 (fr _ _ (by omega)) (fun b b1 b2 => eI b (by omega) (by omega)), reM_fr H4 hw (fun j _ => fr _ _ (by omega)) (fun j _ => fr _ _ (by omega)) (fun b b1 b2 j _ => fr _ _ (by omega)) (fun b b1 b2 => eI b (by omega) (by omega))⟩
theorem lw_areAlike {b L z : Nat} {xs : Nat → Int32} (hL0 : L ≤ 3072) : lwOK (lwI b L z xs) b z (z + 102) (z + 149) (z + 150) L w_Lw_law_1534 := by
  intro R K k h I h6 kk
  obtain ⟨hb, hC, mk, kd, idn, rt, dr, r, n, hm, hP, hM, hB⟩ := I
  have vp : ∀ j, j < 6 → ∀ h', lwC b L z xs h' → vp_in (nI (6 * k) + nI j) (hL h' b) := fun j hj h' hC => lw_vp hL0 hC.2.2.2.1 h6 hj
  have hz := hB.2.1
  have hwf := mIn_wf hm
  obtain ⟨hdw, hdm⟩ := mIn_dw hm
  refine ⟨b, rfl, hC.2.2.1, vp 1 (by decide) h hC, vp 2 (by decide) h hC, z, rfl, hP.1.1, ?_⟩
  rw [hC.2.2.2.2]
  generalize e1 : xs (nI (6 * k) + 1).toNatClampNeg = A1
  generalize e2 : xs (nI (6 * k) + 2).toNatClampNeg = A2
  refine p_TP_areAlike hP.1 hP.2.1 hm.1 hP.2.2.2.2.1 (by omega) hwf (mIn_mm hm) (fun e => ⟨rfl, ?_⟩) (fun v e hv G f => lw_putB hC.1 ?_)
  · have H := lw_exc (k := k) hb hC hm hP hM hB
    obtain ⟨-, hC7, hM7, -⟩ := id H
    refine ⟨hC7.2.2.1, vp 1 (by decide) _ hC7, vp 2 (by decide) _ hC7, z + 102, rfl, hM7.1.1, ?_⟩
    rw [hC7.2.2.2.2, e1, e2]
    exact p_Md_areAlike hM7.1 (by omega) hM7.2.1 hm.1 hM7.2.2.2.1 hwf (mIn_mm hm) (fun _ G k1 k2 => lw_tailB hM7.1.1 k1 hC7.1 (fun e => absurd e (by decide)) (kk _ (lw_fin H (fun c j hc => k2 c j (by omega)) (stM_31 hM7 (by omega) hwf k2)))) (fun v' e' => absurd (e.symm.trans e') (by simp))
  · have f7 : hFr h (wI h G) (fun c j => z + 1 + 37 ≤ c ∧ c < z + 1 + 50) (fun _ _ => False) := hFr_w h _ (fun c j hc => f c j (by omega))
    obtain ⟨q1, q2, q3, q4, q5, q6⟩ := reP_parts hP.2.2.2.2 (by omega) (by omega) hz f7 (fun c j g => by unfold fSc; omega) (fun c j g => g.elim)
    have eI : ∀ c, c < z + 1 + 37 ∨ z + 1 + 50 ≤ c → hI (wI h G) c = hI h c := fun c hc => funext fun j => f c j (by omega)
    have hP7 : stP (wI h G) z (z + 1) (z + 151) mk kd idn dr r n :=
      ⟨hP.1, MaP_k hP.2.1 (fun c c1 c2 => eI c (by omega)), DrP_k hP.2.2.1 (fun c c1 c2 => eI c (by omega)), fun j hj => by rw [eI (z + 1 + 68) (by omega)]; exact hP.2.2.2.1 j hj, q1, q2, q3, by rw [eI z (by omega)]; exact hP.2.2.2.2.2.2.2.1, fun j hj => by rw [eI (z + 1 + 71) (by omega)]; exact hP.2.2.2.2.2.2.2.2.1 j hj, q4, q5, q6⟩
    have H := lw_sJ (lw_cls (k := k) hb hC hm hM hB f7 (fun c j g => by omega) (fun c j g => g.elim) hm hP7 ⟨Nat.le_refl _, hB.1⟩ (by rw [wI_Z]; omega) (by rw [wI_U]; omega)) (z + 149) 0 (if v = 0 then 0 else 1)
    obtain ⟨-, hC7, hM7, -⟩ := id H
    refine ⟨hC7.2.2.1, vp 1 (by decide) _ hC7, vp 2 (by decide) _ hC7, z + 102, rfl, hM7.1.1, ?_⟩
    rw [hC7.2.2.2.2, e1, e2]
    exact p_Md_areAlike hM7.1 (by omega) hM7.2.1 hm.1 hM7.2.2.2.1 hwf (mIn_mm hm) (fun e' => absurd (e.symm.trans e') (by simp)) (fun v' e' G k1 k2 => lw_tailB hM7.1.1 k1 hC7.1 (fun _ => by rw [← Option.some.inj (e.symm.trans e')]; exact tpu_s _ _ _ _) (kk _ (lw_fin H (fun c j hc => k2 c j (by omega)) (stM_al hM7 (by omega) hwf k2))))
end CASE21
