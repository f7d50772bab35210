section MMENDB
variable {x p D z0 mk e0 e1 a1 k1 a2 k2 a3 k3 : Nat} {kd idn po : Nat → Int32} {b l r : mT}
/-- the ring, broken for the marks below i -/
noncomputable def rgI (b : mT) (s : mgS) (m i : Nat) : mgS := (sIn s, sWo s, fun k => if k < i ∧ (rgC (sUp s) m k && tIn b k) = true then tUp b k else sUp s k, sCf s ++ ((List.range i).filter (fun k => rgC (sUp s) m k && tIn b k)).map (fun k => (4, k)))
theorem p_brk62 {h0 : tpH} {s : mgS} {m : Nat} (hc : (sCf s).length + 300 < 92000) {n0 : Nat} (hn1 : 1 ≤ n0 ∧ n0 ≤ 184001) {R : tpH → Prop} (fin : ∀ h' n', MG h' x p D z0 mk e0 e1 a1 k1 a2 k2 a3 k3 kd idn po b l r → cfL h' p z0 e0 e1 (sCf (rgI b s m mk)) n' → n0 ≤ n' ∧ n' ≤ 184001 → hFr h0 h' (mtT p z0 e0 e1) (cfU p) → rsP (hI h') p mk (rgI b s m mk) → hZ h' ≤ hZ h0 + (n' - n0) → hU h' ≤ hU h0 + 4 * (n' - n0) → R h') :
    ∀ (f i n : Nat) (h : tpH), i ≤ mk → mk < f + i → MG h x p D z0 mk e0 e1 a1 k1 a2 k2 a3 k3 kd idn po b l r → cfL h p z0 e0 e1 (sCf (rgI b s m i)) n → n0 ≤ n ∧ n ≤ 184001 → hFr h0 h (mtT p z0 e0 e1) (cfU p) → rsP (hI h) p mk (rgI b s m i) → (∀ y, y < 300 → hI h (p + 79) y = if rgC (sUp s) m y = true then 1 else 0) → hZ h ≤ hZ h0 + (n - n0) → hU h ≤ hU h0 + 4 * (n - n0) → w_Mg_breakRing_62 R f (p + 69) (some a1) (nI i) h
  | 0, i, n, h, h1, h2, H, C, hn, fr, W, G, zz, uu => by omega
  | f + 1, i, n, h, h1, h2, H, C, hn, fr, W, G, zz, uu => by
    obtain ⟨X, B, _⟩ := id H
    obtain ⟨g0, ⟨rm, lm⟩, _, _, _, ⟨r5, w5⟩, ⟨r6, w6⟩, _⟩ := mgRw X.1.1
    have E := X.1.2.2.1
    unfold cfE at E
    have z1 := X.1.2.2.2
    have hk := X.2.2.1
    refine ⟨g0, p, rm, lm.1, ?_⟩
    rw [X.2.1.1]
    by_cases hi : i < mk
    · refine ⟨fun g => absurd ((nI_le_iff (by omega) (by omega)).mp g) (by omega), fun _ => ⟨p + 78, r6, w6.1, p_at w6 (by decide) ?_⟩⟩
      rw [rAt_n (by omega) (by decide), G i (by omega), nI_1]
      have rs : (List.range (i + 1)).filter (fun k => rgC (sUp s) m k && tIn b k) = (List.range i).filter (fun k => rgC (sUp s) m k && tIn b k) ++ (if (rgC (sUp s) m i && tIn b i) = true then [i] else []) := by
        rw [List.range_succ, List.filter_append, List.filter_cons]
        rfl
      -- nothing is to be done with this one
      have skip : (rgC (sUp s) m i && tIn b i) = false → w_Mg_breakRing_62 R f (p + 69) (some a1) (nI (i + 1)) h := fun e => by
        have e1' : sCf (rgI b s m (i + 1)) = sCf (rgI b s m i) := by
          show sCf s ++ ((List.range (i + 1)).filter (fun k => rgC (sUp s) m k && tIn b k)).map (fun k => (4, k)) = _
          rw [rs, e, if_neg Bool.false_ne_true, List.append_nil]
          rfl
        have e2' : sUp (rgI b s m (i + 1)) = sUp (rgI b s m i) := by
          funext k
          show (if k < i + 1 ∧ (rgC (sUp s) m k && tIn b k) = true then tUp b k else sUp s k) = (if k < i ∧ (rgC (sUp s) m k && tIn b k) = true then tUp b k else sUp s k)
          by_cases c : k = i
          · rw [c, e, if_neg (fun q => Bool.false_ne_true q.2), if_neg (fun q => Bool.false_ne_true q.2)]
          · by_cases c2 : k < i ∧ (rgC (sUp s) m k && tIn b k) = true
            · rw [if_pos c2, if_pos ⟨by omega, c2.2⟩]
            · rw [if_neg c2, if_neg (fun q => c2 ⟨by omega, q.2⟩)]
        exact p_brk62 hc hn1 fin f (i + 1) n h (by omega) (by omega) H (by rw [e1']; exact C) hn fr (fun y hy => by
          obtain ⟨q1, q2, q3⟩ := W y hy
          exact ⟨q1, q2, by rw [e2']; exact q3⟩) G zz uu
      cases er : rgC (sUp s) m i with
      | false =>
        rw [if_neg Bool.false_ne_true]
        exact ⟨fun _ => skip (by rw [er]; rfl), fun g => absurd g (by decide)⟩
      | true =>
        rw [if_pos rfl]
        refine ⟨fun g => absurd rfl g, fun _ => ⟨a1, rfl, B.1.1, tx_holds B (by omega) ?_⟩⟩
        cases eb : tIn b i with
        | false =>
          rw [if_neg Bool.false_ne_true]
          exact ⟨fun _ => skip (by rw [er, eb]; rfl), fun g => absurd rfl g⟩
        | true =>
          rw [if_pos rfl]
          refine ⟨fun g => absurd g (by decide), fun _ => ⟨g0, B.1.1, tx_par B (by omega) (fun u hu => ⟨p + 76, r5, w5.1, p_put w5 (by decide) ⟨g0, ?_⟩⟩)⟩⟩
          rw [hu eb, rPut_n (by omega) (by decide)]
          generalize eF : tpu (hI h) (p + 77) i (nO (tUp b i)) = F
          have fF : ∀ c j, ¬ (c = p + 77 ∧ j = i) → F c j = hI h c j := fun c j hc' => by rw [← eF, tpu_o hc']
          have f1 : hFr h (wI h F) (mtT p z0 e0 e1) (cfU p) := mt_w F (fun c j hc' => fF c j (by omega))
          have fb : hFr h (wI h F) (fun c _ => c = p + 77) no2 := hFr_w h _ (fun c j hc' => fF c j (fun g => hc' g.1))
          have C1 := cfL_fr C X.1.2.2.1 z1 fb (fun c j hc' _ g => by omega) (fun c j _ _ g => g)
          have lc : (sCf (rgI b s m i)).length ≤ (sCf s).length + 300 := by
            show (sCf s ++ ((List.range i).filter (fun k => rgC (sUp s) m k && tIn b k)).map (fun k => (4, k))).length ≤ _
            rw [List.length_append, List.length_map]
            have := flt_mk (p := fun k => rgC (sUp s) m k && tIn b k) i
            omega
          show w_Mg_list (p + 69) (nI 4) (nI i) (wI h F) _
          refine p_mgL (MG_fr H f1) C1 ⟨by omega, hn.2⟩ (by omega) (fun h2 n2 v1 v2 v3 v4 v5 v6 => ?_)
          have kp : ∀ c j, (c = p + 73 ∨ c = p + 75 ∨ c = p + 77 ∨ c = p + 79) → hI h2 c j = F c j := fun c j hc' => (v4.2 c (by show c < hZ h; omega)).2.2.2.2.1 j (fun g => by unfold cfT at g; omega)
          have e1' : sCf (rgI b s m (i + 1)) = sCf (rgI b s m i) ++ [(4, i)] := by
            show sCf s ++ ((List.range (i + 1)).filter (fun k => rgC (sUp s) m k && tIn b k)).map (fun k => (4, k)) = (sCf s ++ ((List.range i).filter (fun k => rgC (sUp s) m k && tIn b k)).map (fun k => (4, k))) ++ [(4, i)]
            rw [rs, er, eb, if_pos (by rfl), List.map_append, List.append_assoc]
            rfl
          have zw : hZ (wI h F) = hZ h := rfl
          have uw : hU (wI h F) = hU h := rfl
          refine p_brk62 hc hn1 fin f (i + 1) n2 h2 (by omega) (by omega) v1 (by rw [e1']; exact v2) ⟨by omega, v3.2⟩ (hFr_mono (hFr_tr fr (hFr_tr f1 (cfT_mt v4))) (fun _ _ _ g => g.elim id (fun g => g.elim id id)) (fun _ _ _ g => g.elim id (fun g => g.elim id id))) (fun y hy => ?_) (fun y hy => by rw [kp _ _ (by omega), fF _ _ (by omega)]; exact G y hy) (by omega) (by omega)
          obtain ⟨q1, q2, q3⟩ := W y hy
          refine ⟨by rw [kp _ _ (by omega), fF _ _ (by omega)]; exact q1, fun g => by rw [kp _ _ (by omega), fF _ _ (by omega)]; exact q2 g, ?_⟩
          rw [kp _ _ (by omega)]
          show F (p + 77) y = nO (if y < i + 1 ∧ (rgC (sUp s) m y && tIn b y) = true then tUp b y else sUp s y)
          by_cases c : y = i
          · rw [c, ← eF, tpu_s, if_pos ⟨by omega, by rw [er, eb]; rfl⟩]
          · rw [fF _ _ (by omega), q3]
            show nO (if y < i ∧ (rgC (sUp s) m y && tIn b y) = true then tUp b y else sUp s y) = _
            by_cases c2 : y < i ∧ (rgC (sUp s) m y && tIn b y) = true
            · rw [if_pos c2, if_pos ⟨by omega, c2.2⟩]
            · rw [if_neg c2, if_neg (fun q => c2 ⟨by omega, q.2⟩)]
    · have ei : i = mk := by omega
      subst ei
      exact ⟨fun _ => fin h n H C hn fr W zz uu, fun g => absurd ((nI_le_iff (by omega) (by omega)).mpr (by omega)) g⟩
theorem rgI_mk {b : mT} {s : mgS} {m mk R0 : Nat} (HH : mgH mk R0 b l r) : rgI b s m mk = ringS mk b s m := by
  have e : sUp (rgI b s m mk) = sUp (ringS mk b s m) := by
    funext k
    show (if k < mk ∧ (rgC (sUp s) m k && tIn b k) = true then tUp b k else sUp s k) = (if (rgC (sUp s) m k && tIn b k) = true then tUp b k else sUp s k)
    by_cases c : (rgC (sUp s) m k && tIn b k) = true
    · have c2 := c
      rw [Bool.and_eq_true] at c2
      rw [if_pos ⟨HH.2.2.2.1 k c2.2, c⟩, if_pos c]
    · rw [if_neg (fun q => c q.2), if_neg c]
  show (sIn s, sWo s, sUp (rgI b s m mk), _) = (sIn s, sWo s, sUp (ringS mk b s m), _)
  rw [e]
theorem p_break {h : tpH} {s : mgS} {R0 m n : Nat} (H : MG h x p D z0 mk e0 e1 a1 k1 a2 k2 a3 k3 kd idn po b l r) (HH : mgH mk R0 b l r) (I : mgI mk R0 po b l r s) (C : cfL h p z0 e0 e1 (sCf s) n) (hn : 1 ≤ n ∧ n ≤ 184001) (hc : (sCf s).length + 300 < 92000) (W : rsP (hI h) p mk s) (hm : m < mk) (hr : isRg (sUp s) m) {R : tpH → Prop} (kk : ∀ h' n', MG h' x p D z0 mk e0 e1 a1 k1 a2 k2 a3 k3 kd idn po b l r → cfL h' p z0 e0 e1 (sCf (ringS mk b s m)) n' → n ≤ n' ∧ n' ≤ 184001 → hFr h h' (mtT p z0 e0 e1) (cfU p) → rsP (hI h') p mk (ringS mk b s m) → hZ h' ≤ hZ h + (n' - n) → hU h' ≤ hU h + 4 * (n' - n) → R h') : w_Mg_breakRing (p + 69) (some a1) (nI m) h R := by
  obtain ⟨X, B, _⟩ := id H
  obtain ⟨g0, _, _, _, _, ⟨r5, w5⟩, ⟨r6, w6⟩, _⟩ := mgRw X.1.1
  have E := X.1.2.2.1
  unfold cfE at E
  have z1 := X.1.2.2.2
  have hk := X.2.2.1
  obtain ⟨k0, q1, q2, q3, q4⟩ := ring_bd hr (it_lt HH I hm)
  refine ⟨g0, p + 78, r6, w6.1, ?_⟩
  show w_Ro_fill (p + 78) (nI 300) 0 h _
  refine p_fill w6 (by decide) (Nat.le_refl _) ⟨k0 + 2, ?_⟩
  have fF : ∀ c, c ≠ p + 79 → rFill (hI h) (p + 79) 300 0 c = hI h c := fun c hc' => rFill_ne hc'
  have f0 : ∀ y, y < 300 → rFill (hI h) (p + 79) 300 0 (p + 79) y = 0 := fun y hy => rFill_in hy
  generalize rFill (hI h) (p + 79) 300 0 = F0 at fF f0
  have f1 : hFr h (wI h F0) (mtT p z0 e0 e1) (cfU p) := mt_w F0 (fun c j hc' => by rw [fF c (by omega)])
  have X1 := mX_fr X f1
  have W1 : rsP (hI (wI h F0)) p mk s := rsP_k W (fun c hc' => fF c (by omega))
  show w_Mg_breakRing_16 R (k0 + 2) (p + 69) (some a1) (nO (itU (sUp s) 0 m)) (nI 0) (wI h F0)
  refine p_brk16 HH I hm q1 q2 q4 X1 W1 (fun F fr G => ⟨mk + 1, ?_⟩) _ 0 F0 (Nat.zero_le _) (by omega) (fun c _ => rfl) (fun y hy => Or.inr ⟨f0 y hy, fun ⟨j, j1, _⟩ => absurd j1 (Nat.not_lt_zero _)⟩)
  have f2 : hFr h (wI h F) (mtT p z0 e0 e1) (cfU p) := mt_w F (fun c j hc' => by rw [fr c (by omega)]; show F0 c j = _; rw [fF c (by omega)])
  have fb : hFr h (wI h F) (fun c _ => c = p + 79) no2 := hFr_w h _ (fun c j hc' => by rw [fr c hc']; show F0 c j = _; rw [fF c hc'])
  have e0' : rgI b s m 0 = (sIn s, sWo s, sUp s, sCf s) := by
    have e : sUp (rgI b s m 0) = sUp s := by
      funext k
      show (if k < 0 ∧ (rgC (sUp s) m k && tIn b k) = true then tUp b k else sUp s k) = sUp s k
      rw [if_neg (fun q => absurd q.1 (Nat.not_lt_zero _))]
    show (sIn s, sWo s, sUp (rgI b s m 0), sCf s ++ []) = _
    rw [e, List.append_nil]
  have e0'' : rgI b s m 0 = s := e0'
  refine p_brk62 (s := s) (m := m) (h0 := h) (n0 := n) hc hn (fun h' n' v1 v2 v3 v4 v5 v6 v7 => ?_) (mk + 1) 0 n (wI h F) (Nat.zero_le _) (by omega) (MG_fr H f2) ?_ ⟨Nat.le_refl _, hn.2⟩ f2 ?_ G (Nat.le_add_right _ _) (Nat.le_add_right _ _)
  · rw [rgI_mk HH] at v2 v5
    exact kk h' n' v1 v2 v3 v4 v5 v6 v7
  · rw [e0'']
    exact cfL_fr C X.1.2.2.1 z1 fb (fun c j hc' _ g => by omega) (fun c j _ _ g => g)
  · rw [e0'']
    exact rsP_k W (fun c hc' => by rw [wI_I, fr c (by omega)]; show F0 c = _; rw [fF c (by omega)])
theorem p_mend2 {s0 : mgS} {R0 n0 : Nat} {h0 : tpH} (HH : mgH mk R0 b l r) (hn1 : 1 ≤ n0 ∧ n0 ≤ 184001) {R : tpH → Prop} (fin : ∀ h' n', MG h' x p D z0 mk e0 e1 a1 k1 a2 k2 a3 k3 kd idn po b l r → cfL h' p z0 e0 e1 (sCf (mdF mk b s0)) n' → n0 ≤ n' ∧ n' ≤ 184001 → hFr h0 h' (mtT p z0 e0 e1) (cfU p) → rsP (hI h') p mk (mdF mk b s0) → hZ h' ≤ hZ h0 + (n' - n0) → hU h' ≤ hU h0 + 4 * (n' - n0) → R h') :
    ∀ (N i n : Nat) (s : mgS) (h : tpH), cD mk b s + cO mk b s < N → i + N ≤ 1200 → mdF mk b s = mdF mk b s0 → mgI mk R0 po b l r s → (sCf s).length + 300 * cD mk b s + cO mk b s ≤ 91000 → MG h x p D z0 mk e0 e1 a1 k1 a2 k2 a3 k3 kd idn po b l r → cfL h p z0 e0 e1 (sCf s) n → n0 ≤ n ∧ n ≤ 184001 → hFr h0 h (mtT p z0 e0 e1) (cfU p) → rsP (hI h) p mk s → hZ h ≤ hZ h0 + (n - n0) → hU h ≤ hU h0 + 4 * (n - n0) → w_Mg_mendParents_2 R N (p + 69) (some a1) (nI i) h
  | 0, i, n, s, h, h1, h2, e, I, L, H, C, hn, fr, W, zz, uu => by omega
  | N + 1, i, n, s, h, h1, h2, e, I, L, H, C, hn, fr, W, zz, uu => by
    obtain ⟨X, B, _⟩ := id H
    obtain ⟨g0, ⟨rm, lm⟩, _, ⟨r3, w3⟩, ⟨r4, w4⟩, ⟨r5, w5⟩, ⟨r6, w6⟩, _⟩ := mgRw X.1.1
    have E := X.1.2.2.1
    unfold cfE at E
    have z1 := X.1.2.2.2
    have hk := X.2.2.1
    have e12 : (1200 : Int32) = nI 1200 := rfl
    have c6 := cDO hk b s
    refine ⟨fun g => absurd ((nI_le_iff (a := 1200) (by decide) (by omega)).mp g) (by omega), fun _ => ⟨g0, mk + 1, ?_⟩⟩
    refine p_lost2 X HH I W (fun m q ho hu => ⟨fun _ => ?_, fun g => ?_⟩) (fun ho => ⟨fun g => absurd rfl g, fun _ => ⟨g0, mk + 1, ?_⟩⟩) (mk + 1) 0 (Nat.zero_le _) (by omega) (fun j hj => absurd hj (Nat.not_lt_zero _))
    · obtain ⟨q', h1', h2', h3', h4'⟩ := orp_s ho
      rw [hu] at h3'
      have eq : q = q' := Option.some.inj h3'
      subst eq
      have qb := lost_b HH I hu h4'
      have q3 := up_lt HH I hu
      have st := mdS_1 (b := b) ho hu
      obtain ⟨I', m1, m2⟩ := mdS_s HH I st
      refine ⟨fun g => absurd g (nI_ne_m (by omega)), fun _ => ⟨a1, rfl, B.1.1, tx_worth B (by omega) (fun v hv => ⟨B.1.1, tx_par B (by omega) (fun u hu' => ⟨g0, p_letIn X.1.1 (by omega) ⟨g0, ?_⟩⟩)⟩)⟩⟩
      rw [hv qb, hu' qb]
      generalize eF : tpu (tpu (tpu (hI h) (p + 73) q 1) (p + 75) q (tWo b q)) (p + 77) q (nO (tUp b q)) = F
      have fF : ∀ c j, ¬ ((c = p + 73 ∨ c = p + 75 ∨ c = p + 77) ∧ j = q) → F c j = hI h c j := fun c j hc' => by rw [← eF, tpu_o (by omega), tpu_o (by omega), tpu_o (by omega)]
      have f1 : hFr h (wI h F) (mtT p z0 e0 e1) (cfU p) := mt_w F (fun c j hc' => fF c j (by omega))
      have fb : hFr h (wI h F) (fun c _ => c = p + 73 ∨ c = p + 75 ∨ c = p + 77) no2 := hFr_w h _ (fun c j hc' => fF c j (fun g => hc' g.1))
      have C1 := cfL_fr C X.1.2.2.1 z1 fb (fun c j hc' _ g => by omega) (fun c j _ _ g => g)
      show w_Mg_list (p + 69) (nI 3) (nI q) (wI h F) _
      refine p_mgL (MG_fr H f1) C1 ⟨by omega, hn.2⟩ (by omega) (fun h2 n2 v1 v2 v3 v4 v5 v6 => ?_)
      have kp : ∀ c j, (c = p + 73 ∨ c = p + 75 ∨ c = p + 77) → hI h2 c j = F c j := fun c j hc' => (v4.2 c (by show c < hZ h; omega)).2.2.2.2.1 j (fun g => by unfold cfT at g; omega)
      have zw : hZ (wI h F) = hZ h := rfl
      have uw : hU (wI h F) = hU h := rfl
      rw [nI_1]
      refine p_mend2 HH hn1 fin N (i + 1) n2 (lostS b s q) h2 (by omega) (by omega) ((mdF_s HH I st).symm.trans e) I' (by omega) v1 v2 ⟨by omega, v3.2⟩ (hFr_mono (hFr_tr fr (hFr_tr f1 (cfT_mt v4))) (fun _ _ _ g => g.elim id (fun g => g.elim id id)) (fun _ _ _ g => g.elim id (fun g => g.elim id id))) (fun y hy => ?_) (by omega) (by omega)
      obtain ⟨w1, w2, w3⟩ := W y hy
      rw [kp _ _ (by omega), kp _ _ (by omega), kp _ _ (by omega)]
      show F (p + 73) y = (if mU (sIn s) q true y = true then 1 else 0) ∧ (mU (sIn s) q true y = true → F (p + 75) y = mU (sWo s) q (tWo b q) y) ∧ F (p + 77) y = nO (mU (sUp s) q (tUp b q) y)
      by_cases c : y = q
      · rw [c, mU_s, mU_s, mU_s, ← eF]
        exact ⟨by rw [tpu_o (by omega), tpu_o (by omega), tpu_s]; rfl, fun _ => by rw [tpu_o (by omega), tpu_s], tpu_s _ _ _ _⟩
      · rw [mU_n _ _ c, mU_n _ _ c, mU_n _ _ c, fF _ _ (by omega), fF _ _ (by omega), fF _ _ (by omega)]
        exact ⟨w1, w2, w3⟩
    · have := up_lt HH I hu
      exact absurd g (nI_ne_m (by omega))
    · refine p_rlow2 X HH I W (fun m hr => ⟨fun _ => ⟨fun g => ?_, fun _ => ⟨g0, ?_⟩⟩, fun g => absurd rfl g⟩) (fun hr => ⟨fun _ => ⟨fun _ => ?_, fun g => absurd rfl g⟩, fun g => absurd rfl g⟩) (mk + 1) 0 (Nat.zero_le _) (by omega) (fun j hj => absurd hj (Nat.not_lt_zero _))
      · have := (rng_s hr).1
        exact absurd g (nI_ne_m (by omega))
      · obtain ⟨m1, m2, m3⟩ := rng_s hr
        have st := mdS_2 (b := b) ho hr
        obtain ⟨I', m4, m5⟩ := mdS_s HH I st
        refine p_break H HH I C ⟨by omega, hn.2⟩ (by omega) W m1 m3 (fun h2 n2 v1 v2 v3 v4 v5 v6 v7 => ?_)
        rw [nI_1]
        exact p_mend2 HH hn1 fin N (i + 1) n2 (ringS mk b s m) h2 (by omega) (by omega) ((mdF_s HH I st).symm.trans e) I' (by omega) v1 v2 ⟨by omega, v3.2⟩ (hFr_mono (hFr_tr fr v4) (fun _ _ _ g => g.elim id id) (fun _ _ _ g => g.elim id id)) v5 (by omega) (by omega)
      · have e' : mdF mk b s0 = s := e.symm.trans (mdF_n (mdS_3 ho hr))
        rw [e'] at fin
        exact fin h n H C hn fr W zz uu
end MMENDB
