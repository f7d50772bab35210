section MERGE16
variable {x p D z0 mk e0 e1 a1 k1 a2 k2 a3 k3 : Nat} {kd idn po : Nat → Int32} {b l r : mT}
def cfI (po : Nat → Int32) (b l r : mT) (i : Nat) : List (Nat × Nat) := (List.range i).flatMap (fun m => (mgD po b l r m).2)
theorem cfI_s (po : Nat → Int32) (b l r : mT) (i : Nat) : cfI po b l r (i + 1) = cfI po b l r i ++ (mgD po b l r i).2 := by
  unfold cfI
  rw [List.range_succ, List.flatMap_append, List.flatMap_cons, List.flatMap_nil, List.append_nil]
theorem mgD_2 (po : Nat → Int32) (b l r : mT) (m : Nat) : (mgD po b l r m).2.length ≤ 2 := by
  have one : ∀ (s : mT) (w : Int32), (mg1 po b s w m).2.length ≤ 2 := fun s w => by
    unfold mg1
    by_cases cb : tIn b m = true
    · rw [if_pos cb]
      by_cases ct : mgTch b s m = true
      · rw [if_pos ct]; show 1 ≤ 2; omega
      · rw [if_neg ct]; show 0 ≤ 2; omega
    · rw [if_neg cb]; show 0 ≤ 2; omega
  unfold mgD
  by_cases cl : tIn l m = true
  · rw [if_pos cl]
    by_cases cr : tIn r m = true
    · rw [if_pos cr]
      show ((if (mgV po b l r m).2 = true then [(1, m)] else []) ++ (if (mgU po b l r m).2 = true then [(2, m)] else [])).length ≤ 2
      rw [List.length_append]
      by_cases c1 : (mgV po b l r m).2 = true
      · rw [if_pos c1]
        by_cases c2 : (mgU po b l r m).2 = true
        · rw [if_pos c2]; exact Nat.le_refl _
        · rw [if_neg c2]; show 1 + 0 ≤ 2; omega
      · rw [if_neg c1]
        by_cases c2 : (mgU po b l r m).2 = true
        · rw [if_pos c2]; show 0 + 1 ≤ 2; omega
        · rw [if_neg c2]; show 0 + 0 ≤ 2; omega
    · rw [if_neg cr]; exact one l 1
  · rw [if_neg cl]
    by_cases cr : tIn r m = true
    · rw [if_pos cr]; exact one r 2
    · rw [if_neg cr]; show 0 ≤ 2; omega
theorem cfI_l (po : Nat → Int32) (b l r : mT) : ∀ i, (cfI po b l r i).length ≤ 2 * i
  | 0 => Nat.le_refl _
  | i + 1 => by
    rw [cfI_s, List.length_append]
    have := cfI_l po b l r i
    have := mgD_2 po b l r i
    omega
theorem p_mg17 {h0 : tpH} {n0 : Nat} (hk : mk ≤ 300) (hn1 : 1 ≤ n0) {R : Option Nat → tpH → Prop} (fin : ∀ h' n', MG h' x p D z0 mk e0 e1 a1 k1 a2 k2 a3 k3 kd idn po b l r → cfL h' p z0 e0 e1 (sCf (mg0 po b l r mk)) n' → n0 ≤ n' ∧ n' ≤ 184001 → hFr h0 h' (mtT p z0 e0 e1) (cfU p) → rsP (hI h') p mk (mg0 po b l r mk) → hZ h' ≤ hZ h0 + (n' - n0) → hU h' ≤ hU h0 + 4 * (n' - n0) → w_Mg_mendParents (p + 69) (some a1) h' (fun h6 => ∃ a7, some a1 = some a7 ∧ hT h6 a7 = 12 ∧ (w_Tr_markOf a7 (0 : Int32) h6 (fun v11 h10 => hT h10 (p + 69) = 7 ∧ (w_Mg_sproutAll (p + 69) v11 h10 (fun h13 => ∃ n, w_Mg_mergeTrees_69 R n (p + 69) (some a1) (some a2) (some a3) v11 v11 (0 : Int32) h13)))))) :
    ∀ (f i n : Nat) (h : tpH), i ≤ mk → mk < f + i → MG h x p D z0 mk e0 e1 a1 k1 a2 k2 a3 k3 kd idn po b l r → cfL h p z0 e0 e1 (cfI po b l r i) n → n0 ≤ n ∧ n ≤ 184001 → hFr h0 h (mtT p z0 e0 e1) (cfU p) → rsP (hI h) p i (mg0 po b l r mk) → hZ h ≤ hZ h0 + (n - n0) → hU h ≤ hU h0 + 4 * (n - n0) → w_Mg_mergeTrees_17 R f (p + 69) (some a1) (some a2) (some a3) (nI i) h
  | 0, i, n, h, h1, h2, H, C, hn, fr, W, zz, uu => by omega
  | f + 1, i, n, h, h1, h2, H, C, hn, fr, W, zz, uu => by
    obtain ⟨g0, ⟨rm, lm⟩, _⟩ := mgRw H.1.1.1
    refine ⟨g0, p, rm, lm.1, ?_⟩
    rw [H.1.2.1.1]
    by_cases hi : i < mk
    · refine ⟨fun g => absurd ((nI_le_iff (by omega) (by omega)).mp g) (by omega), fun _ => ?_⟩
      have lc := cfI_l po b l r i
      refine p_decide H C ⟨by omega, hn.2⟩ (by omega) (by omega) (fun h' n' v1 v2 v3 v4 v5 v6 v7 v8 => ?_)
      rw [nI_1]
      refine p_mg17 hk hn1 fin f (i + 1) n' h' (by omega) (by omega) v1 (by rw [cfI_s]; exact v2) ⟨by omega, v3.2⟩ (hFr_mono (hFr_tr fr v4) (fun _ _ _ g => g.elim id id) (fun _ _ _ g => g.elim id id)) (fun m hm => ?_) (by omega) (by omega)
      by_cases c : m = i
      · subst c
        refine ⟨v5.1, fun g => ?_, v5.2.2⟩
        obtain ⟨v, u, q1, q2, _⟩ := sIn_mg0 g
        rw [v5.2.1 _ q1, q2]
      · obtain ⟨w1, w2, w3⟩ := v6 m c
        rw [w1, w2, w3]
        exact W m (by omega)
    · have ei : i = mk := by omega
      subst ei
      exact ⟨fun _ => fin h n H C hn fr W zz uu, fun g => absurd ((nI_le_iff (by omega) (by omega)).mpr (by omega)) g⟩
theorem p_spr18 {h1 : tpH} {R0 : Nat} {s : mgS} (H1 : MG h1 x p D z0 mk e0 e1 a1 k1 a2 k2 a3 k3 kd idn po b l r) (HH : mgH mk R0 b l r) (I : mgI mk R0 po b l r s) (W : rsP (hI h1) p mk s) {R : tpH → Prop} (fin : ∀ F, bnF h1 p F → BuP F (p + 20) (spT R0 s mk) → F (p + 20) 8 = nI R0 → R (wI h1 F)) :
    ∀ (f i : Nat) (F : Nat → Nat → Int32), i ≤ mk → mk < f + i → bnF h1 p F → BuP F (p + 20) (spT R0 s i) → F (p + 20) 8 = nI R0 → w_Mg_sproutAll_18 R f (p + 69) (nI R0) (nI i) (wI h1 F)
  | 0, i, F, h1', h2, fr, hB, g8 => by omega
  | f + 1, i, F, h1', h2, fr, hB, g8 => by
    have hk := HH.2.2.1
    have X := (MG_fr H1 (bn_fr (z0 := z0) (e0 := e0) (e1 := e1) fr)).1
    obtain ⟨g0, ⟨rm, lm⟩, ⟨rb, lb⟩, ⟨r3, w3⟩, ⟨r4, w4⟩, _⟩ := mgRw X.1.1
    have R3 := (I.1 R0 I.2.2.2.2.1.1).1
    refine ⟨g0, p, rm, lm.1, ?_⟩
    rw [X.2.1.1]
    by_cases hi : i < mk
    · obtain ⟨q1, q2, _⟩ := W i hi
      refine ⟨fun g => absurd ((nI_le_iff (by omega) (by omega)).mp g) (by omega), fun _ => ⟨p + 72, r3, w3.1, p_at w3 (by decide) ?_⟩⟩
      rw [rAt_n (by omega) (by decide), wI_I, fr (p + 73) (by omega), q1, nI_1]
      have skip : (∀ y, tIn (spT R0 s i) y = tIn (spT R0 s (i + 1)) y) → w_Mg_sproutAll_18 R f (p + 69) (nI R0) (nI (i + 1)) (wI h1 F) := fun g => p_spr18 H1 HH I W fin f (i + 1) F (by omega) (by omega) fr (BuP_ext hB g (fun y _ => ⟨rfl, rfl, rfl⟩)) g8
      cases ei : sIn s i with
      | false =>
        rw [if_neg Bool.false_ne_true]
        refine ⟨fun _ => skip (fun y => Bool.eq_iff_iff.mpr ?_), fun g => absurd g (by decide)⟩
        rw [spT_in, spT_in]
        refine ⟨fun g => g.elim Or.inl (fun g => Or.inr ⟨g.1, by omega⟩), fun g => g.elim Or.inl (fun g => Or.inr ⟨g.1, ?_⟩)⟩
        have : y ≠ i := fun e => by rw [e, ei] at g; cases g.1
        omega
      | true =>
        rw [if_pos rfl]
        refine ⟨fun g => absurd rfl g, fun _ => ⟨fun g => ?_, fun g => ⟨g0, p + 74, r4, w4.1, p_at w4 (by decide) ⟨p + 20, rb, lb.1, ?_⟩⟩⟩⟩
        · have eR : i = R0 := nI_inj (by omega) (by omega) g
          refine skip (fun y => Bool.eq_iff_iff.mpr ?_)
          rw [spT_in, spT_in]
          refine ⟨fun g => g.elim Or.inl (fun g => Or.inr ⟨g.1, by omega⟩), fun g => g.elim Or.inl (fun g => ?_)⟩
          by_cases c : y = i
          · exact Or.inl (by rw [c, eR])
          · exact Or.inr ⟨g.1, by omega⟩
        · have nR : i ≠ R0 := fun e => g (by rw [e])
          rw [rAt_n (by omega) (by decide), wI_I, fr (p + 75) (by omega), q2 ei]
          show w_Bu_sprout (p + 20) (nI i) (sWo s i) (wI h1 F) _
          rw [e_Bu_sprout (h := h1) (mgRw H1.1.1.1).2.2.1.2]
          have ni : tIn (spT R0 s i) i = false := by
            cases e : tIn (spT R0 s i) i with
            | false => rfl
            | true => rcases spT_in.mp e with q | q
                      · exact absurd q nR
                      · omega
          have hB2 := bu_spr (w := sWo s i) hB (spT_wf HH I i) (show i < 300 by omega) ni
          have fr2 : ∀ d j, ¬ (p + 22 ≤ d ∧ d ≤ p + 34) → ¬ (d = p + 20 ∧ j = 9) → uSprout F (p + 20) (nI i) (sWo s i) d j = F d j := fun d j q1 q2 => spr_fr (by omega) (by omega) (by omega)
          generalize uSprout F (p + 20) (nI i) (sWo s i) = G at hB2 fr2
          refine p_spr18 H1 HH I W fin f (i + 1) G (by omega) (by omega) (fun c hc => funext fun j => by rw [fr2 c j (by omega) (by omega), fr c hc]) (BuP_ext hB2 (fun y => Bool.eq_iff_iff.mpr ?_) (fun y hy => ?_)) (by rw [fr2 _ _ (by omega) (by omega)]; exact g8)
          · show mU (tIn (spT R0 s i)) i true y = true ↔ _
            rw [spT_in]
            by_cases c : y = i
            · rw [c, mU_s]
              exact ⟨fun _ => Or.inr ⟨ei, by omega⟩, fun _ => rfl⟩
            · rw [mU_n _ _ c, spT_in]
              exact ⟨fun g => g.elim Or.inl (fun g => Or.inr ⟨g.1, by omega⟩), fun g => g.elim Or.inl (fun g => Or.inr ⟨g.1, by omega⟩)⟩
          · by_cases c : y = i
            · rw [c]
              exact ⟨mU_s _ _ _, mU_s _ _ _, mU_s _ _ _⟩
            · exact ⟨mU_n _ _ c, mU_n _ _ c, mU_n _ _ c⟩
    · have ei : i = mk := by omega
      subst ei
      exact ⟨fun _ => fin F fr hB g8, fun g => absurd ((nI_le_iff (by omega) (by omega)).mpr (by omega)) g⟩
/-- what merging gives -/
noncomputable def mgF (po : Nat → Int32) (mk : Nat) (b l r : mT) : mgS := mdF mk b (mg0 po b l r mk)
noncomputable def mgRes (po : Nat → Int32) (mk R0 : Nat) (b l r : mT) (lo : Nat → Bool) : mT := mgTr po mk R0 b l r (mgF po mk b l r) lo
noncomputable def mgCfl (po : Nat → Int32) (mk R0 : Nat) (b l r : mT) (lo : Nat → Bool) : List (Nat × Nat) := sCf (mgF po mk b l r) ++ ((pO (mgRes po mk R0 b l r lo)).filter (orB po b l r (mgF po mk b l r) lo)).map (fun q => (5, q))
theorem mgF_I {R0 : Nat} (HH : mgH mk R0 b l r) : mgI mk R0 po b l r (mgF po mk b l r) ∧ mgE mk (mgF po mk b l r) ∧ (sCf (mgF po mk b l r)).length ≤ 90900 ∧ (sCf (mg0 po b l r mk)).length + 300 * cD mk b (mg0 po b l r mk) + cO mk b (mg0 po b l r mk) ≤ 91000 ∧ cD mk b (mg0 po b l r mk) + cO mk b (mg0 po b l r mk) < 601 := by
  have I := mg0_I (po := po) HH
  have hk := HH.2.2.1
  have c := cDO hk b (mg0 po b l r mk)
  have l0 : (sCf (mg0 po b l r mk)).length ≤ 2 * mk := cfI_l po b l r mk
  have d0 : cD mk b (mg0 po b l r mk) ≤ mk := flt_mk mk
  have o0 : cO mk b (mg0 po b l r mk) ≤ mk := flt_mk mk
  obtain ⟨q1, q2, q3⟩ := mdF_I HH 601 (mg0 po b l r mk) I (by omega)
  exact ⟨q1, mgE_of q1 q2, by show (sCf (mdF mk b (mg0 po b l r mk))).length ≤ 90900; omega, by omega, by omega⟩
theorem p_mg69 {h0 : tpH} {s : mgS} {R0 n0 : Nat} {T : mT} (eT : T = mgTr po mk R0 b l r s (loK kd)) (HH : mgH mk R0 b l r) (I : mgI mk R0 po b l r s) (Eg : mgE mk s) (hl : (sCf s).length ≤ 90900) (hn1 : 1 ≤ n0) {R : Option Nat → tpH → Prop} (fin : ∀ h' n', MG h' x p D z0 mk e0 e1 a1 k1 a2 k2 a3 k3 kd idn po b l r → cfL h' p z0 e0 e1 (sCf s ++ ((pO T).filter (orB po b l r s (loK kd))).map (fun q => (5, q))) n' → n0 ≤ n' ∧ n' ≤ 184001 → hFr h0 h' (mtT p z0 e0 e1) (cfU p) → BuP (hI h') (p + 20) T → hI h' (p + 20) 8 = nI R0 → hZ h' ≤ hZ h0 + (n' - n0) → hU h' ≤ hU h0 + 4 * (n' - n0) → w_Mg_mergeTrees_111 R (p + 69) h') :
    ∀ (f i n : Nat) (h : tpH), i ≤ (pO T).length → (pO T).length < f + i → MG h x p D z0 mk e0 e1 a1 k1 a2 k2 a3 k3 kd idn po b l r → cfL h p z0 e0 e1 (sCf s ++ (((pO T).take i).filter (orB po b l r s (loK kd))).map (fun q => (5, q))) n → n0 ≤ n ∧ n ≤ 184001 → hFr h0 h (mtT p z0 e0 e1) (cfU p) → rsP (hI h) p mk s → BuP (hI h) (p + 20) (FK R0 s (Kv T i)) → hI h (p + 20) 8 = nI R0 → hZ h ≤ hZ h0 + (n - n0) → hU h ≤ hU h0 + 4 * (n - n0) → w_Mg_mergeTrees_69 R f (p + 69) (some a1) (some a2) (some a3) (nI R0) (headO ((pO T).drop i)) (nI i) h
  | 0, i, n, h, h1, h2, H, C, hn, fr, W, hB, g8, zz, uu => by omega
  | f + 1, i, n, h, h1, h2, H, C, hn, fr, W, hB, g8, zz, uu => by
    have hT : tWF 300 T := by rw [eT]; exact mgTr_wf HH I Eg (loK kd)
    have l5 := pO_le hT
    have euT : tUp T = sUp s := by rw [eT]; rfl
    have erT : tRt T = R0 := by rw [eT]; rfl
    have ekT : tKi T = KF po mk b l r s (loK kd) := by rw [eT]; rfl
    have einT : tIn T = sIn s := by rw [eT]; rfl
    have kT : ∀ q, kOK s q (tKi T q) := fun q => by
      rw [ekT]
      exact ⟨(KF_OK HH I (loK kd) q).1, fun m hm => ((KF_OK HH I (loK kd) q).2 m).mp hm⟩
    have kK : ∀ j z, kOK s z (Kv T j z) := fun j z => by
      unfold Kv
      by_cases c : kvS T j z = true
      · rw [if_pos c]; exact kT z
      · rw [if_neg c]; exact ⟨List.nodup_nil, fun m hm => by cases hm⟩
    have e3 : (300 : Int32) = nI 300 := rfl
    have done : i = (pO T).length → w_Mg_mergeTrees_111 R (p + 69) h := fun ei => by
      rw [ei, List.take_length] at C
      refine fin h n H C hn fr (BuP_ext hB (fun y => by rw [einT]; rfl) (fun y hy => ?_)) g8 zz uu
      have ly := pl_lt hT hy
      have ky : ∀ z, tIn T z = true → Kv T i z = tKi T z := fun z hz => by
        unfold Kv
        rw [if_pos (kvS_iff.mpr ⟨hz, by have := pl_lt hT hz; omega⟩)]
      refine ⟨by rw [eT]; rfl, ?_, ky y hy⟩
      cases e : tUp T y with
      | none =>
        have e' := e
        rw [euT] at e'
        show (match sUp s y with
          | some q => if y ∈ Kv T i q then some q else none
          | none => none) = none
        rw [e']
      | some w =>
        have iw := hT.1.2.2.2.2 y w hy e
        refine (FK_up (kK i)).mpr ?_
        rw [ky w iw]
        exact (hT.1.2.1 y w).mpr ⟨hy, e⟩
    by_cases hi : i < (pO T).length
    · obtain ⟨m, em, pm, hm, _⟩ := dr_cons hT hi
      have m3 := hT.1.1 m hm
      have mm : m < mk := by
        rw [einT] at hm
        exact (I.1 m hm).1
      rw [em]
      refine ⟨fun g => absurd ((nI_le_iff (a := 300) (by decide) (by omega)).mp g) (by omega), fun _ => ⟨fun g => absurd g (nI_ne_m (show m < _ by omega)), fun _ => ⟨(mgRw H.1.1.1).1, ?_⟩⟩⟩
      obtain ⟨ks, k0⟩ := Kv_s hT hm pm
      rw [ekT] at ks
      have lf : (((pO T).take i).filter (orB po b l r s (loK kd))).length ≤ 300 := by
        have h1' := List.length_filter_le (orB po b l r s (loK kd)) ((pO T).take i)
        rw [List.length_take] at h1'
        omega
      show w_Mg_hangChildren (p + 69) (some a1) (some a2) (some a3) (nI m) h _
      refine p_kids H HH I Eg C ⟨by omega, hn.2⟩ (by rw [List.length_append, List.length_map]; omega) W (kK i) mm k0 hB (fun h' n' v1 v2 v3 v4 v5 v6 v7 v8 v9 v10 => ?_)
      rw [ks] at v6 v7
      obtain ⟨g0', _, ⟨rb, lb⟩, _⟩ := mgRw v1.1.1.1
      have hw := FK_wf HH I Eg (kK (i + 1))
      obtain ⟨A, L, eA, eL⟩ := pre_next hT euT erT (C := FK R0 s (Kv T (i + 1))) hw.2.2.2.1 hm pm (fun y => rfl)
      refine ⟨g0', p + 20, rb, lb.1, ?_⟩
      show w_Bu_nextInOrder (p + 20) (nI m) (nI R0) (wI h' (hI h')) _
      refine p_Bu_nextInOrder lb (BuP_L v7) hw I.2.2.2.2.1.1 eA ?_
      rw [eL, nI_1]
      have et : (pO T).take (i + 1) = (pO T).take i ++ [m] := by
        rw [List.take_add_one]
        have := pO_at hT hm
        rw [pm] at this
        rw [this]
        rfl
      refine p_mg69 eT HH I Eg hl hn1 fin f (i + 1) n' h' (by omega) (by omega) v1 ?_ ⟨by omega, v3.2⟩ (hFr_mono (hFr_tr fr v4) (fun _ _ _ g => g.elim id id) (fun _ _ _ g => g.elim id id)) v5 v7 (v8.trans g8) (by omega) (by omega)
      rw [et, List.filter_append, List.map_append, ← List.append_assoc]
      have e1' : ([m].filter (orB po b l r s (loK kd))).map (fun q => (5, q)) = (if orB po b l r s (loK kd) m = true then [(5, m)] else []) := by
        rw [List.filter_cons]
        by_cases c : orB po b l r s (loK kd) m = true
        · rw [if_pos c, if_pos c]; rfl
        · rw [if_neg c, if_neg c]; rfl
      rw [e1']
      exact v2
    · have ei : i = (pO T).length := by omega
      rw [List.drop_eq_nil_of_le (by omega)]
      exact ⟨fun _ => done ei, fun _ => ⟨fun _ => done ei, fun g => absurd rfl g⟩⟩
theorem p_mergeTrees {h : tpH} {R0 n : Nat} {cf0 : List (Nat × Nat)} (H : MG h x p D z0 mk e0 e1 a1 k1 a2 k2 a3 k3 kd idn po b l r) (HH : mgH mk R0 b l r) (C : cfL h p z0 e0 e1 cf0 n) (hn : 1 ≤ n ∧ n ≤ 184001) {R : Option Nat → tpH → Prop} (kk : ∀ h' n' a', MG h' x p D z0 mk e0 e1 a1 k1 a2 k2 a3 k3 kd idn po b l r → cfL h' p z0 e0 e1 (mgCfl po mk R0 b l r (loK kd)) n' → n ≤ n' ∧ n' ≤ 184001 → hFr h h' (mtT p z0 e0 e1) (cfU p) → z0 ≤ a' ∧ hZ h ≤ a' ∧ a' + 19 ≤ hZ h' → lTr h' a' (pO (mgRes po mk R0 b l r (loK kd))).length mk → TrP (hI h') a' (mgRes po mk R0 b l r (loK kd)) mk → (∀ c, hR h' (p + 86) 0 = some c ∨ hR h' (p + 88) 0 = some c → c < a') → hZ h' ≤ hZ h + 19 + (n' - n) → hU h' ≤ hU h + 2728 + 4 * (n' - n) → R (some a') h') : w_Mg_mergeTrees (p + 69) (some a1) (some a2) (some a3) h R := by
  obtain ⟨X, B, _⟩ := id H
  obtain ⟨g0, g1, g2, g3, g4, _⟩ := lTP_mgL X.1.1
  have E := X.1.2.2.1
  unfold cfE at E
  have z1 := X.1.2.2.2
  obtain ⟨I, Eg, hl, hL, hM⟩ := mgF_I (po := po) HH
  have I0 := mg0_I (po := po) HH
  have hT : tWF 300 (mgRes po mk R0 b l r (loK kd)) := mgTr_wf HH I Eg (loK kd)
  refine ⟨g0, p + 86, g1, g2, g2, fun h5 e5 => ?_⟩
  have e5 : h5 = wI h (tpu (hI h) (p + 86) 1 0) := e5
  subst e5
  refine ⟨g0, p + 88, g3, g4, g4, fun h6 e6 => ?_⟩
  have e6 : h6 = wI h (tpu (tpu (hI h) (p + 86) 1 0) (p + 88) 1 0) := e6
  subst e6
  have fF : ∀ c j, ¬ ((c = p + 86 ∨ c = p + 88) ∧ j = 1) → tpu (tpu (hI h) (p + 86) 1 0) (p + 88) 1 0 c j = hI h c j := fun c j hc => by rw [tpu_o (by omega), tpu_o (by omega)]
  have f86 : tpu (tpu (hI h) (p + 86) 1 0) (p + 88) 1 0 (p + 86) 1 = 0 := by rw [tpu_o (by omega), tpu_s]
  have f88 : tpu (tpu (hI h) (p + 86) 1 0) (p + 88) 1 0 (p + 88) 1 = 0 := tpu_s _ _ _ _
  generalize tpu (tpu (hI h) (p + 86) 1 0) (p + 88) 1 0 = F at fF f86 f88
  have f1 : hFr h (wI h F) (mtT p z0 e0 e1) (cfU p) := hFr_w h _ (fun c j hc => by unfold mtT at hc; exact fF c j (by omega))
  have H1 := MG_fr H f1
  have C1 : cfL (wI h F) p z0 e0 e1 (cfI po b l r 0) n := by
    obtain ⟨c, c', ⟨q1, q2, q3⟩, ⟨q4, q5, q6⟩, q7, _, _⟩ := C
    exact ⟨c, c', ⟨rwL_w q1, q2, q3⟩, ⟨rwL_w q4, q5, q6⟩, q7, ⟨f86, f88, Nat.zero_le _⟩, fun i e hi => by simp [cfI] at hi⟩
  refine ⟨mk + 1, ?_⟩
  show w_Mg_mergeTrees_17 R (mk + 1) (p + 69) (some a1) (some a2) (some a3) (nI 0) (wI h F)
  refine p_mg17 (h0 := h) (n0 := n) HH.2.2.1 hn.1 (fun h7 n7 v1 v2 v3 v4 v5 v6 v7 => ⟨601, ?_⟩) (mk + 1) 0 n (wI h F) (Nat.zero_le _) (by omega) H1 C1 ⟨Nat.le_refl _, hn.2⟩ f1 (fun m hm => absurd hm (Nat.not_lt_zero _)) (Nat.le_add_right _ _) (Nat.le_add_right _ _)
  refine p_mend2 (s0 := mg0 po b l r mk) (h0 := h) (n0 := n) HH hn (fun h8 n8 y1 y2 y3 y4 y5 y6 y7 => ?_) 601 0 n7 (mg0 po b l r mk) h7 hM (by decide) rfl I0 hL v1 v2 v3 v4 v5 v6 v7
  have y2 : cfL h8 p z0 e0 e1 (sCf (mgF po mk b l r)) n8 := y2
  have y5 : rsP (hI h8) p mk (mgF po mk b l r) := y5
  obtain ⟨X8, B8, _⟩ := id y1
  obtain ⟨b1, ⟨b2, _⟩, b3, b4, b5, _⟩ := id B8
  obtain ⟨g80, ⟨_, lm8⟩, ⟨rb8, lb8⟩, _, ⟨r48, w48⟩, _⟩ := mgRw X8.1.1
  have R3 := b4.1.1 _ b4.2.1
  refine ⟨a1, rfl, b1.1, ?_⟩
  show w_Tr_markOf a1 (nI 0) (wI h8 (hI h8)) _
  have p0 := pl_lt b4 b4.2.1
  rw [pl_rt b4] at p0
  have m0 := (b3.2.1 _ b4.2.1).1
  rw [pl_rt b4, HH.2.1.1] at m0
  rw [HH.2.1.1] at R3
  have pq8 := pO_le b4
  rw [e_Tr_markOf b1 pq8 b2, rAt_n p0 (by omega), m0]
  refine ⟨g80, g80, p + 74, r48, w48.1, p_at (rwL_w w48) (by decide) ⟨p + 20, rb8, lb8.1, ?_⟩⟩
  have Rm := (I.1 R0 I.2.2.2.2.1.1).1
  rw [rAt_n R3 (by decide), wI_I, (y5 R0 Rm).2.1 I.2.2.2.2.1.1]
  refine p_Bu_plant lb8 R3 (fun F9 s1 s2 s3 => ⟨mk + 1, ?_⟩)
  show w_Mg_sproutAll_18 _ (mk + 1) (p + 69) (nI R0) (nI 0) (wI h8 F9)
  have fr9 : bnF h8 p F9 := fun c hc => s3 c (by omega)
  refine p_spr18 y1 HH I y5 (fun G t1 t2 t3 => ⟨(pO (mgRes po mk R0 b l r (loK kd))).length + 1, ?_⟩) (mk + 1) 0 F9 (Nat.zero_le _) (by omega) fr9 (BuP_ext s1 (fun y => Bool.eq_iff_iff.mpr ?_) (fun y hy => ?_)) s2
  · rw [tOne_in, spT_in]
    exact ⟨Or.inl, fun g => g.elim id (fun g => absurd g.2 (Nat.not_lt_zero _))⟩
  · have ey : y = R0 := by
      rcases spT_in.mp hy with g | g
      · exact g
      · exact absurd g.2 (Nat.not_lt_zero _)
    rw [ey]
    exact ⟨mU_s _ _ _, mU_s _ _ _, mU_s _ _ _⟩
  · have fG := bn_fr (z0 := z0) (e0 := e0) (e1 := e1) t1
    have fbG : hFr h8 (wI h8 G) (fun c _ => p + 20 ≤ c ∧ c < p + 35) no2 := hFr_w h8 _ (fun c j hc => by rw [t1 c (by omega)])
    have zz8 := y4.1
    have ed : headO ((pO (mgRes po mk R0 b l r (loK kd))).drop 0) = nI R0 := by
      rw [List.drop_zero]
      unfold pO
      rw [tPo_eq hT.1.2.2.2.1]
      rfl
    show w_Mg_mergeTrees_69 R _ (p + 69) (some a1) (some a2) (some a3) (nI R0) (nI R0) (nI 0) (wI h8 G)
    rw [← ed]
    have key := p_mg69 (R := R) (h0 := h) (n0 := n) (T := mgRes po mk R0 b l r (loK kd)) (x := x) (p := p) (D := D) (z0 := z0) (e0 := e0) (e1 := e1) (a1 := a1) (k1 := k1) (a2 := a2) (k2 := k2) (a3 := a3) (k3 := k3) (idn := idn) rfl HH I Eg hl hn.1 (fun h9 n9 u1 u2 u3 u4 u5 u6 u7 u8 => ?_) ((pO (mgRes po mk R0 b l r (loK kd))).length + 1) 0 n8 (wI h8 G) (Nat.zero_le _) (by omega) (MG_fr y1 fG) ?_ y3 (hFr_mono (hFr_tr y4 fG) (fun _ _ _ g => g.elim id id) (fun _ _ _ g => g.elim id id)) (rsP_k y5 (fun c hc => t1 c (by omega))) ?_ t3 y6 y7
    · rw [ed] at key ⊢
      exact key
    · obtain ⟨g90, ⟨_, lm9⟩, ⟨rb9, lb9⟩, _⟩ := mgRw u1.1.1.1
      have zz9 := u4.1
      refine ⟨g90, p + 20, rb9, lb9.1, ?_⟩
      have lp := pO_le hT
      refine p_Bu_freeze lb9 lm9 u5 u6 u1.1.2.1.1 hT HH.2.2.1 (fun m hm => (I.1 m hm).1) (by omega) (by omega) (fun h10 q1 q2 q3 q4 q5 => ?_)
      have f10 : hFr h9 h10 (mtT p z0 e0 e1) (cfU p) := hFr_sm (by omega) q5 _ _
      have b10 : hFr h9 h10 no2 no2 := hFr_sm (by omega) q5 _ _
      have lp' : (pO (mgRes po mk R0 b l r (loK kd))).length ≤ 300 := lp
      have q4' : hU h10 = hU h9 + (28 + 8 * (pO (mgRes po mk R0 b l r (loK kd))).length + mk) := q4
      have hk := HH.2.2.1
      have cA : ∀ c, hR h10 (p + 86) 0 = some c ∨ hR h10 (p + 88) 0 = some c → c < hZ h9 := fun c hc => by
        obtain ⟨c1, c2, ⟨⟨_, w1, _⟩, w2, _⟩, ⟨⟨_, w3, _⟩, w4, _⟩, _⟩ := u2
        rw [(b10.2 (p + 86) (by omega)).2.2.2.2.2 0 (fun g => g), (b10.2 (p + 88) (by omega)).2.2.2.2.2 0 (fun g => g), w1, w3] at hc
        rcases hc with g | g
        · rw [← Option.some.inj g]; exact w2
        · rw [← Option.some.inj g]; exact w4
      exact kk h10 n9 (hZ h9) (MG_fr u1 f10) (cfL_fr u2 X.1.2.2.1 (by omega) b10 (fun c j _ _ g => g) (fun c j _ _ g => g)) u3 (hFr_mono (hFr_tr u4 f10) (fun _ _ _ g => g.elim id id) (fun _ _ _ g => g.elim id id)) ⟨by omega, by omega, by omega⟩ q1 q2 cA (by omega) (by omega)
    · rw [List.take_zero, List.filter_nil, List.map_nil, List.append_nil]
      exact cfL_fr y2 X.1.2.2.1 (by omega) fbG (fun c j hc' _ g => by omega) (fun c j _ _ g => g)
    · rw [Kv_0]
      refine BuP_ext t2 (fun y => Bool.eq_iff_iff.mpr ?_) (fun y _ => ⟨rfl, ?_, rfl⟩)
      · rw [spT_in]
        show _ ↔ sIn (mgF po mk b l r) y = true
        refine ⟨fun g => g.elim (fun g => by rw [g]; exact I.2.2.2.2.1.1) (fun g => g.1), fun g => Or.inr ⟨g, (I.1 y g).1⟩⟩
      · show none = (match sUp (mgF po mk b l r) y with
          | some q => if y ∈ ([] : List Nat) then some q else none
          | none => none)
        cases sUp (mgF po mk b l r) y with
        | none => rfl
        | some q =>
          show none = (if y ∈ ([] : List Nat) then some q else none)
          rw [if_neg (List.not_mem_nil)]
end MERGE16
