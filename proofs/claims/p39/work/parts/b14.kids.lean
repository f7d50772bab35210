section MKIDS
variable {x p D z0 mk e0 e1 a1 k1 a2 k2 a3 k3 : Nat} {kd idn po : Nat → Int32} {b l r : mT}
noncomputable def orB (po : Nat → Int32) (b l r : mT) (s : mgS) (lo : Nat → Bool) (q : Nat) : Bool := !lo q && (ldP po b l r s q).2
theorem p_kids {h : tpH} {s : mgS} {R0 q n : Nat} {K : Nat → List Nat} {cf : List (Nat × Nat)} (H : MG h x p D z0 mk e0 e1 a1 k1 a2 k2 a3 k3 kd idn po b l r) (HH : mgH mk R0 b l r) (I : mgI mk R0 po b l r s) (Eg : mgE mk s) (C : cfL h p z0 e0 e1 cf n) (hn : 1 ≤ n ∧ n ≤ 184001) (hc : cf.length < 92000) (W : rsP (hI h) p mk s) (hK : ∀ z, kOK s z (K z)) (hq : q < mk) (h0 : K q = []) (hB : BuP (hI h) (p + 20) (FK R0 s K)) {R : tpH → Prop} (kk : ∀ h' n', MG h' x p D z0 mk e0 e1 a1 k1 a2 k2 a3 k3 kd idn po b l r → cfL h' p z0 e0 e1 (cf ++ (if orB po b l r s (loK kd) q = true then [(5, q)] else [])) n' → n ≤ n' ∧ n' ≤ 184001 → hFr h h' (mtT p z0 e0 e1) (cfU p) → rsP (hI h') p mk s → (∀ z, kOK s z ((mU K q (KF po mk b l r s (loK kd) q)) z)) → BuP (hI h') (p + 20) (FK R0 s (mU K q (KF po mk b l r s (loK kd) q))) → hI h' (p + 20) 8 = hI h (p + 20) 8 → hZ h' ≤ hZ h + (n' - n) → hU h' ≤ hU h + 4 * (n' - n) → R h') : w_Mg_hangChildren (p + 69) (some a1) (some a2) (some a3) (nI q) h R := by
  obtain ⟨X, B, Lt, Rt⟩ := id H
  obtain ⟨g0, ⟨rm, lm⟩, _, _, _, _, _, ⟨r7, w7⟩, ⟨r8, w8⟩, ⟨r9, w9⟩⟩ := mgRw X.1.1
  have hk := X.2.2.1
  have E := X.1.2.2.1
  unfold cfE at E
  have z1 := X.1.2.2.2
  have wb := B.2.2.2.1
  have wl := Lt.2.2.2.1
  have wr := Rt.2.2.2.1
  have hL : rAt (hI h (p + 2)) 300 (nI q) = kd q := by rw [rAt_n (by omega) (by decide)]; exact (X.2.1.2 q hq).1
  have lo := loK_iff kd q
  refine ⟨g0, p, rm, lm.1, ?_⟩
  show w_Ma_isLoose p (nI q) (wI h (hI h)) _
  rw [e_Ma_isLoose lm, hL]
  by_cases c4 : kd q < 4
  · have l0 := lo.mp c4
    rw [if_pos c4]
    refine ⟨fun g => absurd rfl g, fun _ => ⟨g0, ?_⟩⟩
    rw [wI_self, r7]
    have q3 : q < 300 := by omega
    -- the three rows
    refine p_read H HH I W (fun h H => H.2.1) q3 ⟨Or.inl rfl, w7⟩ (fun F1 f1 K7 => ⟨g0, ?_⟩)
    have H1 := MG_fr H (mt_w F1 (fun c j hc => by rw [f1 c (by omega) (by omega)]))
    have W1 : rsP (hI (wI h F1)) p mk s := rsP_k W (fun c hc => f1 c (by omega) (by omega))
    rw [wI_R, r8]
    refine p_read H1 HH I W1 (fun h H => H.2.2.1) q3 ⟨Or.inr (Or.inl rfl), rwL_w w8⟩ (fun F2 f2 K8 => ⟨g0, ?_⟩)
    have f2 : ∀ c, c ≠ p + 82 → c ≠ p + 82 + 1 → F2 c = F1 c := f2
    rw [wI_wI] at *
    have H2 := MG_fr H (mt_w F2 (fun c j hc => by rw [f2 c (by omega) (by omega), f1 c (by omega) (by omega)]))
    have W2 : rsP (hI (wI h F2)) p mk s := rsP_k W (fun c hc => by rw [wI_I, f2 c (by omega) (by omega), f1 c (by omega) (by omega)])
    rw [wI_R, r9]
    refine p_read H2 HH I W2 (fun h H => H.2.2.2) q3 ⟨Or.inr (Or.inr rfl), rwL_w w9⟩ (fun F3 f3 K9 => ⟨g0, ?_⟩)
    have f3 : ∀ c, c ≠ p + 84 → c ≠ p + 84 + 1 → F3 c = F2 c := f3
    rw [wI_wI]
    have fr3 : ∀ c, ¬ (p + 80 ≤ c ∧ c < p + 86) → F3 c = hI h c := fun c hc => by rw [f3 c (by omega) (by omega), f2 c (by omega) (by omega), f1 c (by omega) (by omega)]
    have m3 : hFr h (wI h F3) (mtT p z0 e0 e1) (cfU p) := mt_w F3 (fun c j hc => by rw [fr3 c (by omega)])
    have b3 : hFr h (wI h F3) (fun c _ => p + 80 ≤ c ∧ c < p + 86) no2 := hFr_w h _ (fun c j hc => by rw [fr3 c hc])
    have H3 := MG_fr H m3
    have C3 := cfL_fr C X.1.2.2.1 z1 b3 (fun c j hc' _ g => by omega) (fun c j _ _ g => g)
    have K7' : rwK F3 (p + 80) (shL b s q) := by rw [← shL_q wb.1]; exact rwK_k K7 (fun c hc => by rw [f3 c (by omega) (by omega), f2 c (by omega) (by omega)])
    have K8' : rwK F3 (p + 82) (sdL l b s q) := by rw [← sdL_q wb.1]; exact rwK_k K8 (fun c hc => by rw [f3 c (by omega) (by omega)])
    have K9' : rwK F3 (p + 84) (sdL r b s q) := by rw [← sdL_q wb.1]; exact K9
    refine p_leader H3 C3 hn hc K7' K8' K9' (fun h4 n4 rr hrr KL H4 C4 hn4 f4 z4 u4 => ?_)
    have kp : ∀ c, c ≠ p + 86 → c ≠ p + 88 → c < p + 90 → c ≠ p + 87 → c ≠ p + 89 → hI h4 c = F3 c := fun c d1 d2 d3 d4 d5 => funext fun j => (f4.2 c (by show c < hZ h; omega)).2.2.2.2.1 j (fun g => by unfold cfT at g; omega)
    obtain ⟨g0', _, _, _, _, _, _, ⟨r7', w7'⟩, ⟨r8', w8'⟩, ⟨r9', w9'⟩⟩ := mgRw H4.1.1.1
    have w4 : rwL h4 rr (rr + 1) 300 := by
      rcases hrr with e | e | e
      · rw [e]; exact w7'
      · rw [e]; exact w8'
      · rw [e]; exact w9'
    have K74 : rwK (hI h4) (p + 80) (shL b s q) := rwK_k K7' (fun c hc => kp c (by omega) (by omega) (by omega) (by omega) (by omega))
    have W4 : rsP (hI h4) p mk s := rsP_k W (fun c hc => by rw [kp c (by omega) (by omega) (by omega) (by omega) (by omega), fr3 c (by omega)])
    have B4 : BuP (hI h4) (p + 20) (FK R0 s K) := BuP_k hB (fun c c1 c2 => by rw [kp c (by omega) (by omega) (by omega) (by omega) (by omega), fr3 c (by omega)])
    have e8 : hI h4 (p + 20) 8 = hI h (p + 20) 8 := by rw [kp (p + 20) (by omega) (by omega) (by omega) (by omega) (by omega), fr3 (p + 20) (by omega)]
    have OKL := ldP_OK (po := po) wb.1 wl.1 wr.1 s q
    have Y0 : bnX h4 (hI h4) x p D z0 mk e0 e1 a1 k1 a2 k2 a3 k3 kd idn po b l r R0 s (mU K q []) := ⟨⟨H4, fun c _ => rfl⟩, ⟨HH, I, Eg⟩, mU_OK hK ⟨List.nodup_nil, fun m hm => by cases hm⟩, by rw [mU_id h0]; exact B4⟩
    have len : ∀ {t : mT}, tWF 300 t → (sdL t b s q).length ≤ 300 := fun {t} w => by
      have h1 := ki_len w.1 q
      have h2 := tCn_le t
      have h3 := List.length_filter_le (fun m => decide (m ∈ shL b s q)) (tKi t q)
      show ((tKi t q).filter (fun m => decide (m ∈ shL b s q))).length ≤ 300
      omega
    have lsh : (shL b s q).length ≤ 300 := by
      have h1 := ki_len wb.1 q
      have h2 := tCn_le b
      have h3 := List.length_filter_le (fun m => decide (sUp s m = some q)) (tKi b q)
      show ((tKi b q).filter (fun m => decide (sUp s m = some q))).length ≤ 300
      omega
    have lld : (ldP po b l r s q).1.length ≤ 300 := by
      rcases ldP_or po b l r s q with e | e | e
      · rw [e]; exact len wl
      · rw [e]; exact len wr
      · rw [e]; exact lsh
    refine ⟨g0', ⟨(ldP po b l r s q).1.length + 1, ?_⟩⟩
    show w_Mg_hangShared_2 _ _ (p + 69) (some rr) (nI q) (nI ([] : List Nat).length) (wI h4 (hI h4))
    refine p_sh2 (w8 := hI h (p + 20) 8) l0 q3 hrr w4 KL OKL lld (fun F5 Y5 g5 => ⟨(shL b s q).length + 1, ?_⟩) _ [] _ (hI h4) rfl (Nat.lt_succ_self _) Y0 e8
    show w_Mg_hangShared_42 _ _ (p + 69) (nI q) (nO none) (nI ([] : List Nat).length) (wI h4 F5)
    refine p_sh42 (v8 := 0) (w8 := hI h (p + 20) 8) (L0 := (ldP po b l r s q).1) l0 q3 w7' K74 wb.1 (fun F6 Y6 g6 => ⟨mk + 1, ?_⟩) _ [] _ ((ldP po b l r s q).1, none) F5 rfl (Nat.lt_succ_self _) rfl (fun d hd => by cases hd) Y5 g5
    show w_Mg_hangChildren_64 R (mk + 1) (p + 69) (some a2) (some a3) (nI q) (nI 0) (wI h4 F6)
    refine p_ot64 (w8 := hI h (p + 20) 8) (L0 := bsK po b l r s q) hq W4 (fun _ m hm => (bs_all (s := s) (p := q) (shL b s q) _).2 m hm) (fun F7 Y7 g7 => ?_) (mk + 1) 0 F6 (Nat.zero_le _) (by omega) Y6 g6
    have eKF : (List.range mk).foldl (otS (loK kd q) l r s q) (bsK po b l r s q) = KF po mk b l r s (loK kd) q := by
      unfold KF stK
      rw [l0, if_neg Bool.false_ne_true]
    rw [eKF] at Y7
    have f7 := bn_fr (z0 := z0) (e0 := e0) (e1 := e1) Y7.1.2
    have fb7 : hFr h4 (wI h4 F7) (fun c _ => p + 20 ≤ c ∧ c < p + 35) no2 := hFr_w h4 _ (fun c j hc => by rw [Y7.1.2 c (by omega)])
    have zz4 := f4.1
    have eo : orB po b l r s (loK kd) q = (ldP po b l r s q).2 := by
      unfold orB
      rw [l0]
      rfl
    rw [eo] at kk
    refine kk (wI h4 F7) n4 (MG_fr H4 f7) (cfL_fr C4 X.1.2.2.1 (by show z0 ≤ hZ h4; have : hZ (wI h F3) = hZ h := rfl; omega) fb7 (fun c j hc' _ g => by omega) (fun c j _ _ g => g)) hn4 (hFr_mono (hFr_tr m3 (hFr_tr (cfT_mt f4) f7)) (fun _ _ _ g => g.elim id (fun g => g.elim id id)) (fun _ _ _ g => g.elim id (fun g => g.elim id id))) (rsP_k W4 (fun c hc => Y7.1.2 c (by omega))) Y7.2.2.1 Y7.2.2.2 g7 z4 u4
  · have l1 : loK kd q = true := by
      cases e : loK kd q with
      | true => rfl
      | false => exact absurd (lo.mpr e) c4
    rw [if_neg c4]
    refine ⟨fun _ => ⟨mk + 1, ?_⟩, fun g => absurd g (by decide)⟩
    have Y0 : bnX h (hI h) x p D z0 mk e0 e1 a1 k1 a2 k2 a3 k3 kd idn po b l r R0 s (mU K q []) := ⟨⟨H, fun c _ => rfl⟩, ⟨HH, I, Eg⟩, mU_OK hK ⟨List.nodup_nil, fun m hm => by cases hm⟩, by rw [mU_id h0]; exact hB⟩
    show w_Mg_hangChildren_64 R (mk + 1) (p + 69) (some a2) (some a3) (nI q) (nI 0) (wI h (hI h))
    refine p_ot64 (w8 := hI h (p + 20) 8) (L0 := []) hq W (fun g => by rw [l1] at g; cases g) (fun F7 Y7 g7 => ?_) (mk + 1) 0 (hI h) (Nat.zero_le _) (by omega) Y0 rfl
    have eKF : (List.range mk).foldl (otS (loK kd q) l r s q) [] = KF po mk b l r s (loK kd) q := by
      unfold KF stK
      rw [l1, if_pos rfl]
    rw [eKF] at Y7
    have f7 := bn_fr (z0 := z0) (e0 := e0) (e1 := e1) Y7.1.2
    have fb7 : hFr h (wI h F7) (fun c _ => p + 20 ≤ c ∧ c < p + 35) no2 := hFr_w h _ (fun c j hc => by rw [Y7.1.2 c (by omega)])
    have eo : orB po b l r s (loK kd) q = false := by
      unfold orB
      rw [l1]
      rfl
    rw [eo, if_neg Bool.false_ne_true, List.append_nil] at kk
    exact kk (wI h F7) n (MG_fr H f7) (cfL_fr C X.1.2.2.1 z1 fb7 (fun c j hc' _ g => by omega) (fun c j _ _ g => g)) ⟨Nat.le_refl _, hn.2⟩ f7 (rsP_k W (fun c hc => Y7.1.2 c (by omega))) Y7.2.2.1 Y7.2.2.2 g7 (Nat.le_add_right _ _) (Nat.le_add_right _ _)
end MKIDS
