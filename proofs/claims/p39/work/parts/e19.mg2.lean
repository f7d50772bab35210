section MERGED2
theorem p_im251 {h : tpH} {r al : Nat} {K : List Nat} (br : iA h r 42) (ba : iA h al 40) (rK : rwC (hI h) r K) (rA : rwKs (hI h) al 0 K) (lK : K.length ≤ 40) {R : Int32 → tpH → Prop} {X : String → tpH → Prop} {K291 : (Option Nat) → (Option Nat) → (Option Nat) → (Option Nat) → (Option Nat) → (Option Nat) → (Option Nat) → (Option Nat) → (Option Nat) → (Option Nat) → (Option Nat) → Int32 → Int32 → Int32 → Int32 → tpH → Prop} {x0 x2 x3 x4 x5 x6 x8 x9 x11 : Option Nat} {x14 x15 x16 : Int32}
    (kk : K291 x0 x2 x3 x4 x5 x6 x8 x9 (some r) x11 (some al) 1 x14 x15 x16 h) : ∀ (n j : Nat), j ≤ K.length → K.length < n + j → w_Lw_isMerged_251 R X K291 n x0 x2 x3 x4 x5 x6 x8 x9 (some r) x11 (some al) 1 x14 x15 x16 (nI K.length) (nI j) h
  | 0, j, h1, h2 => by omega
  | n + 1, j, h1, h2 => by
    refine ⟨fun _ => kk, fun g => ⟨fun _ => kk, fun _ => ?_⟩⟩
    have hj : j < K.length := by
      have : ¬ K.length ≤ j := fun q => g ((nI_le_iff (by omega) (by omega)).mpr q)
      omega
    obtain ⟨x, hx⟩ := ex_at hj
    have e1 := rK.2 j x hx
    have e2 := rA j x hx
    rw [Nat.add_comm] at e1
    rw [Nat.zero_add] at e2
    have en : nI j + 1 = nI (j + 1) := nI_1 _
    refine ⟨r, rfl, br.1, by rw [en, br.2]; exact vp_in_nI (by omega) (by decide), al, rfl, ba.1, by rw [ba.2]; exact vp_in_nI (by omega) (by decide), ?_⟩
    rw [en, nI_clamp (by omega), nI_clamp (by omega), e1, e2]
    exact ⟨fun q => absurd rfl q, fun _ => p_im251 br ba rK rA lK kk n (j + 1) (by omega) (by omega)⟩
theorem p_im119 {h1 : tpH} {tb tl tr t k g c r ai al mk R0 : Nat} {po : Nat → Int32} {b l rr : mT} {lo : Nat → Bool} (HH : mgH mk R0 b l rr) (hmk : mk ≤ 39) (XC : oC h1 tb tl tr t k g b l rr (mgF po mk b l rr) po) (bi : bR h1 (hI h1) ai (mgRes po mk R0 b l rr lo)) (ac : iA h1 c 64) (br : iA h1 r 42) (ba : iA h1 al 40) (zz : c < hZ h1 ∧ r < hZ h1 ∧ ai < hZ h1 ∧ al < hZ h1)
    (d : (tb ≠ c ∧ tl ≠ c ∧ tr ≠ c ∧ t ≠ c ∧ k ≠ c ∧ g ≠ c) ∧ (tb ≠ r ∧ tl ≠ r ∧ tr ≠ r ∧ t ≠ r ∧ k ≠ r ∧ g ≠ r) ∧ (tb ≠ al ∧ tl ≠ al ∧ tr ≠ al ∧ t ≠ al ∧ k ≠ al ∧ g ≠ al) ∧ (c ≠ r ∧ c ≠ al ∧ r ≠ al) ∧ ai ≠ c ∧ ai ≠ r ∧ ai ≠ al) (hpo : po 5 = 0 ∨ po 5 = 1 ∨ po 5 = 2) (lb : tLo lo b) (ll : tLo lo l) (lr : tLo lo rr) (hk : ∀ m, m < mk → (hI h1 k m ≤ 3 ↔ lo m = false)) {X : String → tpH → Prop} {R : Int32 → tpH → Prop} {x0 : Option Nat}
    (fin : ∀ h', aFr h1 h' (fun x _ => x = r ∨ x = al ∨ x = c) (130 * (pO (mgRes po mk R0 b l rr lo)).length) (5200 * (pO (mgRes po mk R0 b l rr lo)).length) → cP (hI h') c (mgCfl po mk R0 b l rr lo) → w_Lw_isMerged_314 R X x0 (some c) 1 h') :
    ∀ (n j : Nat) (A B : List Nat) (h : tpH), pO (mgRes po mk R0 b l rr lo) = A ++ B → A.length = j → B.length < n → aFr h1 h (fun x _ => x = r ∨ x = al ∨ x = c) (130 * j) (5200 * j) → cP (hI h) c (sCf (mgF po mk b l rr) ++ (A.filter (orB po b l rr (mgF po mk b l rr) lo)).map (fun q => (5, q))) → w_Lw_isMerged_119 R X n x0 (some tb) (some tl) (some tr) (some k) (some g) (some t) (some c) (some r) (some ai) (some al) 1 (nI j) h
  | 0, j, A, B, h, _, _, hn, _, _ => absurd hn (Nat.not_lt_zero _)
  | n + 1, j, A, B, h, hAB, hj, hn, f, C => by
    obtain ⟨⟨c1, c2, c3, c4, c5, c6⟩, ⟨r1, r2, r3, r4, r5, r6⟩, ⟨l1, l2, l3, l4, l5, l6⟩, ⟨m1, m2, m3⟩, i1, i2, i3⟩ := id d
    obtain ⟨z1, z2, z3, z4⟩ := zz
    have nq : ∀ x, (x = tb ∨ x = tl ∨ x = tr ∨ x = t ∨ x = k ∨ x = g) → ¬ (x = r ∨ x = al ∨ x = c) := by
     rintro x (rfl | rfl | rfl | rfl | rfl | rfl) (q | q | q)
     · exact r1 q
     · exact l1 q
     · exact c1 q
     · exact r2 q
     · exact l2 q
     · exact c2 q
     · exact r3 q
     · exact l3 q
     · exact c3 q
     · exact r4 q
     · exact l4 q
     · exact c4 q
     · exact r5 q
     · exact l5 q
     · exact c5 q
     · exact r6 q
     · exact l6 q
     · exact c6 q
    have ni : ¬ (ai = r ∨ ai = al ∨ ai = c) := fun q => q.elim i2 (fun q => q.elim i3 i1)
    obtain ⟨I, E, lenF, -, -⟩ := mgF_I (po := po) HH
    have hw : tWF 300 (mgRes po mk R0 b l rr lo) := mgTr_wf HH I E lo
    have hlo : tLo lo (mgRes po mk R0 b l rr lo) := mgTr_lo lo
    have X1 := oC_fr XC f (fun x hx j q => nq x hx q)
    have HI := bR_fr bi f z3 (fun j q => ni q)
    have zh := f.1.1
    have hrest : ∀ m, tIn (mgRes po mk R0 b l rr lo) m = true → m < mk := fun m hm => (I.1 m hm).1
    have l39 : (pO (mgRes po mk R0 b l rr lo)).length ≤ 39 := nd_lt (pO_nd hw) (fun x hx => by have := hrest x ((pO_mem hw).mp hx); omega)
    have hlen : (pO (mgRes po mk R0 b l rr lo)).length = A.length + B.length := by rw [hAB, List.length_append]
    obtain ⟨L, L1, L2, L3⟩ := X1.2.1.2
    have ll2 : L.length = (pO (mgRes po mk R0 b l rr lo)).length := by
      have h1 : L.length = (L.map (·.1)).length := (List.length_map _).symm
      rw [h1]
      refine nd_len_eq L3 (pO_nd hw) (fun x => ?_)
      rw [List.mem_map, pO_mem hw]
      exact (L2.1 x).symm
    refine ⟨t, rfl, X1.2.1.1.1, by rw [X1.2.1.1.2]; exact vp0 (by decide) (by decide), ?_⟩
    rw [show (0 : Int32).toNatClampNeg = 0 from rfl, L1.1, ll2, nI_le_iff (by omega) (by omega)]
    refine ⟨fun gg => ?_, fun gg => ⟨fun q => absurd q (by decide), fun _ => ?_⟩⟩
    · have eB : B = [] := List.eq_nil_of_length_eq_zero (by omega)
      rw [eB, List.append_nil] at hAB
      refine fin h ?_ ?_
      · rw [hlen, eB, List.length_nil, Nat.add_zero, hj]
        exact f
      · unfold mgCfl
        rw [hAB]
        exact C
    · match B, hAB, hn, hlen with
      | [], _, _, hlen => simp at hlen; omega
      | m :: B, hAB, hn, hlen =>
        rw [List.length_cons] at hn hlen
        have hmem : m ∈ pO (mgRes po mk R0 b l rr lo) := by rw [hAB]; simp
        have hmi := (pO_mem hw).mp hmem
        have hms : sIn (mgF po mk b l rr) m = true := hmi
        have hmk2 := hrest m hmi
        have he : (preL (mgRes po mk R0 b l rr lo))[j]? = some (preE (mgRes po mk R0 b l rr lo) m) := by
          unfold preL
          rw [List.getElem?_map, hAB, ← hj, List.getElem?_append_right (Nat.le_refl _), Nat.sub_self]
          rfl
        refine p_mark HI.1.1 HI.1.2 he (p_pOf X1.2.1.1 L1 L2 (show m < 2 ^ 31 by omega) (p_par HI.1.1 HI.1.2 he ?_))
        show (¬ rPa (sIn (mgF po mk b l rr)) (sUp (mgF po mk b l rr)) m = nO (sUp (mgF po mk b l rr) m) → _) ∧ (rPa (sIn (mgF po mk b l rr)) (sUp (mgF po mk b l rr)) m = nO (sUp (mgF po mk b l rr) m) → _)
        rw [rPa_1 hms]
        refine ⟨fun q => absurd rfl q, fun _ => p_vOf X1.2.1.1 L1 L2 (show m < 2 ^ 31 by omega) (p_val HI.1.1 HI.1.2 he ?_)⟩
        have ev : nI (preE (mgRes po mk R0 b l rr lo) m).2.1 = sWo (mgF po mk b l rr) m := (preE_v HI.2.2 hmi).1.symm
        have ep1 : (preE (mgRes po mk R0 b l rr lo) m).1 = m := rfl
        rw [ev, ep1, rVa_1 hms]
        refine ⟨fun q => absurd rfl q, fun _ => ?_⟩
        have hkm : ∀ h', hI h' k = hI h1 k → (hI h' k m ≤ 3 ↔ lo m = false) := fun h' q => by rw [q]; exact hk m hmk2
        have ekh : hI h k = hI h1 k := aFr_I f XC.2.2.2.2.2.2.2.2.1 (fun j q => nq k (Or.inr (Or.inr (Or.inr (Or.inr (Or.inl rfl))))) q)
        refine p_kidsT (h := h) (F := hI h) HI hlo (aFr_iA f z4 ba) X1.2.2.1 i3 l5 (show m < 40 by omega) (fun _ => hkm h ekh) hmi (fun G g1 g2 => ?_)
        have kl : (tKi (mgRes po mk R0 b l rr lo) m).length ≤ 40 := (ki_40 (p := m) HI).2
        have fG : aFr h1 (wI h G) (fun x _ => x = r ∨ x = al ∨ x = c) (130 * j) (5200 * j) := aFr_tr f (k' := 0) (u' := 0) (T' := fun x _ => x = al) (aFr_w (h := h) (F := hI h) (G := G) (fun x j hx => by rw [g1 x hx])) (fun x j hx q => Or.inr (Or.inl q))
        have XG := oC_fr XC fG (fun x hx j q => nq x hx q)
        have CG : cP G c (sCf (mgF po mk b l rr) ++ (A.filter (orB po b l rr (mgF po mk b l rr) lo)).map (fun q => (5, q))) := cP_k C (g1 c m2)
        have eGk : G k = hI h1 k := (g1 k l5).trans ekh
        have IH := p_im119 HH hmk XC bi ac br ba ⟨z1, z2, z3, z4⟩ d hpo lb ll lr hk fin n (j + 1) (A ++ [m]) B
        have hAB2 : pO (mgRes po mk R0 b l rr lo) = A ++ [m] ++ B := by rw [hAB, List.append_assoc]; rfl
        have el : (A ++ [m]).length = j + 1 := by rw [List.length_append, hj]; rfl
        have e4 : (4 : Int32) ≤ G k m ↔ ¬ G k m ≤ 3 := by
          rw [Int32.le_iff_toInt_le, Int32.le_iff_toInt_le]
          have h3 : (3 : Int32).toInt = 3 := rfl
          have h4 : (4 : Int32).toInt = 4 := rfl
          rw [h3, h4]
          omega
        refine ⟨k, rfl, XG.2.2.1.1, by rw [XG.2.2.1.2]; exact vp_in_nI (show m < 40 by omega) (by decide), ?_⟩
        rw [nI_clamp (show m < 2 ^ 31 by omega), wI_I]
        refine ⟨fun q => ⟨fun _ => ?_, fun q2 => absurd rfl q2⟩, fun q => ⟨fun q2 => absurd q2 (by decide), fun _ => ?_⟩⟩
        · -- loose
          have hl : lo m = true := by
            cases hb : lo m with
            | true => rfl
            | false => exact absurd ((hkm (wI h G) eGk).mpr hb) (e4.mp q)
          have eo : orB po b l rr (mgF po mk b l rr) lo m = false := by unfold orB; rw [hl]; rfl
          rw [nI_1]
          refine IH (wI h G) hAB2 el (by omega) (aFr_mono fG (fun _ _ _ q => q) (by omega) (by omega)) ?_
          rw [List.filter_append, List.filter_cons_of_neg (by rw [eo]; simp), List.filter_nil, List.append_nil]
          exact CG
        · have hl : lo m = false := (hkm (wI h G) eGk).mp (Classical.byContradiction (fun x => q (e4.mpr x)))
          refine p_orders (h := wI h G) (r := r) (lo := lo) HH hmk I XG (aFr_iA fG z2 br) (show r < hZ h by omega) ⟨r1, r2, r3, r4, r5, r6⟩ hpo lb ll lr (show m < 40 by omega) (hkm (wI h G) eGk) hl (fun h3 f3 rK => ?_)
          have f3' : aFr h1 h3 (fun x _ => x = r ∨ x = al ∨ x = c) (130 * j + 130) (5200 * j + 5200) := aFr_tr fG f3 (fun x j hx q => Or.inl q)
          have br3 := aFr_iA f3' z2 br
          have ba3 := aFr_iA f3' z4 ba
          have rK2 : rwC (hI h3) r (tKi (mgRes po mk R0 b l rr lo) m) := rK
          have rA3 : rwKs (hI h3) al 0 (tKi (mgRes po mk R0 b l rr lo) m) := rwG_k g2 (fun j _ _ => by rw [aFr_I f3 (show al < hZ h by omega) (fun j q => m3 q.symm)]; rfl)
          have C3 : cP (hI h3) c (sCf (mgF po mk b l rr) ++ (A.filter (orB po b l rr (mgF po mk b l rr) lo)).map (fun q => (5, q))) := cP_k CG (aFr_I f3 (show c < hZ h by omega) (fun j q => m1 q))
          refine ⟨r, rfl, br3.1, by rw [br3.2]; exact vp0 (by decide) (by decide), ?_⟩
          rw [show (0 : Int32).toNatClampNeg = 0 from rfl, rK2.1]
          refine ⟨fun q => absurd rfl q, fun _ => ⟨(tKi (mgRes po mk R0 b l rr lo) m).length + 1, p_im251 br3 ba3 rK2 rA3 kl ?_ _ 0 (Nat.zero_le _) (Nat.lt_succ_self _)⟩⟩
          have eo : orB po b l rr (mgF po mk b l rr) lo m = (ldP po b l rr (mgF po mk b l rr) m).2 := by unfold orB; rw [hl]; rfl
          rw [← eo]
          have lenC : (sCf (mgF po mk b l rr) ++ (A.filter (orB po b l rr (mgF po mk b l rr) lo)).map (fun q => (5, q))).length < 100000 := by
            have := List.length_filter_le (orB po b l rr (mgF po mk b l rr) lo) A
            rw [List.length_append, List.length_map]
            omega
          cases ho : orB po b l rr (mgF po mk b l rr) lo m with
          | false =>
            refine ⟨fun _ => ?_, fun q => absurd rfl q⟩
            rw [nI_1]
            refine IH h3 hAB2 el (by omega) (aFr_mono f3' (fun _ _ _ q => q) (by omega) (by omega)) ?_
            rw [List.filter_append, List.filter_cons_of_neg (by rw [ho]; simp), List.filter_nil, List.append_nil]
            exact C3
          | true =>
            refine ⟨fun q => absurd q (by decide), fun _ => ?_⟩
            have e8 : (8 : Int32) * nI m + 5 = nI (8 * m + 5) := by rw [show (8 : Int32) = nI 8 from rfl, mI_mul]; exact nI_add _ 5
            rw [e8, nI_1]
            refine p_adds (h := h3) (F := hI h3) (aFr_iA f3' z1 ac) C3 lenC (fun G2 g3 g4 => ?_)
            refine IH (wI h3 G2) hAB2 el (by omega) ?_ ?_
            · have q2 := aFr_tr f3' (k' := 0) (u' := 0) (T' := fun x _ => x = c) (aFr_w (h := h3) (F := hI h3) (G := G2) (fun x j hx => by rw [g3 x hx])) (fun x j hx q => Or.inr (Or.inr q))
              exact aFr_mono q2 (fun _ _ _ q => q) (by omega) (by omega)
            · rw [List.filter_append, List.filter_cons_of_pos ho, List.filter_nil, List.map_append, ← List.append_assoc]
              exact g4
end MERGED2
