section RMEND
variable {h : tpH} {Q q mk s1 s2 s3 R0 : Nat} {kd idn po : Nat → Int32} {b l r : mT}
/-! the reference looks for what is to be mended -/
theorem p_Morph (X : RC h Q q mk s1 s2 s3 R0 b l r) {F : Nat → Nat → Int32} (e0 : F Q 0 = nI mk) {s : mgS} (I : mgI mk R0 po b l r s) (W : rsR F q mk s) {R : Int32 → tpH → Prop} (k1' : ∀ m, orpO mk s = some m → R (nI m) (wI h F)) (k0 : orpO mk s = none → R (-1) (wI h F)) : ∀ (n i : Nat), i ≤ mk → mk < n + i → (∀ j, j < i → orpB s j = false) → w_Md_orphan_2 R n Q (nI i) (wI h F)
  | 0, i, h1, h2, A => by omega
  | n + 1, i, h1, h2, A => by
    obtain ⟨⟨M, hQ⟩, _, HH⟩ := id X
    have hk := HH.2.2.1
    obtain ⟨c1, c2, c3⟩ := md_f M (j := 37) (kd := 16) (n := 300) (f := 47) (by decide)
    obtain ⟨e1, e2, e3⟩ := md_f M (j := 39) (kd := 15) (n := 300) (f := 49) (by decide)
    have e0' : hI (wI h F) Q 0 = nI mk := e0
    refine ⟨M.1, ?_⟩
    rw [e0']
    by_cases hi : i < mk
    · obtain ⟨w1, w2⟩ := W i hi
      have vi : vp_in (nI i) 300 := vp_in_nI (by omega) (by decide)
      refine ⟨fun g => absurd ((nI_le_iff (by omega) (by omega)).mp g) (by omega), fun _ => ⟨q + 37, c3, c1, by rw [wI_L, c2]; exact vi, ?_⟩⟩
      have next : orpB s i = false → w_Md_orphan_2 R n Q (nI i + 1) (wI h F) := fun e => by
        rw [nI_1]
        exact p_Morph X e0 I W k1' k0 n (i + 1) (by omega) (by omega) (fun j hj => by
          by_cases c : j = i
          · rw [c]; exact e
          · exact A j (by omega))
      rw [nI_clamp (by omega), show hI (wI h F) (q + 37) i = _ from w1]
      cases ei : sIn s i with
      | false =>
        rw [if_neg Bool.false_ne_true]
        exact ⟨fun _ => next (by unfold orpB; rw [ei]; rfl), fun g => absurd rfl g⟩
      | true =>
        rw [if_pos rfl]
        refine ⟨fun g => absurd g (by decide), fun _ => ⟨q + 39, e3, e1, by rw [wI_L, e2]; exact vi, ?_⟩⟩
        rw [show hI (wI h F) (q + 39) i = nO (sUp s i) from (w2 ei).2]
        cases eu : sUp s i with
        | none => exact ⟨fun _ => next (by unfold orpB; rw [ei, eu]; rfl), fun g => absurd rfl g⟩
        | some y =>
          have y1 := up_lt HH I eu
          refine ⟨fun g => absurd g (nI_ne_m (by omega)), fun _ => ⟨by rw [wI_L, e2]; exact vi, by rw [wI_L, c2]; exact vp_in_nI (by omega) (by decide), ?_⟩⟩
          rw [show nO (some y) = nI y from rfl, nI_clamp (by omega), show hI (wI h F) (q + 37) y = _ from (W y y1).1]
          cases eq : sIn s y with
          | true =>
            rw [if_pos rfl]
            exact ⟨fun _ => next (by unfold orpB; rw [ei, eu]; show (true && !sIn s y) = false; rw [eq]; rfl), fun g => absurd g (by decide)⟩
          | false =>
            rw [if_neg Bool.false_ne_true]
            refine ⟨fun g => absurd rfl g, fun _ => k1' i (find_rg mk i hi ?_ A)⟩
            unfold orpB
            rw [ei, eu]
            show (true && !sIn s y) = true
            rw [eq]
            rfl
    · exact ⟨fun _ => k0 (find_rn (fun j hj => A j (by omega))), fun g => absurd ((nI_le_iff (by omega) (by omega)).mpr (by omega)) g⟩
theorem p_Mring9 (X : RC h Q q mk s1 s2 s3 R0 b l r) {F : Nat → Nat → Int32} (e0 : F Q 0 = nI mk) {s : mgS} (I : mgI mk R0 po b l r s) (ho : orpO mk s = none) (W : rsR F q mk s) {m : Nat} (hm : m < mk) (him : sIn s m = true) {R : Int32 → tpH → Prop} (k1' : isRg (sUp s) m → R 1 (wI h F)) (k0 : ¬ isRg (sUp s) m → R 0 (wI h F)) : ∀ (n i : Nat), i ≤ mk → mk < n + i → (∀ j, j < i → itU (sUp s) (j + 1) m ≠ some m) → w_Md_isInRing_9 R n Q (nI m) (nO (itU (sUp s) (i + 1) m)) (nI i) (wI h F)
  | 0, i, h1, h2, A => by omega
  | n + 1, i, h1, h2, A => by
    obtain ⟨⟨M, hQ⟩, _, HH⟩ := id X
    have hk := HH.2.2.1
    obtain ⟨e1, e2, e3⟩ := md_f M (j := 39) (kd := 15) (n := 300) (f := 49) (by decide)
    have e0' : hI (wI h F) Q 0 = nI mk := e0
    have lt := it_lt HH I hm
    have inn := rg_in I ho him
    have no : itU (sUp s) (i + 1) m = none → ¬ isRg (sUp s) m := fun e q' => by
      obtain ⟨k, k1, k2, _⟩ := ring_bd q' lt
      by_cases c : k < i
      · exact A k c k2
      · have e2 := itU_add (up := sUp s) (i + 1) (k - i) m
        rw [show i + 1 + (k - i) = k + 1 by omega, k2, e] at e2
        cases e2
    have end40 : (itU (sUp s) (i + 1) m ≠ some m → ¬ isRg (sUp s) m) → w_Md_isInRing_40 R (nI m) (nO (itU (sUp s) (i + 1) m)) (wI h F) := fun g => by
      refine ⟨fun z => k0 (g (fun e => z (by rw [e]; rfl))), fun z => k1' ⟨i, ?_⟩⟩
      cases e : itU (sUp s) (i + 1) m with
      | none => rw [e] at z; exact absurd z.symm (nI_ne_m (by omega))
      | some y =>
        rw [e] at z
        have := lt _ y e
        rw [show y = m from nI_inj (by omega) (by omega) z]
    refine ⟨M.1, ?_⟩
    rw [e0']
    by_cases hi : i < mk
    · refine ⟨fun g => absurd ((nI_le_iff (by omega) (by omega)).mp g) (by omega), fun _ => ⟨fun g => end40 (fun _ => no ?_), fun g => ⟨fun g2 => end40 (fun z => absurd ?_ z), fun g2 => ?_⟩⟩⟩
      · cases e : itU (sUp s) (i + 1) m with
        | none => rfl
        | some y =>
          rw [e] at g
          have := lt _ y e
          exact absurd g (nI_ne_m (by omega))
      · cases e : itU (sUp s) (i + 1) m with
        | none => rw [e] at g; exact absurd rfl g
        | some y =>
          rw [e] at g2
          have := lt _ y e
          rw [show y = m from nI_inj (by omega) (by omega) g2]
      · cases e : itU (sUp s) (i + 1) m with
        | none => rw [e] at g; exact absurd rfl g
        | some y =>
          have y1 := lt _ y e
          refine ⟨q + 39, e3, e1, by rw [wI_L, e2]; exact vp_in_nI (by omega) (by decide), ?_⟩
          rw [show nO (some y) = nI y from rfl, nI_clamp (by omega), show hI (wI h F) (q + 39) y = nO (sUp s y) from ((W y y1).2 (inn _ y e)).2, nI_1]
          have en : itU (sUp s) (i + 1 + 1) m = sUp s y := by rw [itU_1, e]; rfl
          rw [← en]
          refine p_Mring9 X e0 I ho W hm him k1' k0 n (i + 1) (by omega) (by omega) (fun j hj => ?_)
          by_cases c : j = i
          · rw [c]
            exact fun z => g2 (by rw [z]; rfl)
          · exact A j (by omega)
    · refine ⟨fun _ => end40 (fun z q' => ?_), fun g => absurd ((nI_le_iff (by omega) (by omega)).mpr (by omega)) g⟩
      obtain ⟨k, k1, k2, _⟩ := ring_bd q' lt
      exact A k (by omega) k2
theorem p_Mringed (X : RC h Q q mk s1 s2 s3 R0 b l r) {F : Nat → Nat → Int32} (e0 : F Q 0 = nI mk) {s : mgS} (I : mgI mk R0 po b l r s) (ho : orpO mk s = none) (W : rsR F q mk s) {R : Int32 → tpH → Prop} (k1' : ∀ m, rngO mk s = some m → R (nI m) (wI h F)) (k0 : rngO mk s = none → R (-1) (wI h F)) : ∀ (n i : Nat), i ≤ mk → mk < n + i → (∀ j, j < i → (sIn s j && rgB (sUp s) j) = false) → w_Md_ringed_2 R n Q (nI i) (wI h F)
  | 0, i, h1, h2, A => by omega
  | n + 1, i, h1, h2, A => by
    obtain ⟨⟨M, hQ⟩, _, HH⟩ := id X
    have hk := HH.2.2.1
    obtain ⟨c1, c2, c3⟩ := md_f M (j := 37) (kd := 16) (n := 300) (f := 47) (by decide)
    obtain ⟨e1, e2, e3⟩ := md_f M (j := 39) (kd := 15) (n := 300) (f := 49) (by decide)
    have e0' : hI (wI h F) Q 0 = nI mk := e0
    refine ⟨M.1, ?_⟩
    rw [e0']
    by_cases hi : i < mk
    · obtain ⟨w1, w2⟩ := W i hi
      have vi : vp_in (nI i) 300 := vp_in_nI (by omega) (by decide)
      refine ⟨fun g => absurd ((nI_le_iff (by omega) (by omega)).mp g) (by omega), fun _ => ⟨q + 37, c3, c1, by rw [wI_L, c2]; exact vi, ?_⟩⟩
      have next : (sIn s i && rgB (sUp s) i) = false → w_Md_ringed_2 R n Q (nI i + 1) (wI h F) := fun e => by
        rw [nI_1]
        exact p_Mringed X e0 I ho W k1' k0 n (i + 1) (by omega) (by omega) (fun j hj => by
          by_cases c : j = i
          · rw [c]; exact e
          · exact A j (by omega))
      rw [nI_clamp (by omega), show hI (wI h F) (q + 37) i = _ from w1]
      cases ei : sIn s i with
      | false =>
        rw [if_neg Bool.false_ne_true]
        exact ⟨fun _ => next (by rw [ei]; rfl), fun g => absurd rfl g⟩
      | true =>
        rw [if_pos rfl]
        refine ⟨fun g => absurd g (by decide), fun _ => ⟨M.1, q + 39, e3, e1, by rw [wI_L, e2]; exact vi, mk + 1, ?_⟩⟩
        rw [nI_clamp (by omega), show hI (wI h F) (q + 39) i = nO (sUp s i) from (w2 ei).2]
        have en : itU (sUp s) (0 + 1) i = sUp s i := by rw [itU_1]; rfl
        rw [← en]
        refine p_Mring9 X e0 I ho W hi ei (fun q' => ⟨fun g => absurd g (by decide), fun _ => k1' i (find_rg mk i hi ?_ A)⟩) (fun q' => ⟨fun _ => next ?_, fun g => absurd rfl g⟩) (mk + 1) 0 (Nat.zero_le _) (by omega) (fun j hj => absurd hj (Nat.not_lt_zero _))
        · rw [ei, rgB_iff.mpr q']
          rfl
        · rw [ei, Bool.true_and]
          exact Bool.eq_false_iff.mpr (fun z => q' (rgB_iff.mp z))
    · exact ⟨fun _ => k0 (find_rn (fun j hj => A j (by omega))), fun g => absurd ((nI_le_iff (by omega) (by omega)).mpr (by omega)) g⟩
/-! the reference opens a ring -/
theorem p_Mop2 (M : lMd h Q q) (hQ : Q < q) (hk : mk ≤ 300) {x1 x2 : Int32} {F0 : Nat → Nat → Int32} (e0 : F0 Q 0 = nI mk) {R : tpH → Prop} (fin : ∀ F, (∀ c, c ≠ q + 40 → F c = F0 c) → (∀ y, y < mk → F (q + 40) y = 0) → ∃ n, w_Md_openRing_25 R n Q x1 x2 (wI h F)) : ∀ (n i : Nat) (F : Nat → Nat → Int32), i ≤ mk → mk < n + i → (∀ c, c ≠ q + 40 → F c = F0 c) → (∀ y, y < i → F (q + 40) y = 0) → w_Md_openRing_2 R n Q x1 x2 (nI i) (wI h F)
  | 0, i, F, h1, h2, fr, A => by omega
  | n + 1, i, F, h1, h2, fr, A => by
    obtain ⟨c1, c2, c3⟩ := md_f M (j := 40) (kd := 16) (n := 300) (f := 50) (by decide)
    have e0' : hI (wI h F) Q 0 = nI mk := by rw [wI_I, fr _ (by omega)]; exact e0
    refine ⟨M.1, ?_⟩
    rw [e0']
    by_cases hi : i < mk
    · refine ⟨fun g => absurd ((nI_le_iff (by omega) (by omega)).mp g) (by omega), fun _ => ⟨q + 40, c3, c1, by rw [wI_L, c2]; exact vp_in_nI (by omega) (by decide), fun h7 e7 => ?_⟩⟩
      rw [nI_clamp (by omega), sI_wI, wI_wI, wI_I] at e7
      subst e7
      rw [nI_1]
      refine p_Mop2 M hQ hk e0 fin n (i + 1) _ (by omega) (by omega) (fun c hc => by rw [tpu_fa _ _ _ _ _ hc]; exact fr c hc) (fun y hy => ?_)
      by_cases c : y = i
      · rw [c, tpu_s]
      · rw [tpu_o (by omega)]; exact A y (by omega)
    · have ei : i = mk := by omega
      subst ei
      exact ⟨fun _ => fin F fr A, fun g => absurd ((nI_le_iff (by omega) (by omega)).mpr (by omega)) g⟩
theorem p_Mop25 (X : RC h Q q mk s1 s2 s3 R0 b l r) {F0 : Nat → Nat → Int32} {s : mgS} (I : mgI mk R0 po b l r s) (ho : orpO mk s = none) (W0 : rsR F0 q mk s) {m k0 : Nat} (hm : m < mk) (him : sIn s m = true) (hk0 : k0 < mk) (q2 : itU (sUp s) (k0 + 1) m = some m) (q4 : ∀ i j, i < j → j ≤ k0 → itU (sUp s) i m ≠ itU (sUp s) j m) {x1 : Int32} {R : tpH → Prop} (fin : ∀ F, (∀ c, c ≠ q + 40 → F c = F0 c) → (∀ y, y < mk → F (q + 40) y = if rgC (sUp s) m y = true then 1 else 0) → ∃ n, w_Md_openRing_54 R n Q x1 (0 : Int32) (wI h F)) : ∀ (n i : Nat) (F : Nat → Nat → Int32), i ≤ k0 + 1 → k0 + 1 < n + i → (∀ c, c ≠ q + 40 → F c = F0 c) → (∀ y, y < mk → (F (q + 40) y = 1 ∧ ∃ j, j < i ∧ itU (sUp s) j m = some y) ∨ (F (q + 40) y = 0 ∧ ¬ ∃ j, j < i ∧ itU (sUp s) j m = some y)) → w_Md_openRing_25 R n Q x1 (nO (itU (sUp s) i m)) (wI h F)
  | 0, i, F, h1, h2, fr, A => by omega
  | n + 1, i, F, h1, h2, fr, A => by
    obtain ⟨⟨M, hQ⟩, _, HH⟩ := id X
    have hk := HH.2.2.1
    obtain ⟨c1, c2, c3⟩ := md_f M (j := 40) (kd := 16) (n := 300) (f := 50) (by decide)
    obtain ⟨e1, e2, e3⟩ := md_f M (j := 39) (kd := 15) (n := 300) (f := 49) (by decide)
    have lt := it_lt HH I hm
    have inn := rg_in I ho him
    obtain ⟨y, hy⟩ : ∃ y, itU (sUp s) i m = some y := by
      have e := itU_add (up := sUp s) i (k0 + 1 - i) m
      rw [show i + (k0 + 1 - i) = k0 + 1 by omega, q2] at e
      cases q : itU (sUp s) i m with
      | none => rw [q] at e; cases e
      | some y => exact ⟨y, rfl⟩
    have y1 := lt i y hy
    have vy : vp_in (nI y) 300 := vp_in_nI (by omega) (by decide)
    rw [hy]
    refine ⟨M.1, q + 40, c3, c1, by rw [wI_L, c2]; exact vy, ?_⟩
    rw [show nO (some y) = nI y from rfl, nI_clamp (by omega), wI_I]
    by_cases ei : i = k0 + 1
    · have v1 : F (q + 40) y = 1 := by
        rw [ei, q2] at hy
        rcases A y y1 with ⟨g1, _⟩ | ⟨g1, g2⟩
        · exact g1
        · exact absurd ⟨0, by omega, hy⟩ g2
      refine ⟨fun _ => fin F fr (fun y' hy' => ?_), fun g => absurd (v1.symm.trans g) (by decide)⟩
      rcases A y' hy' with ⟨g1, j, g2, g3⟩ | ⟨g1, g2⟩
      · rw [g1, if_pos (rgC_iff.mpr ⟨j, g3⟩)]
      · rw [g1, if_neg (fun z => ?_)]
        obtain ⟨nn, hn⟩ := rgC_iff.mp z
        obtain ⟨j, j1, j2⟩ := rgC_lt q2 (nn + 1) nn (Nat.lt_succ_self _) hn
        exact g2 ⟨j, by omega, j2⟩
    · have v0 : F (q + 40) y = 0 := by
        rcases A y y1 with ⟨g1, j, g2, g3⟩ | ⟨g1, g2⟩
        · exact absurd (g3.trans hy.symm) (q4 j i g2 (by omega))
        · exact g1
      refine ⟨fun g => absurd v0 g, fun _ => ⟨by rw [wI_L, c2]; exact vy, fun h8 e8 => ?_⟩⟩
      rw [sI_wI, wI_wI, wI_I] at e8
      subst e8
      refine ⟨q + 39, e3, e1, by rw [wI_L, e2]; exact vy, ?_⟩
      have ep : hI (wI h (tpu F (q + 40) y 1)) (q + 39) y = nO (sUp s y) := by
        rw [wI_I, tpu_o (by omega), fr _ (by omega)]
        exact ((W0 y y1).2 (inn i y hy)).2
      rw [ep]
      have en : itU (sUp s) (i + 1) m = sUp s y := by rw [itU_1, hy]; rfl
      rw [← en]
      refine p_Mop25 X I ho W0 hm him hk0 q2 q4 fin n (i + 1) _ (by omega) (by omega) (fun c hc => by rw [tpu_fa _ _ _ _ _ hc]; exact fr c hc) (fun y' hy' => ?_)
      by_cases c : y' = y
      · rw [c, tpu_s]
        exact Or.inl ⟨rfl, i, by omega, hy⟩
      · rw [tpu_o (by omega)]
        rcases A y' hy' with ⟨g1, j, g2, g3⟩ | ⟨g1, g2⟩
        · exact Or.inl ⟨g1, j, by omega, g3⟩
        · refine Or.inr ⟨g1, fun ⟨j, j1, j2⟩ => ?_⟩
          by_cases cj : j = i
          · rw [cj, hy] at j2
            exact c (Option.some.inj j2).symm
          · exact g2 ⟨j, by omega, j2⟩
theorem p_Mop54 (X : RC h Q q mk s1 s2 s3 R0 b l r) {F0 : Nat → Nat → Int32} {s : mgS} {m : Nat} (hc : (sCf s).length + 300 < 92000) {R : tpH → Prop} (fin : ∀ F, RFm F Q q mk s1 s2 s3 kd idn po b l r → CfM F Q q (sCf (rgI b s m mk)) → rFr Q q F0 F → rsR F q mk (rgI b s m mk) → R (wI h F)) :
    ∀ (f i : Nat) (F : Nat → Nat → Int32), i ≤ mk → mk < f + i → RFm F Q q mk s1 s2 s3 kd idn po b l r → CfM F Q q (sCf (rgI b s m i)) → rFr Q q F0 F → rsR F q mk (rgI b s m i) → (∀ y, y < mk → F (q + 40) y = if rgC (sUp s) m y = true then 1 else 0) → w_Md_openRing_54 R f Q (nI s1) (nI i) (wI h F)
  | 0, i, F, h1, h2, H, C, fr, W, G => by omega
  | f + 1, i, F, h1, h2, H, C, fr, W, G => by
    obtain ⟨⟨M, hQ⟩, ⟨i1, i2, i3⟩, HH⟩ := id X
    obtain ⟨⟨w1, w2, w3⟩, _, hk, b1, b2, b3⟩ := id HH
    obtain ⟨c1, c2, c3⟩ := md_f M (j := 40) (kd := 16) (n := 300) (f := 50) (by decide)
    obtain ⟨d1, d2, d3⟩ := md_f M (j := 39) (kd := 15) (n := 300) (f := 49) (by decide)
    have e0 : hI (wI h F) Q 0 = nI mk := H.1.1
    refine ⟨M.1, ?_⟩
    rw [e0]
    by_cases hi : i < mk
    · have vi : vp_in (nI i) 300 := vp_in_nI (by omega) (by decide)
      refine ⟨fun g => absurd ((nI_le_iff (by omega) (by omega)).mp g) (by omega), fun _ => ⟨q + 40, c3, c1, by rw [wI_L, c2]; exact vi, ?_⟩⟩
      rw [nI_clamp (by omega), wI_I, G i hi]
      have rs : (List.range (i + 1)).filter (fun k => rgC (sUp s) m k && tIn b k) = (List.range i).filter (fun k => rgC (sUp s) m k && tIn b k) ++ (if (rgC (sUp s) m i && tIn b i) = true then [i] else []) := by
        rw [List.range_succ, List.filter_append, List.filter_cons]
        rfl
      have skip : (rgC (sUp s) m i && tIn b i) = false → w_Md_openRing_54 R f Q (nI s1) (nI i + 1) (wI h F) := fun e => by
        have e1' : sCf (rgI b s m (i + 1)) = sCf (rgI b s m i) := by
          show sCf s ++ ((List.range (i + 1)).filter (fun k => rgC (sUp s) m k && tIn b k)).map (fun k => (4, k)) = _
          rw [rs, e, if_neg Bool.false_ne_true, List.append_nil]
          rfl
        have e2' : sUp (rgI b s m (i + 1)) = sUp (rgI b s m i) := by
          funext k
          show (if k < i + 1 ∧ (rgC (sUp s) m k && tIn b k) = true then tUp b k else sUp s k) = (if k < i ∧ (rgC (sUp s) m k && tIn b k) = true then tUp b k else sUp s k)
          by_cases c : k = i
          · rw [c, e, if_neg (fun q => Bool.false_ne_true q.2), if_neg (fun q => Bool.false_ne_true q.2)]
          · by_cases c2 : k < i ∧ (rgC (sUp s) m k && tIn b k) = true
            · rw [if_pos c2, if_pos ⟨by omega, c2.2⟩]
            · rw [if_neg c2, if_neg (fun q => c2 ⟨by omega, q.2⟩)]
        rw [nI_1]
        exact p_Mop54 X hc fin f (i + 1) F (by omega) (by omega) H (by rw [e1']; exact C) fr (fun y hy => by
          obtain ⟨q1, q2⟩ := W y hy
          exact ⟨q1, fun z => by rw [e2']; exact q2 z⟩) G
      cases er : rgC (sUp s) m i with
      | false =>
        rw [if_neg Bool.false_ne_true]
        exact ⟨fun _ => skip (by rw [er]; rfl), fun g => absurd rfl g⟩
      | true =>
        rw [if_pos rfl]
        refine ⟨fun g => absurd g (by decide), fun _ => rc_has M (by omega) hk H.1 H.2.2.1 w1 b1 hi ?_⟩
        cases eb : tIn b i with
        | false =>
          rw [if_neg Bool.false_ne_true]
          exact ⟨fun _ => skip (by rw [er, eb]; rfl), fun g => absurd rfl g⟩
        | true =>
          rw [if_pos rfl]
          refine ⟨fun g => absurd g (by decide), fun _ => ⟨M.1, ?_⟩⟩
          rw [e_Md_parentIn M (by omega) (by omega), mt_up H.2.2.1 w1 eb]
          refine ⟨q + 39, d3, d1, by rw [wI_L, d2]; exact vi, fun h18 e18 => ?_⟩
          rw [sI_wI, wI_wI, wI_I] at e18
          subst e18
          refine ⟨M.1, ?_⟩
          have lc : (sCf (rgI b s m i)).length ≤ (sCf s).length + 300 := by
            show (sCf s ++ ((List.range i).filter (fun k => rgC (sUp s) m k && tIn b k)).map (fun k => (4, k))).length ≤ _
            rw [List.length_append, List.length_map]
            have := flt_mk (p := fun k => rgC (sUp s) m k && tIn b k) i
            omega
          show w_Md_list Q (nI 4) (nI i) (wI h (tpu F (q + 39) i (nO (tUp b i)))) _
          refine p_Mlist M hQ (CfM_t hQ C (by omega)) (by omega) (fun G2 CG2 f2 => ?_)
          have ff : rFr Q q F G2 := fun c j hc' => by
            unfold rfT at hc'
            rw [f2 c j (by omega), tpu_o (by omega)]
          have kp : ∀ c j, c = q + 37 ∨ c = q + 38 ∨ c = q + 39 ∨ c = q + 40 → G2 c j = tpu F (q + 39) i (nO (tUp b i)) c j := fun c j hc' => f2 c j (by omega)
          have e1' : sCf (rgI b s m (i + 1)) = sCf (rgI b s m i) ++ [(4, i)] := by
            show sCf s ++ ((List.range (i + 1)).filter (fun k => rgC (sUp s) m k && tIn b k)).map (fun k => (4, k)) = (sCf s ++ ((List.range i).filter (fun k => rgC (sUp s) m k && tIn b k)).map (fun k => (4, k))) ++ [(4, i)]
            rw [rs, er, eb, if_pos (by rfl), List.map_append, List.append_assoc]
            rfl
          rw [nI_1]
          refine p_Mop54 X hc fin f (i + 1) G2 (by omega) (by omega) (RFm_fr X H ff) (by rw [e1']; exact CG2) (rFr_tr fr ff) (fun y hy => ?_) (fun y hy => by rw [kp _ _ (by omega), tpu_o (by omega)]; exact G y hy)
          obtain ⟨q1, q2⟩ := W y hy
          refine ⟨by rw [kp _ _ (by omega), tpu_o (by omega)]; exact q1, fun z => ⟨by rw [kp _ _ (by omega), tpu_o (by omega)]; exact (q2 z).1, ?_⟩⟩
          rw [kp _ _ (by omega)]
          show tpu F (q + 39) i (nO (tUp b i)) (q + 39) y = nO (if y < i + 1 ∧ (rgC (sUp s) m y && tIn b y) = true then tUp b y else sUp s y)
          by_cases c : y = i
          · rw [c, tpu_s, if_pos ⟨by omega, by rw [er, eb]; rfl⟩]
          · rw [tpu_o (by omega), (q2 z).2]
            show nO (if y < i ∧ (rgC (sUp s) m y && tIn b y) = true then tUp b y else sUp s y) = _
            by_cases c2 : y < i ∧ (rgC (sUp s) m y && tIn b y) = true
            · rw [if_pos c2, if_pos ⟨by omega, c2.2⟩]
            · rw [if_neg c2, if_neg (fun q => c2 ⟨by omega, q.2⟩)]
    · have ei : i = mk := by omega
      subst ei
      exact ⟨fun _ => fin F H C fr W, fun g => absurd ((nI_le_iff (by omega) (by omega)).mpr (by omega)) g⟩
theorem p_Mopen (X : RC h Q q mk s1 s2 s3 R0 b l r) {F : Nat → Nat → Int32} (H : RFm F Q q mk s1 s2 s3 kd idn po b l r) {s : mgS} (I : mgI mk R0 po b l r s) (ho : orpO mk s = none) (C : CfM F Q q (sCf s)) (hc : (sCf s).length + 300 < 92000) (W : rsR F q mk s) {m : Nat} (hm : m < mk) (him : sIn s m = true) (hr : isRg (sUp s) m) {R : tpH → Prop} (kk : ∀ G, RFm G Q q mk s1 s2 s3 kd idn po b l r → CfM G Q q (sCf (ringS mk b s m)) → rFr Q q F G → rsR G q mk (ringS mk b s m) → R (wI h G)) : w_Md_openRing Q (nI s1) (nI m) (wI h F) R := by
  obtain ⟨⟨M, hQ⟩, ⟨i1, i2, i3⟩, HH⟩ := id X
  have hk := HH.2.2.1
  obtain ⟨k0, q1, q2, q3, q4⟩ := ring_bd hr (it_lt HH I hm)
  refine ⟨mk + 1, ?_⟩
  show w_Md_openRing_2 R (mk + 1) Q (nI s1) (nI m) (nI 0) (wI h F)
  refine p_Mop2 M hQ hk H.1.1 (fun F1 fr1 A1 => ⟨k0 + 2, ?_⟩) (mk + 1) 0 F (Nat.zero_le _) (by omega) (fun c _ => rfl) (fun y hy => absurd hy (Nat.not_lt_zero _))
  have W1 : rsR F1 q mk s := fun y hy => by rw [fr1 _ (by omega), fr1 _ (by omega), fr1 _ (by omega)]; exact W y hy
  show w_Md_openRing_25 R (k0 + 2) Q (nI s1) (nO (itU (sUp s) 0 m)) (wI h F1)
  refine p_Mop25 X I ho W1 hm him q1 q2 q4 (fun F2 fr2 A2 => ⟨mk + 1, ?_⟩) (k0 + 2) 0 F1 (Nat.zero_le _) (by omega) (fun c _ => rfl) (fun y hy => Or.inr ⟨A1 y hy, fun ⟨j, j1, _⟩ => absurd j1 (Nat.not_lt_zero _)⟩)
  have e0' : rgI b s m 0 = (sIn s, sWo s, sUp s, sCf s) := by
    have e : sUp (rgI b s m 0) = sUp s := by
      funext k
      show (if k < 0 ∧ (rgC (sUp s) m k && tIn b k) = true then tUp b k else sUp s k) = sUp s k
      rw [if_neg (fun q => absurd q.1 (Nat.not_lt_zero _))]
    show (sIn s, sWo s, sUp (rgI b s m 0), sCf s ++ []) = _
    rw [e, List.append_nil]
  have e0'' : rgI b s m 0 = s := e0'
  have f2 : ∀ c, c ≠ q + 40 → F2 c = F c := fun c hc' => (fr2 c hc').trans (fr1 c hc')
  have ff : rFr Q q F F2 := fun c j hc' => by unfold rfT at hc'; rw [f2 c (by omega)]
  show w_Md_openRing_54 R (mk + 1) Q (nI s1) (nI 0) (wI h F2)
  refine p_Mop54 (s := s) (m := m) (F0 := F) X hc (fun G v1 v2 v3 v4 => ?_) (mk + 1) 0 F2 (Nat.zero_le _) (by omega) (RFm_fr X H ff) ?_ ff ?_ A2
  · rw [rgI_mk HH] at v2 v4
    exact kk G v1 v2 v3 v4
  · rw [e0'']
    exact CfM_fr C (by rw [f2 _ (by omega)]) (f2 _ (by omega))
  · rw [e0'']
    exact fun y hy => by rw [f2 _ (by omega), f2 _ (by omega), f2 _ (by omega)]; exact W y hy
/-! the reference mends -/
theorem p_Mmend {s0 : mgS} {F0 : Nat → Nat → Int32} (X : RC h Q q mk s1 s2 s3 R0 b l r) {R : tpH → Prop} (fin : ∀ G, RFm G Q q mk s1 s2 s3 kd idn po b l r → CfM G Q q (sCf (mdF mk b s0)) → rFr Q q F0 G → rsR G q mk (mdF mk b s0) → R (wI h G)) :
    ∀ (N : Nat) (s : mgS) (F : Nat → Nat → Int32), cD mk b s + cO mk b s < N → mdF mk b s = mdF mk b s0 → mgI mk R0 po b l r s → (sCf s).length + 300 * cD mk b s + cO mk b s ≤ 91000 → RFm F Q q mk s1 s2 s3 kd idn po b l r → CfM F Q q (sCf s) → rFr Q q F0 F → rsR F q mk s → w_Md_mend_2 R (N + 1) Q (nI s1) 1 (wI h F)
  | 0, s, F, h1, e, I, L, H, C, fr, W => by omega
  | N + 1, s, F, h1, e, I, L, H, C, fr, W => by
    obtain ⟨⟨M, hQ⟩, ⟨i1, i2, i3⟩, HH⟩ := id X
    obtain ⟨⟨w1, w2, w3⟩, _, hk, b1, b2, b3⟩ := id HH
    obtain ⟨c1, c2, c3⟩ := md_f M (j := 37) (kd := 16) (n := 300) (f := 47) (by decide)
    obtain ⟨d1, d2, d3⟩ := md_f M (j := 38) (kd := 15) (n := 300) (f := 48) (by decide)
    obtain ⟨e1, e2, e3⟩ := md_f M (j := 39) (kd := 15) (n := 300) (f := 49) (by decide)
    refine ⟨fun g => absurd g (by decide), fun _ => ⟨M.1, mk + 1, ?_⟩⟩
    refine p_Morph X H.1.1 I W (fun m ho => ⟨fun g => ?_, fun _ => ⟨M.1, ?_⟩⟩) (fun ho => ⟨fun _ => ⟨M.1, mk + 1, ?_⟩, fun g => absurd rfl g⟩) (mk + 1) 0 (Nat.zero_le _) (by omega) (fun j hj => absurd hj (Nat.not_lt_zero _))
    · have := (orp_s ho).choose_spec.1
      exact absurd g (nI_ne_m (by omega))
    · obtain ⟨y, g1, g2, g3, g4⟩ := orp_s ho
      have yb := lost_b HH I g3 g4
      have y3 := up_lt HH I g3
      have st := mdS_1 (b := b) ho g3
      obtain ⟨I', m1, m2⟩ := mdS_s HH I st
      have vm : vp_in (nI m) 300 := vp_in_nI (by omega) (by decide)
      have vy : vp_in (nI y) 300 := vp_in_nI (by omega) (by decide)
      refine ⟨q + 39, e3, e1, by rw [wI_L, e2]; exact vm, ?_⟩
      rw [nI_clamp (by omega), show hI (wI h F) (q + 39) m = nI y from by rw [wI_I, ((W m g1).2 g2).2, g3]; rfl, nI_clamp (by omega)]
      refine ⟨q + 37, c3, c1, by rw [wI_L, c2]; exact vy, fun h19 e19 => ?_⟩
      rw [sI_wI, wI_wI, wI_I] at e19
      subst e19
      have H3 := H.2.2.1
      rw [e_Md_valueIn M (by omega) (by omega), tpu_o (by omega), (H3.1 y yb).1]
      refine ⟨q + 38, d3, d1, by rw [wI_L, d2]; exact vy, fun h27 e27 => ?_⟩
      rw [sI_wI, wI_wI, wI_I] at e27
      subst e27
      refine ⟨M.1, ?_⟩
      rw [e_Md_parentIn M (by omega) (by omega), tpu_o (by omega), tpu_o (by omega), mt_up H3 w1 yb]
      refine ⟨q + 39, e3, e1, by rw [wI_L, e2]; exact vy, fun h36 e36 => ?_⟩
      rw [sI_wI, wI_wI, wI_I] at e36
      subst e36
      refine ⟨M.1, ?_⟩
      show w_Md_list Q (nI 3) (nI y) (wI h _) _
      refine p_Mlist M hQ (CfM_t hQ (CfM_t hQ (CfM_t hQ C (by omega)) (by omega)) (by omega)) (by omega) (fun G CG f => ?_)
      have kp : ∀ c j, ¬ ((c = q + 37 ∨ c = q + 38 ∨ c = q + 39) ∧ j = y) → ¬ ((c = Q ∧ j = 24) ∨ c = q + 19) → G c j = F c j := fun c j hc hc2 => by
        rw [f c j hc2, tpu_o (by omega), tpu_o (by omega), tpu_o (by omega)]
      have ff : rFr Q q F G := fun c j hc' => by unfold rfT at hc'; exact kp c j (by omega) (by omega)
      refine p_Mmend X fin N (lostS b s y) G (by omega) ((mdF_s HH I st).symm.trans e) I' (by omega) (RFm_fr X H ff) CG (rFr_tr fr ff) (fun z hz => ?_)
      obtain ⟨z1, z2⟩ := W z hz
      show G (q + 37) z = (if mU (sIn s) y true z = true then 1 else 0) ∧ (mU (sIn s) y true z = true → G (q + 38) z = mU (sWo s) y (tWo b y) z ∧ G (q + 39) z = nO (mU (sUp s) y (tUp b y) z))
      by_cases c : z = y
      · rw [c, mU_s, mU_s, mU_s, f _ _ (by omega), f _ _ (by omega), f _ _ (by omega)]
        refine ⟨by rw [tpu_o (by omega), tpu_o (by omega), tpu_s]; rfl, fun _ => ⟨by rw [tpu_o (by omega), tpu_s], tpu_s _ _ _ _⟩⟩
      · rw [mU_n _ _ c, mU_n _ _ c, mU_n _ _ c, kp _ _ (by omega) (by omega), kp _ _ (by omega) (by omega), kp _ _ (by omega) (by omega)]
        exact ⟨z1, z2⟩
    · refine p_Mringed X H.1.1 I ho W (fun m hr => ⟨fun g => ?_, fun _ => ⟨fun g => absurd g (by decide), fun _ => ⟨M.1, ?_⟩⟩⟩) (fun hr => ⟨fun _ => ⟨fun _ => ?_, fun g => absurd rfl g⟩, fun g => absurd rfl g⟩) (mk + 1) 0 (Nat.zero_le _) (by omega) (fun j hj => absurd hj (Nat.not_lt_zero _))
      · have := (rng_s hr).1
        exact absurd g (nI_ne_m (by omega))
      · obtain ⟨m1, m2, m3⟩ := rng_s hr
        have st := mdS_2 (b := b) ho hr
        obtain ⟨I', m4, m5⟩ := mdS_s HH I st
        refine p_Mopen X H I ho C (by omega) W m1 m2 m3 (fun G v1 v2 v3 v4 => ?_)
        exact p_Mmend X fin N (ringS mk b s m) G (by omega) ((mdF_s HH I st).symm.trans e) I' (by omega) v1 v2 (rFr_tr fr v3) v4
      · have e' : mdF mk b s0 = s := e.symm.trans (mdF_n (mdS_3 ho hr))
        rw [e'] at fin
        exact ⟨fun _ => fin F H C fr W, fun g => absurd rfl g⟩
end RMEND
