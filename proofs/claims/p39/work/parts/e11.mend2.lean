section MEND2
theorem p_md209 {h : tpH} {t a3 m k0 : Nat} {s : mgS} (a : iA h t 41) (b3 : iA h a3 40) (d : t ≠ a3) {F0 : Nat → Nat → Int32} (W0 : mRo F0 t s) (hs : mUpO s) (hm : m < 40) (hk0 : k0 < 40) (q2 : itU (sUp s) (k0 + 1) m = some m) (q4 : ∀ i j, i < j → j ≤ k0 → itU (sUp s) i m ≠ itU (sUp s) j m) {R : tpH → Prop} {K2 : (Option Nat) → (Option Nat) → (Option Nat) → Int32 → tpH → Prop} {x0 x2 : Option Nat} {x3 : Int32}
    (fin : ∀ F, (∀ c, c ≠ a3 → F c = F0 c) → (∀ y, y < 40 → F a3 y = if rgC (sUp s) m y = true then 1 else 0) → ∃ n, w_Lw_mends_237 R K2 n x0 (some t) x2 x3 (some a3) (0 : Int32) (wI h F)) :
    ∀ (n i : Nat) (F : Nat → Nat → Int32), i ≤ k0 + 1 → k0 + 1 < n + i → (∀ c, c ≠ a3 → F c = F0 c) → (∀ y, y < 40 → (F a3 y = 1 ∧ ∃ j, j < i ∧ itU (sUp s) j m = some y) ∨ (F a3 y = 0 ∧ ¬ ∃ j, j < i ∧ itU (sUp s) j m = some y)) → w_Lw_mends_209 R K2 n x0 (some t) x2 x3 (some a3) (nO (itU (sUp s) i m)) (wI h F)
  | 0, i, F, h1, h2, fr, A => by omega
  | n + 1, i, F, h1, h2, fr, A => by
    have bd := it_40 hs.2 hm
    obtain ⟨y, hy⟩ : ∃ y, itU (sUp s) i m = some y := by
      have e := itU_add (up := sUp s) i (k0 + 1 - i) m
      rw [show i + (k0 + 1 - i) = k0 + 1 by omega, q2] at e
      cases q : itU (sUp s) i m with
      | none => rw [q] at e; cases e
      | some y => exact ⟨y, rfl⟩
    have y1 := bd i y hy
    have e3 : hL (wI h F) a3 = 40 := b3.2
    have vy : vp_in (nI y) (hL (wI h F) a3) := by rw [e3]; exact vp_in_nI (by omega) (by decide)
    rw [hy]
    refine ⟨a3, rfl, b3.1, vy, ?_⟩
    rw [show nO (some y) = nI y from rfl, nI_clamp (by omega), wI_I]
    by_cases ei : i = k0 + 1
    · have v1 : F a3 y = 1 := by
        rw [ei, q2] at hy
        rcases A y y1 with ⟨g1, _⟩ | ⟨g1, g2⟩
        · exact g1
        · exact absurd ⟨0, by omega, hy⟩ g2
      refine ⟨fun _ => fin F fr (fun y' hy' => ?_), fun g => absurd (v1.symm.trans g) (by decide)⟩
      rcases A y' hy' with ⟨g1, j, g2, g3⟩ | ⟨g1, g2⟩
      · rw [g1, if_pos (rgC_iff.mpr ⟨j, g3⟩)]
      · rw [g1, if_neg (fun z => ?_)]
        obtain ⟨nn, hn⟩ := rgC_iff.mp z
        obtain ⟨j, j1, j2⟩ := rgC_lt q2 (nn + 1) nn (Nat.lt_succ_self _) hn
        exact g2 ⟨j, by omega, j2⟩
    · have v0 : F a3 y = 0 := by
        rcases A y y1 with ⟨g1, j, g2, g3⟩ | ⟨g1, g2⟩
        · exact absurd (g3.trans hy.symm) (q4 j i g2 (by omega))
        · exact g1
      refine ⟨fun g => absurd v0 g, fun _ => ⟨vy, fun h8 e8 => ?_⟩⟩
      rw [sI_wI, wI_wI, wI_I] at e8
      subst e8
      obtain ⟨L, L1, L2, L3⟩ := mR_k W0 (G := tpu F a3 y 1) (t := t) (by rw [tpu_ne d]; exact fr t d)
      refine p_pOf (h := wI h (tpu F a3 y 1)) a L1 L2 (by omega) ?_
      have en : itU (sUp s) (i + 1) m = sUp s y := by rw [itU_1, hy]; rfl
      have ep : rPa (sIn s) (sUp s) y = nO (itU (sUp s) (i + 1) m) := by
        obtain ⟨z, z1, -⟩ := ring_all ⟨k0, q2⟩ hy
        rw [en, z1]
        rcases rPa_c hs.1 hs.2 y with ⟨p, u1, u2, u3, u4⟩ | ⟨u1, u2⟩
        · rw [u4, ← u1.symm.trans z1 |> Option.some.inj]
          rfl
        · rw [u1] at z1
          cases z1
      rw [ep]
      refine p_md209 a b3 d W0 hs hm hk0 q2 q4 fin n (i + 1) _ (by omega) (by omega) (fun c hc => by rw [tpu_ne hc]; exact fr c hc) (fun y' hy' => ?_)
      by_cases c : y' = y
      · rw [c, tpu_s]
        exact Or.inl ⟨rfl, i, by omega, hy⟩
      · rw [tpu_o (by omega)]
        rcases A y' hy' with ⟨g1, j, g2, g3⟩ | ⟨g1, g2⟩
        · exact Or.inl ⟨g1, j, by omega, g3⟩
        · refine Or.inr ⟨g1, fun ⟨j, j1, j2⟩ => ?_⟩
          by_cases cj : j = i
          · rw [cj, hy] at j2
            exact c (Option.some.inj j2).symm
          · exact g2 ⟨j, by omega, j2⟩
theorem rwP_put {F : Nat → Nat → Int32} {t : Nat} {A B : List lE} {e e' : lE} (P : rwP F t (A ++ e :: B)) (h : lOK e') : rwP (tpu F t (1 + A.length) (nI (lcd e'))) t (A ++ e' :: B) := by
  obtain ⟨h1, h2, h3, h4⟩ := P
  obtain ⟨r1, r2⟩ := rwG_app.mp h4
  obtain ⟨r3, r4⟩ := rwG_cons.mp r2
  rw [List.length_append, List.length_cons] at h1 h2
  refine ⟨?_, ?_, fun x hx => ?_, rwG_app.mpr ⟨rwG_k r1 (fun j _ hj => tpu_o (by omega)), rwG_cons.mpr ⟨tpu_s _ _ _ _, rwG_k r4 (fun j hj _ => tpu_o (by omega))⟩⟩⟩
  · rw [List.length_append, List.length_cons, tpu_o (by omega)]
    exact h1
  · rw [List.length_append, List.length_cons]
    exact h2
  · rcases List.mem_append.mp hx with g | g
    · exact h3 x (List.mem_append_left _ g)
    · rcases List.mem_cons.mp g with g | g
      · rw [g]; exact h
      · exact h3 x (List.mem_append_right _ (List.mem_cons_of_mem _ g))
theorem nd_mid {A B : List lE} {e : lE} (h : ((A ++ e :: B).map (·.1)).Nodup) : ∀ x, x ∈ A ∨ x ∈ B → x.1 ≠ e.1 := by
  rw [List.map_append, List.map_cons] at h
  obtain ⟨h1, h2, h3⟩ := List.nodup_append.mp h
  rintro x (g | g) q
  · exact h3 x.1 (List.mem_map_of_mem g) e.1 List.mem_cons_self q
  · exact (List.nodup_cons.mp h2).1 (by rw [← q]; exact List.mem_map_of_mem g)
/-- one entry gets another parent -/
theorem rwT_set {A B : List lE} {e : lE} {I : Nat → Bool} {W : Nat → Int32} {U : Nat → Option Nat} (T : rwT (A ++ e :: B) I W U) (hn : ((A ++ e :: B).map (·.1)).Nodup) {v : Nat} {u : Option Nat} {W' : Nat → Int32} {U' : Nat → Option Nat} (h1 : W' e.1 = nI v ∧ U' e.1 = u) (h2 : ∀ m, m ≠ e.1 → W' m = W m ∧ U' m = U m) : rwT (A ++ (e.1, v, u) :: B) I W' U' ∧ ((A ++ (e.1, v, u) :: B).map (·.1)).Nodup := by
  have ne := nd_mid hn
  refine ⟨⟨fun m => (T.1 m).trans ⟨?_, ?_⟩, fun x hx => ?_⟩, ?_⟩
  · rintro ⟨x, x1, x2⟩
    rcases List.mem_append.mp x1 with g | g
    · exact ⟨x, List.mem_append_left _ g, x2⟩
    · rcases List.mem_cons.mp g with g | g
      · exact ⟨_, List.mem_append_right _ List.mem_cons_self, by rw [← x2, g]⟩
      · exact ⟨x, List.mem_append_right _ (List.mem_cons_of_mem _ g), x2⟩
  · rintro ⟨x, x1, x2⟩
    rcases List.mem_append.mp x1 with g | g
    · exact ⟨x, List.mem_append_left _ g, x2⟩
    · rcases List.mem_cons.mp g with g | g
      · exact ⟨e, List.mem_append_right _ List.mem_cons_self, by rw [← x2, g]⟩
      · exact ⟨x, List.mem_append_right _ (List.mem_cons_of_mem _ g), x2⟩
  · rcases List.mem_append.mp hx with g | g
    · have n := h2 x.1 (ne x (Or.inl g))
      rw [n.1, n.2]
      exact T.2 x (List.mem_append_left _ g)
    · rcases List.mem_cons.mp g with g | g
      · rw [g]; exact h1
      · have n := h2 x.1 (ne x (Or.inr g))
        rw [n.1, n.2]
        exact T.2 x (List.mem_append_right _ (List.mem_cons_of_mem _ g))
  · rw [List.map_append, List.map_cons] at hn ⊢
    exact hn
theorem at_split {α : Type} {L : List α} {i : Nat} {e : α} (h : L[i]? = some e) : ∃ A B, L = A ++ e :: B ∧ A.length = i := by
  obtain ⟨q1, q2⟩ := List.getElem?_eq_some_iff.mp h
  refine ⟨L.take i, L.drop (i + 1), ?_, ?_⟩
  · rw [← q2, List.getElem_cons_drop, List.take_append_drop]
  · rw [List.length_take]; omega
theorem rgI_n {b : mT} {s : mgS} {m i : Nat} (h : (rgC (sUp s) m i && tIn b i) = false) : rgI b s m (i + 1) = rgI b s m i := by
  unfold rgI
  have e1 : (fun k => if k < i + 1 ∧ (rgC (sUp s) m k && tIn b k) = true then tUp b k else sUp s k) = (fun k => if k < i ∧ (rgC (sUp s) m k && tIn b k) = true then tUp b k else sUp s k) := funext fun k => by
    by_cases c : k = i
    · rw [c, if_neg (fun q => by rw [h] at q; exact absurd q.2 (by simp)), if_neg (fun q => by omega)]
    · by_cases c2 : (rgC (sUp s) m k && tIn b k) = true
      · by_cases c3 : k < i
        · rw [if_pos ⟨by omega, c2⟩, if_pos ⟨c3, c2⟩]
        · rw [if_neg (fun q => by omega), if_neg (fun q => c3 q.1)]
      · rw [if_neg (fun q => c2 q.2), if_neg (fun q => c2 q.2)]
  rw [e1, List.range_succ, List.filter_append, List.filter_cons_of_neg (by rw [h]; simp), List.filter_nil, List.append_nil]
theorem rgI_y {b : mT} {s : mgS} {m i : Nat} (h : (rgC (sUp s) m i && tIn b i) = true) : rgI b s m (i + 1) = (sIn s, sWo s, mU (sUp (rgI b s m i)) i (tUp b i), sCf (rgI b s m i) ++ [(4, i)]) := by
  unfold rgI
  have e1 : (fun k => if k < i + 1 ∧ (rgC (sUp s) m k && tIn b k) = true then tUp b k else sUp s k) = mU (fun k => if k < i ∧ (rgC (sUp s) m k && tIn b k) = true then tUp b k else sUp s k) i (tUp b i) := funext fun k => by
    unfold mU
    by_cases c : k = i
    · rw [c, if_pos ⟨Nat.lt_succ_self _, h⟩, if_pos rfl]
    · rw [if_neg c]
      show _ = (if k < i ∧ (rgC (sUp s) m k && tIn b k) = true then tUp b k else sUp s k)
      by_cases c2 : (rgC (sUp s) m k && tIn b k) = true
      · by_cases c3 : k < i
        · rw [if_pos ⟨by omega, c2⟩, if_pos ⟨c3, c2⟩]
        · rw [if_neg (fun q => by omega), if_neg (fun q => c3 q.1)]
      · rw [if_neg (fun q => c2 q.2), if_neg (fun q => c2 q.2)]
  have ef : [i].filter (fun k => rgC (sUp s) m k && tIn b k) = [i] := List.filter_cons_of_pos (p := fun k => rgC (sUp s) m k && tIn b k) h
  rw [e1, List.range_succ, List.filter_append, ef, List.map_append, ← List.append_assoc]
  rfl
theorem rgI_40 {b : mT} {s : mgS} {m mk : Nat} (hb : ∀ k, tIn b k = true → k < mk) : ∀ d, rgI b s m (mk + d) = rgI b s m mk
  | 0 => rfl
  | d + 1 => by
    have e : mk + (d + 1) = mk + d + 1 := rfl
    rw [e, rgI_n, rgI_40 hb d]
    cases c : tIn b (mk + d) with
    | false => rw [Bool.and_false]
    | true => have := hb _ c; omega
theorem rgI_len {b : mT} {s : mgS} {m : Nat} : ∀ i, (sCf (rgI b s m i)).length ≤ (sCf s).length + i := fun i => by
  show (sCf s ++ _).length ≤ _
  rw [List.length_append, List.length_map]
  have := flt_mk (p := fun k => rgC (sUp s) m k && tIn b k) i
  omega
theorem p_md237 {h : tpH} {tb t c a3 m : Nat} {s : mgS} {b : mT} (a : iA h t 41) (ac : iA h c 64) (b3 : iA h a3 40) (d : (t ≠ a3 ∧ t ≠ c ∧ t ≠ tb) ∧ c ≠ a3 ∧ tb ≠ c ∧ tb ≠ a3) (hs : mUpO s) (hr : ∀ y, rgC (sUp s) m y = true → sIn s y = true) (hl : (sCf s).length + 100 < 100000) {F0 : Nat → Nat → Int32} (Hb : bR h F0 tb b) (hb40 : ∀ y, tIn b y = true → y < 40) {R : tpH → Prop} {K2 : (Option Nat) → (Option Nat) → (Option Nat) → Int32 → tpH → Prop} {x3 : Int32}
    (fin : ∀ F, (∀ x, x ≠ a3 → x ≠ t → x ≠ c → F x = F0 x) → mRo F t (rgI b s m 40) → cP F c (sCf (rgI b s m 40)) → K2 (some tb) (some t) (some c) x3 (wI h F)) :
    ∀ (n i : Nat) (F : Nat → Nat → Int32), i ≤ 40 → 40 < n + i → (∀ x, x ≠ a3 → x ≠ t → x ≠ c → F x = F0 x) → (∀ y, y < 40 → F a3 y = if rgC (sUp s) m y = true then 1 else 0) → mRo F t (rgI b s m i) → cP F c (sCf (rgI b s m i)) → w_Lw_mends_237 R K2 n (some tb) (some t) (some c) x3 (some a3) (nI i) (wI h F)
  | 0, i, F, h1, h2, _, _, _, _ => by omega
  | n + 1, i, F, h1, h2, fr, G, W, C => by
    obtain ⟨⟨d1, d2, d3⟩, d4, d5, d6⟩ := d
    refine ⟨fun g => ?_, fun g => ?_⟩
    · have e : i = 40 := by have := (nI_le_iff (a := 40) (by decide) (by omega)).mp g; omega
      rw [e] at W C
      exact fin F fr W C
    · have hi : i < 40 := by
        have : ¬ 40 ≤ i := fun q => g ((nI_le_iff (a := 40) (by decide) (by omega)).mpr q)
        omega
      have skip : (rgC (sUp s) m i && tIn b i) = false → w_Lw_mends_237 R K2 n (some tb) (some t) (some c) x3 (some a3) (nI i + 1) (wI h F) := fun q => by
        rw [nI_1]
        exact p_md237 a ac b3 ⟨⟨d1, d2, d3⟩, d4, d5, d6⟩ hs hr hl Hb hb40 fin n (i + 1) F (by omega) (by omega) fr G (by rw [rgI_n q]; exact W) (by rw [rgI_n q]; exact C)
      refine ⟨a3, rfl, b3.1, by rw [show hL (wI h F) a3 = 40 from b3.2]; exact vp_in_nI hi (by decide), ?_⟩
      rw [nI_clamp (by omega), wI_I, G i hi]
      by_cases c1 : rgC (sUp s) m i = true
      · rw [if_pos c1]
        refine ⟨fun q => absurd rfl q, fun _ => ?_⟩
        have HbF : bR h F tb b := bR_k Hb (fr tb d6 (fun q => d3 q.symm) d5)
        refine p_place (h := wI h F) HbF.1.1 HbF.1.2 (by omega) (fun k e hk he => ⟨fun g2 => absurd g2 (nI_pos ?_), fun _ => ?_⟩) (fun nn => ⟨fun _ => skip ?_, fun g2 => absurd (show (-1 : Int32) < 0 by decide) g2⟩)
        · have := (List.getElem?_eq_some_iff.mp hk).1
          have := HbF.1.2.2.1
          omega
        · have hib : tIn b i = true := ((preL_rwT HbF.2.1 HbF.2.2).1 i).mpr ⟨e, List.mem_of_getElem? hk, he⟩
          have his := hr i c1
          obtain ⟨L, L1, L2, L3⟩ := W
          have L2' : rwT L (sIn s) (sWo s) (sUp (rgI b s m i)) := L2
          refine p_place (h := wI h F) a L1 (by omega) (fun k' e' hk' he' => ?_) (fun nn => by
            obtain ⟨x, x1, x2⟩ := (L2'.1 i).mp his
            exact absurd x2 (nn x x1))
          have hem := List.mem_of_getElem? hk'
          have hOK := L1.2.2.1 e' hem
          have hk40 : k' < 40 := by
            have := (List.getElem?_eq_some_iff.mp hk').1
            have := L1.2.1
            omega
          refine p_vOf (h := wI h F) a L1 L2' (by omega) (bR_p HbF hi ⟨t, rfl, a.1, ?_⟩)
          have e1 : (1 : Int32) + nI k' = nI (1 + k') := nI_add 1 k'
          have ew : sWo s i = nI e'.2.1 := by rw [← he']; exact (L2'.2 e' hem).1
          rw [rVa_1 his, rPa_1 hib, ew, nO_1, e64, e1, show hL (wI h F) t = 41 from a.2, nI_clamp (by omega)]
          refine ⟨vp_in_nI (by omega) (by decide), fun h20 e20 => ?_⟩
          rw [sI_wI, wI_wI, wI_I] at e20
          subst e20
          have e8 : (8 : Int32) * nI i + 4 = nI (8 * i + 4) := by rw [show (8 : Int32) = nI 8 from rfl, mI_mul]; exact nI_add _ 4
          rw [e8]
          have C' : cP (tpu F t (1 + k') (nI (i + 64 * e'.2.1 + 8192 * lpc (tUp b i)))) c (sCf (rgI b s m i)) := cP_k C (tpu_ne (fun q => d2 q.symm))
          have len := rgI_len (b := b) (s := s) (m := m) i
          refine p_adds ac C' (by omega) (fun G2 g2 g3 => ?_)
          rw [nI_1]
          have hy : (rgC (sUp s) m i && tIn b i) = true := by rw [c1, hib]; rfl
          have es : rgI b s m (i + 1) = (sIn s, sWo s, mU (sUp (rgI b s m i)) i (tUp b i), sCf (rgI b s m i) ++ [(4, i)]) := rgI_y hy
          obtain ⟨A, B, hAB, hA⟩ := at_split hk'
          subst hAB
          have lok : lOK (e'.1, e'.2.1, tUp b i) := ⟨hOK.1, hOK.2.1, fun p hp => hb40 p (HbF.2.1.1.2.2.2.2 i p hib hp)⟩
          obtain ⟨T1, T2⟩ := rwT_set L2' L3 (v := e'.2.1) (u := tUp b i) (W' := sWo s) (U' := mU (sUp (rgI b s m i)) i (tUp b i)) ⟨(L2'.2 e' hem).1, by rw [he']; exact mU_s _ _ _⟩ (fun y hy2 => ⟨rfl, mU_n _ _ (by rw [← he']; exact hy2)⟩)
          have P1 := rwP_put L1 lok
          have el : lcd (e'.1, e'.2.1, tUp b i) = i + 64 * e'.2.1 + 8192 * lpc (tUp b i) := by rw [← he']; rfl
          rw [hA, el] at P1
          refine p_md237 a ac b3 ⟨⟨d1, d2, d3⟩, d4, d5, d6⟩ hs hr hl Hb hb40 fin n (i + 1) G2 (by omega) (by omega) (fun x x1 x2 x3 => (g2 x x3).trans ((tpu_ne x2).trans (fr x x1 x2 x3))) (fun y hy3 => ?_) ?_ ?_
          · rw [g2 a3 (fun q => d4 q.symm), tpu_ne (fun q => d1 q.symm)]
            exact G y hy3
          · rw [es]
            exact ⟨_, rwP_k P1 (g2 t d2), T1, T2⟩
          · rw [es]
            exact g3
        · cases q : tIn b i with
          | false => rw [Bool.and_false]
          | true =>
            obtain ⟨x, x1, x2⟩ := ((preL_rwT HbF.2.1 HbF.2.2).1 i).mp q
            exact absurd x2 (nn x x1)
      · rw [if_neg c1]
        exact ⟨fun _ => skip (by cases q : rgC (sUp s) m i with
          | true => exact absurd q c1
          | false => rfl), fun q => absurd q (by decide)⟩
end MEND2
