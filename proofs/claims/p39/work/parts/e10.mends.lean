section MENDS
theorem it_40 {up : Nat → Option Nat} (hu : ∀ y q, up y = some q → q < 40) {m : Nat} (hm : m < 40) : ∀ n x, itU up n m = some x → x < 40
  | 0, x, h => by
    have : some m = some x := h
    rw [← Option.some.inj this]
    exact hm
  | n + 1, x, h => by
    rw [itU_1] at h
    cases q : itU up n m with
    | none => rw [q] at h; cases h
    | some y => rw [q] at h; exact hu y x h
def lM : Nat → Int32
  | 0 => -1
  | i + 1 => nI i
theorem lM_p (i : Nat) : nI i + -1 = lM i := by
  cases i with
  | zero => decide
  | succ i => exact nI_m1 i
def lwS (P : Nat → Bool) (i : Nat) (v : Int32) : Prop := (v = -1 ∧ ∀ m, i ≤ m → m < 40 → P m = false) ∨ ∃ m, i ≤ m ∧ m < 40 ∧ P m = true ∧ (∀ k, i ≤ k → k < m → P k = false) ∧ v = nI m
theorem lwS_t {P : Nat → Bool} {i : Nat} (hi : i < 40) (h : P i = true) : lwS P i (nI i) := Or.inr ⟨i, Nat.le_refl _, hi, h, fun k h1 h2 => by omega, rfl⟩
theorem lwS_f {P : Nat → Bool} {i : Nat} {v : Int32} (H : lwS P (i + 1) v) (h : P i = false) : lwS P i v := by
  rcases H with ⟨rfl, q⟩ | ⟨m, h1, h2, h3, h4, rfl⟩
  · refine Or.inl ⟨rfl, fun m m1 m2 => ?_⟩
    by_cases c : m = i
    · rw [c]; exact h
    · exact q m (by omega) m2
  · refine Or.inr ⟨m, by omega, h2, h3, fun k k1 k2 => ?_, rfl⟩
    by_cases c : k = i
    · rw [c]; exact h
    · exact h4 k (by omega) k2
theorem rPa_c {I : Nat → Bool} {U : Nat → Option Nat} (hn : ∀ m, I m = false → U m = none) (hu : ∀ y q, U y = some q → q < 40) (m : Nat) : (∃ p, U m = some p ∧ I m = true ∧ p < 40 ∧ rPa I U m = nI p) ∨ (U m = none ∧ rPa I U m < 0) := by
  unfold rPa
  cases hi : I m with
  | false => exact Or.inr ⟨hn m hi, by rw [if_neg (by simp)]; decide⟩
  | true =>
    rw [if_pos rfl]
    cases q : U m with
    | none => exact Or.inr ⟨rfl, by decide⟩
    | some p => exact Or.inl ⟨p, rfl, rfl, hu m p q, rfl⟩
/-- the row of what comes of merging, while it is mended -/
def mRo (F : Nat → Nat → Int32) (t : Nat) (s : mgS) : Prop := ∃ L, rwP F t L ∧ rwT L (sIn s) (sWo s) (sUp s) ∧ (L.map (·.1)).Nodup
theorem mR_k {F G : Nat → Nat → Int32} {t : Nat} {s : mgS} (H : mRo F t s) (e : G t = F t) : mRo G t s := by
  obtain ⟨L, h1, h2⟩ := H
  exact ⟨L, rwP_k h1 e, h2⟩
def mUpO (s : mgS) : Prop := (∀ m, sIn s m = false → sUp s m = none) ∧ ∀ y q, sUp s y = some q → q < 40
theorem p_md59 {h : tpH} {t m : Nat} {s : mgS} (a : iA h t 41) {F : Nat → Nat → Int32} (W : mRo F t s) (hs : mUpO s) (hm : m < 40) {R : tpH → Prop} {K16 : (Option Nat) → (Option Nat) → (Option Nat) → Int32 → Int32 → Int32 → tpH → Prop} {x0 x2 : Option Nat} {x4 x5 : Int32}
    (kr : isRg (sUp s) m → K16 x0 (some t) x2 x4 (nI m) (lM m) (wI h F)) (kn : ¬ isRg (sUp s) m → K16 x0 (some t) x2 x4 x5 (lM m) (wI h F)) :
    ∀ (n j : Nat) (v : Int32), j ≤ 40 → 40 < n + j → ((∃ y, itU (sUp s) (j + 1) m = some y ∧ v = nI y) ∨ (itU (sUp s) (j + 1) m = none ∧ v < 0)) → (∀ i, i < j → itU (sUp s) (i + 1) m ≠ some m) → w_Lw_mends_59 R K16 n x0 (some t) x2 x4 x5 (nI m) (rPa (sIn s) (sUp s) m) v (nI j) (wI h F)
  | 0, j, v, h1, h2, _, _ => by omega
  | n + 1, j, v, h1, h2, hv, hj => by
    have bd := it_40 hs.2 hm
    have out : (40 ≤ j ∨ v < 0 ∨ v = nI m) → w_Lw_mends_92 R K16 x0 (some t) x2 x4 x5 (nI m) (rPa (sIn s) (sUp s) m) v (wI h F) := fun c => by
      unfold w_Lw_mends_92
      rw [lM_p]
      rcases rPa_c hs.1 hs.2 m with ⟨p, u1, u2, u3, u4⟩ | ⟨u1, u2⟩
      · rw [u4]
        refine ⟨fun g => absurd g (nI_pos (by omega)), fun _ => ⟨fun g => kn ?_, fun g => kr ?_⟩⟩
        · intro rg
          obtain ⟨k, k1, k2, -, -⟩ := ring_bd rg bd
          have jk : ¬ k < j := fun q => hj k q k2
          rcases hv with ⟨y, y1, rfl⟩ | ⟨y1, y2⟩
          · rcases c with c | c | c
            · omega
            · exact absurd c (nI_pos (by have := bd _ _ y1; omega))
            · exact g c
          · have e := itU_add (up := sUp s) (j + 1) (k + 1 - (j + 1)) m
            rw [y1, show j + 1 + (k + 1 - (j + 1)) = k + 1 by omega, k2] at e
            cases e
        · rcases hv with ⟨y, y1, rfl⟩ | ⟨y1, y2⟩
          · have y3 := bd _ _ y1
            have : y = m := nI_inj (by omega) (by omega) g
            rw [this] at y1
            exact ⟨j, y1⟩
          · rw [g] at y2
            exact absurd y2 (nI_pos (by omega))
      · refine ⟨fun _ => kn ?_, fun g => absurd u2 g⟩
        rintro ⟨k, hk⟩
        rw [itU_no u1] at hk
        cases hk
    refine ⟨fun g => out (Or.inl ((nI_le_iff (a := 40) (by decide) (by omega)).mp g)), fun g => ⟨fun g2 => out (Or.inr (Or.inl g2)), fun g2 => ⟨fun g3 => out (Or.inr (Or.inr g3)), fun g3 => ?_⟩⟩⟩
    rcases hv with ⟨y, y1, rfl⟩ | ⟨y1, y2⟩
    · have y3 := bd _ _ y1
      obtain ⟨L, L1, L2, L3⟩ := id W
      have hj40 : ¬ 40 ≤ j := fun q => g ((nI_le_iff (a := 40) (by decide) (by omega)).mpr q)
      refine p_pOf (h := wI h F) a L1 L2 (by omega) ?_
      rw [nI_1]
      refine p_md59 a W hs hm kr kn n (j + 1) _ (by omega) (by omega) ?_ (fun i hi => ?_)
      · have en : itU (sUp s) (j + 1 + 1) m = sUp s y := by rw [itU_1, y1]; rfl
        rw [en]
        rcases rPa_c hs.1 hs.2 y with ⟨p, u1, u2, u3, u4⟩ | ⟨u1, u2⟩
        · exact Or.inl ⟨p, u1, u4⟩
        · exact Or.inr ⟨u1, u2⟩
      · by_cases c : i = j
        · rw [c, y1]
          exact fun q => g3 (by rw [Option.some.inj q])
        · exact hj i (by omega)
    · exact absurd y2 g2
noncomputable def rgP (s : mgS) (m : Nat) : Bool := sIn s m && rgB (sUp s) m
theorem rgP_iff {s : mgS} (hs : mUpO s) {m : Nat} : rgP s m = true ↔ isRg (sUp s) m := by
  unfold rgP
  rw [Bool.and_eq_true, rgB_iff]
  refine ⟨fun q => q.2, fun q => ⟨?_, q⟩⟩
  cases c : sIn s m with
  | true => rfl
  | false =>
    obtain ⟨k, hk⟩ := q
    rw [itU_no (hs.1 m c)] at hk
    cases hk
theorem p_md16 {h : tpH} {t : Nat} {s : mgS} (a : iA h t 41) {F : Nat → Nat → Int32} (W : mRo F t s) (hs : mUpO s) {R : tpH → Prop} {K2 : (Option Nat) → (Option Nat) → (Option Nat) → Int32 → tpH → Prop} {x0 x2 : Option Nat}
    (fin : ∀ x4 x5, lwS (orpB s) 0 x4 → lwS (rgP s) 0 x5 → (0 ≤ x4 → w_Lw_mends_134 R K2 x0 (some t) x2 x4 x5 (1 : Int32) (wI h F)) ∧ (¬ 0 ≤ x4 → ((x5 < 0 → w_Lw_mends_134 R K2 x0 (some t) x2 x4 x5 (0 : Int32) (wI h F)) ∧ (¬ x5 < 0 → w_Lw_mends_134 R K2 x0 (some t) x2 x4 x5 (1 : Int32) (wI h F))))) :
    ∀ (i : Nat) (x4 x5 : Int32), i ≤ 40 → lwS (orpB s) i x4 → lwS (rgP s) i x5 → w_Lw_mends_16 R K2 (i + 1) x0 (some t) x2 x4 x5 (lM i) (wI h F)
  | 0, x4, x5, _, q4, q5 => ⟨fun _ => fin x4 x5 q4 q5, fun g => absurd (show lM 0 < 0 by decide) g⟩
  | i + 1, x4, x5, hi, q4, q5 => by
    obtain ⟨L, L1, L2, L3⟩ := id W
    have l40 := L1.2.1
    refine ⟨fun g => absurd g (nI_pos (by omega)), fun _ => p_pOf (h := wI h F) a L1 L2 (by omega) ?_⟩
    have go : ∀ x4', lwS (orpB s) i x4' → ∃ n, w_Lw_mends_59 R (w_Lw_mends_16 R K2 (i + 1)) n x0 (some t) x2 x4' x5 (nI i) (rPa (sIn s) (sUp s) i) (rPa (sIn s) (sUp s) i) (0 : Int32) (wI h F) := fun x4' q' => by
      refine ⟨41, p_md59 a W hs (by omega) (fun rg => p_md16 a W hs fin i x4' (nI i) (by omega) q' (lwS_t (by omega) ((rgP_iff hs).mpr rg))) (fun rg => p_md16 a W hs fin i x4' x5 (by omega) q' (lwS_f q5 ?_)) 41 0 _ (by omega) (by omega) ?_ (fun i hi => absurd hi (Nat.not_lt_zero _))⟩
      · cases c : rgP s i with
        | false => rfl
        | true => exact absurd ((rgP_iff hs).mp c) rg
      · have en : itU (sUp s) (0 + 1) i = sUp s i := by rw [itU_1]; rfl
        rw [en]
        rcases rPa_c hs.1 hs.2 i with ⟨p, u1, u2, u3, u4⟩ | ⟨u1, u2⟩
        · exact Or.inl ⟨p, u1, u4⟩
        · exact Or.inr ⟨u1, u2⟩
    have no : orpB s i = false → lwS (orpB s) i x4 := fun q => lwS_f q4 q
    refine ⟨fun g => go x4 (no ?_), fun g => ?_⟩
    · rcases rPa_c hs.1 hs.2 i with ⟨p, u1, u2, u3, u4⟩ | ⟨u1, u2⟩
      · rw [u4] at g
        exact absurd g (nI_pos (by omega))
      · unfold orpB
        rw [u1]
        cases sIn s i <;> rfl
    · rcases rPa_c hs.1 hs.2 i with ⟨p, u1, u2, u3, u4⟩ | ⟨u1, u2⟩
      · have eo : orpB s i = !sIn s p := by
          unfold orpB
          rw [u1, u2]
          rfl
        rw [u4] at go ⊢
        refine p_place (h := wI h F) a L1 (by omega) (fun k e hk he => ⟨fun _ => go x4 (no ?_), fun g2 => absurd (nI_pos' ?_) g2⟩) (fun nn => ⟨fun g2 => absurd g2 (by decide), fun _ => go (nI i) (lwS_t (by omega) ?_)⟩)
        · rw [eo, (L2.1 p).mpr ⟨e, List.mem_of_getElem? hk, he⟩]
          rfl
        · have := (List.getElem?_eq_some_iff.mp hk).1
          omega
        · rw [eo]
          cases c : sIn s p with
          | false => rfl
          | true =>
            obtain ⟨e, h1, h2⟩ := (L2.1 p).mp c
            exact absurd h2 (nn e h1)
      · exact absurd u2 g
theorem lwS_o {P : Nat → Bool} {mk : Nat} {v : Int32} (H : lwS P 0 v) (hmk : mk ≤ 40) (hP : ∀ m, P m = true → m < mk) : (∃ m, (List.range mk).find? P = some m ∧ m < 40 ∧ v = nI m) ∨ ((List.range mk).find? P = none ∧ v = -1) := by
  rcases H with ⟨rfl, q⟩ | ⟨m, h1, h2, h3, h4, rfl⟩
  · exact Or.inr ⟨find_rn (fun j hj => q j (Nat.zero_le _) (by omega)), rfl⟩
  · exact Or.inl ⟨m, find_rg mk m (hP m h3) h3 (fun j hj => h4 j (Nat.zero_le _) hj), h2, rfl⟩
end MENDS
