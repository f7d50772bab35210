section MERGED1
theorem mgD_v {po : Nat → Int32} {b l r : mT} (vb : tVa b) (vl : tVa l) (vr : tVa r) {m : Nat} {v : Int32} {u : Option Nat} (h : (mgD po b l r m).1 = some (v, u)) : ∃ w, w < 100 ∧ v = nI w := by
  unfold mgD at h
  have one : ∀ (s : mT) (w : Int32), tVa s → tIn s m = true → (mg1 po b s w m).1 = some (v, u) → ∃ w, w < 100 ∧ v = nI w := fun s w hs is q => by
    unfold mg1 at q
    have fin : some (tWo s m, tUp s m) = some (v, u) → ∃ w, w < 100 ∧ v = nI w := fun q => by
      obtain ⟨w, w1, w2⟩ := hs m is
      have := Option.some.inj q
      rw [Prod.mk.injEq] at this
      exact ⟨w, w1, this.1.symm.trans w2⟩
    split at q
    · split at q
      · by_cases c : po 0 = 0 ∨ po 0 = w
        · rw [if_pos c] at q; exact fin q
        · rw [if_neg c] at q; cases q
      · cases q
    · exact fin q
  by_cases il : tIn l m = true
  · rw [if_pos il] at h
    by_cases ir : tIn r m = true
    · rw [if_pos ir] at h
      have h2 := Option.some.inj h
      rw [Prod.mk.injEq] at h2
      rcases pk3_or (mgV po b l r m).1 (tWo l m) (tWo r m) (tWo b m) with q | q | ⟨q, q2⟩
      · obtain ⟨w, w1, w2⟩ := vl m il
        exact ⟨w, w1, h2.1.symm.trans (q.trans w2)⟩
      · obtain ⟨w, w1, w2⟩ := vr m ir
        exact ⟨w, w1, h2.1.symm.trans (q.trans w2)⟩
      · obtain ⟨w, w1, w2⟩ := vb m (chS_b q2)
        exact ⟨w, w1, h2.1.symm.trans (q.trans w2)⟩
    · rw [if_neg ir] at h
      exact one l 1 vl il h
  · rw [if_neg il] at h
    by_cases ir : tIn r m = true
    · rw [if_pos ir] at h
      exact one r 2 vr ir h
    · rw [if_neg ir] at h
      cases h
theorem sWo_v {po : Nat → Int32} {b l r : mT} (vb : tVa b) (vl : tVa l) (vr : tVa r) {mk m : Nat} (h : sIn (mg0 po b l r mk) m = true) : ∃ w, w < 100 ∧ sWo (mg0 po b l r mk) m = nI w := by
  obtain ⟨v, u, h1, h2, h3⟩ := sIn_mg0 h
  obtain ⟨w, w1, w2⟩ := mgD_v vb vl vr h1
  exact ⟨w, w1, h2.trans w2⟩
def sVa (s : mgS) : Prop := ∀ m, sIn s m = true → ∃ w, w < 100 ∧ sWo s m = nI w
theorem mdS_v {mk R0 : Nat} {po : Nat → Int32} {b l r : mT} (HH : mgH mk R0 b l r) (vb : tVa b) {s s' : mgS} (I : mgI mk R0 po b l r s) (hv : sVa s) (h : mdS mk b s = some s') : sVa s' := by
  cases ho : orpO mk s with
  | some m =>
    obtain ⟨y, g1, g2, g3, g4⟩ := orp_s ho
    have yb := lost_b HH I g3 g4
    rw [mdS_1 ho g3] at h
    rw [← Option.some.inj h]
    intro x hx
    have hx2 : mU (sIn s) y true x = true := hx
    show ∃ w, w < 100 ∧ mU (sWo s) y (tWo b y) x = nI w
    by_cases c : x = y
    · rw [c, mU_s]; exact vb y yb
    · rw [mU_n _ _ c] at hx2 ⊢
      exact hv x hx2
  | none =>
    cases hr : rngO mk s with
    | some m =>
      rw [mdS_2 ho hr] at h
      rw [← Option.some.inj h]
      exact hv
    | none =>
      rw [mdS_3 ho hr] at h
      cases h
theorem mdR_v {mk R0 : Nat} {po : Nat → Int32} {b l r : mT} (HH : mgH mk R0 b l r) (vb : tVa b) : ∀ (n : Nat) (s : mgS), mgI mk R0 po b l r s → sVa s → sVa (mdR mk b n s)
  | 0, s, _, h => h
  | n + 1, s, I, h => by
    show sVa (match mdS mk b s with
      | none => s
      | some s' => mdR mk b n s')
    cases q : mdS mk b s with
    | none => exact h
    | some s' => exact mdR_v HH vb n s' (mdS_s HH I q).1 (mdS_v HH vb I h q)
theorem mgF_v {mk R0 : Nat} {po : Nat → Int32} {b l r : mT} (HH : mgH mk R0 b l r) (vb : tVa b) (vl : tVa l) (vr : tVa r) : sVa (mgF po mk b l r) :=
  mdR_v HH vb 601 _ (mg0_I HH) (fun m hm => sWo_v vb vl vr hm)
theorem mgRes_v {mk R0 : Nat} {po : Nat → Int32} {b l r : mT} {lo : Nat → Bool} (HH : mgH mk R0 b l r) (vb : tVa b) (vl : tVa l) (vr : tVa r) : tVa (mgRes po mk R0 b l r lo) := mgF_v HH vb vl vr
theorem cfI_sx (po : Nat → Int32) (b l r : mT) (i : Nat) : cfI po b l r (i + 1) = cfI po b l r i ++ (mgD po b l r i).2 := by
  unfold cfI
  rw [List.range_succ, List.flatMap_append, List.flatMap_cons, List.flatMap_nil, List.append_nil]
theorem mgD_2x (po : Nat → Int32) (b l r : mT) (m : Nat) : (mgD po b l r m).2.length ≤ 2 := by
  have one : ∀ (s : mT) (w : Int32), (mg1 po b s w m).2.length ≤ 2 := fun s w => by
    unfold mg1
    split
    · split
      · exact Nat.le_succ 1
      · exact Nat.zero_le _
    · exact Nat.zero_le _
  unfold mgD
  split
  · split
    · show (_ ++ _ : List (Nat × Nat)).length ≤ 2
      rw [List.length_append]
      have a : ∀ (q : Bool) (k : Nat), ((if q = true then [(k, m)] else []) : List (Nat × Nat)).length ≤ 1 := fun q k => by cases q <;> simp
      have a1 := a (mgV po b l r m).2 1
      have a2 := a (mgU po b l r m).2 2
      omega
    · exact one l 1
  · split
    · exact one r 2
    · exact Nat.zero_le _
theorem cfI_2 (po : Nat → Int32) (b l r : mT) : ∀ i, (cfI po b l r i).length ≤ 2 * i
  | 0 => Nat.le_refl _
  | i + 1 => by
    rw [cfI_sx, List.length_append]
    have := cfI_2 po b l r i
    have := mgD_2x po b l r i
    omega
/-- the marks come in, one by one -/
theorem p_im33 {h : tpH} {tb tl tr t g c mk R0 : Nat} {po : Nat → Int32} {b l rr : mT} (HH : mgH mk R0 b l rr) (hmk : mk ≤ 39) (ac : iA h c 64) (ag : iA h g 6) (a : iA h t 41) (d : (tb ≠ c ∧ tl ≠ c ∧ tr ≠ c ∧ g ≠ c) ∧ (tb ≠ t ∧ tl ≠ t ∧ tr ≠ t ∧ g ≠ t) ∧ t ≠ c) {F0 : Nat → Nat → Int32} (Hb : bR h F0 tb b) (Hl : bR h F0 tl l) (Hr : bR h F0 tr rr) (hg : ∀ j, j < 6 → F0 g j = po j) (hpo : po 0 = 0 ∨ po 0 = 1 ∨ po 0 = 2) {X : String → tpH → Prop} {R : Int32 → tpH → Prop} {x1 : Int32} {x0 x5 x10 x11 x12 : Option Nat}
    (fin : ∀ F, (∀ x, x ≠ t → x ≠ c → F x = F0 x) → mRo F t (mg0 po b l rr mk) → cP F c (sCf (mg0 po b l rr mk)) → w_Lw_isMerged_33 R X 1 x0 x1 (some tb) (some tl) (some tr) x5 (some g) (nI mk) (some t) (some c) x10 x11 x12 (nI mk) (wI h F)) :
    ∀ (n i : Nat) (L : List lE) (F : Nat → Nat → Int32), i ≤ mk → mk = n + i → (∀ x, x ≠ t → x ≠ c → F x = F0 x) → rwP F t L → rwT L (fun m => decide (m < i) && sIn (mg0 po b l rr mk) m) (sWo (mg0 po b l rr mk)) (sUp (mg0 po b l rr mk)) → (L.map (·.1)).Nodup → cP F c (cfI po b l rr i) → w_Lw_isMerged_33 R X (n + 1) x0 x1 (some tb) (some tl) (some tr) x5 (some g) (nI mk) (some t) (some c) x10 x11 x12 (nI i) (wI h F)
  | 0, i, L, F, hi, hn, hF, P, T, N, C => by
    have e : i = mk := by omega
    subst e
    refine fin F hF ⟨L, P, ⟨fun m => ?_, T.2⟩, N⟩ C
    rw [← T.1 m]
    cases q : sIn (mg0 po b l rr i) m with
    | false => simp [q]
    | true =>
      have := ((mg0_I (po := po) HH).1 m q).1
      simp [this, q]
  | n + 1, i, L, F, hi, hn, hF, P, T, N, C => by
    obtain ⟨⟨d1, d2, d3, d4⟩, ⟨d5, d6, d7, d8⟩, d9⟩ := d
    have HbF := bR_k Hb (hF tb d5 d1)
    have HlF := bR_k Hl (hF tl d6 d2)
    have HrF := bR_k Hr (hF tr d7 d3)
    have lc := cfI_2 po b l rr i
    have him : i < mk := by omega
    refine ⟨fun q => absurd ((nI_le_iff (by omega) (by omega)).mp q) (by omega), fun _ => p_comes ac ag ⟨⟨d1, d2, d3⟩, d4⟩ C (by omega) (fun j hj => by rw [hF g d8 d4]; exact hg j hj) hpo HbF HlF HrF (by omega) (fun G g1 g2 => ?_)⟩
    have IH := p_im33 HH hmk ac ag a ⟨⟨d1, d2, d3, d4⟩, ⟨d5, d6, d7, d8⟩, d9⟩ Hb Hl Hr hg hpo fin n (i + 1)
    rw [← cfI_sx] at g2
    rw [nI_1]
    have P2 : rwP G t L := rwP_k P (g1 t d9)
    cases e : (mgD po b l rr i).1 with
    | none =>
      refine ⟨fun _ => IH L G (by omega) (by omega) (fun x x1 x2 => (g1 x x2).trans (hF x x1 x2)) P2 ⟨fun m => ?_, T.2⟩ N g2, fun q => absurd (show (-1 : Int32) < 0 by decide) q⟩
      rw [← T.1 m]
      show (decide (m < i + 1) && sIn (mg0 po b l rr mk) m) = true ↔ (decide (m < i) && sIn (mg0 po b l rr mk) m) = true
      by_cases c1 : m = i
      · have : sIn (mg0 po b l rr mk) m = false := by
          rw [c1]
          show (mgD po b l rr i).1.isSome = false
          rw [e]
          rfl
        rw [this, Bool.and_false, Bool.and_false]
      · have : decide (m < i + 1) = decide (m < i) := decide_eq_decide.mpr (by omega)
        rw [this]
    | some vu =>
      obtain ⟨v, u⟩ := vu
      obtain ⟨w, w1, w2⟩ := mgD_v Hb.2.2 Hl.2.2 Hr.2.2 e
      have ein : sIn (mg0 po b l rr mk) i = true := by
        show (mgD po b l rr i).1.isSome = true
        rw [e]
        rfl
      have ewo : sWo (mg0 po b l rr mk) i = nI w := by
        show ((mgD po b l rr i).1.getD (0, none)).1 = _
        rw [e]
        exact w2
      have eup : sUp (mg0 po b l rr mk) i = u := by
        show ((mgD po b l rr i).1.getD (0, none)).2 = _
        rw [e]
        rfl
      have lok : lOK (i, w, u) := ⟨(by show i < 40; omega), (by show w < 128; omega), fun p hp => by
        have := up_lt HH (mg0_I (po := po) HH) (eup.trans hp)
        omega⟩
      have eo : cOut i (some (v, u)) = nI (lcd (i, w, u)) := by
        show (nI i + (64 : Int32) * v) + (8192 : Int32) * (nO u + 1) = _
        rw [w2, nO_1, e64]
        rfl
      rw [eo]
      have lt := lcd_lt lok
      refine ⟨fun q => absurd q (nI_pos (by omega)), fun _ => ⟨t, rfl, a.1, by rw [show hL (wI h G) t = 41 from a.2]; exact vp0 (by decide) (by decide), ?_⟩⟩
      rw [show (0 : Int32).toNatClampNeg = 0 from rfl, wI_I, P2.1]
      have nin : ∀ x ∈ L, x.1 ≠ i := fun x hx q => by
        have := (T.1 x.1).mpr ⟨x, hx, rfl⟩
        rw [q] at this
        simp at this
      have hlen : L.length < 40 := by
        have : (L.map (·.1)).length ≤ 39 := nd_lt N (fun x hx => by
          obtain ⟨y, y1, y2⟩ := List.mem_map.mp hx
          have := (T.1 y.1).mpr ⟨y, y1, rfl⟩
          rw [Bool.and_eq_true] at this
          have := of_decide_eq_true this.1
          omega)
        rw [List.length_map] at this
        omega
      refine p_puts (h := h) (F := G) a P2 (Nat.le_refl _) hlen lok (fun G2 g3 g4 => ?_)
      rw [List.take_length, List.drop_length] at g4
      refine IH _ G2 (by omega) (by omega) (fun x x1 x2 => (g3 x x1).trans ((g1 x x2).trans (hF x x1 x2))) g4 ⟨fun m => ?_, fun x hx => ?_⟩ ?_ (cP_k g2 (g3 c (fun q => d9 q.symm)))
      · have Tm : (decide (m < i) && sIn (mg0 po b l rr mk) m) = true ↔ ∃ e ∈ L, e.1 = m := T.1 m
        show (decide (m < i + 1) && sIn (mg0 po b l rr mk) m) = true ↔ _
        by_cases c1 : m = i
        · rw [c1, ein]
          exact ⟨fun _ => ⟨_, List.mem_append_right _ List.mem_cons_self, rfl⟩, fun _ => by simp⟩
        · have : decide (m < i + 1) = decide (m < i) := decide_eq_decide.mpr (by omega)
          rw [this, Tm]
          constructor
          · rintro ⟨x, x1, x2⟩
            exact ⟨x, List.mem_append_left _ x1, x2⟩
          · rintro ⟨x, x1, x2⟩
            rcases List.mem_append.mp x1 with q | q
            · exact ⟨x, q, x2⟩
            · rw [List.mem_singleton.mp q] at x2
              exact absurd x2.symm c1
      · rcases List.mem_append.mp hx with q | q
        · exact T.2 x q
        · rw [List.mem_singleton.mp q]
          exact ⟨ewo, eup⟩
      · rw [List.map_append]
        refine List.nodup_append.mpr ⟨N, by simp, fun x hx y hy q => ?_⟩
        obtain ⟨w', w3, w4⟩ := List.mem_map.mp hx
        rw [List.map_cons, List.map_nil, List.mem_singleton] at hy
        exact nin w' w3 (by rw [w4, q, hy])
end MERGED1
