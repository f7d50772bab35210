section CHDROP
/-- what is gone so far (S), and the row that is left of L -/
def dS (L : List lE) (T : mT) (m : Nat) (S : Nat → Bool) (Lr : List lE) : Prop := (∀ x, S x = true → x ∈ tPo T m) ∧ (∀ x y, S x = true → y ∈ tKi T x → S y = true) ∧ Lr = L.filter (fun e => !S e.1)
theorem dS_rwT {lo : Nat → Bool} {L Lr : List lE} {T : mT} {m : Nat} {S : Nat → Bool} (H : LT lo L T) (D : dS L T m S Lr) : rwT Lr (fun x => tIn T x && !S x) (tWo T) (tUp T) := by
  obtain ⟨-, -, rfl⟩ := D
  refine ⟨fun x => ?_, fun e he => H.2.1.2 e (List.mem_filter.mp he).1⟩
  rw [Bool.and_eq_true, H.2.1.1 x]
  constructor
  · rintro ⟨⟨e, e1, e2⟩, q⟩
    exact ⟨e, List.mem_filter.mpr ⟨e1, by rw [e2]; exact q⟩, e2⟩
  · rintro ⟨e, e1, e2⟩
    obtain ⟨q1, q2⟩ := List.mem_filter.mp e1
    exact ⟨⟨e, q1, e2⟩, by rw [← e2]; exact q2⟩
theorem dS_un {L : List lE} {T : mT} {m : Nat} {S : Nat → Bool} {A B : List lE} {e : lE} (hn : (L.map (·.1)).Nodup) (D : dS L T m S (A ++ e :: B)) (h1 : e.1 ∈ tPo T m) (h2 : ∀ y ∈ tKi T e.1, S y = true) : dS L T m (mU S e.1 true) (A ++ B) := by
  obtain ⟨d1, d2, d3⟩ := D
  refine ⟨fun x hx => ?_, fun x y hx hy => ?_, ?_⟩
  · by_cases c : x = e.1
    · rw [c]; exact h1
    · rw [mU_n _ _ c] at hx; exact d1 x hx
  · by_cases c : y = e.1
    · rw [c, mU_s]
    · rw [mU_n _ _ c]
      by_cases c2 : x = e.1
      · rw [c2] at hy; exact h2 y hy
      · rw [mU_n _ _ c2] at hx; exact d2 x y hx hy
  · have nd : ((A ++ e :: B).map (·.1)).Nodup := by
      rw [d3]
      exact List.Nodup.sublist (List.Sublist.map _ List.filter_sublist) hn
    have ne := nd_mid nd
    have q1 : L.filter (fun x => !mU S e.1 true x.1) = (L.filter (fun x => !S x.1)).filter (fun x => !decide (x.1 = e.1)) := by
      rw [List.filter_filter]
      refine List.filter_congr (fun x _ => ?_)
      by_cases c : x.1 = e.1
      · rw [c, mU_s]; simp
      · rw [mU_n _ _ c, decide_eq_false c]; simp
    rw [q1, ← d3, List.filter_append, List.filter_cons_of_neg (by simp), List.filter_eq_self.mpr (fun x hx => by have := ne x (Or.inl hx); simp [this]), List.filter_eq_self.mpr (fun x hx => by have := ne x (Or.inr hx); simp [this])]
noncomputable def rmS (T : mT) (m : Nat) (S : Nat → Bool) : Nat := ((tPo T m).filter (fun x => !S x && !decide (x = m))).length
theorem rm_0 {T : mT} {m : Nat} {S : Nat → Bool} (h : rmS T m S = 0) : ∀ x ∈ tPo T m, x ≠ m → S x = true := fun x hx hn => by
  cases c : S x with
  | true => rfl
  | false =>
    have : x ∈ (tPo T m).filter (fun x => !S x && !decide (x = m)) := List.mem_filter.mpr ⟨hx, by rw [c, decide_eq_false hn]; rfl⟩
    have := List.length_pos_of_mem this
    unfold rmS at h
    omega
theorem rm_lt {T : mT} {m x : Nat} {S S' : Nat → Bool} (h1 : ∀ y, S y = true → S' y = true) (hx : x ∈ tPo T m) (hn : x ≠ m) (h2 : S x = false) (h3 : S' x = true) : rmS T m S' < rmS T m S := by
  refine flt_lt (a := x) _ (fun y _ hy => ?_) hx ?_ ?_
  · rw [Bool.and_eq_true] at hy ⊢
    refine ⟨?_, hy.2⟩
    cases c : S y with
    | false => rfl
    | true => rw [h1 y c] at hy; exact absurd hy.1 (by simp)
  · show (!S x && !decide (x = m)) = true
    rw [h2, decide_eq_false hn]
    rfl
  · show (!S' x && !decide (x = m)) = false
    rw [h3]
    rfl
/-- a leaf of what is left below m -/
theorem rm_leaf {T : mT} (hw : fWF 300 T) {m : Nat} {S : Nat → Bool} (h : 0 < rmS T m S) : ∃ x, x ∈ tPo T m ∧ x ≠ m ∧ S x = false ∧ ∀ y ∈ tKi T x, S y = true := by
  refine Classical.byContradiction (fun g => ?_)
  have all : ∀ x, x ∈ tPo T m → x ≠ m → S x = true := by
    refine tKi_ind hw.2.2.2.1 (P := fun x => x ∈ tPo T m → x ≠ m → S x = true) (fun x ih hx hn => ?_)
    cases c : S x with
    | true => rfl
    | false =>
      refine absurd ⟨x, hx, hn, c, fun y hy => ih y hy (tPo_kid hw.2.2.2.1 hy m hx) (fun q => ?_)⟩ g
      obtain ⟨rk, hr⟩ := hw.2.2.2.1
      have q1 := hr y x hy
      have q2 := tPo_rk hw.2.2.2.1 hr m hx
      rw [q] at q1
      omega
  have e : (tPo T m).filter (fun x => !S x && !decide (x = m)) = [] := List.filter_eq_nil_iff.mpr (fun x hx q => by
    rw [Bool.and_eq_true] at q
    have hn : x ≠ m := by simpa using q.2
    rw [all x hx hn] at q
    exact absurd q.1 (by simp))
  unfold rmS at h
  rw [e] at h
  exact absurd h (Nat.lt_irrefl _)
theorem p_dr337 {h : tpH} {z t k a13 m mk many j Lt : Nat} {lo : Nat → Bool} {L : List lE} {T : mT} (qT : LT lo L T) (hw : tWF 300 T) (a : iA h t 41) (ak : iA h k 40) (b13 : iA h a13 40) (d : t ≠ a13 ∧ k ≠ a13 ∧ k ≠ t) (hmk : mk ≤ 39) (htm : ∀ x, tIn T x = true → x < mk) (hm : tIn T m = true) {F0 : Nat → Nat → Int32} (hk : ∀ x, x < mk → (F0 k x ≤ 3 ↔ lo x = false)) (hj : j < many) (hmany : many ≤ 1000) {S0 : Nat → Bool} {X0 : Nat → Prop} (hX : ∀ x, X0 x → (x ≠ m ∧ x ∈ tPo T m ∧ ∀ y ∈ tKi T x, S0 y = true) ∨ (x = m ∧ j + 1 = many)) (hlast : j + 1 = many → ∀ y ∈ tPo T m, y ≠ m → S0 y = true) {R : Int32 → tpH → Prop} {K318 : (Option Nat) → (Option Nat) → (Option Nat) → Int32 → (Option Nat) → Int32 → Int32 → Int32 → Int32 → tpH → Prop}
    (fin : ∀ (S : Nat → Bool) (B : List lE) (F : Nat → Nat → Int32) (g : Nat), rwP F t B → (∀ x, x ≠ t → x ≠ a13 → F x = F0 x) → dS L T m S B → (∀ x, S0 x = true → S x = true) → (∀ x, X0 x → S x = true) → B.length + g = Lt → K318 (some z) (some t) (some k) (nI m) (some a13) (1 : Int32) (nI g) (nI many) (nI (j + 1)) (wI h F)) :
    ∀ (n : Nat) (A B : List lE) (S : Nat → Bool) (F : Nat → Nat → Int32) (g : Nat), A.length < n → rwP F t (A ++ B) → (∀ x, x ≠ t → x ≠ a13 → F x = F0 x) → dS L T m S (A ++ B) → (∀ x, S0 x = true → S x = true) → (∀ x, X0 x → (∃ e ∈ A, e.1 = x) ∨ S x = true) → (A ++ B).length + g = Lt → w_Lw_isChanged_337 R K318 n (some z) (some t) (some k) (nI m) (some a13) (1 : Int32) (nI g) (nI many) (nI j) (lM A.length) (wI h F)
  | 0, A, B, S, F, g, hn, _, _, _, _, _, _ => absurd hn (Nat.not_lt_zero _)
  | n + 1, A, B, S, F, g, hn, P, hF, D, hS, hA, hg => by
    have IH := p_dr337 (R := R) qT hw a ak b13 d hmk htm hm hk hj hmany hX hlast fin n
    cases hA0 : A.length with
    | zero =>
      have eA : A = [] := List.eq_nil_of_length_eq_zero hA0
      subst eA
      refine ⟨fun _ => ?_, fun q => absurd (show lM 0 < 0 by decide) q⟩
      rw [nI_1]
      exact fin S B F g P hF D hS (fun x hx => (hA x hx).elim (fun ⟨e, q, _⟩ => by cases q) id) hg
    | succ a0 =>
      obtain ⟨A', e, rfl⟩ := ex_snoc (L := A) (fun q => by rw [q] at hA0; cases hA0)
      have el : (A' ++ [e]).length = A'.length + 1 := by rw [List.length_append, List.length_singleton]
      have ea : a0 = A'.length := by omega
      subst ea
      have eAB : A' ++ [e] ++ B = A' ++ e :: B := by rw [List.append_assoc]; rfl
      rw [eAB] at P D hg
      have l40 := P.2.1
      have hi : (A' ++ e :: B)[A'.length]? = some e := by rw [List.getElem?_append_right (Nat.le_refl _), Nat.sub_self]; rfl
      have heL : e ∈ L := by
        have q : e ∈ A' ++ e :: B := by simp
        rw [D.2.2] at q
        exact (List.mem_filter.mp q).1
      have heS : S e.1 = false := by
        have q : e ∈ A' ++ e :: B := by simp
        rw [D.2.2] at q
        simpa using (List.mem_filter.mp q).2
      have hei : tIn T e.1 = true := (qT.2.1.1 e.1).mpr ⟨e, heL, rfl⟩
      have he39 := htm _ hei
      have hm39 := htm _ hm
      rw [List.length_append, List.length_cons] at l40 hg
      have em : nI A'.length + -1 = lM A'.length := lM_p _
      -- it stays
      have stay : ¬ X0 e.1 → ∀ G, (∀ x, x ≠ a13 → G x = F x) → w_Lw_isChanged_417 R (w_Lw_isChanged_337 R K318 n) (some z) (some t) (some k) (nI m) (some a13) (1 : Int32) (nI g) (nI many) (nI j) (nI A'.length) (0 : Int32) (wI h G) := fun nx G k1 => by
        refine ⟨fun _ => ?_, fun q => absurd rfl q⟩
        rw [em]
        refine IH A' (e :: B) S G g (by omega) (rwP_k P (k1 t d.1)) (fun x x1 x2 => (k1 x x2).trans (hF x x1 x2)) D hS (fun x hx => ?_) (by rw [List.length_append, List.length_cons]; exact hg)
        rcases hA x hx with ⟨e', q1, q2⟩ | q
        · rcases List.mem_append.mp q1 with q1 | q1
          · exact Or.inl ⟨e', q1, q2⟩
          · rw [List.mem_singleton.mp q1] at q2
            rw [q2] at nx
            exact absurd hx nx
        · exact Or.inr q
      -- it goes
      have goes : e.1 ∈ tPo T m → (∀ y ∈ tKi T e.1, S y = true) → ∀ G, (∀ x, x ≠ a13 → G x = F x) → w_Lw_isChanged_417 R (w_Lw_isChanged_337 R K318 n) (some z) (some t) (some k) (nI m) (some a13) (1 : Int32) (nI g) (nI many) (nI j) (nI A'.length) (1 : Int32) (wI h G) := fun q1 q2 G k1 => by
        refine ⟨fun q => absurd q (by decide), fun _ => ?_⟩
        refine p_takes (h := h) (F := G) a (rwP_k P (k1 t d.1)) (fun G2 k2 k3 => ?_)
        rw [nI_1, em]
        have mono : ∀ x, S x = true → mU S e.1 true x = true := fun x hx => by
          by_cases c : x = e.1
          · rw [c, mU_s]
          · rw [mU_n _ _ c]; exact hx
        refine IH A' B (mU S e.1 true) G2 (g + 1) (by omega) k3 (fun x x1 x2 => (k2 x x1).trans ((k1 x x2).trans (hF x x1 x2))) (dS_un qT.1 D q1 q2) (fun x hx => mono x (hS x hx)) (fun x hx => ?_) (by rw [List.length_append]; omega)
        rcases hA x hx with ⟨e', w1, w2⟩ | w
        · rcases List.mem_append.mp w1 with w1 | w1
          · exact Or.inl ⟨e', w1, w2⟩
          · rw [List.mem_singleton.mp w1] at w2
            rw [← w2, mU_s]
            exact Or.inr rfl
        · exact Or.inr (mono x w)
      refine ⟨fun q => absurd q (nI_pos (by omega)), fun _ => p_mark (h := wI h F) a P hi ?_⟩
      by_cases cm : e.1 = m
      · refine ⟨fun q => absurd (by rw [cm]) q, fun _ => ?_⟩
        have e1 : nI many - (1 : Int32) = nI (many - 1) := nI_sub2 (b := 1) (by omega)
        rw [e1]
        by_cases cl : j + 1 = many
        · refine ⟨fun q => absurd (by rw [show j = many - 1 by omega]) q, fun _ => goes (by rw [cm]; exact tPo_self hw.1.2.2.2.1 m) (fun y hy => ?_) F (fun _ _ => rfl)⟩
          rw [cm] at hy
          have yb := tPo_kid hw.1.2.2.2.1 hy m (tPo_self hw.1.2.2.2.1 m)
          exact hS y (hlast cl y yb (ki_ne hw.1.2.2.2.1 hy))
        · refine ⟨fun _ => stay (fun q => ?_) F (fun _ _ => rfl), fun q => ?_⟩
          · rcases hX _ q with q | q
            · exact q.1 cm
            · exact cl q.2
          · have := nI_inj (by omega) (by omega) q
            omega
      · refine ⟨fun _ => p_mark (h := wI h F) a P hi ⟨fun q => absurd (nI_inj (by omega) (by omega) q) cm, fun _ => p_mark (h := wI h F) a P hi ?_⟩, fun q => absurd (nI_inj (by omega) (by omega) q) cm⟩
        have rT := dS_rwT qT D
        refine p_isBelow (h := wI h F) a P rT hw.1 (fun x hx => by rw [Bool.and_eq_true] at hx; exact hx.1) (fun x p hx hu => ?_) (by rw [hei, heS]; rfl) (by omega) (fun qb => ⟨fun x => absurd x (by decide), fun _ => ?_⟩) (fun qb => ⟨fun _ => stay (fun q => ?_) F (fun _ _ => rfl), fun x => absurd rfl x⟩)
        · rw [Bool.and_eq_true] at hx ⊢
          refine ⟨hw.1.2.2.2.2 x p hx.1 hu, ?_⟩
          cases c : S p with
          | false => rfl
          | true =>
            have := D.2.1 p x c ((hw.1.2.1 x p).mpr ⟨hx.1, hu⟩)
            rw [this] at hx
            exact absurd hx.2 (by simp)
        · have hkF : F k e.1 ≤ 3 ↔ lo e.1 = false := by rw [hF k d.2.2 d.2.1]; exact hk _ he39
          refine p_mark (h := wI h F) a P hi (p_children (h := h) (F := F) (lo := lo e.1) a b13 ak d.1 d.2.1 (by omega) P hkF (fun G k1 k2 => ?_))
          have mem : ∀ y, y ∈ lcL (lo e.1) (A' ++ e :: B) e.1 ↔ y ∈ tKi T e.1 ∧ S y = false := fun y => by
            refine lcL_mem.trans ⟨fun ⟨e', q1, q2, q3, q4⟩ => ?_, fun ⟨q1, q2⟩ => ?_⟩
            · have u := (rT.2 e' q1).2
              have i' := (rT.1 e'.1).mpr ⟨e', q1, rfl⟩
              rw [Bool.and_eq_true] at i'
              rw [q3] at u
              refine ⟨(hw.1.2.1 y e.1).mpr ⟨by rw [← q2]; exact i'.1, by rw [← q2]; exact u⟩, ?_⟩
              rw [← q2]
              simpa using i'.2
            · obtain ⟨i1, i2⟩ := (hw.1.2.1 y e.1).mp q1
              obtain ⟨e', w1, w2⟩ := (rT.1 y).mp (by show (tIn T y && !S y) = true; rw [i1, q2]; rfl)
              have u := (rT.2 e' w1).2
              rw [w2, i2] at u
              exact ⟨e', w1, w2, u.symm, by rw [w2]; exact ki_ne hw.1.2.2.2.1 q1⟩
          have ll := lcL_len (lo e.1) e.1 (A' ++ e :: B)
          rw [List.length_append, List.length_cons] at ll
          refine ⟨fun q => stay (fun x0 => ?_) G k1, fun q => goes qb (fun y hy => ?_) G k1⟩
          · rcases hX _ x0 with w | w
            · refine q ?_
              have : lcL (lo e.1) (A' ++ e :: B) e.1 = [] := List.eq_nil_iff_forall_not_mem.mpr (fun y hy => by
                obtain ⟨y1, y2⟩ := (mem y).mp hy
                rw [hS y (w.2.2 y y1)] at y2
                cases y2)
              rw [this]
              rfl
            · exact cm w.1
          · have l0 : (lcL (lo e.1) (A' ++ e :: B) e.1).length = 0 := nI_inj (b := 0) (by omega) (by decide) q
            cases c : S y with
            | true => rfl
            | false =>
              have := List.length_pos_of_mem ((mem y).mpr ⟨hy, c⟩)
              omega
        · rcases hX _ q with w | w
          · exact qb w.2.1
          · exact cm w.1
theorem p_dr318 {h : tpH} {z t k a13 m mk many : Nat} {lo : Nat → Bool} {L : List lE} {T : mT} (qT : LT lo L T) (hw : tWF 300 T) (a : iA h t 41) (ak : iA h k 40) (b13 : iA h a13 40) (d : t ≠ a13 ∧ k ≠ a13 ∧ k ≠ t) (hmk : mk ≤ 39) (htm : ∀ x, tIn T x = true → x < mk) (hm : tIn T m = true) {F0 : Nat → Nat → Int32} (hk : ∀ x, x < mk → (F0 k x ≤ 3 ↔ lo x = false)) (hmany : many ≤ 1000) {R : Int32 → tpH → Prop}
    (fin : ∀ (F : Nat → Nat → Int32) (g : Nat), rwP F t (L.filter (fun e => !decide (e.1 ∈ tPo T m))) → (∀ x, x ≠ t → x ≠ a13 → F x = F0 x) → (L.filter (fun e => !decide (e.1 ∈ tPo T m))).length + g = L.length → w_Lw_isChanged_445 R (some z) (some t) (nI m) (1 : Int32) (nI g) (wI h F)) :
    ∀ (n j : Nat) (B : List lE) (S : Nat → Bool) (F : Nat → Nat → Int32) (g : Nat), j ≤ many → many < n + j → rwP F t B → (∀ x, x ≠ t → x ≠ a13 → F x = F0 x) → dS L T m S B → B.length + g = L.length → ((j < many ∧ (rmS T m S = 0 ∨ rmS T m S + j + 2 ≤ many)) ∨ (j = many ∧ ∀ x ∈ tPo T m, S x = true)) → w_Lw_isChanged_318 R n (some z) (some t) (some k) (nI m) (some a13) (1 : Int32) (nI g) (nI many) (nI j) (wI h F)
  | 0, j, B, S, F, g, h1, h2, _, _, _, _, _ => by omega
  | n + 1, j, B, S, F, g, h1, h2, P, hF, D, hg, inv => by
    refine ⟨fun q => ?_, fun q => ⟨fun x => absurd x (by decide), fun _ => ⟨t, rfl, a.1, by rw [show hL (wI h F) t = 41 from a.2]; exact vp0 (by decide) (by decide), B.length + 1, ?_⟩⟩⟩
    · have jm : j = many := by have := (nI_le_iff (by omega) (by omega)).mp q; omega
      have all := (inv.resolve_left (fun x => by omega)).2
      have eB : B = L.filter (fun e => !decide (e.1 ∈ tPo T m)) := by
        rw [D.2.2]
        refine List.filter_congr (fun e _ => ?_)
        by_cases c : e.1 ∈ tPo T m
        · rw [all _ c, decide_eq_true c]
        · rw [decide_eq_false c]
          cases q2 : S e.1 with
          | false => rfl
          | true => exact absurd (D.1 _ q2) c
      rw [eB] at P hg
      exact fin F g P hF hg
    · have jm : j < many := by
        have : ¬ many ≤ j := fun x => q ((nI_le_iff (by omega) (by omega)).mpr x)
        omega
      have inv' := (inv.resolve_right (fun x => by omega)).2
      rw [show (0 : Int32).toNatClampNeg = 0 from rfl, wI_I, P.1]
      have e1 : nI B.length - (1 : Int32) = lM B.length := by rw [Int32.sub_eq_add_neg]; exact lM_p _
      rw [e1]
      have nxt := p_dr318 (h := h) (z := z) (R := R) qT hw a ak b13 d hmk htm hm hk hmany fin n (j + 1)
      have hlast : j + 1 = many → ∀ y ∈ tPo T m, y ≠ m → S y = true := fun x => rm_0 (inv'.resolve_right (fun y => by omega))
      have run : ∀ (X0 : Nat → Prop), (∀ x, X0 x → (x ≠ m ∧ x ∈ tPo T m ∧ ∀ y ∈ tKi T x, S y = true) ∨ (x = m ∧ j + 1 = many)) → (∀ S' : Nat → Bool, (∀ x, S x = true → S' x = true) → (∀ x, X0 x → S' x = true) → (∀ x, S' x = true → x ∈ tPo T m) → (j + 1 < many ∧ (rmS T m S' = 0 ∨ rmS T m S' + (j + 1) + 2 ≤ many)) ∨ (j + 1 = many ∧ ∀ x ∈ tPo T m, S' x = true)) → w_Lw_isChanged_337 R (w_Lw_isChanged_318 R n) (B.length + 1) (some z) (some t) (some k) (nI m) (some a13) (1 : Int32) (nI g) (nI many) (nI j) (lM B.length) (wI h F) := fun X0 hX0 hinv => by
        have hX2 : ∀ x, X0 x → (∃ e ∈ B, e.1 = x) ∨ S x = true := fun x hx => by
          cases c : S x with
          | true => exact Or.inr rfl
          | false =>
            have hxb : x ∈ tPo T m := by
              rcases hX0 x hx with w | w
              · exact w.2.1
              · rw [w.1]; exact tPo_self hw.1.2.2.2.1 m
            have hxi := tPo_in hw.1 hm x hxb
            obtain ⟨e, w1, w2⟩ := ((dS_rwT qT D).1 x).mp (by show (tIn T x && !S x) = true; rw [hxi, c]; rfl)
            exact Or.inl ⟨e, w1, w2⟩
        have q2 := p_dr337 (h := h) (z := z) (j := j) (Lt := L.length) (S0 := S) (X0 := X0) (K318 := w_Lw_isChanged_318 R n) (R := R) qT hw a ak b13 d hmk htm hm hk jm hmany hX0 hlast (fun S' B' F' g' p1 p2 p3 p4 p5 p6 => nxt B' S' F' g' (by omega) (by omega) p1 p2 p3 p6 (hinv S' p4 p5 p3.1)) (B.length + 1) B [] S F g (Nat.lt_succ_self _) (by rw [List.append_nil]; exact P) hF (by rw [List.append_nil]; exact D) (fun _ x => x) hX2 (by rw [List.append_nil]; exact hg)
        exact q2
      by_cases cl : j + 1 = many
      · refine run (fun x => x = m) (fun x hx => Or.inr ⟨hx, cl⟩) (fun S' s1 s2 s3 => Or.inr ⟨cl, fun x hx => ?_⟩)
        by_cases c : x = m
        · rw [c]; exact s2 m rfl
        · exact s1 x (hlast cl x hx c)
      · rcases Nat.eq_zero_or_pos (rmS T m S) with r0 | r0
        · refine run (fun _ => False) (fun x hx => hx.elim) (fun S' s1 _ s3 => Or.inl ⟨by omega, Or.inl ?_⟩)
          have e : (tPo T m).filter (fun x => !S' x && !decide (x = m)) = [] := List.filter_eq_nil_iff.mpr (fun x hx q => by
            rw [Bool.and_eq_true] at q
            have hn : x ≠ m := by simpa using q.2
            rw [s1 x (rm_0 r0 x hx hn)] at q
            exact absurd q.1 (by simp))
          unfold rmS
          rw [e]
          rfl
        · obtain ⟨x0, l1, l2, l3, l4⟩ := rm_leaf hw.1 r0
          refine run (fun x => x = x0) (fun x hx => by subst hx; exact Or.inl ⟨l2, l1, l4⟩) (fun S' s1 s2 s3 => Or.inl ⟨by omega, Or.inr ?_⟩)
          have := rm_lt s1 l1 l2 l3 (s2 x0 rfl)
          omega
end CHDROP
