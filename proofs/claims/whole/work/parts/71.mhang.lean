section MHANG
theorem lowA_snoc (A : List Nat) (c m : Nat) : lowA (A ++ [c]) m = if m < c then lowA A m else A ++ [c] := by
  unfold lowA
  rw [List.reverse_append]
  show (List.dropWhile _ (c :: A.reverse)).reverse = _
  by_cases h : m < c
  · rw [if_pos h, List.dropWhile_cons_of_pos (by simpa using h)]
  · rw [if_neg h, List.dropWhile_cons_of_neg (by simpa using h)]
    simp
def uMh (F : Nat → Nat → Int32) (q s m p : Nat) (b : Option Nat) : Nat → Nat → Int32 := match b with
  | some b => tpu (tpu (tpu F (q + 3) (300 * s + m) (nI p)) (q + 6) (300 * s + m) (F (q + 6) (300 * s + b))) (q + 6) (300 * s + b) (nI m)
  | none => tpu (tpu (tpu F (q + 3) (300 * s + m) (nI p)) (q + 6) (300 * s + m) (F (q + 5) (300 * s + p))) (q + 5) (300 * s + p) (nI m)
theorem p_Md_hang_56 {h : tpH} {Q q s m p : Nat} {b : Option Nat} (M : lMd h Q q) (hs : s < 42) (hm : m < 300) (hp : p < 300) (hb : ∀ k, b = some k → k < 300) {F : Nat → Nat → Int32} {R : tpH → Prop} (k : R (wI h (uMh F q s m p b))) : w_Md_hang_56 R Q (nI s) (nI m) (nI p) (nO b) (wI h F) := by
  obtain ⟨k1, k2, k3⟩ := md_f M (j := 3) (kd := 15) (n := 12600) (f := 6) (by decide)
  obtain ⟨l1, l2, l3⟩ := md_f M (j := 6) (kd := 15) (n := 12600) (f := 9) (by decide)
  obtain ⟨j1, j2, j3⟩ := md_f M (j := 5) (kd := 15) (n := 12600) (f := 8) (by decide)
  unfold w_Md_hang_56
  refine ⟨M.1, q + 3, k3, k1, by rw [wI_L, k2, ix_e]; exact ix_v hs hm, fun h6 e6 => ?_⟩
  rw [ix_e, ix_c hs hm, sI_w] at e6
  subst e6
  cases b with
  | some b =>
    have hb3 := hb b rfl
    refine ⟨fun _ => ?_, fun e => absurd e (nI_ne_m (k := b) (by omega))⟩
    show w_Md_nextIn Q (nI s) (nI b) (wI h (tpu F (q + 3) (300 * s + m) (nI p))) _
    rw [e_Md_nextIn M hs hb3]
    refine ⟨q + 6, l3, l1, by rw [wI_L, l2, ix_e]; exact ix_v hs hm, fun h15 e15 => ?_⟩
    rw [ix_e, ix_c hs hm, sI_w] at e15
    subst e15
    refine ⟨M.1, q + 6, l3, l1, by rw [wI_L, l2]; show vp_in (300 * nI s + nI b) 12600; rw [ix_e]; exact ix_v hs hb3, fun h22 e22 => ?_⟩
    have e22 : h22 = sI _ (q + 6) (300 * nI s + nI b).toNatClampNeg (nI m) := e22
    rw [ix_e, ix_c hs hb3, sI_w, tpu_ne (b := q + 6) (by omega)] at e22
    subst e22
    exact k
  | none =>
    refine ⟨fun e => absurd rfl e, fun _ => ?_⟩
    rw [e_Md_firstIn M hs hp]
    refine ⟨q + 6, l3, l1, by rw [wI_L, l2, ix_e]; exact ix_v hs hm, fun h30 e30 => ?_⟩
    rw [ix_e, ix_c hs hm, sI_w] at e30
    subst e30
    refine ⟨M.1, q + 5, j3, j1, by rw [wI_L, j2, ix_e]; exact ix_v hs hp, fun h37 e37 => ?_⟩
    rw [ix_e, ix_c hs hp, sI_w, tpu_ne (b := q + 5) (by omega)] at e37
    subst e37
    exact k
/-- the loose parent's child ahead of the mark -/
theorem p_mLow {h : tpH} {Q q s m p : Nat} (M : lMd h Q q) (hs : s < 42) (hm : m < 300) (hp : p < 300) {F : Nat → Nat → Int32} {R : tpH → Prop} : ∀ (n : Nat) (L A : List Nat) (v : Int32), seg (fun y => F (q + 6) (300 * s + y)) v L (-1) → (∀ x ∈ L, x < 300 ∧ x ≠ m) → L.length < n → w_Md_hang_56 R Q (nI s) (nI m) (nI p) (lastO (lowA (A ++ L) m)) (wI h F) → w_Md_hang_23 R (w_Md_hang_56 R) n Q (nI s) (nI m) (nI p) (lastO (lowA A m)) v (wI h F) := by
  intro n
  induction n with
  | zero => intro L A v _ _ h; omega
  | succ n ih =>
    intro L A v hv h3 hn k
    show b_Md_hang_23 R (w_Md_hang_56 R) (w_Md_hang_23 R (w_Md_hang_56 R) n) Q (nI s) (nI m) (nI p) (lastO (lowA A m)) v (wI h F)
    cases L with
    | nil =>
      have hv : v = -1 := hv
      subst hv
      rw [List.append_nil] at k
      exact ⟨fun _ => k, fun e => absurd rfl e⟩
    | cons c L =>
      obtain ⟨e, hv⟩ := hv
      subst e
      obtain ⟨hc, hcm⟩ := h3 c List.mem_cons_self
      simp only [List.length_cons] at hn
      have e2 : A ++ c :: L = (A ++ [c]) ++ L := by simp
      rw [e2] at k
      have k2 := ih L (A ++ [c]) _ hv (fun x hx => h3 x (List.mem_cons_of_mem _ hx)) (by omega) k
      rw [lowA_snoc] at k2
      refine ⟨fun e => absurd e (nI_ne_m (by omega)), fun _ => ⟨fun e => ?_, fun e => ?_⟩⟩
      · have h5 : m ≤ c := (nI_le_iff (by omega) (by omega)).mp e
        rw [if_pos (by omega)] at k2
        refine ⟨M.1, ?_⟩
        rw [e_Md_nextIn M hs hc]
        exact k2
      · have h5 : ¬ m ≤ c := fun h => e ((nI_le_iff (by omega) (by omega)).mpr h)
        rw [if_neg (by omega), lastO_app] at k2
        refine ⟨M.1, ?_⟩
        rw [e_Md_nextIn M hs hc]
        exact k2
theorem p_Md_hang {h : tpH} {Q q s m p : Nat} (M : lMd h Q q) (hs : s < 42) (hm : m < 300) {F : Nat → Nat → Int32} {t : mT} (hL : nodeM F q s t p) (hw : fWF 300 t) (hp : tIn t p = true) (hmk : m ∉ tKi t p) {A B : List Nat} (hA : tKi t p = A ++ B) {lo : Bool} (hlo : F q p < 4 ↔ lo = false) {R : tpH → Prop}
    (k : R (wI h (uMh F q s m p (hgA lo (tKi t p) m A).getLast?))) : w_Md_hang Q (nI s) (nI m) (nI p) (lastO A) (wI h F) R := by
  have hp3 := hw.1 p hp
  have hK3 : ∀ x ∈ tKi t p, x < 300 := fun x hx => hw.1 x (fKi_in hw hx).1
  have h3 : ∀ x ∈ hgA lo (tKi t p) m A, x < 300 := fun x hx => hK3 x (by rw [hg_app (lo := lo) (m := m) hA]; exact List.mem_append_left _ hx)
  have k2 : w_Md_hang_56 R Q (nI s) (nI m) (nI p) (lastO (hgA lo (tKi t p) m A)) (wI h F) := p_Md_hang_56 M hs hm hp3 (fun x hx => h3 x (getL_mem hx)) k
  refine ⟨M.1, ?_⟩
  rw [e_Md_isOrdered M hp3]
  cases lo with
  | false =>
    rw [if_pos (hlo.mpr rfl)]
    exact ⟨fun _ => k2, fun e => absurd e (by decide)⟩
  | true =>
    rw [if_neg (fun e => by have := hlo.mp e; simp at this)]
    refine ⟨fun e => absurd rfl e, fun _ => ⟨M.1, ?_⟩⟩
    rw [e_Md_firstIn M hs hp3]
    exact ⟨(tKi t p).length + 1, p_mLow M hs hm hp3 _ (tKi t p) [] _ hL.2.2 (fun x hx => ⟨hK3 x hx, fun e => hmk (by rw [← e]; exact hx)⟩) (Nat.lt_succ_self _) k2⟩
/-- the cells of the trees, outside one slot, and all others but the parents, firsts and nexts -/
def mFr (F G : Nat → Nat → Int32) (q s : Nat) : Prop := (∀ b, b ≠ q + 3 → b ≠ q + 5 → b ≠ q + 6 → G b = F b) ∧ ∀ b j, (j < 300 * s ∨ 300 * s + 300 ≤ j) → G b j = F b j
theorem mFr_tr {F G K : Nat → Nat → Int32} {q s : Nat} (a : mFr F G q s) (b : mFr G K q s) : mFr F K q s := ⟨fun x h3 h5 h6 => (b.1 x h3 h5 h6).trans (a.1 x h3 h5 h6), fun x j hj => (b.2 x j hj).trans (a.2 x j hj)⟩
theorem mFr_u (F : Nat → Nat → Int32) {q s c m : Nat} (v : Int32) (hc : c = q + 3 ∨ c = q + 5 ∨ c = q + 6) (hm : m < 300) : mFr F (tpu F c (300 * s + m) v) q s :=
  ⟨fun b h3 h5 h6 => tpu_ne (by omega), fun b j hj => by simp only [tpu]; rw [if_neg (by omega)]⟩
theorem mh_hng {F : Nat → Nat → Int32} {q s m p : Nat} {t : mT} (hL : MtL F q s t) (hw : fWF 300 t) (hm : tIn t m = true) (hu : tUp t m = none) (hp : tIn t p = true) (hpm : p ≠ m) {A B : List Nat} (hk : tKi t p = A ++ B) :
    MtL (uMh F q s m p A.getLast?) q s (tHng t m p (A ++ m :: B)) ∧ mFr F (uMh F q s m p A.getLast?) q s ∧ (∀ x, x ≠ m → uMh F q s m p A.getLast? (q + 3) (300 * s + x) = F (q + 3) (300 * s + x)) ∧ (∀ x, x ≠ m → x ∉ A → uMh F q s m p A.getLast? (q + 6) (300 * s + x) = F (q + 6) (300 * s + x)) := by
  have hm3 := hw.1 m hm
  have hp3 := hw.1 p hp
  have hmk : ∀ x, m ∉ tKi t x := fun x h => by have := (fKi_in hw h).2; rw [hu] at this; simp at this
  have hnd := hw.2.2.1 p
  have hmp := hmk p
  rw [hk] at hnd hmp
  have kk : ∀ x ∈ A ++ B, x ∈ tKi t p := fun x hx => by rw [hk]; exact hx
  have hA3 : ∀ k, A.getLast? = some k → k < 300 := fun k e => hw.1 k (fKi_in hw (kk k (List.mem_append_left _ (getL_mem e)))).1
  have g3 := (hL p hp).2.2
  rw [hk] at g3
  -- the new rows
  have r3 : ∀ x, uMh F q s m p A.getLast? (q + 3) (300 * s + x) = if x = m then nI p else F (q + 3) (300 * s + x) := by
    intro x
    cases A.getLast? with
    | none =>
      show tpu (tpu (tpu F (q + 3) (300 * s + m) (nI p)) (q + 6) (300 * s + m) _) (q + 5) (300 * s + p) (nI m) (q + 3) (300 * s + x) = _
      rw [tpu_ne (b := q + 3) (by omega), tpu_ne (b := q + 3) (by omega), tpu_row2]
      by_cases c : x = m
      · rw [if_pos (by omega), if_pos c]
      · rw [if_neg (by omega), if_neg c]
    | some b =>
      show tpu (tpu (tpu F (q + 3) (300 * s + m) (nI p)) (q + 6) (300 * s + m) _) (q + 6) (300 * s + b) (nI m) (q + 3) (300 * s + x) = _
      rw [tpu_ne (b := q + 3) (by omega), tpu_ne (b := q + 3) (by omega), tpu_row2]
      by_cases c : x = m
      · rw [if_pos (by omega), if_pos c]
      · rw [if_neg (by omega), if_neg c]
  have r4 : uMh F q s m p A.getLast? (q + 4) = F (q + 4) := by
    cases A.getLast? with
    | none =>
      show tpu (tpu (tpu F (q + 3) (300 * s + m) (nI p)) (q + 6) (300 * s + m) _) (q + 5) (300 * s + p) (nI m) (q + 4) = _
      rw [tpu_ne (by omega), tpu_ne (by omega), tpu_ne (by omega)]
    | some b =>
      show tpu (tpu (tpu F (q + 3) (300 * s + m) (nI p)) (q + 6) (300 * s + m) _) (q + 6) (300 * s + b) (nI m) (q + 4) = _
      rw [tpu_ne (by omega), tpu_ne (by omega), tpu_ne (by omega)]
  have r5 : ∀ x, uMh F q s m p A.getLast? (q + 5) (300 * s + x) = if A = [] ∧ x = p then nI m else F (q + 5) (300 * s + x) := by
    intro x
    cases e : A.getLast? with
    | none =>
      have hA0 : A = [] := List.getLast?_eq_none_iff.mp e
      show tpu (tpu (tpu F (q + 3) (300 * s + m) (nI p)) (q + 6) (300 * s + m) _) (q + 5) (300 * s + p) (nI m) (q + 5) (300 * s + x) = _
      rw [tpu_row2, tpu_ne (b := q + 5) (by omega), tpu_ne (b := q + 5) (by omega)]
      by_cases c : x = p
      · rw [if_pos (by omega), if_pos ⟨hA0, c⟩]
      · rw [if_neg (by omega), if_neg (fun h => c h.2)]
    | some b =>
      have hA0 : A ≠ [] := fun e2 => by rw [e2] at e; simp at e
      show tpu (tpu (tpu F (q + 3) (300 * s + m) (nI p)) (q + 6) (300 * s + m) _) (q + 6) (300 * s + b) (nI m) (q + 5) (300 * s + x) = _
      rw [tpu_ne (b := q + 5) (by omega), tpu_ne (b := q + 5) (by omega), tpu_ne (b := q + 5) (by omega), if_neg (fun h => hA0 h.1)]
  have r6m : uMh F q s m p A.getLast? (q + 6) (300 * s + m) = headO B := by
    rcases list_snoc (A := A) with rfl | ⟨A', b, rfl⟩
    · show tpu (tpu (tpu F (q + 3) (300 * s + m) (nI p)) (q + 6) (300 * s + m) _) (q + 5) (300 * s + p) (nI m) (q + 6) (300 * s + m) = _
      rw [tpu_ne (b := q + 6) (by omega), tpu_s]
      exact seg_head g3
    · have hl : (A' ++ [b]).getLast? = some b := by simp
      have hbm : b ≠ m := fun e => hmp (by rw [← e]; simp)
      rw [hl]
      show tpu (tpu (tpu F (q + 3) (300 * s + m) (nI p)) (q + 6) (300 * s + m) _) (q + 6) (300 * s + b) (nI m) (q + 6) (300 * s + m) = _
      rw [tpu_row2, if_neg (by omega), tpu_s]
      rw [List.append_assoc] at g3
      exact seg_mid (nx := fun y => F (q + 6) (300 * s + y)) (m := b) (A := A') (B := B) g3
  have r6b : ∀ b, A.getLast? = some b → uMh F q s m p A.getLast? (q + 6) (300 * s + b) = nI m := by
    intro b e
    rw [e]
    exact tpu_s _ _ _ _
  have r6o : ∀ x, x ≠ m → A.getLast? ≠ some x → uMh F q s m p A.getLast? (q + 6) (300 * s + x) = F (q + 6) (300 * s + x) := by
    intro x h1 h2
    cases e : A.getLast? with
    | none =>
      show tpu (tpu (tpu F (q + 3) (300 * s + m) (nI p)) (q + 6) (300 * s + m) _) (q + 5) (300 * s + p) (nI m) (q + 6) (300 * s + x) = _
      rw [tpu_ne (b := q + 6) (by omega), tpu_row2, if_neg (by omega), tpu_ne (b := q + 6) (by omega)]
    | some b =>
      have hxb : x ≠ b := fun e2 => h2 (by rw [e, e2])
      show tpu (tpu (tpu F (q + 3) (300 * s + m) (nI p)) (q + 6) (300 * s + m) _) (q + 6) (300 * s + b) (nI m) (q + 6) (300 * s + x) = _
      rw [tpu_row2, if_neg (by omega), tpu_row2, if_neg (by omega), tpu_ne (b := q + 6) (by omega)]
  refine ⟨fun x hx => ?_, ?_, fun x hx => by rw [r3, if_neg hx], fun x h1 h2 => r6o x h1 (fun e => h2 (getL_mem e))⟩
  · obtain ⟨q1, q2, q3⟩ := hL x hx
    refine ⟨by rw [r4]; exact q1, fun y hy => ?_, ?_⟩
    · have hy : mU (tUp t) m (some p) x = some y := hy
      rw [r3]
      by_cases c : x = m
      · rw [c, mU_s] at hy
        rw [if_pos c, Option.some.inj hy]
      · rw [mU_n _ _ c] at hy
        rw [if_neg c]
        exact q2 y hy
    · show seg _ _ (mU (tKi t) p (A ++ m :: B) x) (-1)
      by_cases c : x = p
      · subst c
        rw [mU_s]
        refine seg_ins g3 hmp hnd r6m r6b r6o ?_
        rw [r5]
        by_cases c2 : A = []
        · rw [if_pos ⟨c2, rfl⟩, if_pos c2]
        · rw [if_neg (fun h => c2 h.1), if_neg c2]
      · rw [mU_n _ _ c, r5, if_neg (fun h => c h.2)]
        exact seg_congr (fun y hy => r6o y (fun e2 => hmk x (by rw [← e2]; exact hy)) (fun e2 => c (tUp_of hw hy (kk y (List.mem_append_left _ (getL_mem e2)))))) q3
  · cases e : A.getLast? with
    | none => exact mFr_tr (mFr_tr (mFr_u F _ (Or.inl rfl) hm3) (mFr_u _ _ (Or.inr (Or.inr rfl)) hm3)) (mFr_u _ _ (Or.inr (Or.inl rfl)) hp3)
    | some b => exact mFr_tr (mFr_tr (mFr_u F _ (Or.inl rfl) hm3) (mFr_u _ _ (Or.inr (Or.inr rfl)) hm3)) (mFr_u _ _ (Or.inr (Or.inr rfl)) (hA3 b e))
end MHANG
