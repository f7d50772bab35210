section MLAY
def uMu (F : Nat → Nat → Int32) (q s m p : Nat) (b : Option Nat) : Nat → Nat → Int32 := match b with
  | some b => tpu (tpu F (q + 6) (300 * s + b) (F (q + 6) (300 * s + m))) (q + 6) (300 * s + m) (-1)
  | none => tpu (tpu F (q + 5) (300 * s + p) (F (q + 6) (300 * s + m))) (q + 6) (300 * s + m) (-1)
theorem p_Md_unhang {h : tpH} {Q q s m p : Nat} (M : lMd h Q q) (hs : s < 42) {F : Nat → Nat → Int32} {t : mT} (hL : MtL F q s t) (hw : fWF 300 t) {A B : List Nat} (hk : tKi t p = A ++ m :: B) {R : tpH → Prop} (k : R (wI h (uMu F q s m p A.getLast?))) : w_Md_unhang Q (nI s) (nI m) (wI h F) R := by
  have hmk : m ∈ tKi t p := by rw [hk]; simp
  obtain ⟨hm, hu⟩ := fKi_in hw hmk
  have hp := fKi_p hw hmk
  have hm3 := hw.1 m hm
  have hp3 := hw.1 p hp
  have hA3 : ∀ k, A.getLast? = some k → k < 300 := fun k e => hw.1 k (fKi_in hw (p := p) (by rw [hk]; exact List.mem_append_left _ (getL_mem e))).1
  obtain ⟨l1, l2, l3⟩ := md_f M (j := 6) (kd := 15) (n := 12600) (f := 9) (by decide)
  obtain ⟨j1, j2, j3⟩ := md_f M (j := 5) (kd := 15) (n := 12600) (f := 8) (by decide)
  refine ⟨M.1, ?_⟩
  rw [e_Md_parentIn M hs hm3, (hL m hm).2.1 p hu]
  refine ⟨M.1, p_Md_sibling M hs hL hw hk ?_⟩
  have hend : ∀ G : Nat → Nat → Int32, R (wI h (tpu G (q + 6) (300 * s + m) (-1))) → w_Md_unhang_63 R Q (nI s) (nI m) (wI h G) := by
    intro G hG
    refine ⟨M.1, q + 6, l3, l1, by rw [wI_L, l2, ix_e]; exact ix_v hs hm3, fun h6 e6 => ?_⟩
    rw [ix_e, ix_c hs hm3, sI_w] at e6
    subst e6
    exact hG
  unfold lastO
  cases e : A.getLast? with
  | some b =>
    have hb3 := hA3 b e
    rw [e] at k
    refine ⟨fun _ => ⟨M.1, ?_⟩, fun e => absurd e (nI_ne_m (k := b) (by omega))⟩
    rw [e_Md_nextIn M hs hm3]
    refine ⟨q + 6, l3, l1, by rw [wI_L, l2]; show vp_in (300 * nI s + nI b) 12600; rw [ix_e]; exact ix_v hs hb3, fun h15 e15 => ?_⟩
    have e15 : h15 = sI _ (q + 6) (300 * nI s + nI b).toNatClampNeg (F (q + 6) (300 * s + m)) := e15
    rw [ix_e, ix_c hs hb3, sI_w] at e15
    subst e15
    exact hend _ k
  | none =>
    rw [e] at k
    refine ⟨fun e => absurd rfl e, fun _ => ⟨M.1, ?_⟩⟩
    rw [e_Md_nextIn M hs hm3]
    refine ⟨q + 5, j3, j1, by rw [wI_L, j2, ix_e]; exact ix_v hs hp3, fun h24 e24 => ?_⟩
    rw [ix_e, ix_c hs hp3, sI_w] at e24
    subst e24
    exact hend _ k
theorem mu_cut {F : Nat → Nat → Int32} {q s m p : Nat} {t : mT} (hL : MtL F q s t) (hw : fWF 300 t) {A B : List Nat} (hk : tKi t p = A ++ m :: B) :
    MtL (uMu F q s m p A.getLast?) q s (tCut t m) ∧ mFr F (uMu F q s m p A.getLast?) q s ∧ uMu F q s m p A.getLast? (q + 3) = F (q + 3) ∧ (∀ x, x ≠ m → x ∉ A → uMu F q s m p A.getLast? (q + 6) (300 * s + x) = F (q + 6) (300 * s + x)) := by
  have hmk : m ∈ tKi t p := by rw [hk]; simp
  obtain ⟨hm, hu⟩ := fKi_in hw hmk
  have hp := fKi_p hw hmk
  have hm3 := hw.1 m hm
  have hp3 := hw.1 p hp
  have hnd := hw.2.2.1 p
  rw [hk] at hnd
  obtain ⟨hA0, hB0, hd⟩ := List.nodup_append.mp hnd
  have hmA : m ∉ A := fun e => hd m e m List.mem_cons_self rfl
  have kk : ∀ x ∈ A, x ∈ tKi t p := fun x hx => by rw [hk]; exact List.mem_append_left _ hx
  have hA3 : ∀ k, A.getLast? = some k → k < 300 := fun k e => hw.1 k (fKi_in hw (kk k (getL_mem e))).1
  have g3 := (hL p hp).2.2
  rw [hk] at g3
  have gm : F (q + 6) (300 * s + m) = headO B := seg_mid (nx := fun y => F (q + 6) (300 * s + y)) (m := m) (A := A) (B := B) g3
  have r3 : uMu F q s m p A.getLast? (q + 3) = F (q + 3) := by
    cases A.getLast? with
    | none =>
      show tpu (tpu F (q + 5) (300 * s + p) _) (q + 6) (300 * s + m) (-1) (q + 3) = _
      rw [tpu_ne (by omega), tpu_ne (by omega)]
    | some b =>
      show tpu (tpu F (q + 6) (300 * s + b) _) (q + 6) (300 * s + m) (-1) (q + 3) = _
      rw [tpu_ne (by omega), tpu_ne (by omega)]
  have r4 : uMu F q s m p A.getLast? (q + 4) = F (q + 4) := by
    cases A.getLast? with
    | none =>
      show tpu (tpu F (q + 5) (300 * s + p) _) (q + 6) (300 * s + m) (-1) (q + 4) = _
      rw [tpu_ne (by omega), tpu_ne (by omega)]
    | some b =>
      show tpu (tpu F (q + 6) (300 * s + b) _) (q + 6) (300 * s + m) (-1) (q + 4) = _
      rw [tpu_ne (by omega), tpu_ne (by omega)]
  have r5 : ∀ x, uMu F q s m p A.getLast? (q + 5) (300 * s + x) = if A = [] ∧ x = p then headO B else F (q + 5) (300 * s + x) := by
    intro x
    cases e : A.getLast? with
    | none =>
      have hA0 : A = [] := List.getLast?_eq_none_iff.mp e
      show tpu (tpu F (q + 5) (300 * s + p) _) (q + 6) (300 * s + m) (-1) (q + 5) (300 * s + x) = _
      rw [tpu_ne (b := q + 5) (by omega), tpu_row2, gm]
      by_cases c : x = p
      · rw [if_pos (by omega), if_pos ⟨hA0, c⟩]
      · rw [if_neg (by omega), if_neg (fun h => c h.2)]
    | some b =>
      have hA0 : A ≠ [] := fun e2 => by rw [e2] at e; simp at e
      show tpu (tpu F (q + 6) (300 * s + b) _) (q + 6) (300 * s + m) (-1) (q + 5) (300 * s + x) = _
      rw [tpu_ne (b := q + 5) (by omega), tpu_ne (b := q + 5) (by omega), if_neg (fun h => hA0 h.1)]
  have r6b : ∀ b, A.getLast? = some b → uMu F q s m p A.getLast? (q + 6) (300 * s + b) = headO B := by
    intro b e
    have hbm : b ≠ m := fun e2 => hmA (by rw [← e2]; exact getL_mem e)
    rw [e]
    show tpu (tpu F (q + 6) (300 * s + b) _) (q + 6) (300 * s + m) (-1) (q + 6) (300 * s + b) = _
    rw [tpu_row2, if_neg (by omega), tpu_s, gm]
  have r6o : ∀ x, x ≠ m → A.getLast? ≠ some x → uMu F q s m p A.getLast? (q + 6) (300 * s + x) = F (q + 6) (300 * s + x) := by
    intro x h1 h2
    cases e : A.getLast? with
    | none =>
      show tpu (tpu F (q + 5) (300 * s + p) _) (q + 6) (300 * s + m) (-1) (q + 6) (300 * s + x) = _
      rw [tpu_row2, if_neg (by omega), tpu_ne (b := q + 6) (by omega)]
    | some b =>
      have hxb : x ≠ b := fun e2 => h2 (by rw [e, e2])
      show tpu (tpu F (q + 6) (300 * s + b) _) (q + 6) (300 * s + m) (-1) (q + 6) (300 * s + x) = _
      rw [tpu_row2, if_neg (by omega), tpu_row2, if_neg (by omega)]
  refine ⟨fun x hx => ?_, ?_, r3, fun x h1 h2 => r6o x h1 (fun e => h2 (getL_mem e))⟩
  · obtain ⟨q1, q2, q3⟩ := hL x hx
    refine ⟨by rw [r4]; exact q1, fun y hy => ?_, ?_⟩
    · have hy : mU (tUp t) m none x = some y := hy
      rw [r3]
      by_cases c : x = m
      · rw [c, mU_s] at hy; simp at hy
      · rw [mU_n _ _ c] at hy
        exact q2 y hy
    · show seg _ _ ((tKi t x).erase m) (-1)
      by_cases c : x = p
      · subst c
        rw [hk, erase_mid hmA]
        refine seg_del g3 hnd r6b r6o ?_
        rw [r5]
        by_cases c2 : A = []
        · rw [if_pos ⟨c2, rfl⟩, if_pos c2]
        · rw [if_neg (fun h => c2 h.1), if_neg c2]
      · have e1 : m ∉ tKi t x := fun e2 => c (tUp_of hw e2 hmk)
        rw [List.erase_of_not_mem e1, r5, if_neg (fun h => c h.2)]
        exact seg_congr (fun y hy => r6o y (fun e2 => e1 (by rw [← e2]; exact hy)) (fun e2 => c (tUp_of hw hy (kk y (getL_mem e2))))) q3
  · cases e : A.getLast? with
    | none => exact mFr_tr (mFr_u F _ (Or.inr (Or.inl rfl)) hp3) (mFr_u _ _ (Or.inr (Or.inr rfl)) hm3)
    | some b => exact mFr_tr (mFr_u F _ (Or.inr (Or.inr rfl)) (hA3 b e)) (mFr_u _ _ (Or.inr (Or.inr rfl)) hm3)
/-! the order, laid in a row -/
def lay (F : Nat → Nat → Int32) (r : Nat) (P : List Nat) : Nat → Nat → Int32 := fun b j => if b = r then (match P[j]? with | some m => nI m | none => F b j) else F b j
theorem lay_ne (F : Nat → Nat → Int32) {r b : Nat} (P : List Nat) (h : b ≠ r) : lay F r P b = F b := by funext j; simp [lay, h]
theorem lay_nil (F : Nat → Nat → Int32) (r : Nat) : lay F r [] = F := by funext b j; simp [lay]
theorem lay_at (F : Nat → Nat → Int32) (r : Nat) {P : List Nat} {j m : Nat} (h : P[j]? = some m) : lay F r P r j = nI m := by simp [lay, h]
theorem lay_put (F : Nat → Nat → Int32) (r : Nat) (A : List Nat) (m : Nat) : tpu (lay F r A) r A.length (nI m) = lay F r (A ++ [m]) := by
  funext b j
  simp only [tpu, lay]
  by_cases c : b = r
  · subst c
    by_cases c2 : j = A.length
    · subst c2; simp
    · by_cases c3 : j < A.length
      · simp [c2, List.getElem?_append_left c3]
      · have e1 : A[j]? = none := List.getElem?_eq_none (by omega)
        have e2 : (A ++ [m])[j]? = none := List.getElem?_eq_none (by simp; omega)
        simp [c2, e1, e2]
  · simp [c]
theorem MtL_lay {F : Nat → Nat → Int32} {q s r : Nat} {t : mT} (P : List Nat) (hr : r < q ∨ q + 7 ≤ r) (h : MtL F q s t) : MtL (lay F r P) q s t := by
  unfold MtL nodeM
  rw [lay_ne F P (b := q + 3) (by omega), lay_ne F P (b := q + 4) (by omega), lay_ne F P (b := q + 5) (by omega), lay_ne F P (b := q + 6) (by omega)]
  exact h
theorem p_lay33 {h : tpH} {Q q s : Nat} (M : lMd h Q q) (hs : s < 42) {F : Nat → Nat → Int32} {t : mT} (hL : MtL F q s t) (hw : tWF 300 t) (hr3 : F (q + 3) (300 * s + tRt t) = -1) (hr6 : F (q + 6) (300 * s + tRt t) = -1) {R : Int32 → tpH → Prop} {K : Nat → Int32 → Option Nat → Int32 → Int32 → tpH → Prop} {x2 : Option Nat} {x3 : Int32} : ∀ (n : Nat) (V : List Nat) (c : Nat) (A L : List Nat), pO t = A ++ (tPo t c ++ L) → tIn t c = true → upV t V c → tCn t < n + V.length → K Q (nI s) x2 x3 (headO L) (wI h F) → w_Md_layOrder_33 R K (n + 1) Q (nI s) x2 x3 (nI c) (-1) (wI h F) := by
  have hr := hw.1.2.2.2.1
  intro n
  induction n with
  | zero =>
    intro V c A L _ hc hu h2
    have hb := upV_bd hw.1 hc hu
    omega
  | succ n ih =>
    intro V c A L hA hc hu hn k
    have hb := upV_bd hw.1 hc hu
    have hc3 := hw.1.1 c hc
    show b_Md_layOrder_33 R K (w_Md_layOrder_33 R K (n + 1)) Q (nI s) x2 x3 (nI c) (-1) (wI h F)
    refine ⟨fun e => absurd rfl e, fun _ => ⟨fun e => absurd e (nI_ne_m (by omega)), fun _ => ⟨M.1, ?_⟩⟩⟩
    rw [e_Md_nextIn M hs hc3]
    by_cases hct : c = tRt t
    · subst hct
      rw [hr6]
      refine ⟨fun e => absurd rfl e, fun _ => ⟨M.1, ?_⟩⟩
      rw [e_Md_parentIn M hs hc3, hr3]
      have h1 := congrArg List.length hA
      rw [List.length_append, List.length_append] at h1
      have h3 : (pO t).length = (tPo t (tRt t)).length := rfl
      have h2 : L = [] := List.eq_nil_of_length_eq_zero (by omega)
      rw [h2] at k
      exact ⟨fun e => absurd rfl e, fun _ => ⟨fun _ => k, fun e => absurd rfl e⟩⟩
    · obtain ⟨p, hp⟩ := Option.ne_none_iff_exists'.mp (hw.2.2.2 c hc hct)
      have hk : c ∈ tKi t p := (hw.1.2.1 c p).mpr ⟨hc, hp⟩
      have hpi := fKi_p hw.1 hk
      obtain ⟨K1, K2, e2⟩ := List.append_of_mem hk
      obtain ⟨A', L', e6⟩ := tAt_ex hw p hpi
      have e6 : pO t = A' ++ (tPo t p ++ L') := e6
      have hsg := (hL p hpi).2.2
      rw [e2] at hsg
      have hnx : F (q + 6) (300 * s + c) = headO K2 := seg_mid (nx := fun y => F (q + 6) (300 * s + y)) (m := c) (A := K1) (B := K2) hsg
      have hL3 : L = K2.flatMap (tPo t) ++ L' := by
        have hn1 := pO_nd hw
        have hA2 := hA
        rw [tPo_eq hr c] at hA2
        have e7 : pO t = (A' ++ (p :: K1.flatMap (tPo t))) ++ c :: ((tKi t c).flatMap (tPo t) ++ (K2.flatMap (tPo t) ++ L')) := by
          rw [e6, tPo_eq hr p, e2]
          simp [List.flatMap_append, List.append_assoc, tPo_eq hr c]
        have hA3 : pO t = A ++ c :: ((tKi t c).flatMap (tPo t) ++ L) := by rw [hA2]; simp
        rw [hA3] at hn1
        exact List.append_cancel_left (nd_split hn1 (hA3.symm.trans e7)).2
      rw [hnx]
      cases K2 with
      | nil =>
        have hL3 : L = L' := hL3
        refine ⟨fun e => absurd rfl e, fun _ => ⟨M.1, ?_⟩⟩
        rw [e_Md_parentIn M hs hc3, (hL c hc).2.1 p hp]
        refine ih (c :: V) p A' L' e6 hpi (upV_st hw.1 hk hu) (by simp; omega) ?_
        rw [← hL3]; exact k
      | cons y K2 =>
        have hy3 := hw.1.1 y (fKi_in hw.1 (p := p) (by rw [e2]; simp)).1
        have e8 : headO L = nI y := by rw [hL3, List.flatMap_cons, tPo_eq hr y]; rfl
        rw [e8] at k
        rw [headO_cons]
        exact ⟨fun _ => ⟨fun _ => k, fun e => absurd e (nI_ne_m (by omega))⟩, fun e => absurd e (nI_ne_m (by omega))⟩
theorem p_lay10 {h : tpH} {Q q s r : Nat} (M : lMd h Q q) (hs : s < 42) {F : Nat → Nat → Int32} {t : mT} (gL : MtL F q s t) (hw : tWF 300 t) (hr3 : F (q + 3) (300 * s + tRt t) = -1) (hr6 : F (q + 6) (300 * s + tRt t) = -1) (hr : r < q ∨ q + 7 ≤ r) (kr : hT h r = 15) (lr : hL h r = 300) {R : Int32 → tpH → Prop}
    (k : R (nI (pO t).length) (wI h (lay F r (pO t)))) : ∀ (n : Nat) (A L : List Nat), pO t = A ++ L → L.length < n → w_Md_layOrder_10 R n Q (nI s) (some r) (nI A.length) (headO L) (wI h (lay F r A)) := by
  have hrk := hw.1.2.2.2.1
  have hn3 : (pO t).length ≤ 300 := by rw [pO_len hw]; exact tCn_le t
  intro n
  induction n with
  | zero => intro A L _ hn; omega
  | succ n ih =>
    intro A L hA hn
    have hl2 := congrArg List.length hA
    rw [List.length_append] at hl2
    show b_Md_layOrder_10 R (w_Md_layOrder_10 R n) Q (nI s) (some r) (nI A.length) (headO L) (wI h (lay F r A))
    cases L with
    | nil =>
      rw [List.append_nil] at hA
      rw [← hA]
      exact ⟨fun _ => k, fun e => absurd rfl e⟩
    | cons m L =>
      simp only [List.length_cons] at hl2 hn
      have hmi : tIn t m = true := (pO_mem hw).mp (by rw [hA]; simp)
      have hm3 := hw.1.1 m hmi
      rw [headO_cons]
      refine ⟨fun e => absurd e (nI_ne_m (by omega)), fun _ => ⟨r, rfl, kr, by rw [wI_L, lr]; exact vp_in_nI (by omega) (by decide), fun h6 e6 => ?_⟩⟩
      rw [nI_clamp (by omega), sI_w, lay_put] at e6
      subst e6
      refine ⟨M.1, ?_⟩
      rw [e_Md_firstIn M hs hm3, lay_ne F _ (b := q + 5) (by omega), nI_1]
      have hL2 := MtL_lay (A ++ [m]) hr gL
      have k2 := ih (A ++ [m]) L (by rw [hA]; simp) (by omega)
      rw [List.length_append] at k2
      obtain ⟨A', L', e6⟩ := tAt_ex hw m hmi
      have e6 : pO t = A' ++ (tPo t m ++ L') := e6
      have hL3 : L = (tKi t m).flatMap (tPo t) ++ L' := by
        have hn1 := pO_nd hw
        have e7 : pO t = A' ++ m :: ((tKi t m).flatMap (tPo t) ++ L') := by rw [e6, tPo_eq hrk m]; simp
        rw [hA] at hn1
        exact (nd_split hn1 (hA.symm.trans e7)).2
      have hfs := seg_head (gL m hmi).2.2
      cases e : tKi t m with
      | nil =>
        rw [e] at hfs hL3
        have hL3 : L = L' := hL3
        have hfs : F (q + 5) (300 * s + m) = -1 := hfs
        rw [hfs]
        refine ⟨tCn t + 1 + 1, p_lay33 M hs hL2 hw (by rw [lay_ne F _ (b := q + 3) (by omega)]; exact hr3) (by rw [lay_ne F _ (b := q + 6) (by omega)]; exact hr6) (tCn t + 1) [] m A' L' e6 hmi ⟨List.nodup_nil, fun v hv => by simp at hv⟩ (by simp) ?_⟩
        rw [← hL3]
        exact k2
      | cons y K2 =>
        have hy3 := hw.1.1 y (fKi_in hw.1 (p := m) (by rw [e]; simp)).1
        rw [e] at hfs hL3
        have hfs : F (q + 5) (300 * s + m) = nI y := hfs
        have e8 : headO L = nI y := by rw [hL3, List.flatMap_cons, tPo_eq hrk y]; rfl
        rw [e8] at k2
        rw [hfs]
        exact ⟨1, fun _ => k2, fun e => absurd e (nI_ne_m (by omega))⟩
theorem p_Md_layOrder {h : tpH} {Q q s r : Nat} (M : lMd h Q q) (hs : s < 42) {F : Nat → Nat → Int32} {t : mT} (hP : MtP F q s t) (hw : tWF 300 t) (hr : r < q ∨ q + 7 ≤ r) (kr : hT h r = 15) (lr : hL h r = 300) {R : Int32 → tpH → Prop}
    (k : R (nI (pO t).length) (wI h (lay F r (pO t)))) : w_Md_layOrder Q (nI s) (some r) (wI h F) R := by
  obtain ⟨l1, l2, l3⟩ := md_f M (j := 2) (kd := 15) (n := 42) (f := 5) (by decide)
  have k2 := p_lay10 M hs hP.1 hw hP.2.1.1 hP.2.1.2 hr kr lr k ((pO t).length + 1) [] (pO t) rfl (Nat.lt_succ_self _)
  rw [lay_nil] at k2
  have hhd : headO (pO t) = nI (tRt t) := by unfold pO; rw [tPo_eq hw.1.2.2.2.1]; rfl
  rw [hhd] at k2
  refine ⟨M.1, q + 2, l3, l1, by rw [wI_L, l2]; exact vp_in_nI hs (by decide), (pO t).length + 1, ?_⟩
  rw [wI_I, nI_clamp (by omega), hP.2.2.2]
  exact k2
end MLAY
