section GD1
/-! the reference finds a script: what it writes of a step, and in the slot of work -/
def reW (c : mT) (w : Nat → Int32) : mT := (tRt c, w, tKi c, tUp c, tIn c)
theorem MtL_o {F G : Nat → Nat → Int32} {q s : Nat} {t : mT} (h : MtL F q s t) (hk : ∀ b, q + 3 ≤ b → b ≤ q + 6 → G b = F b) : MtL G q s t := fun x hx => by
  unfold nodeM
  rw [hk (q + 3) (by omega) (by omega), hk (q + 4) (by omega) (by omega), hk (q + 5) (by omega) (by omega), hk (q + 6) (by omega) (by omega)]
  exact h x hx
def uTw (F : Nat → Nat → Int32) (q k : Nat) (sp : mSp) : Nat → Nat → Int32 := tpu (tpu (tpu F (q + 15) k (nO sp.1)) (q + 16) k (nO sp.2.1)) (q + 17) k (nO sp.2.2)
def uTt (F : Nat → Nat → Int32) (q k : Nat) (sp : mSp) : Nat → Nat → Int32 := tpu (tpu (tpu F (q + 12) k (nO sp.1)) (q + 13) k (nO sp.2.1)) (q + 14) k (nO sp.2.2)
theorem p_tellWas {h : tpH} {Q q k m p : Nat} (M : lMd h Q q) (hk : k < 4100) {F : Nat → Nat → Int32} {c : mT} (hL : MtL F q 41 c) (hw : fWF 300 c) {A B : List Nat} (e : tKi c p = A ++ m :: B) {R : tpH → Prop} (kk : R (wI h (uTw F q k (spO c m)))) : w_Md_tellWas Q (nI k) (nI m) (wI h F) R := by
  obtain ⟨a1, a2, a3⟩ := md_f M (j := 15) (kd := 15) (n := 4100) (f := 19) (by decide)
  obtain ⟨b1, b2, b3⟩ := md_f M (j := 16) (kd := 15) (n := 4100) (f := 20) (by decide)
  obtain ⟨d1, d2, d3⟩ := md_f M (j := 17) (kd := 15) (n := 4100) (f := 21) (by decide)
  have hm := (hw.2.1 m p).mp (by rw [e]; exact List.mem_append_right _ List.mem_cons_self)
  have hp := hw.2.2.2.2 m p hm.1 hm.2
  have m3 := hw.1 m hm.1
  have va : vp_in (nI k) 4100 := vp_in_nI hk (by decide)
  have ck : (nI k).toNatClampNeg = k := nI_clamp (by omega)
  have sp := sp_at hw e
  have g3 := (hL p hp).2.2
  rw [e] at g3
  have n6 : F (q + 6) (300 * 41 + m) = headO B := seg_mid (nx := fun y => F (q + 6) (300 * 41 + y)) (m := m) (A := A) (B := B) g3
  have es : spO c m = (some p, A.getLast?, B.head?) := by
    unfold spO
    rw [sp.1, sp.2.1, sp.2.2]
  rw [es] at kk
  refine ⟨M.1, ?_⟩
  show w_Md_parentIn Q (nI 41) (nI m) (wI h F) _
  rw [e_Md_parentIn M (by decide) m3, (hL m hm.1).2.1 p hm.2]
  refine ⟨M.1, q + 15, a3, a1, by rw [wI_L, a2]; exact va, fun h9 e9 => ?_⟩
  rw [ck, sI_wI, wI_wI, wI_I] at e9
  subst e9
  show w_Md_sibling Q (nI 41) (nI p) (nI m) 1 (wI h (tpu F (q + 15) k (nI p))) _
  refine p_Md_sibling M (by decide) (MtL_o hL (fun b b1 b2 => tpu_fa _ _ _ _ _ (by omega))) hw e ⟨q + 16, b3, b1, by rw [wI_L, b2]; exact va, fun h17 e17 => ⟨?_, ?_⟩⟩
  · rw [e17]
    exact M.1
  rw [ck, sI_wI, wI_wI, wI_I] at e17
  subst e17
  show w_Md_nextIn Q (nI 41) (nI m) (wI h (tpu (tpu F (q + 15) k (nI p)) (q + 16) k (lastO A))) _
  rw [e_Md_nextIn M (by decide) m3, tpu_o (by omega), tpu_o (by omega), n6]
  refine ⟨q + 17, d3, d1, by rw [wI_L, d2]; exact va, fun h26 e26 => ?_⟩
  rw [ck, sI_wI, wI_wI, wI_I] at e26
  subst e26
  exact kk
theorem p_tellTo {h : tpH} {Q q k m p : Nat} (M : lMd h Q q) (hk : k < 4100) {F : Nat → Nat → Int32} {c : mT} (hL : MtL F q 41 c) (hw : fWF 300 c) {A B : List Nat} (e : tKi c p = A ++ m :: B) {R : tpH → Prop} (kk : R (wI h (uTt F q k (spO c m)))) : w_Md_tellTo Q (nI k) (nI m) (wI h F) R := by
  obtain ⟨a1, a2, a3⟩ := md_f M (j := 12) (kd := 15) (n := 4100) (f := 16) (by decide)
  obtain ⟨b1, b2, b3⟩ := md_f M (j := 13) (kd := 15) (n := 4100) (f := 17) (by decide)
  obtain ⟨d1, d2, d3⟩ := md_f M (j := 14) (kd := 15) (n := 4100) (f := 18) (by decide)
  have hm := (hw.2.1 m p).mp (by rw [e]; exact List.mem_append_right _ List.mem_cons_self)
  have hp := hw.2.2.2.2 m p hm.1 hm.2
  have m3 := hw.1 m hm.1
  have va : vp_in (nI k) 4100 := vp_in_nI hk (by decide)
  have ck : (nI k).toNatClampNeg = k := nI_clamp (by omega)
  have sp := sp_at hw e
  have g3 := (hL p hp).2.2
  rw [e] at g3
  have n6 : F (q + 6) (300 * 41 + m) = headO B := seg_mid (nx := fun y => F (q + 6) (300 * 41 + y)) (m := m) (A := A) (B := B) g3
  have es : spO c m = (some p, A.getLast?, B.head?) := by
    unfold spO
    rw [sp.1, sp.2.1, sp.2.2]
  rw [es] at kk
  refine ⟨M.1, ?_⟩
  show w_Md_parentIn Q (nI 41) (nI m) (wI h F) _
  rw [e_Md_parentIn M (by decide) m3, (hL m hm.1).2.1 p hm.2]
  refine ⟨M.1, q + 12, a3, a1, by rw [wI_L, a2]; exact va, fun h9 e9 => ?_⟩
  rw [ck, sI_wI, wI_wI, wI_I] at e9
  subst e9
  show w_Md_sibling Q (nI 41) (nI p) (nI m) 1 (wI h (tpu F (q + 12) k (nI p))) _
  refine p_Md_sibling M (by decide) (MtL_o hL (fun b b1 b2 => tpu_fa _ _ _ _ _ (by omega))) hw e ⟨q + 13, b3, b1, by rw [wI_L, b2]; exact va, fun h17 e17 => ⟨?_, ?_⟩⟩
  · rw [e17]
    exact M.1
  rw [ck, sI_wI, wI_wI, wI_I] at e17
  subst e17
  show w_Md_nextIn Q (nI 41) (nI m) (wI h (tpu (tpu F (q + 12) k (nI p)) (q + 13) k (lastO A))) _
  rw [e_Md_nextIn M (by decide) m3, tpu_o (by omega), tpu_o (by omega), n6]
  refine ⟨q + 14, d3, d1, by rw [wI_L, d2]; exact va, fun h26 e26 => ?_⟩
  rw [ck, sI_wI, wI_wI, wI_I] at e26
  subst e26
  exact kk
/-- a mark is moved in the slot of work -/
theorem mt_mv {F : Nat → Nat → Int32} {q m r p : Nat} {c : mT} {A0 B0 : List Nat} (H : MtP F q 41 c) (hw : tWF 300 c) (e0 : tKi c p = A0 ++ m :: B0) (hmr : m ≠ tRt c) (hr : tIn c r = true) (hrm : r ≠ m) (lo : Bool) (K : Nat) : MtP (uMh (uMu F q 41 m p A0.getLast?) q 41 m r (hgA lo (tKi (tCut c m) r) m ((tKi (tCut c m) r).take K)).getLast?) q 41 (dMove c m r lo K) ∧ wkFr q F (uMh (uMu F q 41 m p A0.getLast?) q 41 m r (hgA lo (tKi (tCut c m) r) m ((tKi (tCut c m) r).take K)).getLast?) := by
  have hm := (fKi_in hw.1 (x := m) (p := p) (by rw [e0]; exact List.mem_append_right _ List.mem_cons_self)).1
  obtain ⟨c1, c2, c3, c4⟩ := mu_cut H.1 hw.1 e0
  have hw1 := fCut hw.1 m
  have hum : tUp (tCut c m) m = none := mU_s _ _ _
  have hsp := in_split lo (tKi (tCut c m) r) m K
  obtain ⟨g1, g2, g3, g4⟩ := mh_hng c1 hw1 (m := m) (p := r) hm hum hr hrm hsp
  have hrA0 : tRt c ∉ A0 := fun e => by
    have := (fKi_in hw.1 (x := tRt c) (p := p) (by rw [e0]; exact List.mem_append_left _ e)).2
    rw [hw.2.2.1] at this
    cases this
  have hrA : tRt c ∉ hgA lo (tKi (tCut c m) r) m ((tKi (tCut c m) r).take K) := fun e => by
    have h1 : tRt c ∈ tKi (tCut c m) r := by rw [hsp]; exact List.mem_append_left _ e
    have h2 : mU (tUp c) m none (tRt c) = some r := (fKi_in hw1 h1).2
    rw [mU_n _ _ (Ne.symm hmr), hw.2.2.1] at h2
    cases h2
  refine ⟨⟨g1, ⟨?_, ?_⟩, fun x hx hi => ?_, ?_⟩, wk_mFr (mFr_tr c2 g2)⟩
  · show uMh _ _ _ _ _ _ (q + 3) (300 * 41 + tRt c) = -1
    rw [g3 _ (Ne.symm hmr), c3]
    exact H.2.1.1
  · show uMh _ _ _ _ _ _ (q + 6) (300 * 41 + tRt c) = -1
    rw [g4 _ (Ne.symm hmr) hrA, c4 _ (Ne.symm hmr) hrA0]
    exact H.2.1.2
  · have hi : tIn c x = false := hi
    have hxm : x ≠ m := fun e => by rw [e, hm] at hi; cases hi
    rw [g3 x hxm, c3]
    exact H.2.2.1 x hx hi
  · rw [g2.1 (q + 2) (by omega) (by omega) (by omega), c2.1 (q + 2) (by omega) (by omega) (by omega)]
    exact H.2.2.2
/-- a new mark is hung in the slot of work -/
theorem mtD_hng {F : Nat → Nat → Int32} {q m r : Nat} {u : mT} (H : MtD F q 41 u m) (hw : fWF 300 u) (hmr : m ≠ tRt u) (hrt : tUp u (tRt u) = none) (hi : tIn u m = true) (hum : tUp u m = none) (hr : tIn u r = true) (hrm : r ≠ m) (lo : Bool) (K : Nat) : MtP (uMh F q 41 m r (hgA lo (tKi u r) m ((tKi u r).take K)).getLast?) q 41 (tHng u m r (inKids lo (tKi u r) m K)) ∧ wkFr q F (uMh F q 41 m r (hgA lo (tKi u r) m ((tKi u r).take K)).getLast?) := by
  have hsp := in_split lo (tKi u r) m K
  obtain ⟨g1, g2, g3, g4⟩ := mh_hng H.1 hw (m := m) (p := r) hi hum hr hrm hsp
  have hrA : tRt u ∉ hgA lo (tKi u r) m ((tKi u r).take K) := fun e => by
    have h1 : tRt u ∈ tKi u r := by rw [hsp]; exact List.mem_append_left _ e
    have h2 := (fKi_in hw h1).2
    rw [hrt] at h2
    cases h2
  refine ⟨⟨g1, ⟨?_, ?_⟩, fun x hx hxi => ?_, ?_⟩, wk_mFr g2⟩
  · show uMh _ _ _ _ _ _ (q + 3) (300 * 41 + tRt u) = -1
    rw [g3 _ (Ne.symm hmr)]
    exact H.2.1.1
  · show uMh _ _ _ _ _ _ (q + 6) (300 * 41 + tRt u) = -1
    rw [g4 _ (Ne.symm hmr) hrA]
    exact H.2.1.2
  · have hxi : tIn u x = false := hxi
    have hxm : x ≠ m := fun g => by rw [g, hi] at hxi; cases hxi
    rw [g3 x hxm]
    exact H.2.2.1 x hx (Or.inl hxi)
  · rw [g2.1 (q + 2) (by omega) (by omega) (by omega)]
    exact H.2.2.2
/-- the steps of a script in its slot -/
def SM (F : Nat → Nat → Int32) (q n : Nat) (l : List mSt) : Prop := F (q + 7) n = nI l.length ∧ ∀ (j : Nat) (e : mSt), l[j]? = some e → StM F q (100 * n + j) e
theorem SM_add {F G : Nat → Nat → Int32} {q n : Nat} {l : List mSt} {e : mSt} (S : SM F q n l) (fr : ∀ b j, q + 8 ≤ b → b ≤ q + 17 → 100 * n ≤ j → j < 100 * n + l.length → G b j = F b j) (hc : G (q + 7) n = nI (l.length + 1)) (he : StM G q (100 * n + l.length) e) : SM G q n (l ++ [e]) := by
  refine ⟨by rw [hc, List.length_append]; rfl, fun j e' hj => ?_⟩
  by_cases c : j < l.length
  · rw [List.getElem?_append_left c] at hj
    exact StM_fr (S.2 j e' hj) (fun b b1 b2 => fr b _ b1 b2 (by omega) (by omega))
  · rw [List.getElem?_append_right (by omega)] at hj
    have hj0 : j = l.length := by
      have h1 := (List.getElem?_eq_some_iff.mp hj).1
      have h2 : j - l.length < 1 := h1
      omega
    subst hj0
    rw [Nat.sub_self] at hj
    have : e = e' := Option.some.inj hj
    rw [← this]
    exact he
theorem SM_k {F G : Nat → Nat → Int32} {q n : Nat} {l : List mSt} (S : SM F q n l) (fr : ∀ b, q + 7 ≤ b → b ≤ q + 17 → G b = F b) : SM G q n l :=
  ⟨by rw [fr (q + 7) (by omega) (by omega)]; exact S.1, fun j e hj => StM_fr (S.2 j e hj) (fun b b1 b2 => by rw [fr b (by omega) (by omega)])⟩
end GD1
