section PFREEZE
/-- a sealed tree's cells show the tree -/
def TrP (F : Nat → Nat → Int32) (a : Nat) (t : mT) (mk : Nat) : Prop :=
  F a 0 = nI (pO t).length ∧
  (∀ x, tIn t x = true → F (a + 2) (pl t x) = nI x ∧ F (a + 4) (pl t x) = tWo t x ∧ F (a + 6) (pl t x) = nO ((tUp t x).map (pl t)) ∧ F (a + 8) (pl t x) = nI (pE t x) ∧ F (a + 10) (pl t x) = nI (rkO t x) ∧
    F (a + 12) (pl t x) = nI (kfO t x) ∧ F (a + 14) (pl t x) = nI (tKi t x).length ∧ ∀ k ∈ tKi t x, F (a + 16) (kfO t x + rkO t k) = nI (pl t k)) ∧
  (∀ m, m < mk → F (a + 18) m = if tIn t m = true then nI (pl t m) else -1)
theorem TrP_k {F G : Nat → Nat → Int32} {a mk : Nat} {t : mT} (h : TrP F a t mk) (hk : ∀ b, a ≤ b → b < a + 19 → G b = F b) : TrP G a t mk := by
  unfold TrP
  rw [hk a (by omega) (by omega), hk (a + 2) (by omega) (by omega), hk (a + 4) (by omega) (by omega), hk (a + 6) (by omega) (by omega), hk (a + 8) (by omega) (by omega), hk (a + 10) (by omega) (by omega), hk (a + 12) (by omega) (by omega), hk (a + 14) (by omega) (by omega), hk (a + 16) (by omega) (by omega), hk (a + 18) (by omega) (by omega)]
  exact h
def EndI (F : Nat → Nat → Int32) (a : Nat) (t : mT) (i : Nat) : Prop := ∀ x, tIn t x = true → ((∃ k, k ∈ tKi t x ∧ i < pl t k) → F (a + 8) (pl t x) = nI (pE t x)) ∧ ((∀ k, k ∈ tKi t x → pl t k ≤ i) → F (a + 8) (pl t x) = nI (pl t x + 1))
def UpI (F : Nat → Nat → Int32) (a : Nat) (t : mT) : Prop := ∀ x, tIn t x = true → F (a + 6) (pl t x) = nO ((tUp t x).map (pl t))
theorem pE_leaf {N : Nat} {t : mT} (hw : tWF N t) {x : Nat} (h : tKi t x = []) : pE t x = pl t x + 1 := by
  unfold pE
  rw [tPo_eq hw.1.2.2.2.1 x, h]
  rfl
theorem pl_kid_lt {N : Nat} {t : mT} (hw : tWF N t) {x k : Nat} (hk : k ∈ tKi t x) : pl t x < pl t k := by
  obtain ⟨K1, K2, e⟩ := List.append_of_mem hk
  rw [pl_ki hw (fKi_p hw.1 hk) e]; omega
theorem pl_kid_ord {N : Nat} {t : mT} (hw : tWF N t) {x k j : Nat} {K1 K2 : List Nat} (e : tKi t x = K1 ++ k :: K2) (hj : j ∈ K2) : pl t k < pl t j := by
  obtain ⟨J1, J2, e2⟩ := List.append_of_mem hj
  have hx : tIn t x = true := fKi_p hw.1 (x := k) (by rw [e]; simp)
  have e3 : tKi t x = (K1 ++ k :: J1) ++ j :: J2 := by rw [e, e2]; simp
  rw [pl_ki hw hx e, pl_ki hw hx e3]
  simp only [List.flatMap_append, List.flatMap_cons, List.length_append]
  have := tPo_eq hw.1.2.2.2.1 k
  rw [this]
  simp only [List.length_cons]
  omega
theorem p_cl93 {h : tpH} {a mk : Nat} {t : mT} (l : lTr h a (pO t).length mk) (hw : tWF 300 t) {R : tpH → Prop} : ∀ (n i : Nat) (F : Nat → Nat → Int32), i < n → i < (pO t).length → UpI F a t → EndI F a t i → (∀ G, EndI G a t 0 → (∀ b, b ≠ a + 8 → G b = F b) → R (wI h G)) → w_Tr_close_93 R n a (nI i) (wI h F) := by
  have hn : (pO t).length ≤ 300 := by rw [pO_len hw]; exact tCn_le t
  have l0 := l.1
  obtain ⟨-, -, -, ⟨a3, b3⟩, ⟨a4, b4⟩, -⟩ := l
  intro n
  induction n with
  | zero => intro i F h; omega
  | succ n ih =>
    intro i F hi hin hu hE k
    show b_Tr_close_93 R (w_Tr_close_93 R n) a (nI i) (wI h F)
    unfold b_Tr_close_93
    simp only [wI_T, wI_R, wI_I, l0, a3, b3.1, a4, b4.1, Option.some.injEq, exists_eq_left', true_and, e_at b3 (show (pO t).length < 2 ^ 31 by omega), e_at b4 (show (pO t).length < 2 ^ 31 by omega), e_put b4 (show (pO t).length < 2 ^ 31 by omega)]
    by_cases c : i = 0
    · subst c
      refine ⟨fun _ => k F hE (fun _ _ => rfl), fun e => absurd (show nI 0 ≤ 0 by rw [nI_0]; exact Int32.le_refl 0) e⟩
    · refine ⟨fun e => absurd e (nI_nle (by omega) (by omega)), fun _ => ?_⟩
      obtain ⟨y, hy, ey⟩ := pl_of hw hin
      have hyr : y ≠ tRt t := fun e => by rw [e, pl_rt hw] at ey; omega
      obtain ⟨p, hp⟩ := Option.ne_none_iff_exists'.mp (hw.2.2.2 y hy hyr)
      have hyk : y ∈ tKi t p := (hw.1.2.1 y p).mpr ⟨hy, hp⟩
      have hpi := fKi_p hw.1 hyk
      have hpl := pl_lt hw hpi
      have e6 := hu y hy
      rw [ey, hp] at e6
      have e6 : F (a + 6) i = nI (pl t p) := e6
      rw [rAt_n hin (by omega), e6, rAt_n hpl (by omega), rAt_n hin (by omega)]
      have v19 : F (a + 8) i = nI (pE t y) := by
        rw [← ey]
        cases ek : tKi t y with
        | nil => rw [(hE y hy).2 (fun k hk => by rw [ek] at hk; simp at hk), pE_leaf hw ek]
        | cons z Z => exact (hE y hy).1 ⟨z, by rw [ek]; simp, by rw [← ey]; exact pl_kid_lt hw (by rw [ek]; simp)⟩
      have hyE := pE_le hw hyk
      have hpE := pE_n hw hpi
      have vm : (if F (a + 8) (pl t p) < F (a + 8) i then F (a + 8) i else F (a + 8) (pl t p)) = nI (pE t p) := by
        rw [v19]
        by_cases c2 : ∃ k, k ∈ tKi t p ∧ i < pl t k
        · rw [(hE p hpi).1 c2]
          rw [if_neg]
          rw [nI_lt_iff (by omega) (by omega)]
          omega
        · have c3 : ∀ k, k ∈ tKi t p → pl t k ≤ i := fun k hk => by
            by_cases c4 : pl t k ≤ i
            · exact c4
            · exact absurd ⟨k, hk, by omega⟩ c2
          rw [(hE p hpi).2 c3]
          obtain ⟨K1, K2, e⟩ := List.append_of_mem hyk
          cases K2 with
          | cons z Z =>
            have := pl_kid_ord hw e (j := z) (by simp)
            have := c3 z (by rw [e]; simp)
            omega
          | nil =>
            rw [pE_last hw hpi e]
            have h5 := pl_kid_lt hw hyk
            by_cases c4 : nI (pl t p + 1) < nI (pE t p)
            · rw [if_pos c4]
            · rw [if_neg c4]
              have h6 : pl t y + 1 ≤ pE t y := by unfold pE; rw [tPo_eq hw.1.2.2.2.1 y]; simp
              rw [nI_lt_iff (by omega) (by omega)] at c4
              rw [pE_last hw hpi e] at h6
              congr 1
              omega
      rw [vm, nI_dn (by omega)]
      have hrow : rPut F (a + 8) (pO t).length (nI (pl t p)) (nI (pE t p)) (a + 8) = mU (F (a + 8)) (pl t p) (nI (pE t p)) := rn_at _ hpl hn
      have hoth : ∀ b, b ≠ a + 8 → rPut F (a + 8) (pO t).length (nI (pl t p)) (nI (pE t p)) b = F b := fun b hb => rw_ne _ hb
      refine ih (i - 1) _ (by omega) (by omega) (fun x hx => by rw [hoth _ (by omega)]; exact hu x hx) (fun x hx => ?_) (fun G g1 g2 => k G g1 (fun b hb => (g2 b hb).trans (hoth b hb)))
      rw [hrow]
      by_cases c5 : x = p
      · subst c5
        rw [mU_s]
        refine ⟨fun _ => rfl, fun h => ?_⟩
        have := h y hyk
        omega
      · rw [mU_n _ _ (fun h => c5 (pl_inj hw hx hpi h))]
        refine ⟨fun ⟨k, hk, hik⟩ => ?_, fun h => (hE x hx).2 (fun k hk => by have := h k hk; omega)⟩
        refine (hE x hx).1 ⟨k, hk, ?_⟩
        by_cases c6 : pl t k = i
        · have e7 := pl_inj hw (fKi_in hw.1 hk).1 hy (by rw [c6, ey])
          rw [e7] at hk
          exact absurd (tUp_of hw.1 hk hyk) c5
        · omega
def KidI (F : Nat → Nat → Int32) (a : Nat) (t : mT) (i : Nat) : Prop := ∀ x, tIn t x = true → ∀ k, k ∈ tKi t x → pl t k < i → F (a + 16) (kfO t x + rkO t k) = nI (pl t k)
theorem p_cl40 {h : tpH} {a mk : Nat} {t : mT} (l : lTr h a (pO t).length mk) (hw : tWF 300 t) {R : tpH → Prop} : ∀ (n i : Nat) (F : Nat → Nat → Int32), (pO t).length < n + i → 1 ≤ i → i ≤ (pO t).length → F a 0 = nI (pO t).length → UpI F a t → (∀ x, tIn t x = true → F (a + 12) (pl t x) = nI (kfO t x)) → (∀ x, tIn t x = true → F (a + 10) (pl t x) = nI (rkO t x)) → EndI F a t ((pO t).length - 1) → KidI F a t i →
    (∀ G, EndI G a t 0 → KidI G a t (pO t).length → (∀ b, b ≠ a + 8 → b ≠ a + 16 → G b = F b) → R (wI h G)) → w_Tr_close_40 R n a (nI i) (wI h F) := by
  have hn : (pO t).length ≤ 300 := by rw [pO_len hw]; exact tCn_le t
  have h93 := @p_cl93 h a mk t l hw R
  have l0 := l.1
  obtain ⟨-, -, -, ⟨a3, b3⟩, -, ⟨a5, b5⟩, ⟨a6, b6⟩, -, ⟨a8, b8⟩, -⟩ := l
  have hb : (pO t).length < 2 ^ 31 := by omega
  intro n
  induction n with
  | zero => intro i F h; omega
  | succ n ih =>
    intro i F hni hi0 hi hc hu hf hr hE hK k
    show b_Tr_close_40 R (w_Tr_close_40 R n) a (nI i) (wI h F)
    unfold b_Tr_close_40
    simp only [wI_T, wI_R, wI_I, l0, a3, b3.1, a5, b5.1, a6, b6.1, a8, b8.1, Option.some.injEq, exists_eq_left', true_and, e_at b3 hb, e_at b5 hb, e_at b6 hb, e_put b8 hb, hc]
    rw [nI3_le (by omega) (by omega)]
    refine ⟨fun e => ?_, fun e => ?_⟩
    · have e1 : i = (pO t).length := by omega
      refine ⟨(pO t).length, ?_⟩
      have e2 : nI (pO t).length - 1 = nI ((pO t).length - 1) := nI_sub2 (b := 1) (by omega)
      rw [e2]
      exact h93 _ _ F (by omega) (by omega) hu hE (fun G g1 g2 => k G g1 (fun x hx k hk _ => by rw [g2 _ (by omega)]; exact hK x hx k hk (by rw [e1]; exact pl_lt hw (fKi_in hw.1 hk).1)) (fun b b1 _ => g2 b b1))
    · have hin : i < (pO t).length := by omega
      obtain ⟨y, hy, ey⟩ := pl_of hw hin
      have hyr : y ≠ tRt t := fun e => by rw [e, pl_rt hw] at ey; omega
      obtain ⟨p, hp⟩ := Option.ne_none_iff_exists'.mp (hw.2.2.2 y hy hyr)
      have hyk : y ∈ tKi t p := (hw.1.2.1 y p).mpr ⟨hy, hp⟩
      have hpi := fKi_p hw.1 hyk
      have hpl := pl_lt hw hpi
      have e6 := hu y hy
      rw [ey, hp] at e6
      have e6 : F (a + 6) i = nI (pl t p) := e6
      have e10 := hr y hy
      rw [ey] at e10
      rw [rAt_n hin hb, e6, rAt_n hpl hb, hf p hpi, rAt_n hin hb, e10, nI_add, nI_1]
      have hle := kfO_le hw hpi
      have hrk := rkO_lt hw hyk
      have hrow : rPut F (a + 16) (pO t).length (nI (kfO t p + rkO t y)) (nI i) (a + 16) = mU (F (a + 16)) (kfO t p + rkO t y) (nI i) := rn_at _ (by omega) hn
      have hoth : ∀ b, b ≠ a + 16 → rPut F (a + 16) (pO t).length (nI (kfO t p + rkO t y)) (nI i) b = F b := fun b hb => rw_ne _ hb
      refine ih (i + 1) _ (by omega) (by omega) (by omega) (by rw [hoth _ (by omega)]; exact hc) (fun x hx => by rw [hoth _ (by omega)]; exact hu x hx) (fun x hx => by rw [hoth _ (by omega)]; exact hf x hx) (fun x hx => by rw [hoth _ (by omega)]; exact hr x hx) (fun x hx => by rw [hoth _ (by omega)]; exact hE x hx) (fun x hx z hz hzi => ?_) (fun G g1 g2 g3 => k G g1 g2 (fun b b1 b2 => (g3 b b1 b2).trans (hoth b b2)))
      rw [hrow]
      by_cases c : z = y
      · subst c
        rw [tUp_of hw.1 hz hyk, mU_s, ey]
      · rw [mU_n _ _ (fun h => c (kid_inj hw hz hyk h))]
        refine hK x hx z hz ?_
        have : pl t z ≠ i := fun h => c (pl_inj hw (fKi_in hw.1 hz).1 hy (by rw [h, ey]))
        omega
theorem p_cl4 {h : tpH} {a mk : Nat} {t : mT} (l : lTr h a (pO t).length mk) (hw : tWF 300 t) {R : tpH → Prop} : ∀ (n : Nat) (A B : List Nat) (F : Nat → Nat → Int32), B.length < n → pO t = A ++ B → F a 0 = nI (pO t).length → FtP F a t mk (pO t) → (∀ x ∈ A, F (a + 12) (pl t x) = nI (kfO t x)) →
    (∀ G, EndI G a t 0 → KidI G a t (pO t).length → (∀ x, tIn t x = true → G (a + 12) (pl t x) = nI (kfO t x)) → (∀ b, b ≠ a + 8 → b ≠ a + 12 → b ≠ a + 16 → G b = F b) → R (wI h G)) → w_Tr_close_4 R n a (nI (kF t A)) (nI A.length) (wI h F) := by
  have hn : (pO t).length ≤ 300 := by rw [pO_len hw]; exact tCn_le t
  have h40 := @p_cl40 h a mk t l hw R
  have l0 := l.1
  obtain ⟨-, -, -, -, -, -, ⟨a6, b6⟩, ⟨a7, b7⟩, -⟩ := l
  have hb : (pO t).length < 2 ^ 31 := by omega
  intro n
  induction n with
  | zero => intro A B F h; omega
  | succ n ih =>
    intro A B F hni e hc hF hA k
    have hl := congrArg List.length e
    rw [List.length_append] at hl
    show b_Tr_close_4 R (w_Tr_close_4 R n) a (nI (kF t A)) (nI A.length) (wI h F)
    unfold b_Tr_close_4
    simp only [wI_T, wI_R, wI_I, l0, a6, b6.1, a7, b7.1, Option.some.injEq, exists_eq_left', true_and, e_at b7 hb, e_put b6 hb, hc]
    rw [nI3_le (by omega) (by omega)]
    have hpos : 1 ≤ (pO t).length := by have := pl_lt hw hw.2.1; omega
    cases B with
    | nil =>
      rw [List.append_nil] at e
      refine ⟨fun _ => ⟨(pO t).length, ?_⟩, fun e2 => absurd (by rw [e]; exact Nat.le_refl _) e2⟩
      refine h40 _ 1 F (by omega) (Nat.le_refl 1) hpos hc (fun x hx => ((hF.1 x ((pO_mem hw).mpr hx)).2.2.1)) (fun x hx => hA x (by rw [← e]; exact (pO_mem hw).mpr hx)) (fun x hx => (hF.1 x ((pO_mem hw).mpr hx)).2.2.2.2) (fun x hx => ⟨fun ⟨k, hk, h2⟩ => ?_, fun _ => (hF.1 x ((pO_mem hw).mpr hx)).2.2.2.1⟩) (fun x hx k hk h2 => ?_) (fun G g1 g2 g3 => k G g1 g2 (fun x hx => ?_) (fun b b1 _ b3 => g3 b b1 b3))
      · have := pl_lt hw (fKi_in hw.1 hk).1
        omega
      · have := pl_kid_lt hw hk
        omega
      · rw [g3 _ (by omega) (by omega)]
        exact hA x (by rw [← e]; exact (pO_mem hw).mpr hx)
    | cons m B =>
      simp only [List.length_cons] at hl hni
      have hi : A.length < (pO t).length := by omega
      have hmi : tIn t m = true := (pO_mem hw).mp (by rw [e]; simp)
      have hpl : pl t m = A.length := pl_mid hw e
      refine ⟨fun h => by omega, fun _ => ?_⟩
      have hrow : rPut F (a + 12) (pO t).length (nI A.length) (nI (kF t A)) (a + 12) = mU (F (a + 12)) A.length (nI (kF t A)) := rn_at _ hi hn
      have hoth : ∀ b, b ≠ a + 12 → rPut F (a + 12) (pO t).length (nI A.length) (nI (kF t A)) b = F b := fun b hb => rw_ne _ hb
      have e14 := hF.2.1 m hmi
      rw [hpl, cK_all hw hmi] at e14
      rw [rAt_n hi hb, hoth _ (by omega), e14, nI_add, nI_1]
      have hFt : FtP (rPut F (a + 12) (pO t).length (nI A.length) (nI (kF t A))) a t mk (pO t) := by
        unfold FtP
        rw [hoth (a + 2) (by omega), hoth (a + 4) (by omega), hoth (a + 6) (by omega), hoth (a + 8) (by omega), hoth (a + 10) (by omega), hoth (a + 14) (by omega), hoth (a + 18) (by omega)]
        exact hF
      have k2 := ih (A ++ [m]) B _ (by omega) (by rw [e]; simp) (by rw [hoth _ (by omega)]; exact hc) hFt (fun x hx => ?_) (fun G g1 g2 g3 g4 => k G g1 g2 g3 (fun b b1 b2 b3 => (g4 b b1 b2 b3).trans (hoth b b2)))
      · rw [kF_app, List.length_append] at k2
        exact k2
      · rw [hrow]
        rcases List.mem_append.mp hx with h2 | h2
        · have hxi : tIn t x = true := (pO_mem hw).mp (by rw [e]; exact List.mem_append_left _ h2)
          have hne : pl t x ≠ A.length := fun h3 => by
            have h4 := pl_inj hw hxi hmi (by rw [h3, hpl])
            have h5 := pO_nd hw
            rw [e] at h5
            exact (List.nodup_append.mp h5).2.2 x h2 m List.mem_cons_self h4
          rw [mU_n _ _ hne]
          exact hA x h2
        · have h2 : x = m := by simpa using h2
          rw [h2, hpl, mU_s, kfO_mid hw e]
theorem p_Tr_close {h : tpH} {a mk : Nat} {t : mT} (l : lTr h a (pO t).length mk) (hw : tWF 300 t) {R : tpH → Prop} {F : Nat → Nat → Int32} (hc : F a 0 = nI (pO t).length) (hF : FtP F a t mk (pO t))
    (k : ∀ G, TrP G a t mk → (∀ b, b ≠ a + 8 → b ≠ a + 12 → b ≠ a + 16 → G b = F b) → R (wI h G)) : w_Tr_close a (wI h F) R := by
  refine ⟨(pO t).length + 1, p_cl4 l hw _ [] (pO t) F (Nat.lt_succ_self _) rfl hc hF (fun x hx => by simp at hx) (fun G g1 g2 g3 g4 => k G ?_ g4)⟩
  refine ⟨by rw [g4 _ (by omega) (by omega) (by omega)]; exact hc, fun x hx => ?_, fun m hm => ?_⟩
  · obtain ⟨f1, f2, f3⟩ := hF
    obtain ⟨q1, q2, q3, q4, q5⟩ := f1 x ((pO_mem hw).mpr hx)
    rw [g4 (a + 2) (by omega) (by omega) (by omega), g4 (a + 4) (by omega) (by omega) (by omega), g4 (a + 6) (by omega) (by omega) (by omega), g4 (a + 10) (by omega) (by omega) (by omega), g4 (a + 14) (by omega) (by omega) (by omega)]
    refine ⟨q1, q2, q3, ?_, q5, g3 x hx, by rw [f2 x hx, cK_all hw hx], fun k hk => g2 x hx k hk (pl_lt hw (fKi_in hw.1 hk).1)⟩
    cases ek : tKi t x with
    | nil => rw [(g1 x hx).2 (fun k hk => by rw [ek] at hk; simp at hk), pE_leaf hw ek]
    | cons z Z => exact (g1 x hx).1 ⟨z, by rw [ek]; simp, by have := pl_kid_lt hw (x := x) (k := z) (by rw [ek]; simp); omega⟩
  · rw [g4 _ (by omega) (by omega) (by omega), hF.2.2 m hm]
    by_cases c : tIn t m = true
    · rw [if_pos c, if_pos ((pO_mem hw).mpr c)]
    · rw [if_neg c, if_neg (fun e => c ((pO_mem hw).mp e))]
end PFREEZE
