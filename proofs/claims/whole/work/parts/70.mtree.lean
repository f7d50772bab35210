section MMTREE
/-! the reference's trees: what its small methods read -/
theorem md_f {h : tpH} {Q q : Nat} (M : lMd h Q q) {j kd n f : Nat} (e : mdT[j]? = some (kd, n, f)) : hT h (q + j) = kd ∧ hL h (q + j) = n ∧ hR h Q f = some (q + j) := M.2 j _ e
theorem mI_mul (a : Nat) : ∀ b : Nat, nI a * nI b = nI (a * b)
  | 0 => by rw [nI_0, Int32.mul_zero, Nat.mul_zero, nI_0]
  | b + 1 => by rw [← nI_1, Int32.mul_add, mI_mul a b, Int32.mul_one, nI_add, Nat.mul_succ]
theorem ix_e (s m : Nat) : (300 : Int32) * nI s + nI m = nI (300 * s + m) := by
  have e : (300 : Int32) = nI 300 := rfl
  rw [e, mI_mul, nI_add]
theorem ix_l {s m : Nat} (hs : s < 42) (hm : m < 300) : 300 * s + m < 12600 := by omega
theorem ix_v {s m : Nat} (hs : s < 42) (hm : m < 300) : vp_in (nI (300 * s + m)) 12600 := vp_in_nI (ix_l hs hm) (by decide)
theorem ix_c {s m : Nat} (hs : s < 42) (hm : m < 300) : (nI (300 * s + m)).toNatClampNeg = 300 * s + m := nI_clamp (by omega)
theorem ix_inj {s m x : Nat} (h : 300 * s + m = 300 * s + x) : m = x := by omega
theorem ix_ne {s s' m x : Nat} (hm : m < 300) (hx : x < 300) (h : s ≠ s') : 300 * s + m ≠ 300 * s' + x := by omega
theorem e_Md_parentIn {h : tpH} {Q q s m : Nat} (M : lMd h Q q) (hs : s < 42) (hm : m < 300) (F : Nat → Nat → Int32) (R : Int32 → tpH → Prop) : w_Md_parentIn Q (nI s) (nI m) (wI h F) R = R (F (q + 3) (300 * s + m)) (wI h F) := by
  obtain ⟨k1, k2, k3⟩ := md_f M (j := 3) (kd := 15) (n := 12600) (f := 6) (by decide)
  unfold w_Md_parentIn
  simp only [wI_T, wI_R, wI_I, wI_L, M.1, k1, k2, k3, Option.some.injEq, exists_eq_left', true_and, ix_e, ix_v hs hm, ix_c hs hm]
theorem e_Md_valueIn {h : tpH} {Q q s m : Nat} (M : lMd h Q q) (hs : s < 42) (hm : m < 300) (F : Nat → Nat → Int32) (R : Int32 → tpH → Prop) : w_Md_valueIn Q (nI s) (nI m) (wI h F) R = R (F (q + 4) (300 * s + m)) (wI h F) := by
  obtain ⟨k1, k2, k3⟩ := md_f M (j := 4) (kd := 15) (n := 12600) (f := 7) (by decide)
  unfold w_Md_valueIn
  simp only [wI_T, wI_R, wI_I, wI_L, M.1, k1, k2, k3, Option.some.injEq, exists_eq_left', true_and, ix_e, ix_v hs hm, ix_c hs hm]
theorem e_Md_firstIn {h : tpH} {Q q s m : Nat} (M : lMd h Q q) (hs : s < 42) (hm : m < 300) (F : Nat → Nat → Int32) (R : Int32 → tpH → Prop) : w_Md_firstIn Q (nI s) (nI m) (wI h F) R = R (F (q + 5) (300 * s + m)) (wI h F) := by
  obtain ⟨k1, k2, k3⟩ := md_f M (j := 5) (kd := 15) (n := 12600) (f := 8) (by decide)
  unfold w_Md_firstIn
  simp only [wI_T, wI_R, wI_I, wI_L, M.1, k1, k2, k3, Option.some.injEq, exists_eq_left', true_and, ix_e, ix_v hs hm, ix_c hs hm]
theorem e_Md_nextIn {h : tpH} {Q q s m : Nat} (M : lMd h Q q) (hs : s < 42) (hm : m < 300) (F : Nat → Nat → Int32) (R : Int32 → tpH → Prop) : w_Md_nextIn Q (nI s) (nI m) (wI h F) R = R (F (q + 6) (300 * s + m)) (wI h F) := by
  obtain ⟨k1, k2, k3⟩ := md_f M (j := 6) (kd := 15) (n := 12600) (f := 9) (by decide)
  unfold w_Md_nextIn
  simp only [wI_T, wI_R, wI_I, wI_L, M.1, k1, k2, k3, Option.some.injEq, exists_eq_left', true_and, ix_e, ix_v hs hm, ix_c hs hm]
theorem e_Md_isOrdered {h : tpH} {Q q m : Nat} (M : lMd h Q q) (hm : m < 300) (F : Nat → Nat → Int32) (R : Int32 → tpH → Prop) : w_Md_isOrdered Q (nI m) (wI h F) R = R (if F q m < 4 then 1 else 0) (wI h F) := by
  obtain ⟨k1, k2, k3⟩ := md_f M (j := 0) (kd := 15) (n := 300) (f := 1) (by decide)
  have v : vp_in (nI m) 300 := vp_in_nI hm (by decide)
  unfold w_Md_isOrdered
  simp only [Nat.add_zero] at k1 k2 k3
  simp only [wI_T, wI_R, wI_I, wI_L, M.1, k1, k2, k3, Option.some.injEq, exists_eq_left', true_and, v, nI_clamp (show m < 2 ^ 31 by omega)]
  by_cases c : F q m < 4
  · have c2 : ¬ (4 : Int32) ≤ F q m := fun e => by rw [Int32.le_iff_toInt_le] at e; rw [Int32.lt_iff_toInt_lt] at c; omega
    simp [c, c2]
  · have c2 : (4 : Int32) ≤ F q m := by rw [Int32.le_iff_toInt_le]; rw [Int32.lt_iff_toInt_lt] at c; omega
    simp [c, c2]
/-- the reference's tree in a slot; a mark that hangs nowhere tells nothing of a parent -/
def nodeM (F : Nat → Nat → Int32) (q s : Nat) (t : mT) (x : Nat) : Prop :=
  F (q + 4) (300 * s + x) = tWo t x ∧ (∀ p, tUp t x = some p → F (q + 3) (300 * s + x) = nI p) ∧ seg (fun y => F (q + 6) (300 * s + y)) (F (q + 5) (300 * s + x)) (tKi t x) (-1)
def MtL (F : Nat → Nat → Int32) (q s : Nat) (t : mT) : Prop := ∀ x, tIn t x = true → nodeM F q s t x
def MtP (F : Nat → Nat → Int32) (q s : Nat) (t : mT) : Prop :=
  MtL F q s t ∧ (F (q + 3) (300 * s + tRt t) = -1 ∧ F (q + 6) (300 * s + tRt t) = -1) ∧ (∀ m, m < 300 → tIn t m = false → F (q + 3) (300 * s + m) = -2) ∧ F (q + 2) s = nI (tRt t)
/-! counting children -/
theorem p_cMany {h : tpH} {Q q s : Nat} (M : lMd h Q q) (hs : s < 42) {F : Nat → Nat → Int32} {R : Int32 → tpH → Prop} {x2 : Int32} : ∀ (n : Nat) (L : List Nat) (i : Nat) (v : Int32), seg (fun y => F (q + 6) (300 * s + y)) v L (-1) → (∀ x ∈ L, x < 300) → L.length < n → R (nI (i + L.length)) (wI h F) → w_Md_childMany_10 R n Q (nI s) (nI i) v (wI h F) := by
  intro n
  induction n with
  | zero => intro L i v _ _ h; omega
  | succ n ih =>
    intro L i v hv h3 hn k
    show b_Md_childMany_10 R (w_Md_childMany_10 R n) Q (nI s) (nI i) v (wI h F)
    cases L with
    | nil =>
      have hv : v = -1 := hv
      subst hv
      exact ⟨fun _ => k, fun e => absurd rfl e⟩
    | cons c L =>
      obtain ⟨e, hv⟩ := hv
      subst e
      have hc := h3 c List.mem_cons_self
      simp only [List.length_cons] at hn k
      refine ⟨fun e => absurd e (nI_ne_m (by omega)), fun _ => ⟨M.1, ?_⟩⟩
      rw [e_Md_nextIn M hs hc, nI_1]
      exact ih L (i + 1) _ hv (fun x hx => h3 x (List.mem_cons_of_mem _ hx)) (by omega) (by rw [show i + 1 + L.length = i + (L.length + 1) by omega]; exact k)
theorem p_Md_childMany {h : tpH} {Q q s : Nat} (M : lMd h Q q) (hs : s < 42) {F : Nat → Nat → Int32} {t : mT} (hL : MtL F q s t) (hw : fWF 300 t) {p : Nat} (hp : tIn t p = true) {R : Int32 → tpH → Prop} (k : R (nI (tKi t p).length) (wI h F)) : w_Md_childMany Q (nI s) (nI p) (wI h F) R := by
  refine ⟨M.1, ?_⟩
  rw [e_Md_firstIn M hs (hw.1 p hp)]
  exact ⟨(tKi t p).length + 1, p_cMany M hs (x2 := 0) _ (tKi t p) 0 _ (hL p hp).2.2 (fun x hx => hw.1 x (fKi_in hw hx).1) (Nat.lt_succ_self _) (by rw [Nat.zero_add]; exact k)⟩
/-! the child ahead of a place -/
theorem p_sib {h : tpH} {Q q s m : Nat} (M : lMd h Q q) (hs : s < 42) (hm : m < 300) {F : Nat → Nat → Int32} {R : Int32 → tpH → Prop} : ∀ (n : Nat) (L K A : List Nat) (v : Int32), seg (fun y => F (q + 6) (300 * s + y)) v (L ++ m :: K) (-1) → (∀ x ∈ L, x < 300 ∧ x ≠ m) → L.length < n → R (lastO (A ++ L)) (wI h F) → w_Md_sibling_23 R n Q (nI s) (nI m) (lastO A) v (wI h F) := by
  intro n
  induction n with
  | zero => intro L K A v _ _ h; omega
  | succ n ih =>
    intro L K A v hv h3 hn k
    show b_Md_sibling_23 R (w_Md_sibling_23 R n) Q (nI s) (nI m) (lastO A) v (wI h F)
    cases L with
    | nil =>
      obtain ⟨e, -⟩ := hv
      subst e
      rw [List.append_nil] at k
      exact ⟨fun _ => k, fun e => absurd rfl e⟩
    | cons c L =>
      obtain ⟨e, hv⟩ := hv
      subst e
      obtain ⟨hc, hcm⟩ := h3 c List.mem_cons_self
      simp only [List.length_cons] at hn
      refine ⟨fun e => absurd (nI_inj (by omega) (by omega) e) hcm, fun _ => ⟨M.1, ?_⟩⟩
      rw [e_Md_nextIn M hs hc]
      have k2 := ih L K (A ++ [c]) _ hv (fun x hx => h3 x (List.mem_cons_of_mem _ hx)) (by omega) (by rw [List.append_assoc]; exact k)
      rw [lastO_app] at k2
      exact k2
theorem p_Md_sibling {h : tpH} {Q q s : Nat} (M : lMd h Q q) (hs : s < 42) {F : Nat → Nat → Int32} {t : mT} (hL : MtL F q s t) (hw : fWF 300 t) {p m : Nat} {A B : List Nat} (e : tKi t p = A ++ m :: B) {R : Int32 → tpH → Prop} (k : R (lastO A) (wI h F)) : w_Md_sibling Q (nI s) (nI p) (nI m) 1 (wI h F) R := by
  have hmk : m ∈ tKi t p := by rw [e]; simp
  have hp := fKi_p hw hmk
  have hm3 := hw.1 m (fKi_in hw hmk).1
  refine ⟨fun _ => ⟨M.1, ?_⟩, fun e => absurd e (by decide)⟩
  rw [e_Md_firstIn M hs (hw.1 p hp)]
  have h1 := (hL p hp).2.2
  rw [e] at h1
  have hn := hw.2.2.1 p
  rw [e] at hn
  exact ⟨A.length + 1, p_sib M hs hm3 _ A B [] _ h1 (fun x hx => ⟨hw.1 x (fKi_in hw (p := p) (by rw [e]; exact List.mem_append_left _ hx)).1, fun e2 => (List.nodup_append.mp hn).2.2 x hx m List.mem_cons_self e2⟩) (Nat.lt_succ_self _) k⟩
/-! within -/
theorem p_mWi {h : tpH} {Q q s top : Nat} (M : lMd h Q q) (hs : s < 42) {F : Nat → Nat → Int32} {t : mT} (hL : MtL F q s t) (hw : fWF 300 t) (hr : F (q + 3) (300 * s + tRt t) = -1) (hrt : ∀ m, tIn t m = true → tUp t m = none → m = tRt t ∨ m = top) (ht : top < 300) {R : Int32 → tpH → Prop} : ∀ (n : Nat) (V : List Nat) (o : Option Nat), (∀ c, o = some c → tIn t c = true ∧ upV t V c) → V.length ≤ tCn t → tCn t < n + V.length → R (if ∃ c, o = some c ∧ c ∈ tPo t top then 1 else 0) (wI h F) → w_Md_isWithin_3 R n Q (nI s) (nI top) (nO o) (wI h F) := by
  intro n
  induction n with
  | zero => intro V o _ h1 h2; omega
  | succ n ih =>
    intro V o ho hV hn k
    show b_Md_isWithin_3 R (w_Md_isWithin_3 R n) Q (nI s) (nI top) (nO o) (wI h F)
    cases o with
    | none =>
      rw [if_neg (by simp)] at k
      have hne : ¬ (nO none) = nI top := fun e => nI_ne_m (k := top) (by omega) e.symm
      exact ⟨fun e => absurd e hne, fun _ => ⟨fun _ => ⟨fun _ => k, fun e => absurd e hne⟩, fun e => absurd rfl e⟩⟩
    | some c =>
      obtain ⟨hc, hu⟩ := ho c rfl
      have hb := upV_bd hw hc hu
      have hc3 := hw.1 c hc
      refine ⟨fun e => ?_, fun e => ⟨fun e => absurd e (nI_ne_m (by omega)), fun _ => ⟨M.1, ?_⟩⟩⟩
      · have e2 : c = top := nI_inj (by omega) (by omega) e
        rw [if_pos ⟨c, rfl, by rw [e2]; exact tPo_self hw.2.2.2.1 _⟩] at k
        exact ⟨fun e3 => absurd e e3, fun _ => k⟩
      · have hct : c ≠ top := fun e2 => e (by rw [e2]; rfl)
        show w_Md_parentIn Q (nI s) (nI c) (wI h F) _
        rw [e_Md_parentIn M hs hc3]
        have hpar : F (q + 3) (300 * s + c) = nO (tUp t c) := by
          cases eu : tUp t c with
          | some p => exact (hL c hc).2.1 p eu
          | none =>
            rcases hrt c hc eu with e3 | e3
            · rw [e3]; exact hr
            · exact absurd e3 hct
        rw [hpar]
        refine ih (c :: V) (tUp t c) (fun p hp => ?_) (by simpa using hb) (by simp; omega) ?_
        · have hk : c ∈ tKi t p := (hw.2.1 c p).mpr ⟨hc, hp⟩
          exact ⟨fKi_p hw hk, upV_st hw hk hu⟩
        · have e3 : (∃ p, tUp t c = some p ∧ p ∈ tPo t top) ↔ ∃ q, some c = some q ∧ q ∈ tPo t top := by
            constructor
            · rintro ⟨p, hp, hpt⟩
              exact ⟨c, rfl, tPo_kid hw.2.2.2.1 ((hw.2.1 c p).mpr ⟨hc, hp⟩) _ hpt⟩
            · rintro ⟨q, e4, hq⟩
              rw [← Option.some.inj e4] at hq
              rcases tPo_up hw.2.2.2.1 _ hq with e5 | ⟨p, hp, hpt⟩
              · exact absurd e5 hct
              · exact ⟨p, (fKi_in hw hp).2, hpt⟩
          by_cases c4 : ∃ q, some c = some q ∧ q ∈ tPo t top
          · rw [if_pos (e3.mpr c4)]; rw [if_pos c4] at k; exact k
          · rw [if_neg (fun e => c4 (e3.mp e))]; rw [if_neg c4] at k; exact k
theorem p_Md_isWithin {h : tpH} {Q q s : Nat} (M : lMd h Q q) (hs : s < 42) {F : Nat → Nat → Int32} {t : mT} (hL : MtL F q s t) (hw : fWF 300 t) {m top : Nat} (hr : F (q + 3) (300 * s + tRt t) = -1) (hrt : ∀ m, tIn t m = true → tUp t m = none → m = tRt t ∨ m = top) (hm : tIn t m = true) (ht : top < 300) {R : Int32 → tpH → Prop} (k : R (if m ∈ tPo t top then 1 else 0) (wI h F)) : w_Md_isWithin Q (nI s) (nI m) (nI top) (wI h F) R := by
  refine ⟨tCn t + 1, p_mWi M hs hL hw hr hrt ht _ [] (some m) (fun c e => ?_) (Nat.zero_le _) (by simp) ?_⟩
  · rw [← Option.some.inj e]
    exact ⟨hm, List.nodup_nil, fun v hv => by simp at hv⟩
  · by_cases c : m ∈ tPo t top
    · rw [if_pos ⟨m, rfl, c⟩]; rw [if_pos c] at k; exact k
    · rw [if_neg (fun ⟨q, e, hq⟩ => c (by rw [Option.some.inj e]; exact hq))]; rw [if_neg c] at k; exact k
end MMTREE
