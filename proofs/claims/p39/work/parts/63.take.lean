section PTAKE
theorem tCn_ext {t u : mT} (h : ∀ x, tIn t x = tIn u x) : tCn t = tCn u := by
  unfold tCn
  rw [show (fun m => tIn t m) = (fun m => tIn u m) from funext h]
theorem BuP_ext {F : Nat → Nat → Int32} {d : Nat} {t u : mT} (hB : BuP F d t) (h1 : ∀ x, tIn t x = tIn u x) (h2 : ∀ x, tIn u x = true → tWo t x = tWo u x ∧ tUp t x = tUp u x ∧ tKi t x = tKi u x) : BuP F d u := by
  refine ⟨by rw [← tCn_ext h1]; exact hB.1, fun m hm => by rw [← h1]; exact hB.2.1 m hm, fun m hm => ?_⟩
  have h3 := hB.2.2 m (by rw [h1]; exact hm)
  obtain ⟨e1, e2, e3⟩ := h2 m hm
  unfold nodeP at h3 ⊢
  rw [← e1, ← e2, ← e3]
  exact h3
/-- the part of a tree that stands in a list of its marks -/
def tRs (t : mT) (A : List Nat) : mT := (tRt t, tWo t, fun p => A.filter (fun x => decide (tUp t x = some p)), tUp t, fun x => decide (x ∈ A))
theorem tRs_in (t : mT) (A : List Nat) (x : Nat) : tIn (tRs t A) x = true ↔ x ∈ A := by
  show decide (x ∈ A) = true ↔ _
  simp
theorem fRs {N : Nat} {t : mT} (hw : tWF N t) {A B : List Nat} (e : pO t = A ++ B) : fWF N (tRs t A) := by
  have hAi : ∀ x ∈ A, tIn t x = true := fun x hx => (pO_mem hw).mp (by rw [e]; exact List.mem_append_left _ hx)
  have hn := pO_nd hw
  rw [e] at hn
  have hn := (List.nodup_append.mp hn).1
  refine ⟨fun m hm => hw.1.1 m (hAi m ((tRs_in t A m).mp hm)), fun m p => ?_, fun p => hn.filter _, ?_, fun m p hm hp => ?_⟩
  · rw [tRs_in]
    show m ∈ A.filter (fun x => decide (tUp t x = some p)) ↔ m ∈ A ∧ tUp t m = some p
    rw [List.mem_filter]; simp
  · obtain ⟨rk, hrk⟩ := hw.1.2.2.2.1
    refine ⟨rk, fun m p hm => ?_⟩
    have h1 : m ∈ A ∧ decide (tUp t m = some p) = true := List.mem_filter.mp hm
    exact hrk m p ((hw.1.2.1 m p).mpr ⟨hAi m h1.1, by simpa using h1.2⟩)
  · have hm := (tRs_in t A m).mp hm
    have hp : tUp t m = some p := hp
    obtain ⟨X, Y, e2⟩ := List.append_of_mem hm
    have h1 := pl_up hw (A := X) (B := Y ++ B) (by rw [e, e2]; simp) hp
    exact (tRs_in t A p).mpr (by rw [e2]; exact List.mem_append_left _ h1)
theorem low_all {l : List Nat} {m : Nat} (h : ∀ c ∈ l, c < m) : lowA l m = l := by
  unfold lowA
  cases e : l.reverse with
  | nil => rw [← e]; simp_all
  | cons c r =>
    have hc : c ∈ l := List.mem_reverse.mp (by rw [e]; simp)
    have h1 := h c hc
    rw [List.dropWhile_cons_of_neg (by simp; omega), ← e, List.reverse_reverse]
/-- in a loose parent the children ascend -/
def tLo (lo : Nat → Bool) (t : mT) : Prop := ∀ p, tIn t p = true → lo p = true → (tKi t p).Pairwise (· < ·)
theorem bu_rt {F : Nat → Nat → Int32} {d : Nat} {t : mT} (h : BuP F d t) (v : Int32) : BuP (tpu F d 8 v) d t := by
  unfold BuP nodeP
  rw [tpu_j F d 8 d 9 v (by decide), tpu_ne (b := d + 2) (by omega), tpu_ne (b := d + 4) (by omega), tpu_ne (b := d + 6) (by omega), tpu_ne (b := d + 8) (by omega), tpu_ne (b := d + 10) (by omega), tpu_ne (b := d + 12) (by omega), tpu_ne (b := d + 14) (by omega)]
  exact h
def tEm (m : Nat) : mT := (m, fun _ => 0, fun _ => [], fun _ => none, fun _ => false)
def tOne (m : Nat) (w : Int32) : mT := tSpr (tEm m) m w
theorem fEm (N m : Nat) : fWF N (tEm m) := by
  refine ⟨fun x hx => ?_, fun x p => ?_, fun p => List.nodup_nil, ⟨fun _ => 0, fun x p hx => ?_⟩, fun x p hx _ => ?_⟩
  · exact absurd hx (by simp [tEm, tIn])
  · simp [tEm, tIn, tKi, tUp]
  · exact absurd hx (by simp [tEm, tKi])
  · exact absurd hx (by simp [tEm, tIn])
theorem tOne_in (m : Nat) (w : Int32) (x : Nat) : tIn (tOne m w) x = true ↔ x = m := by
  show mU (fun _ => false) m true x = true ↔ _
  by_cases e : x = m
  · rw [e, mU_s]; simp
  · rw [mU_n _ _ e]; simp [e]
theorem wOne {N m : Nat} (hm : m < N) (w : Int32) : tWF N (tOne m w) := by
  refine ⟨fSpr (fEm N m) rfl hm, (tOne_in m w m).mpr rfl, mU_s _ _ _, fun x hx hne => absurd ((tOne_in m w x).mp hx) hne⟩
theorem p_Bu_plant {h : tpH} {d : Nat} {x : Option Nat} (l : lBu h d x) {F : Nat → Nat → Int32} {m : Nat} {w : Int32} (hm : m < 300) {R : tpH → Prop}
    (k : ∀ G, BuP G d (tOne m w) → G d 8 = nI m → (∀ b, b < d ∨ d + 15 ≤ b → G b = F b) → R (wI h G)) : w_Bu_plant d (nI m) w (wI h F) R := by
  have es := @e_Bu_sprout h d x l
  have l0 := l.1
  obtain ⟨-, -, ⟨a1, b1⟩, -⟩ := l
  unfold w_Bu_plant
  refine ⟨l0, d + 1, a1, b1.1, ?_⟩
  refine p_fill (h := wI h F) b1 n300 (Nat.le_refl 300) ?_
  refine ⟨l0, fun h7 e7 => ?_⟩
  have e7 : h7 = wI h (tpu (rFill F (d + 2) 300 0) d 9 0) := e7
  subst e7
  rw [es]
  refine ⟨l0, fun h11 e11 => ?_⟩
  have e11 : h11 = wI h (tpu (uSprout (tpu (rFill F (d + 2) 300 0) d 9 0) d (nI m) w) d 8 (nI m)) := e11
  subst e11
  obtain ⟨s2, s4, s6, s8, s10, s12, s14, s0, so⟩ := spr_at (tpu (rFill F (d + 2) 300 0) d 9 0) (d := d) (w := w) hm
  have h0 : BuP (tpu (rFill F (d + 2) 300 0) d 9 0) d (tEm m) := by
    refine ⟨?_, fun y hy => ?_, fun y hy => absurd hy (by simp [tEm, tIn])⟩
    · rw [tpu_s]
      have : tCn (tEm m) = 0 := by
        unfold tCn
        have e : (fun x => tIn (tEm m) x) = fun _ => false := rfl
        rw [e, List.filter_eq_nil_iff.mpr (fun _ _ => by simp)]; rfl
      rw [this, nI_0]
    · rw [tpu_ne (by omega), rFill_in hy, if_neg (by simp [tEm, tIn])]
  refine k _ (bu_rt (bu_spr h0 (fEm 300 m) hm rfl) _) (tpu_s _ _ _ _) (fun b hb => ?_)
  rw [tpu_ne (by omega), so b (by omega) (by omega) (by omega) (by omega) (by omega) (by omega) (by omega) (by omega), tpu_ne (by omega), rFill_ne (by omega)]
theorem p_tko {h : tpH} {d k a mk : Nat} {t : mT} (l : lBu h d (some k)) (lm : lMa h k) (lt : lTr h a (pO t).length mk) (hdk : k + 5 ≤ d) (hda : d + 15 ≤ a) (hw : tWF 300 t) (hk : mk ≤ 300) (hmk : ∀ m, tIn t m = true → m < mk) {lo : Nat → Bool} (hl : tLo lo t) {R : tpH → Prop} :
    ∀ (n : Nat) (A L : List Nat) (F : Nat → Nat → Int32), L.length < n → pO t = A ++ L → A ≠ [] → TrP F a t mk → (∀ p, tIn t p = true → (F (k + 2) p < 4 ↔ lo p = false)) → BuP F d (tRs t A) → F d 8 = nI (tRt t) →
    (∀ G, BuP G d (tRs t (pO t)) → G d 8 = nI (tRt t) → (∀ b, b < d ∨ d + 15 ≤ b → G b = F b) → R (wI h G)) → w_Bu_takeOver_16 R n d (some a) (nI A.length) (wI h F) := by
  have hn : (pO t).length ≤ 300 := by rw [pO_len hw]; exact tCn_le t
  have hb : (pO t).length < 2 ^ 31 := by omega
  have es := @e_Bu_sprout h d _ l
  have lt0 := lt.1
  have l0 := l.1
  obtain ⟨-, -, -, -, -, -, ⟨a5, b5⟩, -⟩ := id l
  intro n
  induction n with
  | zero => intro A L F h; omega
  | succ n ih =>
    intro A L F hni e hA hT2 hlo hB h8 kk
    have hlen := congrArg List.length e
    rw [List.length_append] at hlen
    show b_Bu_takeOver_16 R (w_Bu_takeOver_16 R n) d (some a) (nI A.length) (wI h F)
    unfold b_Bu_takeOver_16
    refine ⟨a, rfl, lt0, ?_⟩
    rw [wI_I, hT2.1, nI3_le (by omega) (by omega)]
    cases L with
    | nil =>
      rw [List.append_nil] at e
      rw [← e] at hB
      exact ⟨fun _ => kk F hB h8 (fun _ _ => rfl), fun h => absurd (by rw [e]; exact Nat.le_refl _) h⟩
    | cons m L =>
      simp only [List.length_cons] at hlen hni
      have hi : A.length < (pO t).length := by omega
      have hmi : tIn t m = true := (pO_mem hw).mp (by rw [e]; simp)
      have hm3 := hw.1.1 m hmi
      have hpl : pl t m = A.length := pl_mid hw e
      have hmr : m ≠ tRt t := fun e2 => by
        have h1 := pl_rt hw
        rw [← e2, hpl] at h1
        exact hA (List.eq_nil_of_length_eq_zero h1)
      obtain ⟨p, hp⟩ := Option.ne_none_iff_exists'.mp (hw.2.2.2 m hmi hmr)
      have hpA := pl_up hw e hp
      have hpi : tIn t p = true := (pO_mem hw).mp (by rw [e]; exact List.mem_append_left _ hpA)
      have hp3 := hw.1.1 p hpi
      have hppl := pl_lt hw hpi
      have hmA : m ∉ A := fun h => by
        have h2 := pO_nd hw
        rw [e] at h2
        exact (List.nodup_append.mp h2).2.2 m h m List.mem_cons_self rfl
      obtain ⟨q1, q2, q3, -⟩ := hT2.2.1 m hmi
      obtain ⟨r1, -⟩ := hT2.2.1 p hpi
      rw [hpl] at q1 q2 q3
      rw [hp] at q3
      have q3 : F (a + 6) A.length = nI (pl t p) := q3
      refine ⟨fun h => by omega, fun _ => ?_⟩
      rw [e_Tr_markOf lt hn hk, rAt_n hi hb, q1]
      refine ⟨lt0, ?_⟩
      rw [e_Tr_upOf lt hn hk, rAt_n hi hb, q3]
      refine ⟨lt0, ?_⟩
      rw [e_Tr_markOf lt hn hk, rAt_n hppl hb, r1]
      refine ⟨lt0, ?_⟩
      rw [e_Tr_worthOf lt hn hk, rAt_n hi hb, q2]
      refine ⟨l0, ?_⟩
      rw [es]
      have hwA := fRs hw e
      have hmn : tIn (tRs t A) m = false := by
        have : ¬ tIn (tRs t A) m = true := fun h => hmA ((tRs_in t A m).mp h)
        simpa using this
      have hB1 := bu_spr (w := tWo t m) hB hwA hm3 hmn
      have hw1 := fSpr (w := tWo t m) hwA hmn hm3
      obtain ⟨-, -, -, -, -, -, -, s0, so⟩ := spr_at F (d := d) (w := tWo t m) hm3
      have hpm : p ≠ m := fun e2 => hmA (by rw [← e2]; exact hpA)
      have hmi1 : tIn (tSpr (tRs t A) m (tWo t m)) m = true := mU_s _ _ _
      have hpi1 : tIn (tSpr (tRs t A) m (tWo t m)) p = true := (mU_n _ _ hpm).trans ((tRs_in t A p).mpr hpA)
      have hmu1 : tUp (tSpr (tRs t A) m (tWo t m)) m = none := mU_s _ _ _
      have hkp : tKi (tSpr (tRs t A) m (tWo t m)) p = A.filter (fun x => decide (tUp t x = some p)) := mU_n _ _ hpm
      have hkm : tKi (tSpr (tRs t A) m (tWo t m)) m = [] := mU_s _ _ _
      refine ⟨l0, d + 9, a5, b5.1, ?_⟩
      rw [e_at b5 n300, rAt_n hp3 n300]
      have hlast : uSprout F d (nI m) (tWo t m) (d + 10) p = lastO (A.filter (fun x => decide (tUp t x = some p))) := by
        have h1 := seg_head (hB1.2.2 p hpi1).2.2.2.1
        rw [hkp, headO_rev] at h1
        exact h1
      rw [hlast]
      refine ⟨l0, ?_⟩
      -- the place that hang finds
      have hasc : lo p = true → ∀ c ∈ A.filter (fun x => decide (tUp t x = some p)), c < m := fun hlp c hc => by
        have h1 := hl p hpi hlp
        rw [← pO_ki hw hpi, e, List.filter_append, List.filter_cons_of_pos (by simpa using hp)] at h1
        exact (List.pairwise_append.mp h1).2.2 c hc m List.mem_cons_self
      have hgA1 : hgA (lo p) (tKi (tSpr (tRs t A) m (tWo t m)) p) m (A.filter (fun x => decide (tUp t x = some p))) = A.filter (fun x => decide (tUp t x = some p)) := by
        unfold hgA
        split
        · rename_i h1
          rw [hkp, low_all (hasc h1)]
        · rfl
      have hlo1 : uSprout F d (nI m) (tWo t m) (k + 2) p < 4 ↔ lo p = false := by
        rw [so (k + 2) (by omega) (by omega) (by omega) (by omega) (by omega) (by omega) (by omega) (by omega)]
        exact hlo p hpi
      have hc1 : p ∉ tPo (tSpr (tRs t A) m (tWo t m)) m := fun h => by
        rw [tPo_eq hw1.2.2.2.1 m, hkm] at h
        simp at h
        exact hpm h
      obtain ⟨hB2, hf2⟩ := bu_hng hB1 hw1 (B := []) hmi1 hmu1 hpi1 (by rw [hkp, List.append_nil])
      refine p_Bu_hang l lm (BuP_L hB1) hw1 hpi1 hm3 hlo1 ?_
      rw [hgA1]
      have hfr : ∀ b, b < d ∨ d + 15 ≤ b → uHang (uSprout F d (nI m) (tWo t m)) d (nI m) (nI p) (lastO (A.filter (fun x => decide (tUp t x = some p)))) b = F b := fun b hb => by
        rw [hf2 b (by omega) (by omega) (by omega) (by omega) (by omega), so b (by omega) (by omega) (by omega) (by omega) (by omega) (by omega) (by omega) (by omega)]
      have hd8 : uHang (uSprout F d (nI m) (tWo t m)) d (nI m) (nI p) (lastO (A.filter (fun x => decide (tUp t x = some p)))) d 8 = nI (tRt t) := by
        rw [hf2 d (by omega) (by omega) (by omega) (by omega) (by omega), s0, mU_n _ _ (by decide)]
        exact h8
      have k2 := ih (A ++ [m]) L _ (by omega) (by rw [e]; simp) (by simp) (TrP_k hT2 (fun b b1 b2 => hfr b (by omega))) (fun q hq => by rw [hfr (k + 2) (by omega)]; exact hlo q hq) (BuP_ext hB2 (fun x => ?_) (fun x hx => ?_)) hd8 (fun G g1 g2 g3 => kk G g1 g2 (fun b hb => (g3 b hb).trans (hfr b hb)))
      · rw [List.length_append] at k2
        rw [nI_1]
        exact k2
      · show mU (fun y => decide (y ∈ A)) m true x = decide (x ∈ A ++ [m])
        by_cases c : x = m
        · rw [c, mU_s]; simp
        · rw [mU_n _ _ c]; simp [c]
      · have hx := (tRs_in t (A ++ [m]) x).mp hx
        refine ⟨?_, ?_, ?_⟩
        · show mU (tWo t) m (tWo t m) x = tWo t x
          by_cases c : x = m
          · rw [c, mU_s]
          · rw [mU_n _ _ c]
        · show mU (mU (tUp t) m none) m (some p) x = tUp t x
          by_cases c : x = m
          · rw [c, mU_s, hp]
          · rw [mU_n _ _ c, mU_n _ _ c]
        · show mU (mU (fun q => A.filter (fun y => decide (tUp t y = some q))) m []) p (A.filter (fun y => decide (tUp t y = some p)) ++ [m]) x = (A ++ [m]).filter (fun y => decide (tUp t y = some x))
          rw [List.filter_append]
          by_cases c : x = p
          · rw [c, mU_s, List.filter_cons_of_pos (by simpa using hp)]; rfl
          · have hxp : ¬ tUp t m = some x := fun h => c (Option.some.inj (h.symm.trans hp))
            rw [mU_n _ _ c, List.filter_cons_of_neg (by simpa using hxp)]
            by_cases c2 : x = m
            · rw [c2, mU_s]
              have : A.filter (fun y => decide (tUp t y = some m)) = [] := List.filter_eq_nil_iff.mpr (fun y hy => by
                simp only [decide_eq_true_eq]
                intro hu
                obtain ⟨X, Y, e2⟩ := List.append_of_mem hy
                have h3 := pl_up hw (A := X) (B := Y ++ m :: L) (by rw [e, e2]; simp) hu
                exact hmA (by rw [e2]; exact List.mem_append_left _ h3))
              rw [this]; rfl
            · rw [mU_n _ _ c2, List.filter_nil, List.append_nil]
theorem p_Bu_takeOver {h : tpH} {d k a mk : Nat} {t : mT} (l : lBu h d (some k)) (lm : lMa h k) (lt : lTr h a (pO t).length mk) (hdk : k + 5 ≤ d) (hda : d + 15 ≤ a) (hw : tWF 300 t) (hk : mk ≤ 300) (hmk : ∀ m, tIn t m = true → m < mk) {lo : Nat → Bool} (hl : tLo lo t) {R : tpH → Prop} {F : Nat → Nat → Int32} (hT2 : TrP F a t mk) (hlo : ∀ p, tIn t p = true → (F (k + 2) p < 4 ↔ lo p = false))
    (kk : ∀ G, BuP G d t → G d 8 = nI (tRt t) → (∀ b, b < d ∨ d + 15 ≤ b → G b = F b) → R (wI h G)) : w_Bu_takeOver d (some a) (wI h F) R := by
  have hn : (pO t).length ≤ 300 := by rw [pO_len hw]; exact tCn_le t
  have hb : (pO t).length < 2 ^ 31 := by omega
  have hr3 := hw.1.1 _ hw.2.1
  have hpos := pl_lt hw hw.2.1
  rw [pl_rt hw] at hpos
  obtain ⟨q1, q2, -⟩ := hT2.2.1 _ hw.2.1
  rw [pl_rt hw] at q1 q2
  refine ⟨a, rfl, lt.1, ?_⟩
  rw [← nI_0, e_Tr_markOf lt hn hk, rAt_n hpos hb, q1]
  refine ⟨lt.1, ?_⟩
  rw [e_Tr_worthOf lt hn hk, rAt_n hpos hb, q2]
  refine ⟨l.1, p_Bu_plant l hr3 (fun G g1 g2 g3 => ⟨(pO t).length, ?_⟩)⟩
  obtain ⟨L, e⟩ : ∃ L, pO t = [tRt t] ++ L := ⟨_, tPo_eq hw.1.2.2.2.1 _⟩
  have hlen := congrArg List.length e
  rw [List.length_append] at hlen
  simp only [List.length_singleton] at hlen
  refine p_tko l lm lt hdk hda hw hk hmk hl _ [tRt t] L G (by omega) e (by simp) (TrP_k hT2 (fun b b1 b2 => g3 b (by omega))) (fun p hp => by rw [g3 (k + 2) (by omega)]; exact hlo p hp) (BuP_ext g1 (fun x => ?_) (fun x hx => ?_)) g2 (fun G' g4 g5 g6 => kk G' (BuP_ext g4 (fun x => ?_) (fun x hx => ⟨rfl, rfl, pO_ki hw hx⟩)) g5 (fun b hb => (g6 b hb).trans (g3 b hb)))
  · show mU (fun _ => false) (tRt t) true x = decide (x ∈ [tRt t])
    by_cases c : x = tRt t
    · rw [c, mU_s]; simp
    · rw [mU_n _ _ c]; simp [c]
  · have hx : x = tRt t := by have := (tRs_in t [tRt t] x).mp hx; simpa using this
    subst hx
    refine ⟨mU_s _ _ _, (mU_s _ _ _).trans hw.2.2.1.symm, ?_⟩
    show mU (fun _ => []) (tRt t) [] (tRt t) = [tRt t].filter (fun y => decide (tUp t y = some (tRt t)))
    rw [mU_s, List.filter_cons_of_neg (by rw [hw.2.2.1]; simp)]; rfl
  · have h1 := tRs_in t (pO t) x
    rw [pO_mem hw] at h1
    cases e1 : tIn (tRs t (pO t)) x <;> cases e2 : tIn t x <;> simp_all
end PTAKE
