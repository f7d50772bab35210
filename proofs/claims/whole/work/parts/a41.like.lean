section LIKE
theorem rr_zero (s : Bool) (b : Nat) (e : Int) : Jvm.FP.Core.roundRatio Jvm.FP.Core.b32 s 0 b e = Jvm.FP.Core.Datum.fin s 0 Jvm.FP.Core.b32.qmin := by
  unfold Jvm.FP.Core.roundRatio
  rw [if_pos rfl]
def fChk (m : Nat) : Bool := match Jvm.FP.Core.roundRatio Jvm.FP.Core.b32 false m 1 0 with
  | .fin s c _ => !s && c != 0
  | _ => false
theorem fChk_all : (List.range 600).all (fun m => m == 0 || fChk m) = true := by decide +kernel
theorem fI_pos {m : Nat} (h : m < 600) (h0 : m ≠ 0) : ∃ c q, Jvm.FP.Core.val32 (fI m) = Jvm.FP.Core.Datum.fin false c q ∧ c ≠ 0 := by
  have a := List.all_eq_true.mp fChk_all m (List.mem_range.mpr h)
  have b : fChk m = true := by
    rcases (Bool.or_eq_true _ _).mp a with g | g
    · exact absurd (by simpa using g) h0
    · exact g
  obtain ⟨_, _, e, _⟩ := fI_ok (n := m) (by omega)
  rw [e]
  unfold fChk at b
  cases r : Jvm.FP.Core.roundRatio Jvm.FP.Core.b32 false m 1 0 with
  | nan => rw [r] at b; simp at b
  | inf s => rw [r] at b; simp at b
  | fin s c q =>
    rw [r] at b
    simp only [Bool.and_eq_true, Bool.not_eq_true', bne_iff_ne] at b
    exact ⟨c, q, by rw [b.1], b.2⟩
theorem q_ff (s s' : Bool) (c d : Nat) (q r : Int) (hd : d ≠ 0) : Jvm.FP.Core.quotient Jvm.FP.Core.b32 (Jvm.FP.Core.Datum.fin s c q) (Jvm.FP.Core.Datum.fin s' d r) = Jvm.FP.Core.roundRatio Jvm.FP.Core.b32 (s != s') c d (q - r) := if_neg hd
theorem fq_ok {n m : Nat} (hn : n < 2 ^ 31) (hm : m < 600) (h0 : m ≠ 0) : vf_n32 (FP.fdiv (fI n) (fI m)) := by
  refine vf_ok ?_
  show Jvm.FP.Core.val32 (Jvm.FP.Core.fdiv (fI n) (fI m)) ≠ _
  obtain ⟨c, q, e, hc⟩ := fI_pos hm h0
  obtain ⟨_, _, e2, _⟩ := fI_ok hn
  rw [Jvm.FP.Core.val32_fdiv, e, e2]
  cases r : Jvm.FP.Core.roundRatio Jvm.FP.Core.b32 false n 1 0 with
  | nan => exact absurd r (rr_nn _ _ _ _)
  | inf s => intro g; cases g
  | fin s c' q' =>
    rw [q_ff _ _ _ _ _ _ hc]
    exact rr_nn _ _ _ _
theorem fq_zero {m : Nat} (hm : m < 600) (h0 : m ≠ 0) : FP.fdiv (fI 0) (fI m) = FP.fconst0 := by
  obtain ⟨c, q, e, hc⟩ := fI_pos hm h0
  obtain ⟨_, _, e2, _⟩ := fI_ok (n := 0) (by decide)
  have ev : Jvm.FP.Core.val32 (Jvm.FP.Core.fdiv (fI 0) (fI m)) = Jvm.FP.Core.Datum.fin false 0 Jvm.FP.Core.b32.qmin := by
    rw [Jvm.FP.Core.val32_fdiv, e, e2, rr_zero, q_ff _ _ _ _ _ _ hc]
    exact rr_zero _ _ _
  have e0 : Jvm.FP.Core.val32 FP.fconst0 = Jvm.FP.Core.Datum.fin false 0 Jvm.FP.Core.b32.qmin := by decide +kernel
  exact Jvm.FP.Core.val32_inj (by rw [ev]; intro g; cases g) (ev.trans e0.symm)
/-! likeness as mathematics -/
theorem cmB_iff {t u : mT} {P : mP} {x y z : Nat} : cmB t u P x y z = true ↔ cmP t u P x y z := @decide_eq_true_iff _ (Classical.propDecidable _)
theorem ls_stay {kd idn : Nat → Int32} {t u : mT} {P : mP} {x : Nat} : ∀ (l : List Nat) (s : Option Nat × UInt32), (∀ y ∈ l, (mayB kd idn P x y && gtB (lkM t u P x y) s.2) = false) → l.foldl (lsS kd idn t u P x) s = s
  | [], s, h => rfl
  | y :: l, s, h => by
    rw [List.foldl_cons]
    have e : lsS kd idn t u P x s y = s := by
      unfold lsS
      rw [if_neg (by rw [h y List.mem_cons_self]; decide)]
    rw [e]
    exact ls_stay l s (fun z hz => h z (List.mem_cons_of_mem _ hz))
theorem blw_le {t : mT} (hw : tWF 300 t) {x : Nat} (hx : tIn t x = true) : blw t x + 1 = (tPo t x).length ∧ pE t x = pl t x + 1 + blw t x ∧ blw t x < 300 := by
  have h1 : (tPo t x).length ≠ 0 := by rw [tPo_eq hw.1.2.2.2.1, List.length_cons]; omega
  have h2 := pE_n hw hx
  have h3 := pO_le hw
  unfold blw
  unfold pE at h2 ⊢
  omega
theorem cC_le {t u : mT} (hw : tWF 300 t) (P : mP) (x y : Nat) : cC t u P x y ≤ 300 := Nat.le_trans (List.length_filter_le _ _) (pO_le hw)
theorem cC_leaf {t u : mT} (hw : tWF 300 t) (P : mP) {x y : Nat} (h : tKi t x = []) : cC t u P x y = 0 := by
  unfold cC
  have : (pO t).filter (cmB t u P x y) = [] := List.filter_eq_nil_iff.mpr (fun z hz e => by
    obtain ⟨q1, q2, _⟩ := cmB_iff.mp e
    rw [tPo_eq hw.1.2.2.2.1, h] at q2
    exact q1 (by simpa using q2))
  rw [this]
  rfl
theorem gt_zero (b : UInt32) : gtB FP.fconst0 b = false := by
  unfold gtB
  have : decide ((Op.cmpValue (FP.fcmp FP.fconst0 (1056964608 : UInt32)) .l) < 0) = true := by decide +kernel
  rw [this]
  rfl
theorem be_skip {kd idn : Nat → Int32} {t u : mT} (hw : tWF 300 t) (hu : tWF 300 u) {P : mP} {x : Nat} (hx : tIn t x = true) (h : P.1 x ≠ none ∨ tKi t x = []) : beS kd idn t u P x = P := by
  unfold beS lsK
  rw [ls_stay]
  · rfl
  · intro y hy
    rcases h with h | h
    · unfold mayB
      rw [decide_eq_false h]
      rfl
    · have e : lkM t u P x y = FP.fconst0 := by
        unfold lkM
        by_cases c : blw t x + blw u y = 0
        · rw [if_pos c]
        · rw [if_neg c, cC_leaf hw P h]
          have b1 := (blw_le hw hx).2.2
          have b2 := (blw_le hu ((pO_mem hu).mp hy)).2.2
          exact fq_zero (by omega) c
      rw [e, gt_zero, Bool.and_false]
/-! places that are hit -/
def hitP (t u : mT) (P : mP) (x j : Nat) : Prop := ∃ z w, tIn t z = true ∧ pl t x < pl t z ∧ pl t z < pE t x ∧ P.1 z = some w ∧ pl u w = j
noncomputable def hitB (t u : mT) (P : mP) (x j : Nat) : Bool := @decide (hitP t u P x j) (Classical.propDecidable _)
theorem hitB_iff {t u : mT} {P : mP} {x j : Nat} : hitB t u P x j = true ↔ hitP t u P x j := @decide_eq_true_iff _ (Classical.propDecidable _)
noncomputable def cH (t u : mT) (P : mP) (x i : Nat) : Nat := ((List.range i).filter (hitB t u P x)).length
theorem cH_s (t u : mT) (P : mP) (x i : Nat) : cH t u P x (i + 1) = cH t u P x i + (if hitB t u P x i = true then 1 else 0) := by
  unfold cH
  rw [List.range_succ, List.filter_append, List.length_append]
  congr 1
  by_cases c : hitB t u P x i = true
  · rw [if_pos c, List.filter_cons_of_pos c]; rfl
  · rw [if_neg c, List.filter_cons_of_neg c]; rfl
theorem cH_le (t u : mT) (P : mP) (x i : Nat) : cH t u P x i ≤ i := by
  have := List.length_filter_le (hitB t u P x) (List.range i)
  rw [List.length_range] at this
  exact this
theorem cH_cC {t u : mT} (hw : tWF 300 t) (hu : tWF 300 u) {P : mP} (ok : pOK t u P) {x y : Nat} (hx : tIn t x = true) (hy : tIn u y = true) : cH t u P x (pE u y) = cH t u P x (pl u y + 1) + cC t u P x y := by
  have b := blw_le hu hy
  have e1 : List.range (pE u y) = List.range (pl u y + 1) ++ List.range' (pl u y + 1) (blw u y) := by
    rw [List.range_eq_range', List.range_eq_range', b.2.1]
    have := List.range'_append_1 (s := 0) (m := pl u y + 1) (n := blw u y)
    rw [Nat.zero_add] at this
    exact this.symm
  unfold cH
  rw [e1, List.filter_append, List.length_append]
  congr 1
  have lm : ((pO t).filter (cmB t u P x y)).length = (((pO t).filter (cmB t u P x y)).map (fun z => pl u ((P.1 z).getD 0))).length := by rw [List.length_map]
  unfold cC
  rw [lm]
  have key : ∀ z, z ∈ (pO t).filter (cmB t u P x y) ↔ tIn t z = true ∧ pl t x < pl t z ∧ pl t z < pE t x ∧ ∃ w, P.1 z = some w ∧ pl u y < pl u w ∧ pl u w < pE u y := fun z => by
    rw [List.mem_filter, pO_mem hw, cmB_iff]
    constructor
    · rintro ⟨z1, z2, z3, w, w1, w2, w3⟩
      have hwi := (ok.2 z w w1).2
      have i1 := (pE_in hw hx z1).mp z3
      have i2 := (pE_in hu hy hwi).mp w3
      have n1 : pl t x ≠ pl t z := fun e => z2 (pl_inj hw z1 hx e.symm)
      have n2 : pl u y ≠ pl u w := fun e => w2 (pl_inj hu hwi hy e.symm)
      exact ⟨z1, by omega, by omega, w, w1, by omega, by omega⟩
    · rintro ⟨z1, z2, z3, w, w1, w2, w3⟩
      have hwi := (ok.2 z w w1).2
      exact ⟨z1, fun e => by rw [e] at z2; omega, (pE_in hw hx z1).mpr ⟨by omega, z3⟩, w, w1, fun e => by rw [e] at w2; omega, (pE_in hu hy hwi).mpr ⟨by omega, w3⟩⟩
  refine nd_len_eq (List.Pairwise.filter _ List.nodup_range') ?_ (fun j => ?_)
  · refine List.pairwise_map.mpr (List.Pairwise.imp_of_mem (fun {a c} ha hc ne e => ne ?_) (List.Pairwise.filter _ (pO_nd hw)))
    obtain ⟨_, _, _, w, w1, _, _⟩ := (key a).mp ha
    obtain ⟨_, _, _, v, v1, _, _⟩ := (key c).mp hc
    rw [w1, v1] at e
    have : w = v := pl_inj hu (ok.2 _ _ w1).2 (ok.2 _ _ v1).2 e
    subst this
    have q1 := (ok.1 _ _).mp w1
    have q2 := (ok.1 _ _).mp v1
    rw [q1] at q2
    exact Option.some.inj q2
  · rw [List.mem_filter, List.mem_range'_1, hitB_iff, List.mem_map]
    constructor
    · rintro ⟨⟨j1, j2⟩, z, w, z1, z2, z3, w1, w2⟩
      refine ⟨z, (key z).mpr ⟨z1, z2, z3, w, w1, by omega, by omega⟩, ?_⟩
      rw [w1]; exact w2
    · rintro ⟨z, hz, e⟩
      obtain ⟨z1, z2, z3, w, w1, w2, w3⟩ := (key z).mp hz
      rw [w1] at e
      have e : pl u w = j := e
      exact ⟨⟨by omega, by omega⟩, z, w, z1, z2, z3, w1, e⟩
end LIKE
