section MNODE
theorem uNew_fr (F : Nat → Nat → Int32) {Q q s k : Nat} (a v b : Int32) {c j : Nat} (h : ¬ ((c = Q ∧ j = 0) ∨ (c = q ∧ j = k) ∨ (c = q + 1 ∧ j = k) ∨ (q + 4 ≤ c ∧ c ≤ q + 6 ∧ j = 300 * s + k))) : uNew F Q q s k a v b c j = F c j := by
  unfold uNew
  simp only [tpu]
  rw [if_neg (by omega), if_neg (by omega), if_neg (by omega), if_neg (by omega), if_neg (by omega), if_neg (by omega)]
theorem MaM_new {F : Nat → Nat → Int32} {Q q s mk : Nat} (hQ : Q < q) {kd idn : Nat → Int32} (hM : MaM F Q q mk kd idn) (a v b : Int32) : MaM (uNew F Q q s mk a v b) Q q (mk + 1) (mU kd mk a) (mU idn mk b) := by
  refine ⟨tpu_s _ _ _ _, fun m hm => ⟨?_, ?_⟩⟩
  · by_cases c : m = mk
    · subst c
      rw [mU_s]
      unfold uNew
      rw [tpu_ne (b := q) (by omega), tpu_ne (b := q) (by omega), tpu_ne (b := q) (by omega), tpu_ne (b := q) (by omega), tpu_ne (b := q) (by omega)]
      exact tpu_s _ _ _ _
    · rw [mU_n _ _ c, uNew_fr F a v b (by omega)]
      exact (hM.2 m (by omega)).1
  · by_cases c : m = mk
    · subst c
      rw [mU_s]
      unfold uNew
      rw [tpu_ne (b := q + 1) (by omega), tpu_ne (b := q + 1) (by omega), tpu_ne (b := q + 1) (by omega), tpu_ne (b := q + 1) (by omega)]
      exact tpu_s _ _ _ _
    · rw [mU_n _ _ c, uNew_fr F a v b (by omega)]
      exact (hM.2 m (by omega)).2
/-- what node may change of the reference -/
def mnTch (Q q mk b j : Nat) : Prop := (b = Q ∧ (j = 0 ∨ j = 31)) ∨ (b = q ∧ j = mk) ∨ (b = q + 1 ∧ j = mk) ∨ (q + 3 ≤ b ∧ b ≤ q + 6 ∧ 12000 ≤ j ∧ j < 12300) ∨ b = q + 24
theorem p_Md_node95 {h : tpH} {Q q mk : Nat} (M : lMd h Q q) (hQ : Q < q) {F : Nat → Nat → Int32} {kd idn : Nat → Int32} (hM : MaM F Q q mk kd idn) (hk : mk < 300) {t : mT} (hD : DrM F Q q (some t)) (hw : tWF 300 t) (hdm : ∀ m, tIn t m = true → m < mk) {lo : Nat → Bool} (hlo : ∀ m, m < mk → (kd m < 4 ↔ lo m = false)) {r : Nat} (hr : tIn t r = true) {pl k v i : Int32} (gp : plOK (lo r) pl (tKi t r).length) {R : Int32 → tpH → Prop}
    (kk : ∀ G, MaM G Q q (mk + 1) (mU kd mk k) (mU idn mk i) → DrM G Q q (some (dNode t mk v r (lo r) pl.toInt.toNat)) → G Q 31 = 0 → (∀ b j, ¬ mnTch Q q mk b j → G b j = F b j) → R (nI mk) (wI h G)) : w_Md_node_95 R Q (nI r) pl k v i 0 (some Q) (wI h F) := by
  have hkn : tIn t mk = false := by
    cases c : tIn t mk with
    | false => rfl
    | true => exact absurd (hdm mk c) (Nat.lt_irrefl _)
  have hrm := hdm r hr
  have hrk : r ≠ mk := by omega
  have hr3 : r < 300 := by omega
  refine ⟨Q, rfl, M.1, fun h4 e4 => ?_⟩
  rw [sI_w] at e4
  subst e4
  refine ⟨M.1, fun _ => ?_, fun e => absurd (show tpu F Q 31 0 Q 31 ≤ 0 by rw [tpu_s]; exact Int32.le_refl 0) e⟩
  have hM2 : MaM (tpu F Q 31 0) Q q mk kd idn := by
    refine ⟨by rw [tpu_j _ _ _ _ _ _ (by decide)]; exact hM.1, fun m hm => ?_⟩
    rw [tpu_ne (b := q) (by omega), tpu_ne (b := q + 1) (by omega)]
    exact hM.2 m hm
  have hP2 : MtP (tpu F Q 31 0) q 40 t := MtP_fr hD.2 (fun b b1 _ => tpu_ne (by omega))
  show w_Md_newMark Q (nI 40) k v i (wI h (tpu F Q 31 0)) _
  refine p_Md_newMark M hQ (by decide) hk hM2.1 ?_
  have hM3 := MaM_new (s := 40) hQ hM2 k v i
  have hL3 := MtL_new (k := mk) (a := k) (v := v) (b := i) hQ hP2.1 hw.1 hkn
  have hw3 := fSpr (w := v) hw.1 hkn hk
  have hir : tIn (tSpr t mk v) r = true := (mU_n _ _ hrk).trans hr
  have hik : tIn (tSpr t mk v) mk = true := mU_s _ _ _
  have huk : tUp (tSpr t mk v) mk = none := mU_s _ _ _
  have hkr := spr_kids (t := t) (v := v) hrk
  have hmk : mk ∉ tKi (tSpr t mk v) r := fun e => by have := (fKi_in hw3 e).2; rw [huk] at this; simp at this
  have hlr : uNew (tpu F Q 31 0) Q q 40 mk k v i q r < 4 ↔ lo r = false := by
    rw [(hM3.2 r (by omega)).1, mU_n _ _ hrk]; exact hlo r hrm
  have hlen := ki_len hw.1 r
  have hC3 := tCn_le t
  have hsp := in_split (lo r) (tKi t r) mk pl.toInt.toNat
  obtain ⟨g1, g2, g3, g4⟩ := mh_hng hL3 hw3 hik huk hir hrk (by rw [hkr]; exact hsp)
  have fin : R (nI mk) (wI h (uMh (uNew (tpu F Q 31 0) Q q 40 mk k v i) q 40 mk r (hgA (lo r) (tKi t r) mk ((tKi t r).take pl.toInt.toNat)).getLast?)) := by
    have hrt : tRt t ≠ mk := fun e => by have := hw.2.1; rw [e, hkn] at this; simp at this
    have hrA : tRt t ∉ hgA (lo r) (tKi t r) mk ((tKi t r).take pl.toInt.toNat) := fun e => by
      have h1 : tRt t ∈ tKi t r := by rw [hsp]; exact List.mem_append_left _ e
      have := (fKi_in hw.1 h1).2
      rw [hw.2.2.1] at this; simp at this
    have hfr : ∀ b j, ¬ mnTch Q q mk b j → uMh (uNew (tpu F Q 31 0) Q q 40 mk k v i) q 40 mk r (hgA (lo r) (tKi t r) mk ((tKi t r).take pl.toInt.toNat)).getLast? b j = F b j := fun b j hb => by
      unfold mnTch at hb
      have h1 : uNew (tpu F Q 31 0) Q q 40 mk k v i b j = F b j := by
        rw [uNew_fr _ k v i (by omega)]
        simp only [tpu]
        rw [if_neg (by omega)]
      by_cases c : b = q + 3 ∨ b = q + 5 ∨ b = q + 6
      · rw [g2.2 b j (by omega)]; exact h1
      · rw [g2.1 b (by omega) (by omega) (by omega)]; exact h1
    refine kk _ ?_ ⟨?_, g1, ⟨?_, ?_⟩, fun m hm hi => ?_, ?_⟩ ?_ hfr
    · unfold MaM
      rw [g2.1 Q (by omega) (by omega) (by omega), g2.1 q (by omega) (by omega) (by omega), g2.1 (q + 1) (by omega) (by omega) (by omega)]
      exact hM3
    · rw [hfr Q 4 (by unfold mnTch; omega)]; exact hD.1
    · show uMh _ _ _ _ _ _ (q + 3) (300 * 40 + tRt t) = -1
      rw [g3 _ hrt, uNew_fr _ k v i (by omega)]
      exact hP2.2.1.1
    · show uMh _ _ _ _ _ _ (q + 6) (300 * 40 + tRt t) = -1
      rw [g4 _ hrt hrA, uNew_fr _ k v i (by omega)]
      exact hP2.2.1.2
    · have hi : mU (tIn t) mk true m = false := hi
      have hmm : m ≠ mk := fun e => by rw [e, mU_s] at hi; simp at hi
      rw [mU_n _ _ hmm] at hi
      rw [g3 m hmm, uNew_fr _ k v i (by omega)]
      exact hP2.2.2.1 m hm hi
    · rw [g2.1 (q + 2) (by omega) (by omega) (by omega), uNew_fr _ k v i (by omega)]
      exact hP2.2.2.2
    · rw [g2.1 Q (by omega) (by omega) (by omega), uNew_fr _ k v i (by omega), tpu_s]
  refine ⟨M.1, ?_⟩
  rw [e_Md_isOrdered M hr3]
  by_cases cl : lo r = true
  · have c4 : ¬ uNew (tpu F Q 31 0) Q q 40 mk k v i q r < 4 := fun e => by rw [hlr.mp e] at cl; simp at cl
    rw [if_neg c4]
    refine ⟨fun _ => ⟨Q, rfl, M.1, ?_⟩, fun e => absurd rfl e⟩
    show w_Md_hang Q (nI 40) (nI mk) (nI r) (lastO []) (wI h _) _
    refine p_Md_hang M (by decide) hk (hL3 r hir) hw3 hir hmk (A := []) rfl hlr ?_
    have e : hgA (lo r) (tKi (tSpr t mk v) r) mk [] = hgA (lo r) (tKi t r) mk ((tKi t r).take pl.toInt.toNat) := by
      unfold hgA
      rw [if_pos cl, if_pos cl, hkr]
    rw [e]
    exact fin
  · have cf : lo r = false := by simpa using cl
    rw [if_pos (hlr.mpr cf)]
    have gpl : 0 ≤ pl.toInt ∧ pl.toInt ≤ ((tKi t r).length : Int) := by
      rcases gp with g | g
      · exact absurd g cl
      · exact g
    have epl : pl = nI pl.toInt.toNat := Int32.toInt_inj.mp (by rw [nI_toInt (by omega)]; omega)
    refine ⟨fun e => absurd e (by decide), fun _ => ⟨M.1, ?_⟩⟩
    have k2 : w_Md_aheadOf Q (nI r) (nI pl.toInt.toNat) (wI h (uNew (tpu F Q 31 0) Q q 40 mk k v i)) (fun v16 h15 => w_Md_node_144 R (nI mk) v16 (nI r) (nI mk) (40 : Int32) (some Q) h15) := by
      refine p_Md_aheadOf M (hL3 r hir) hw3 hir (K := pl.toInt.toNat) (by rw [hkr]; omega) ?_
      refine ⟨Q, rfl, M.1, ?_⟩
      show w_Md_hang Q (nI 40) (nI mk) (nI r) (lastO ((tKi (tSpr t mk v) r).take pl.toInt.toNat)) (wI h _) _
      refine p_Md_hang M (by decide) hk (hL3 r hir) hw3 hir hmk (List.take_append_drop pl.toInt.toNat _).symm hlr ?_
      rw [hkr]
      exact fin
    rw [← epl] at k2
    exact k2
end MNODE
