section PDRAFT
def drIn (dr : Option mT) : Nat → Bool := match dr with
  | none => fun _ => false
  | some t => tIn t
def DrP (F : Nat → Nat → Int32) (p : Nat) (dr : Option mT) : Prop := match dr with
  | none => F (p + 5) 8 = -1 ∧ F (p + 5) 9 = 0 ∧ ∀ m, m < 300 → F (p + 5 + 2) m = 0
  | some t => BuP F (p + 5) t ∧ F (p + 5) 8 = nI (tRt t) ∧ tWF 300 t
theorem dr_held {F : Nat → Nat → Int32} {p : Nat} {dr : Option mT} (hD : DrP F p dr) : ∀ m, m < 300 → F (p + 5 + 2) m = if drIn dr m = true then 1 else 0 := by
  intro m hm
  cases dr with
  | none => exact (hD.2.2 m hm).trans (if_neg (by simp [drIn])).symm
  | some t => exact hD.1.2.1 m hm
theorem dr_some {dr : Option mT} {m : Nat} (h : drIn dr m = true) : ∃ t, dr = some t ∧ tIn t m = true := by
  cases dr with
  | none => simp [drIn] at h
  | some t => exact ⟨t, rfl, h⟩
theorem DrP_k {F G : Nat → Nat → Int32} {p : Nat} {dr : Option mT} (hD : DrP F p dr) (hk : ∀ b, p + 5 ≤ b → b < p + 20 → G b = F b) : DrP G p dr := by
  cases dr with
  | none => exact ⟨by rw [hk _ (by omega) (by omega)]; exact hD.1, by rw [hk _ (by omega) (by omega)]; exact hD.2.1, fun m hm => by rw [hk _ (by omega) (by omega)]; exact hD.2.2 m hm⟩
  | some t => exact ⟨BuP_k hD.1 (fun b b1 b2 => hk b (by omega) (by omega)), by rw [hk _ (by omega) (by omega)]; exact hD.2.1, hD.2.2⟩
theorem wSet {N : Nat} {t : mT} (hw : tWF N t) (m : Nat) (w : Int32) : tWF N (tSet t m w) := hw
theorem bu_set {F : Nat → Nat → Int32} {d : Nat} {t : mT} (hB : BuP F d t) {m : Nat} (hm : m < 300) (w : Int32) : BuP (rPut F (d + 4) 300 (nI m) w) d (tSet t m w) := by
  unfold BuP nodeP
  rw [rw_ne F (c := d + 4) (b := d) (by omega), rw_ne F (c := d + 4) (b := d + 2) (by omega), rw_at F hm, rw_ne F (c := d + 4) (b := d + 6) (by omega), rw_ne F (c := d + 4) (b := d + 8) (by omega), rw_ne F (c := d + 4) (b := d + 10) (by omega), rw_ne F (c := d + 4) (b := d + 12) (by omega), rw_ne F (c := d + 4) (b := d + 14) (by omega)]
  refine ⟨hB.1, hB.2.1, fun x hx => ?_⟩
  obtain ⟨q1, q2⟩ := hB.2.2 x hx
  refine ⟨?_, q2⟩
  show mU (F (d + 4)) m w x = mU (tWo t) m w x
  by_cases c : x = m
  · rw [c, mU_s, mU_s]
  · rw [mU_n _ _ c, mU_n _ _ c]; exact q1
theorem p_TP_set {h : tpH} {o p : Nat} (l : lTP h o p) {F : Nat → Nat → Int32} {dr : Option mT} (hD : DrP F p dr) {x v : Int32} {X : String → tpH → Prop} {R : Int32 → tpH → Prop}
    (x1 : (∀ m, m < 300 → x = nI m → drIn dr m = false) → X "java/lang/IndexOutOfBoundsException" (nC (wI h F) 0 0 6))
    (x2 : ∀ t m, dr = some t → x = nI m → tIn t m = true → ¬ (0 ≤ v.toInt ∧ v.toInt ≤ 99) → X "java/lang/IllegalArgumentException" (nC (wI h F) 0 0 6))
    (kk : ∀ t m, dr = some t → x = nI m → tIn t m = true → (0 ≤ v.toInt ∧ v.toInt ≤ 99) → ∀ G, DrP G p (some (tSet t m v)) → (∀ b, b < p + 5 ∨ p + 20 ≤ b → G b = F b) → R (tWo t m) (wI h G)) : w_TP_set o x v (wI h F) X R := by
  have lb : lBu h (p + 5) (some (p + 0)) := l.2.2.2.2.1
  refine ⟨l.1, p_TP_needDrafted l (dr_held hD) (fun m e hm hi => ?_) x1⟩
  obtain ⟨t, ed, hi⟩ := dr_some hi
  subst ed
  refine ⟨l.1, p_TP_needValue (fun hv => ?_) (fun hv => x2 t m rfl e hi hv)⟩
  refine ⟨l.1, p + 5, l.2.2.2.1, lb.1, ?_⟩
  subst e
  rw [e_Bu_worthOf lb, rAt_n hm n300, (hD.1.2.2 m hi).1]
  refine ⟨l.1, p + 5, l.2.2.2.1, lb.1, ?_⟩
  rw [e_Bu_give lb]
  exact kk t m rfl rfl hi hv _ ⟨bu_set hD.1 hm v, by rw [rw_ne _ (by omega)]; exact hD.2.1, wSet hD.2.2 m v⟩ (fun b hb => rw_ne _ (by omega))
theorem wErs {t : mT} (hw : tWF 300 t) {m : Nat} (hm : tIn t m = true) (hr : m ≠ tRt t) : tWF 300 (tErs t m) := by
  have hnr : tRt t ∉ tPo t m := fun h => by
    rcases tPo_up hw.1.2.2.2.1 m h with e | ⟨p, hp, -⟩
    · exact hr e.symm
    · have := (fKi_in hw.1 hp).2
      rw [hw.2.2.1] at this; simp at this
  have hin : ∀ x, tIn (tErs t m) x = true ↔ tIn t x = true ∧ x ∉ tPo t m := fun x => by
    show (tIn t x && !decide (x ∈ tPo t m)) = true ↔ _
    simp
  refine ⟨fErs hw.1 m, (hin _).mpr ⟨hw.2.1, hnr⟩, ?_, fun x hx hne => ?_⟩
  · show mU (tUp t) m none (tRt t) = none
    rw [mU_n _ _ (Ne.symm hr)]; exact hw.2.2.1
  · have h1 := (hin x).mp hx
    have hxm : x ≠ m := fun e => h1.2 (by rw [e]; exact tPo_self hw.1.2.2.2.1 m)
    show mU (tUp t) m none x ≠ none
    rw [mU_n _ _ hxm]
    exact hw.2.2.2 x h1.1 hne
theorem p_TP_drop {h : tpH} {o p : Nat} (l : lTP h o p) {F : Nat → Nat → Int32} {dr : Option mT} (hD : DrP F p dr) {x : Int32} {X : String → tpH → Prop} {R : Int32 → tpH → Prop}
    (x1 : (∀ m, m < 300 → x = nI m → drIn dr m = false) → X "java/lang/IndexOutOfBoundsException" (nC (wI h F) 0 0 6))
    (x2 : ∀ t, dr = some t → x = nI (tRt t) → X "java/lang/IllegalStateException" (nC (wI h F) 0 0 6))
    (kk : ∀ t m, dr = some t → x = nI m → tIn t m = true → m ≠ tRt t → ∀ G, DrP G p (some (tErs t m)) → (∀ b, b < p + 5 ∨ p + 20 ≤ b → G b = F b) → R (nI (tPo t m).length) (wI h G)) : w_TP_drop o x (wI h F) X R := by
  have lb : lBu h (p + 5) (some (p + 0)) := l.2.2.2.2.1
  refine ⟨l.1, p_TP_needDrafted l (dr_held hD) (fun m e hm hi => ?_) x1⟩
  obtain ⟨t, ed, hi⟩ := dr_some hi
  subst ed
  subst e
  have hr3 := hD.2.2.1.1 _ hD.2.2.2.1
  refine ⟨l.1, p + 5, l.2.2.2.1, lb.1, ?_⟩
  rw [wI_I, hD.2.1]
  refine ⟨fun e => ?_, fun e => x2 t rfl e⟩
  have hne : m ≠ tRt t := fun e2 => e (by rw [e2])
  obtain ⟨b1, b2, b3⟩ := bu_ers hD.1 hD.2.2.1 hi
  refine p_Bu_erase lb hD.1 hD.2.2.1 hi (kk t m rfl rfl hi hne _ ⟨b1, by rw [b3 8 (by decide)]; exact hD.2.1, wErs hD.2.2 hi hne⟩ (fun b hb => b2 b (by omega) (by omega) (by omega) (by omega) (by omega) (by omega) (by omega)))
theorem plK (pl : Int32) {j : Nat} (hj : j ≤ 300) : pl ≤ nI j ↔ pl.toInt.toNat ≤ j := by
  rw [i_le, nI_toInt (by omega)]
  omega
theorem p_needPl37 {h : tpH} {pl : Int32} {n c : Nat} (hn : n ≤ 300) (hc : c ≤ n) {X : String → tpH → Prop} {R : tpH → Prop} (k1 : 0 ≤ pl.toInt ∧ pl.toInt ≤ ((n - c : Nat) : Int) → R h) (k2 : ¬ (0 ≤ pl.toInt ∧ pl.toInt ≤ ((n - c : Nat) : Int)) → X "java/lang/IndexOutOfBoundsException" (nC h 0 0 6)) : w_TP_needPlace_37 R X pl (nI c) (nI n) h := by
  have e0 : (0 : Int32).toInt = 0 := rfl
  unfold w_TP_needPlace_37
  rw [nI_sub2 hc, i_lt, i_le, e0, nI_toInt (by omega)]
  exact ⟨fun e => k2 (by omega), fun e => ⟨fun e2 => k1 (by omega), fun e2 => k2 (by omega)⟩⟩
theorem p_TP_needPlace {h : tpH} {o p : Nat} (l : lTP h o p) {F : Nat → Nat → Int32} {t : mT} (hB : BuP F (p + 5) t) (hw : fWF 300 t) {r : Nat} (hr : tIn t r = true) {lo : Bool} (hlo : F (p + 2) r < 4 ↔ lo = false) {pl mv : Int32} {c : Nat} (hc : (c = 0 ∧ ∀ m, m < 300 → mv = nI m → m ∉ tKi t r) ∨ (c = 1 ∧ ∃ m, mv = nI m ∧ m ∈ tKi t r)) {X : String → tpH → Prop} {R : tpH → Prop}
    (k1 : lo = true ∨ (0 ≤ pl.toInt ∧ pl.toInt ≤ (((tKi t r).length - c : Nat) : Int)) → R (wI h F)) (k2 : lo = false → ¬ (0 ≤ pl.toInt ∧ pl.toInt ≤ (((tKi t r).length - c : Nat) : Int)) → X "java/lang/IndexOutOfBoundsException" (nC (wI h F) 0 0 6)) : w_TP_needPlace o (nI r) pl mv (wI h F) X R := by
  have lm : lMa h p := l.2.2.1
  have lb : lBu h (p + 5) (some (p + 0)) := l.2.2.2.2.1
  have hr3 := hw.1 r hr
  have hlen := ki_len hw r
  have hC3 := tCn_le t
  refine ⟨l.1, p, l.2.1, lm.1, ?_⟩
  rw [e_Ma_isLoose lm, rAt_n hr3 n300]
  cases lo with
  | true =>
    rw [if_neg (fun e => by have := hlo.mp e; simp at this)]
    exact ⟨fun e => absurd e (by decide), fun _ => k1 (Or.inl rfl)⟩
  | false =>
    rw [if_pos (hlo.mpr rfl)]
    refine ⟨fun _ => ⟨l.1, p + 5, l.2.2.2.1, lb.1, p_Bu_countChildren lb (BuP_L hB) hw hr ?_⟩, fun e => absurd rfl e⟩
    refine ⟨l.1, p + 5, l.2.2.2.1, lb.1, ?_⟩
    rw [e_Bu_isChild lb]
    rcases hc with ⟨e, hn⟩ | ⟨e, m, em, hmk⟩
    · subst e
      have hneg : ¬ (rAt (F (p + 5 + 2)) 300 mv = 1 ∧ rAt (F (p + 5 + 6)) 300 mv = nI r) := by
        rintro ⟨g1, g2⟩
        rcases i_mark mv 300 n300 with ⟨m, e, hm⟩ | hno
        · rw [e, rAt_n hm n300, hB.2.1 m hm] at g1
          by_cases hi : tIn t m = true
          · rw [e, rAt_n hm n300, (hB.2.2 m hi).2.1] at g2
            cases eu : tUp t m with
            | none => rw [eu] at g2; exact nI_ne_m (k := r) (by omega) g2.symm
            | some y =>
              rw [eu] at g2
              have hy := hw.1 y (hw.2.2.2.2 m y hi eu)
              have e5 : y = r := nI_inj (by omega) (by omega) g2
              exact hn m hm e ((hw.2.1 m r).mpr ⟨hi, by rw [eu, e5]⟩)
          · rw [if_neg hi] at g1; exact absurd g1 (by decide)
        · rw [rAt_out n300 hno] at g1; exact absurd g1 (by decide)
      rw [if_neg hneg]
      refine ⟨fun _ => ?_, fun e => absurd rfl e⟩
      rw [← nI_0]
      exact p_needPl37 (by omega) (Nat.zero_le _) (fun g => k1 (Or.inr g)) (fun g => k2 rfl g)
    · subst e
      subst em
      obtain ⟨hi, hu⟩ := fKi_in hw hmk
      have hm3 := hw.1 m hi
      have hpos : rAt (F (p + 5 + 2)) 300 (nI m) = 1 ∧ rAt (F (p + 5 + 6)) 300 (nI m) = nI r := by
        rw [rAt_n hm3 n300, rAt_n hm3 n300, hB.2.1 m hm3, if_pos hi, (hB.2.2 m hi).2.1, hu]
        exact ⟨rfl, rfl⟩
      rw [if_pos hpos]
      refine ⟨fun e => absurd e (by decide), fun _ => ?_⟩
      exact p_needPl37 (c := 1) (by omega) (List.length_pos_of_mem hmk) (fun g => k1 (Or.inr g)) (fun g => k2 rfl g)
end PDRAFT
