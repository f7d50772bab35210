section MMOVEB
theorem DrM_fr {F G : Nat → Nat → Int32} {Q q : Nat} {dr : Option mT} (hD : DrM F Q q dr) (h4 : G Q 4 = F Q 4) (hk : ∀ b, q + 2 ≤ b → b ≤ q + 6 → G b = F b) : DrM G Q q dr := by
  cases dr with
  | none => exact ⟨by rw [h4]; exact hD.1, fun m hm => by rw [hk (q + 3) (by omega) (by omega)]; exact hD.2 m hm⟩
  | some t => exact ⟨by rw [h4]; exact hD.1, MtP_fr hD.2 hk⟩
theorem MaM_fr {F G : Nat → Nat → Int32} {Q q mk : Nat} {kd idn : Nat → Int32} (hM : MaM F Q q mk kd idn) (h0 : G Q 0 = F Q 0) (hk : ∀ b, b = q ∨ b = q + 1 → G b = F b) : MaM G Q q mk kd idn := by
  unfold MaM
  rw [h0, hk q (Or.inl rfl), hk (q + 1) (Or.inr rfl)]
  exact hM
theorem p_Md_move {h : tpH} {Q q mk : Nat} (M : lMd h Q q) (hQ : Q < q) {F : Nat → Nat → Int32} {kd idn : Nat → Int32} (hM : MaM F Q q mk kd idn) (hk : mk ≤ 300) {dr : Option mT} (hD : DrM F Q q dr) (hw : ∀ t, dr = some t → tWF 300 t) (hdm : ∀ t, dr = some t → ∀ m, tIn t m = true → m < mk) {lo : Nat → Bool} (hlo : ∀ m, m < mk → (kd m < 4 ↔ lo m = false)) {x y pl : Int32} {R : Int32 → tpH → Prop}
    (x1 : (∀ m, m < 300 → x = nI m → drIn dr m = false) → R 0 (wI h (tpu F Q 31 1)))
    (x2 : ∀ t m, dr = some t → x = nI m → tIn t m = true → (∀ r, r < 300 → y = nI r → tIn t r = false) → R 0 (wI h (tpu F Q 31 1)))
    (x3 : ∀ t m r, dr = some t → x = nI m → y = nI r → tIn t m = true → tIn t r = true → ¬ plOK (lo r) pl (leaveK t m r) → ∀ G, G Q 31 = 1 → (∀ b j, ¬ (b = Q ∧ j = 31) → G b j = F b j) → R 0 (wI h G))
    (x4 : ∀ t m r, dr = some t → x = nI m → y = nI r → tIn t m = true → tIn t r = true → plOK (lo r) pl (leaveK t m r) → r ∈ tPo t m → ∀ G, G Q 31 = 2 → (∀ b j, ¬ (b = Q ∧ j = 31) → G b j = F b j) → R 0 (wI h G))
    (kk : ∀ t m r, dr = some t → x = nI m → y = nI r → tIn t m = true → tIn t r = true → plOK (lo r) pl (leaveK t m r) → r ∉ tPo t m → ∀ G, DrM G Q q (some (dMove t m r (lo r) pl.toInt.toNat)) → G Q 31 = 0 → (∀ b j, ¬ ((b = Q ∧ j = 31) ∨ (q + 3 ≤ b ∧ b ≤ q + 6 ∧ 12000 ≤ j ∧ j < 12300)) → G b j = F b j) → R (nO (tUp t m)) (wI h G)) : w_Md_move Q x y pl (wI h F) R := by
  have e0 : (0 : Int32).toInt = 0 := rfl
  obtain ⟨r1, r2, r3⟩ := md_f M (j := 2) (kd := 15) (n := 42) (f := 5) (by decide)
  have stop : ∀ (G : Nat → Nat → Int32), ¬ G Q 31 ≤ 0 → R 0 (wI h G) → w_Md_move_127 R Q x y pl (wI h G) := fun G hc hr => ⟨M.1, fun e => absurd e hc, fun _ => hr⟩
  have no : R 0 (wI h (tpu F Q 31 1)) → w_Md_move_26 R Q x y pl 1 (some Q) (wI h F) := fun hr => by
    refine ⟨Q, rfl, M.1, fun h4 e4 => ?_⟩
    rw [sI_wI, wI_wI] at e4
    subst e4
    refine ⟨M.1, fun _ => stop _ (by rw [wI_I, tpu_s]; decide) hr, fun e => absurd e (by rw [wI_I, tpu_s]; decide)⟩
  have hin := dm_in hD hw
  have hid : ∀ m, drIn dr m = true → m < mk := fun m hi => by
    obtain ⟨t, ed, hi⟩ := dr_some hi
    exact hdm t ed m hi
  refine ⟨M.1, ?_⟩
  show w_Md_has Q (nI 40) x (wI h F) _
  refine p_Md_has M (by decide) hk hM.1 (inn := drIn dr) (fun m hmk => hin m (by omega)) hid (fun m e hm3 hm0 => ?_) (fun g => ⟨fun _ => no (x1 g), fun e => absurd rfl e⟩)
  obtain ⟨t, ed, hm⟩ := dr_some hm0
  clear hm0
  subst ed
  subst e
  refine ⟨fun e => absurd e (by decide), fun _ => ⟨M.1, ?_⟩⟩
  show w_Md_has Q (nI 40) y (wI h F) _
  refine p_Md_has M (by decide) hk hM.1 (inn := drIn (some t)) (fun m hmk => hin m (by omega)) hid (fun r e hr3 hr => ?_) (fun g => ⟨fun _ => no (x2 t m rfl rfl hm g), fun e => absurd rfl e⟩)
  have hr : tIn t r = true := hr
  subst e
  refine ⟨fun e => absurd e (by decide), fun _ => ⟨Q, rfl, M.1, fun h4 e4 => ?_⟩⟩
  rw [sI_wI, wI_wI] at e4
  subst e4
  have hwt := hw t rfl
  have hrm := hdm t rfl r hr
  have hlen := ki_len hwt.1 r
  have hC3 := tCn_le t
  refine ⟨M.1, fun e => absurd (show tpu F Q 31 0 Q 31 = 0 from tpu_s _ _ _ _) e, fun _ => ?_⟩
  have fr0 : ∀ b j, ¬ (b = Q ∧ j = 31) → tpu F Q 31 0 b j = F b j := fun b j hb => by
    simp only [tpu]; rw [if_neg (by omega)]
  have fr00 : ∀ c b j, ¬ (b = Q ∧ j = 31) → tpu (tpu F Q 31 0) Q 31 c b j = F b j := fun c b j hb => by
    simp only [tpu]; rw [if_neg (by omega), if_neg (by omega)]
  have hD0 : DrM (tpu F Q 31 0) Q q (some t) := DrM_fr hD (fr0 _ _ (by omega)) (fun b b1 b2 => funext fun j => fr0 _ _ (by omega))
  have hM0 : MaM (tpu F Q 31 0) Q q mk kd idn := MaM_fr hM (fr0 _ _ (by omega)) (fun b hb => funext fun j => fr0 _ _ (by omega))
  have h124 : ∀ c, w_Md_move_127 R Q (nI m) (nI r) pl (wI h (tpu (tpu F Q 31 0) Q 31 c)) → w_Md_move_124 R (w_Md_move_127 R) Q (nI m) (nI r) pl c (some Q) (wI h (tpu F Q 31 0)) := fun c hc => by
    refine ⟨Q, rfl, M.1, fun h4 e4 => ?_⟩
    rw [sI_wI, wI_wI] at e4
    subst e4
    exact hc
  have no2 : ¬ plOK (lo r) pl (leaveK t m r) → w_Md_move_85 R (w_Md_move_127 R) Q (nI m) (nI r) pl 0 (wI h (tpu F Q 31 0)) := fun g =>
    ⟨fun e => absurd rfl e, fun _ => h124 1 (stop _ (by rw [tpu_s]; decide) (x3 t m r rfl rfl rfl hm hr g _ (tpu_s _ _ _ _) (fr00 1)))⟩
  have yes : plOK (lo r) pl (leaveK t m r) → w_Md_move_85 R (w_Md_move_127 R) Q (nI m) (nI r) pl 1 (wI h (tpu F Q 31 0)) := fun gp => by
    have two : r ∈ tPo t m → w_Md_move_124 R (w_Md_move_127 R) Q (nI m) (nI r) pl 2 (some Q) (wI h (tpu F Q 31 0)) := fun hc =>
      h124 2 (stop _ (by rw [tpu_s]; decide) (x4 t m r rfl rfl rfl hm hr gp hc _ (tpu_s _ _ _ _) (fr00 2)))
    refine ⟨fun _ => ⟨M.1, q + 2, r3, r1, by rw [wI_L, r2]; exact vp_in_nI (n := 40) (by decide) (by decide), ?_⟩, fun e => absurd e (by decide)⟩
    have er : hI (wI h (tpu F Q 31 0)) (q + 2) (40 : Int32).toNatClampNeg = nI (tRt t) := hD0.2.2.2.2
    rw [er]
    refine ⟨fun e => ?_, fun e => ?_⟩
    · have e : m = tRt t := nI_inj (by omega) (by have := hwt.1.1 _ hwt.2.1; omega) e
      exact two (by rw [e]; exact (tPo_all hwt).mpr hr)
    · have hne : m ≠ tRt t := fun e2 => e (by rw [e2])
      show w_Md_isWithin Q (nI 40) (nI r) (nI m) (wI h (tpu F Q 31 0)) _
      refine p_Md_isWithin M (by decide) hD0.2.1 hwt.1 hD0.2.2.1.1 (fun z hz hu => Or.inl (Classical.byContradiction fun hn => hwt.2.2.2 z hz hn hu)) hr hm3 ?_
      by_cases hc : r ∈ tPo t m
      · rw [if_pos hc]
        exact ⟨fun e => absurd e (by decide), fun _ => two hc⟩
      · rw [if_neg hc]
        refine ⟨fun _ => h124 0 ?_, fun e => absurd rfl e⟩
        have hD1 : DrM (tpu (tpu F Q 31 0) Q 31 0) Q q (some t) := DrM_fr hD (fr00 _ _ _ (by omega)) (fun b b1 b2 => funext fun j => fr00 _ _ _ (by omega))
        have hM1 : MaM (tpu (tpu F Q 31 0) Q 31 0) Q q mk kd idn := MaM_fr hM (fr00 _ _ _ (by omega)) (fun b hb => funext fun j => fr00 _ _ _ (by omega))
        refine p_Md_move127 M hQ hM1 hD1 hwt (hdm t rfl) hlo hm hr hc gp (tpu_s _ _ _ _) (fun G g1 g2 => kk t m r rfl rfl rfl hm hr gp hc G g1 ?_ (fun b j hb => ?_))
        · rw [g2 Q 31 (by omega)]; exact tpu_s _ _ _ _
        · rw [g2 b j (by omega)]; exact fr00 _ _ _ (by omega)
  have fin : ∀ c : Nat, c = (if m ∈ tKi t r then 1 else 0) → w_Md_move_59 R (w_Md_move_127 R) Q (nI m) (nI r) pl (nI c) (nI (tKi t r).length) (wI h (tpu F Q 31 0)) := fun c ec => by
    have hlk : leaveK t m r = (tKi t r).length - c := by rw [ec]; rfl
    have hcl : c ≤ (tKi t r).length := by
      rw [ec]
      by_cases g : m ∈ tKi t r
      · rw [if_pos g]; exact List.length_pos_of_mem g
      · rw [if_neg g]; omega
    refine ⟨M.1, ?_⟩
    rw [e_Md_isOrdered M hr3, (hM0.2 r hrm).1]
    by_cases cl : lo r = true
    · rw [if_neg (fun e => by rw [(hlo r hrm).mp e] at cl; simp at cl)]
      exact ⟨fun _ => yes (Or.inl cl), fun e => absurd rfl e⟩
    · have cf : lo r = false := by simpa using cl
      rw [if_pos ((hlo r hrm).mpr cf)]
      refine ⟨fun e => absurd e (by decide), fun _ => ?_⟩
      rw [nI_sub2 hcl, e_Md_in, e0, nI_toInt (by omega), ← hlk]
      by_cases g : 0 ≤ pl.toInt ∧ pl.toInt ≤ ((leaveK t m r : Nat) : Int)
      · rw [if_pos g]
        exact ⟨fun e => absurd e (by decide), fun _ => yes (Or.inr g)⟩
      · rw [if_neg g]
        refine ⟨fun _ => no2 (fun g2 => ?_), fun e => absurd rfl e⟩
        rcases g2 with g2 | g2
        · exact cl g2
        · exact g g2
  show w_Md_childMany Q (nI 40) (nI r) (wI h (tpu F Q 31 0)) _
  refine p_Md_childMany M (by decide) hD0.2.1 hwt.1 hr ⟨M.1, ?_⟩
  show w_Md_parentIn Q (nI 40) (nI m) (wI h (tpu F Q 31 0)) _
  rw [e_Md_parentIn M (by decide) hm3]
  have hup : tpu F Q 31 0 (q + 3) (300 * 40 + m) = nI r ↔ m ∈ tKi t r := by
    rw [hwt.1.2.1 m r]
    by_cases em : m = tRt t
    · rw [em, hD0.2.2.1.1, hwt.2.2.1]
      exact ⟨fun e => absurd e.symm (nI_ne_m (by omega)), fun e => by simp at e⟩
    · obtain ⟨u, hu⟩ := Option.ne_none_iff_exists'.mp (hwt.2.2.2 m hm em)
      rw [(hD0.2.1 m hm).2.1 u hu, hu]
      have hu3 := hwt.1.1 u (hwt.1.2.2.2.2 m u hm hu)
      exact ⟨fun e => ⟨hm, by rw [nI_inj (by omega) (by omega) e]⟩, fun e => by rw [Option.some.inj e.2]⟩
  refine ⟨fun e => ?_, fun e => ?_⟩
  · have := fin 0 (by rw [if_neg (fun g => e (hup.mpr g))])
    exact this
  · have := fin 1 (by rw [if_pos (hup.mp e)])
    exact this
end MMOVEB
