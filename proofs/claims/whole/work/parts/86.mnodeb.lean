section MNODEB
theorem DrM_lay {F : Nat → Nat → Int32} {Q q : Nat} {dr : Option mT} (hQ : Q < q) (P : List Nat) (hD : DrM F Q q dr) : DrM (lay F (q + 24) P) Q q dr := by
  cases dr with
  | none => exact ⟨by rw [lay_ne F P (b := Q) (by omega)]; exact hD.1, fun m hm => by rw [lay_ne F P (b := q + 3) (by omega)]; exact hD.2 m hm⟩
  | some t => exact ⟨by rw [lay_ne F P (b := Q) (by omega)]; exact hD.1, MtP_fr hD.2 (fun b b1 b2 => lay_ne F P (by omega))⟩
theorem MaM_lay {F : Nat → Nat → Int32} {Q q mk : Nat} {kd idn : Nat → Int32} (hQ : Q < q) (P : List Nat) (hM : MaM F Q q mk kd idn) : MaM (lay F (q + 24) P) Q q mk kd idn := by
  unfold MaM
  rw [lay_ne F P (b := Q) (by omega), lay_ne F P (b := q) (by omega), lay_ne F P (b := q + 1) (by omega)]
  exact hM
theorem p_Md_node {h : tpH} {Q q mk : Nat} (M : lMd h Q q) (hQ : Q < q) {F : Nat → Nat → Int32} {kd idn : Nat → Int32} (hM : MaM F Q q mk kd idn) (hk : mk ≤ 300) {dr : Option mT} (hD : DrM F Q q dr) (hw : ∀ t, dr = some t → tWF 300 t) (hdm : ∀ t, dr = some t → ∀ m, tIn t m = true → m < mk) {lo : Nat → Bool} (hlo : ∀ m, m < mk → (kd m < 4 ↔ lo m = false)) {x pl k v i : Int32} {R : Int32 → tpH → Prop}
    (x1 : (∀ m, m < 300 → x = nI m → drIn dr m = false) → R 0 (wI h (tpu F Q 31 1)))
    (x2 : ∀ t r, dr = some t → x = nI r → tIn t r = true → ¬ plOK (lo r) pl (tKi t r).length → R 0 (wI h (tpu F Q 31 1)))
    (x3 : ∀ t r, dr = some t → x = nI r → tIn t r = true → plOK (lo r) pl (tKi t r).length → ¬ gdLk k v i → R 0 (wI h (tpu F Q 31 2)))
    (x4 : ∀ t r, dr = some t → x = nI r → tIn t r = true → plOK (lo r) pl (tKi t r).length → gdLk k v i → (24 ≤ tCn t ∨ mk = 300) → ∀ G, G Q 31 = 3 → (∀ b j, ¬ ((b = Q ∧ j = 31) ∨ b = q + 24) → G b j = F b j) → R 0 (wI h G))
    (kk : ∀ t r, dr = some t → x = nI r → tIn t r = true → plOK (lo r) pl (tKi t r).length → gdLk k v i → tCn t < 24 → mk < 300 → ∀ G, MaM G Q q (mk + 1) (mU kd mk k) (mU idn mk i) → DrM G Q q (some (dNode t mk v r (lo r) pl.toInt.toNat)) → G Q 31 = 0 → (∀ b j, ¬ mnTch Q q mk b j → G b j = F b j) → R (nI mk) (wI h G)) : w_Md_node Q x pl k v i (wI h F) R := by
  have e0 : (0 : Int32).toInt = 0 := rfl
  obtain ⟨o1, o2, o3⟩ := md_f M (j := 24) (kd := 15) (n := 300) (f := 32) (by decide)
  have stop : ∀ (c : Int32) (G : Nat → Nat → Int32), ¬ c ≤ 0 → R 0 (wI h (tpu G Q 31 c)) → w_Md_node_95 R Q x pl k v i c (some Q) (wI h G) := fun c G hc hr => by
    refine ⟨Q, rfl, M.1, fun h4 e4 => ?_⟩
    rw [sI_w] at e4
    subst e4
    exact ⟨M.1, fun e => absurd (by rw [wI_I, tpu_s] at e; exact e) hc, fun _ => hr⟩
  have no : R 0 (wI h (tpu F Q 31 1)) → w_Md_node_38 R Q x pl k v i 0 (wI h F) := fun hr => ⟨fun e => absurd rfl e, fun _ => stop 1 F (by decide) hr⟩
  have hin := dm_in hD hw
  refine ⟨M.1, ?_⟩
  show w_Md_has Q (nI 40) x (wI h F) _
  refine p_Md_has M (by decide) hk hM.1 (inn := drIn dr) (fun m hmk => hin m (by omega)) (fun m hi => ?_) (fun r e hr3 hr0 => ?_) (fun g => ⟨fun _ => no (x1 g), fun e => absurd rfl e⟩)
  · obtain ⟨t, ed, hi⟩ := dr_some hi
    exact hdm t ed m hi
  · obtain ⟨t, ed, hr⟩ := dr_some hr0
    clear hr0
    subst ed
    subst e
    have hwt := hw t rfl
    have hrm := hdm t rfl r hr
    have hlen := ki_len hwt.1 r
    have hC3 := tCn_le t
    have yes : plOK (lo r) pl (tKi t r).length → w_Md_node_38 R Q (nI r) pl k v i 1 (wI h F) := fun gp => by
      refine ⟨fun _ => p_Md_areGood (fun gd => ⟨fun _ => ⟨M.1, fun e => ?_, fun e => ?_⟩, fun e => absurd e (by decide)⟩) (fun gd => ⟨fun e => absurd rfl e, fun _ => stop 2 F (by decide) (x3 t r rfl rfl hr gp gd)⟩), fun e => absurd e (by decide)⟩
      · rw [wI_I, hM.1] at e
        have e : mk = 300 := nI_inj (b := 300) (by omega) (by decide) e
        refine stop 3 F (by decide) (x4 t r rfl rfl hr gp gd (Or.inr e) _ (tpu_s _ _ _ _) (fun b j hb => ?_))
        simp only [tpu]
        rw [if_neg (by omega)]
      · rw [wI_I, hM.1] at e
        have hlt : mk < 300 := Nat.lt_of_le_of_ne hk (fun e2 => e (by rw [e2]; rfl))
        rw [wI_R, o3]
        show w_Md_layOrder Q (nI 40) (some (q + 24)) (wI h F) _
        refine p_Md_layOrder M (by decide) hD.2 hwt (Or.inr (by omega)) o1 o2 ?_
        have e24 : (24 : Int32) = nI 24 := rfl
        rw [pO_len hwt, e24, nI_lt_iff (by omega) (by decide)]
        refine ⟨fun h24 => ?_, fun h24 => ?_⟩
        · refine p_Md_node95 M hQ (MaM_lay hQ _ hM) hlt (DrM_lay hQ _ hD) hwt (hdm t rfl) hlo hr gp (fun G g1 g2 g3 g4 => kk t r rfl rfl hr gp gd h24 hlt G g1 g2 g3 (fun b j hb => ?_))
          rw [g4 b j hb]
          unfold mnTch at hb
          rw [lay_ne _ _ (by omega)]
        · refine stop 3 _ (by decide) (x4 t r rfl rfl hr gp gd (Or.inl (by omega)) _ (tpu_s _ _ _ _) (fun b j hb => ?_))
          simp only [tpu]
          rw [if_neg (by omega), lay_ne _ _ (by omega)]
    refine ⟨fun e => absurd e (by decide), fun _ => ⟨M.1, ?_⟩⟩
    rw [e_Md_isOrdered M hr3, (hM.2 r hrm).1]
    by_cases cl : lo r = true
    · rw [if_neg (fun e => by rw [(hlo r hrm).mp e] at cl; simp at cl)]
      exact ⟨fun _ => yes (Or.inl cl), fun e => absurd rfl e⟩
    · have cf : lo r = false := by simpa using cl
      rw [if_pos ((hlo r hrm).mpr cf)]
      refine ⟨fun e => absurd e (by decide), fun _ => ⟨M.1, ?_⟩⟩
      show w_Md_childMany Q (nI 40) (nI r) (wI h F) _
      refine p_Md_childMany M (by decide) hD.2.1 hwt.1 hr ?_
      rw [e_Md_in, e0, nI_toInt (by omega)]
      by_cases c : 0 ≤ pl.toInt ∧ pl.toInt ≤ (((tKi t r).length : Nat) : Int)
      · rw [if_pos c]
        exact ⟨fun e => absurd e (by decide), fun _ => yes (Or.inr c)⟩
      · rw [if_neg c]
        refine ⟨fun _ => no (x2 t r rfl rfl hr (fun g => ?_)), fun e => absurd rfl e⟩
        rcases g with g | g
        · exact cl g
        · exact c g
end MNODEB
