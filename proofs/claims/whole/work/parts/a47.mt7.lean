section MT7
/-! the whole matching of two trees -/
theorem MTa_ok {kd idn : Nat → Int32} {t u : mT} (hw : tWF 300 t) (hu : tWF 300 u) : pOK t u (MTa kd idn t u) := by
  have i0 : smI t u mt0 := ⟨⟨fun x y => ⟨fun g => (by cases g), fun g => (by cases g)⟩, fun x y g => (by cases g)⟩, fun x y g => (by cases g)⟩
  have i1 := f_inv (I := smI t u) (f := smS u) (pO t) mt0 (fun P x hx i => sm_inv ((pO_mem hw).mp hx) i) i0
  exact f_inv (pO t) _ (fun P x hx i => id_inv hu ((pO_mem hw).mp hx) i) (rt_inv hw hu i1.1)
theorem MTb_ok {kd idn : Nat → Int32} {t u : mT} (hw : tWF 300 t) (hu : tWF 300 u) : pOK t u (MTb kd idn t u) :=
  f_inv (pO t) _ (fun P x hx i => al_inv hw hu ((pO_mem hw).mp hx) i) (MTa_ok hw hu)
theorem MTc1_ok {kd idn : Nat → Int32} {t u : mT} (hw : tWF 300 t) (hu : tWF 300 u) : pOK t u ((pO u).foldl (abS kd idn t u true) (MTb kd idn t u)) :=
  f_inv (pO u) _ (fun P x hx i => ab_inv hw hu i) (MTb_ok hw hu)
theorem MTc_ok {kd idn : Nat → Int32} {t u : mT} (hw : tWF 300 t) (hu : tWF 300 u) : pOK t u (MTc kd idn t u) :=
  f_inv (pO u) _ (fun P x hx i => ab_inv hw hu i) (MTc1_ok hw hu)
theorem MTd_ok {kd idn : Nat → Int32} {t u : mT} (hw : tWF 300 t) (hu : tWF 300 u) : pOK t u (MTd kd idn t u) :=
  f_inv (pO t).reverse _ (fun P x hx i => be_inv hu ((pO_mem hw).mp (List.mem_reverse.mp hx)) i) (MTc_ok hw hu)
/-! its stages, as the class takes them -/
theorem p_SM {h : tpH} {p mk a mk1 b mk2 : Nat} {t u : mT} {kd idn : Nat → Int32} (X : MX h p mk a mk1 b mk2 t u) {F : Nat → Nat → Int32} (C : MXF F p mk a mk1 b mk2 t u kd idn) {P : mP} (M : McP F p t u P) {R : tpH → Prop} (kk : ∀ G, prFr p F G → McP G p t u ((pO t).foldl (smS u) P) → R (wI h G)) : w_Mt_pairSameMarks (p + 50) (some a) (some b) (wI h F) R := by
  refine ⟨(pO t).length + 1, ?_⟩
  exact p_sm2 X C _ 0 F P (Nat.zero_le _) (by omega) (fun _ _ _ => rfl) M kk
theorem p_ID {h : tpH} {p mk a mk1 b mk2 : Nat} {t u : mT} {kd idn : Nat → Int32} (X : MX h p mk a mk1 b mk2 t u) {F : Nat → Nat → Int32} (C : MXF F p mk a mk1 b mk2 t u kd idn) {P : mP} (M : McP F p t u P) {R : tpH → Prop} (kk : ∀ G, prFr p F G → McP G p t u ((pO t).foldl (idS kd idn u) P) → R (wI h G)) : w_Mt_pairIdentities (p + 50) (some a) (some b) (wI h F) R := by
  refine ⟨(pO t).length + 1, ?_⟩
  exact p_id2 X C _ 0 F P (Nat.zero_le _) (by omega) (fun _ _ _ => rfl) M kk
theorem p_AB {h : tpH} {p mk a mk1 b mk2 : Nat} {t u : mT} {kd idn : Nat → Int32} (X : MX h p mk a mk1 b mk2 t u) {F : Nat → Nat → Int32} (C : MXF F p mk a mk1 b mk2 t u kd idn) {P : mP} (M : McP F p t u P) (ok : pOK t u P) {v : Bool} {R : tpH → Prop} (kk : ∀ G, prFr p F G → McP G p t u ((pO u).foldl (abS kd idn t u v) P) → R (wI h G)) : w_Mt_pairFromAbove (p + 50) (some a) (some b) (if v = true then 1 else 0) (wI h F) R := by
  refine ⟨(pO u).length + 1, ?_⟩
  exact p_ab3 X C _ 0 F P (Nat.zero_le _) (by omega) (fun _ _ _ => rfl) M ok kk
theorem p_BE {h : tpH} {p mk a mk1 b mk2 : Nat} {t u : mT} {kd idn : Nat → Int32} (X : MX h p mk a mk1 b mk2 t u) {F : Nat → Nat → Int32} (C : MXF F p mk a mk1 b mk2 t u kd idn) {P : mP} (M : McP F p t u P) (ok : pOK t u P) {R : tpH → Prop} (kk : ∀ G, bFr p F G → McP G p t u ((pO t).reverse.foldl (beS kd idn t u) P) → R (wI h G)) : w_Mt_pairFromBelow (p + 50) (some a) (some b) (wI h F) R := by
  refine ⟨a, rfl, X.2.1.1.1, (pO t).length + 1, ?_⟩
  rw [wI_I, C.2.1.1, Int32.sub_eq_add_neg]
  refine p_be7 X C _ (pO t).length F P (Nat.le_refl _) (Nat.lt_succ_self _) (fun _ _ _ => rfl) M ok ?_
  rw [List.take_length]
  exact kk
theorem p_AL {h : tpH} {p mk a mk1 b mk2 : Nat} {t u : mT} {kd idn : Nat → Int32} (X : MX h p mk a mk1 b mk2 t u) {F : Nat → Nat → Int32} (C : MXF F p mk a mk1 b mk2 t u kd idn) {P : mP} (M : McP F p t u P) (ok : pOK t u P) {SL : List Nat} (E : FamE F (p + 37) kd idn t u SL) (A0 : ∀ x, tIn t x = true → (F (p + 56) (pl t x) = 1 ↔ pnO t P x = true) ∧ (pnO t P x = true → x ∈ SL)) (N : KN F p u SL P) {R : tpH → Prop} (kk : ∀ G, alFr p F G → McP G p t u ((pO t).foldl (alS kd idn t u) P) → R (wI h G)) : w_Mt_pairAlike (p + 50) (some a) (some b) (wI h F) R := by
  refine ⟨(pO t).length + 1, ?_⟩
  exact p_al2 X C E A0 _ 0 F P (Nat.zero_le _) (by omega) (fun _ _ _ => rfl) M ok ⟨fun _ _ => rfl, fun z g => absurd rfl g⟩ N kk
theorem p_SF {h : tpH} {p mk : Nat} {t u w : mT} {kd idn : Nat → Int32} (ll : lLi h (p + 37) (some p)) (lm : lMa h p) (lt : lMt h (p + 50) (some p) (some (p + 37))) (hw : tWF 300 t) (hu : tWF 300 u) (hk : mk ≤ 300) {off : Nat} (hA : (off = 0 ∧ w = t) ∨ (off = 300 ∧ w = u)) {aw mkw : Nat} (lw : lTr h aw (pO w).length mkw) (lw2 : mkw ≤ 300) (lw3 : p + 101 ≤ aw) {F0 : Nat → Nat → Int32} (hM : MaP F0 p mk kd idn) (Tw : TrP F0 aw w mkw) (hmw : ∀ m, tIn w m = true → m < mk) {rf : Nat} (hr : rf = p + 55 ∨ rf = p + 57) (lr : rwL h rf (rf + 1) 300) {rm : Nat} (hrm : rm = p + 51 ∨ rm = p + 53) (lrm : rwL h rm (rm + 1) 300) (m : Nat → Option Nat) (hm : ∀ x, tIn w x = true → (F0 (rm + 1) (pl w x) = -1 ↔ m x = none)) {S0 : List Nat} (hS : ∀ z ∈ S0, zm z < mk) (hS2 : ∀ c, tIn w c = true → off + c ∉ S0) (E0 : FamE F0 (p + 37) kd idn t u S0) {R : tpH → Prop} (kk : ∀ G, sfFr p rf F0 G → FamE G (p + 37) kd idn t u (sfL w m off 0 S0) → (∀ x, tIn w x = true → (G (rf + 1) (pl w x) = 1 ↔ pnm w m x = true)) → R (wI h G)) : w_Mt_sortFree (p + 50) (some aw) (some rm) (some rf) (nI off) (wI h F0) R := by
  have ww : tWF 300 w := by rcases hA with ⟨_, e⟩ | ⟨_, e⟩ <;> rw [e] <;> assumption
  refine ⟨(pO w).length + 1, ?_⟩
  exact p_sf3 ll lm lt hw hu hk hA lw lw2 lw3 hM Tw hmw hr lr hrm lrm m hm hS hS2 E0 (fun G g1 g2 g3 => kk G g1 g2 (fun x hx => sfR_0 ww g3 hx)) _ 0 F0 (Nat.zero_le _) (by omega) (fun _ _ _ => rfl) (fun x hx hl => absurd hl (Nat.not_lt_zero _))
theorem sfL_m {w : mT} (hw : tWF 300 w) {m : Nat → Option Nat} {off : Nat} {S0 : List Nat} {z : Nat} : z ∈ sfL w m off 0 S0 ↔ (∃ x, tIn w x = true ∧ pnm w m x = true ∧ z = off + x) ∨ z ∈ S0 := by
  unfold sfL
  rw [List.drop_zero, List.mem_append, List.mem_map]
  constructor
  · rintro (⟨x, h1, h2⟩ | g)
    · have := List.mem_filter.mp h1
      exact Or.inl ⟨x, (pO_mem hw).mp this.1, this.2, h2.symm⟩
    · exact Or.inr g
  · rintro (⟨x, h1, h2, h3⟩ | g)
    · exact Or.inl ⟨x, List.mem_filter.mpr ⟨(pO_mem hw).mpr h1, h2⟩, h3.symm⟩
    · exact Or.inr g
theorem p_set17 {h : tpH} {p mk a mk1 b mk2 : Nat} {t u : mT} {kd idn : Nat → Int32} (X : MX h p mk a mk1 b mk2 t u) {F : Nat → Nat → Int32} (C : MXF F p mk a mk1 b mk2 t u kd idn) {R : tpH → Prop} (kk : ∀ G, sFr p F G → McP G p t u (MTd kd idn t u) → R (wI (sR (sR h (p + 50) 7 (some a)) (p + 50) 8 (some b)) G)) : w_Mt_settle_17 R (p + 50) (some a) (some b) (wI h F) := by
  generalize eh : sR (sR h (p + 50) 7 (some a)) (p + 50) 8 (some b) = h' at kk
  have sm : ∀ c, c ≠ p + 50 → hSm h h' c := fun c hc => by
    rw [← eh]
    refine ⟨rfl, rfl, ?_, rfl, rfl, rfl⟩
    show tpu (tpu (hR h) (p + 50) 7 (some a)) (p + 50) 8 (some b) c = hR h c
    rw [tpu_fa _ _ _ _ _ hc, tpu_fa _ _ _ _ _ hc]
  have r50 : ∀ j, j < 7 → hR h' (p + 50) j = hR h (p + 50) j := fun j hj => by
    rw [← eh]
    show tpu (tpu (hR h) (p + 50) 7 (some a)) (p + 50) 8 (some b) (p + 50) j = hR h (p + 50) j
    rw [tpu_j _ _ _ _ _ _ (by omega), tpu_j _ _ _ _ _ _ (by omega)]
  have X' : MX h' p mk a mk1 b mk2 t u := by
    obtain ⟨⟨lm, ll, lt⟩, ⟨la, la2, la3⟩, ⟨lb, lb2, lb3⟩, rest⟩ := X
    refine ⟨⟨lMa_k lm (fun c c1 c2 => sm c (by omega)), lLi_k ll (fun c c1 c2 => sm c (by omega)), ?_⟩, ⟨lTr_k la (fun c c1 c2 => sm c (by omega)), la2, la3⟩, ⟨lTr_k lb (fun c c1 c2 => sm c (by omega)), lb2, lb3⟩, rest⟩
    obtain ⟨t0, e0, e1, ⟨r1, r2⟩, ⟨s1, s2⟩, ⟨q1, q2⟩, ⟨v1, v2⟩, ⟨w1, w2⟩⟩ := lt
    have k2 : ∀ {r c n : Nat}, r ≠ p + 50 → c ≠ p + 50 → rwL h r c n → rwL h' r c n := fun h1 h2 g => rwL_k g (sm _ h1) (sm _ h2)
    refine ⟨?_, (r50 0 (by decide)).trans e0, (r50 1 (by decide)).trans e1, ⟨(r50 2 (by decide)).trans r1, k2 (by omega) (by omega) r2⟩, ⟨(r50 3 (by decide)).trans s1, k2 (by omega) (by omega) s2⟩, ⟨(r50 4 (by decide)).trans q1, k2 (by omega) (by omega) q2⟩, ⟨(r50 5 (by decide)).trans v1, k2 (by omega) (by omega) v2⟩, ⟨(r50 6 (by decide)).trans w1, k2 (by omega) (by omega) w2⟩⟩
    rw [← eh]
    exact t0
  obtain ⟨⟨lm, ll, lt⟩, ⟨la, la2, la3⟩, ⟨lb, lb2, lb3⟩, ⟨hw, hu⟩, hk, ht, hum⟩ := id X'
  obtain ⟨t0, e0, e1, ⟨r1, r2⟩, ⟨s1, s2⟩, ⟨q1, q2⟩, ⟨v1, v2⟩, ⟨w1, w2⟩⟩ := id lt
  have l3 := pO_le hw
  have l4 := pO_le hu
  refine ⟨X.1.2.2.1, fun h2 eh2 h4 eh4 => ?_⟩
  have e4 : h4 = wI h' F := by rw [eh4, eh2, ← eh]; rfl
  rw [e4]
  refine ⟨a, rfl, la.1, p + 50 + 1, r1, r2.1, ?_⟩
  rw [wI_I, C.2.1.1]
  refine p_fill (rwL_w r2) (by decide) l3 ⟨t0, b, rfl, lb.1, p + 50 + 3, s1, s2.1, ?_⟩
  rw [wI_I, wI_wI, wI_I, show rFill F (p + 50 + 2) (pO t).length (-1) b 0 = nI (pO u).length from by rw [rFill_ne (by omega)]; exact C.2.2.1]
  refine p_fill (rwL_w s2) (by decide) l4 ⟨t0, ?_⟩
  rw [wI_I, wI_wI]
  generalize eF1 : rFill (rFill F (p + 50 + 2) (pO t).length (-1)) (p + 50 + 4) (pO u).length (-1) = F1
  have f1 : prFr p F F1 := fun c j hc => by rw [← eF1, rFill_ne (by omega), rFill_ne (by omega)]
  have M1 : McP F1 p t u mt0 := ⟨fun x hx => by rw [← eF1, rFill_ne (by omega), show p + 52 = p + 50 + 2 by omega, rFill_in (pl_lt hw hx)]; rfl, fun y hy => by rw [← eF1, show p + 54 = p + 50 + 4 by omega, rFill_in (pl_lt hu hy)]; rfl⟩
  refine p_SM X' (MXF_fr X' C (prFr_s f1)) M1 (fun F2 f2 M2 => ⟨t0, p_rt X' M2 (fun F3 f3 M3 => ⟨t0, ?_⟩)⟩)
  have f13 := prFr_tr f1 (prFr_tr f2 f3)
  refine p_ID X' (MXF_fr X' C (prFr_s f13)) M3 (fun F4 f4 M4 => ⟨t0, p + 37, e1, ll.1, p_Li_clear ll F4 ⟨t0, ?_⟩⟩)
  have f14 := prFr_tr f13 f4
  have M4' : McP F4 p t u (MTa kd idn t u) := M4
  have okA := MTa_ok (kd := kd) (idn := idn) hw hu
  obtain ⟨PA, ePA⟩ : ∃ PA, MTa kd idn t u = PA := ⟨_, rfl⟩
  rw [ePA] at M4' okA
  rw [show hR (wI h' (tpu (tpu F4 (p + 37) 7 0) (p + 37) 8 0)) (p + 50) 2 = some (p + 50 + 1) from r1, show hR (wI h' (tpu (tpu F4 (p + 37) 7 0) (p + 37) 8 0)) (p + 50) 4 = some (p + 50 + 5) from q1]
  generalize eF5 : tpu (tpu F4 (p + 37) 7 0) (p + 37) 8 0 = F5
  have f5 : ∀ c j, c ≠ p + 37 → F5 c j = F4 c j := fun c j hc => by rw [← eF5, tpu_o (by omega), tpu_o (by omega)]
  have E5 : FamE F5 (p + 37) kd idn t u [] := Fam0 (by rw [← eF5, tpu_o (by omega), tpu_s]) (by rw [← eF5, tpu_s])
  have f15 : sFr p F F5 := fun c j hc => (f5 c j (by omega)).trans (f14 c j (by omega))
  have C5 := MXF_fr X' C f15
  have M5 : McP F5 p t u PA := ⟨fun x hx => (f5 _ _ (by omega)).trans (M4'.1 x hx), fun y hy => (f5 _ _ (by omega)).trans (M4'.2 y hy)⟩
  refine p_SF (off := 0) ll lm lt hw hu hk (Or.inl ⟨rfl, rfl⟩) la la2 la3 C5.1 C5.2.1 (fun m hm => (ht m hm).1) (rf := p + 50 + 5) (Or.inl (by omega)) q2 (rm := p + 50 + 1) (Or.inl (by omega)) r2 PA.1 (fun x hx => ?_) (fun z hz => by cases hz) (fun c _ hc => by cases hc) E5 (fun F6 f6 E6 V6 => ⟨t0, ?_⟩)
  · rw [show p + 50 + 1 + 1 = p + 52 by omega, M5.1 x hx]
    exact nO_pl hu
  rw [show hR (wI h' F6) (p + 50) 3 = some (p + 50 + 3) from s1, show hR (wI h' F6) (p + 50) 5 = some (p + 50 + 7) from v1]
  have f16 : sFr p F F6 := fun c j hc => (f6 c j (by omega)).trans (f15 c j hc)
  have C6 := MXF_fr X' C f16
  have M6 : McP F6 p t u PA := ⟨fun x hx => (f6 _ _ (by omega)).trans (M5.1 x hx), fun y hy => (f6 _ _ (by omega)).trans (M5.2 y hy)⟩
  have mS1 : ∀ z, z ∈ sfL t PA.1 0 0 [] ↔ ∃ x, tIn t x = true ∧ pnm t PA.1 x = true ∧ z = 0 + x := fun z => by
    rw [sfL_m hw]
    exact ⟨fun g => g.elim id (fun q => by cases q), Or.inl⟩
  refine p_SF (off := 300) ll lm lt hw hu hk (Or.inr ⟨rfl, rfl⟩) lb lb2 lb3 C6.1 C6.2.2 (fun m hm => (hum m hm).1) (rf := p + 50 + 7) (Or.inr (by omega)) v2 (rm := p + 50 + 3) (Or.inr (by omega)) s2 PA.2 (fun x hx => ?_) (fun z hz => ?_) (fun c hc g => ?_) E6 (fun F7 f7 E7 V7 => ⟨t0, ?_⟩)
  · rw [show p + 50 + 3 + 1 = p + 54 by omega, M6.2 x hx]
    exact nO_pl hw
  · obtain ⟨x, x1, x2, x3⟩ := (mS1 z).mp hz
    have i1 := (ht x x1).1
    have i2 := hw.1.1 x x1
    unfold zm
    rw [if_pos (by omega)]
    omega
  · obtain ⟨x, x1, x2, x3⟩ := (mS1 _).mp g
    have i2 := hw.1.1 x x1
    omega
  have f17 : sFr p F F7 := fun c j hc => (f7 c j (by omega)).trans (f16 c j hc)
  have C7 := MXF_fr X' C f17
  have M7 : McP F7 p t u PA := ⟨fun x hx => (f7 _ _ (by omega)).trans (M6.1 x hx), fun y hy => (f7 _ _ (by omega)).trans (M6.2 y hy)⟩
  refine p_AL X' C7 M7 okA E7 (fun x hx => ⟨?_, fun g => ?_⟩) (fun y hy => ⟨fun g => ?_, ?_⟩) (fun F8 f8 M8 => ⟨t0, ?_⟩)
  · rw [f7 (p + 56) _ (by omega)]
    exact V6 x hx
  · exact (sfL_m hu).mpr (Or.inr ((mS1 x).mpr ⟨x, hx, g, by omega⟩))
  · exact (sfL_m hu).mpr (Or.inl ⟨y, hy, (V7 y hy).mp g, rfl⟩)
  · exact ⟨fun g => (V7 y hy).mp g.1, fun g => ⟨(V7 y hy).mpr g, pnN_iff.mp g y (tPo_self hu.1.2.2.2.1 y)⟩⟩
  have f18 : sFr p F F8 := fun c j hc => (f8 c j (by omega)).trans (f17 c j hc)
  have okB : pOK t u ((pO t).foldl (alS kd idn t u) PA) := f_inv (pO t) _ (fun P x hx i => al_inv hw hu ((pO_mem hw).mp hx) i) okA
  refine p_AB (v := true) X' (MXF_fr X' C f18) M8 okB (fun F9 f9 M9 => ⟨t0, ?_⟩)
  have f19 : sFr p F F9 := fun c j hc => (f9 c j (by omega)).trans (f18 c j hc)
  have okC := f_inv (I := pOK t u) (f := abS kd idn t u true) (pO u) _ (fun P x hx i => ab_inv hw hu i) okB
  refine p_AB (v := false) X' (MXF_fr X' C f19) M9 okC (fun F10 f10 M10 => ⟨t0, ?_⟩)
  have f110 : sFr p F F10 := fun c j hc => (f10 c j (by omega)).trans (f19 c j hc)
  have okD := f_inv (I := pOK t u) (f := abS kd idn t u false) (pO u) _ (fun P x hx i => ab_inv hw hu i) okC
  exact p_BE X' (MXF_fr X' C f110) M10 okD (fun F11 f11 M11 => kk F11 (fun c j hc => (f11 c j (by omega)).trans (f110 c j hc)) (by unfold MTd MTc MTb; rw [ePA]; exact M11))
end MT7
