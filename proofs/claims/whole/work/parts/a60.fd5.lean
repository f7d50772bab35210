section FD5
theorem spr_fr {F : Nat → Nat → Int32} {d m : Nat} {w : Int32} (hm : m < 300) {b j : Nat} (h1 : ¬ (d + 2 ≤ b ∧ b ≤ d + 14)) (h2 : ¬ (b = d ∧ j = 9)) : uSprout F d (nI m) w b j = F b j := by
  unfold uSprout
  simp only [rPut_n hm n300]
  rw [tpu_o h2, tpu_o (by omega), tpu_o (by omega), tpu_o (by omega), tpu_o (by omega), tpu_o (by omega), tpu_o (by omega), tpu_o (by omega)]
def fdR (lo : Nat → Bool) (P : mP) (u c : mT) (l : List mSt) (y : Nat) : Option (List mSt) := match fdE lo P u c y with
  | some e => addO l e
  | none => some l
theorem fdR_s {lo : Nat → Bool} {P : mP} {u c : mT} {l : List mSt} {y : Nat} {e : mSt} (h : fdE lo P u c y = some e) : fdR lo P u c l y = addO l e := by unfold fdR; rw [h]
theorem fdR_n {lo : Nat → Bool} {P : mP} {u c : mT} {l : List mSt} {y : Nat} (h : fdE lo P u c y = none) : fdR lo P u c l y = some l := by unfold fdR; rw [h]
def TW (F : Nat → Nat → Int32) (p : Nat) (u : mT) (P : mP) (i : Nat) : Prop := ∀ z, tIn u z = true → F (p + 63) (pl u z) = if pl u z < i then nI (twF P z) else nO (P.2 z)
def fdTz (p z0 c j : Nat) : Prop := fdT p c j ∨ z0 ≤ c
theorem p_brMove {h : tpH} {x p D z0 mk a mk1 b mk2 : Nat} {t u : mT} {kd idn : Nat → Int32} {P : mP} (X : fX h x p D z0 mk a mk1 b mk2 t u kd idn P) {sa : Nat} {l : List mSt} (S : SS h p D z0 sa (some l)) {c : mT} (hB : BuP (hI h) (p + 20) c) (hw : tWF 300 c) {xx r q : Nat} (hx : tIn c xx = true) (hq : tUp c xx = some q) (hr : tIn c r = true) (hrm : r < mk) (hne : r ≠ xx) {ao : Option Nat} (ha : ∀ d, ao = some d → d ∈ tKi c r ∧ d ≠ xx) (hw' : tWF 300 (dMove c xx r (loK kd r) (aK (tKi (tCut c xx) r) ao))) {R : tpH → Prop} (kk : ∀ h', SS h' p D z0 sa (addO l (2, xx, -1, -1, spO c xx, spO (dMove c xx r (loK kd r) (aK (tKi (tCut c xx) r) ao)) xx)) → BuP (hI h') (p + 20) (dMove c xx r (loK kd r) (aK (tKi (tCut c xx) r) ao)) → hFr h h' (fdTz p z0) (fun c _ => z0 ≤ c) → hI h' (p + 63) = hI h (p + 63) → hI h' (p + 20) 8 = hI h (p + 20) 8 → hZ h' = hZ h + 3 → hU h' = hU h + 12 → R h') : hT h (p + 61) = 2 ∧ (∃ a36, (hR h (p + 61) 1) = some a36 ∧ hT h a36 = 1 ∧ (w_Bu_spotOf a36 (nI xx) h (fun v40 h39 => hT h39 (p + 61) = 2 ∧ (∃ a42, (hR h39 (p + 61) 1) = some a42 ∧ hT h39 a42 = 1 ∧ (w_Bu_cut a42 (nI xx) h39 (fun h45 => hT h45 (p + 61) = 2 ∧ (∃ a47, (hR h45 (p + 61) 1) = some a47 ∧ hT h45 a47 = 1 ∧ (w_Bu_hang a47 (nI xx) (nI r) (nO ao) h45 (fun h50 => ∀ a51 h52, a51 = hZ h50 → h52 = nC h50 11 0 6 → (hT h52 (p + 61) = 2 ∧ (∃ a56, (hR h52 (p + 61) 1) = some a56 ∧ hT h52 a56 = 1 ∧ (w_Bu_spotOf a56 (nI xx) h52 (fun v60 h59 => hT h59 a51 = 11 ∧ (w_St_init a51 (2 : Int32) (nI xx) (-1 : Int32) (-1 : Int32) v40 v60 h59 (fun h62 => ∃ a63, some sa = some a63 ∧ hT h62 a63 = 9 ∧ (w_Sc_add a63 (some a51) h62 (fun h66 => R h66))))))))))))))))) := by
  obtain ⟨lm, lb, lt, lf⟩ := fX_l X
  have x2 := X.1.2.2.1
  have x3 := X.1.2.2.2.1
  have x4 := X.1.2.2.2.2
  obtain ⟨A1, B1, eK⟩ := List.append_of_mem ((hw.1.2.1 xx q).mpr ⟨hx, hq⟩)
  refine ⟨lf.1, p + 20, lf.2.2.1, lb.1, p_spot lb x2 (by omega) hB hw.1 eK (fun h1 s1 f1 z1 u1 => ?_)⟩
  have X1 := fX_fr X (hFr_mono f1 (fun _ _ _ g => g.elim) (fun _ _ _ g => g.elim))
  obtain ⟨lm1, lb1, _, lf1⟩ := fX_l X1
  have eI1 : ∀ d, d < hZ h → hI h1 d = hI h d := fun d hd => funext fun j => (f1.2 d hd).2.2.2.2.1 j (fun g => g.elim)
  have hB1 : BuP (hI h1) (p + 20) c := BuP_k hB (fun d d1 d2 => eI1 d (by omega))
  refine ⟨lf1.1, p + 20, lf1.2.2.1, lb1.1, ?_⟩
  show w_Bu_cut (p + 20) (nI xx) (wI h1 (hI h1)) _
  rw [e_Bu_cut lb1]
  obtain ⟨hB2, fr2⟩ := bu_cut hB1 hw.1 eK
  generalize eF2 : uCut (hI h1) (p + 20) (nI xx) = F2 at hB2 fr2
  have f2 : hFr h1 (wI h1 F2) (fdT p) no2 := hFr_w h1 _ (fun d j hd => by unfold fdT at hd; rw [fr2 d (by omega) (by omega) (by omega) (by omega) (by omega)])
  have X2 := fX_fr X1 (hFr_mono f2 (fun _ _ _ g => Or.inl g) (fun _ _ _ g => g.elim))
  obtain ⟨lm2, lb2, _, lf2⟩ := fX_l X2
  refine ⟨lf2.1, p + 20, lf2.2.2.1, lb2.1, ?_⟩
  have hlo : F2 (p + 2) r < 4 ↔ loK kd r = false := by rw [← loK_iff]; exact iff_of_eq (congrArg (· < 4) (X2.2.1.1.2 r hrm).1)
  refine p_cHang lb1 lm1 hB2 (fCut hw.1 xx) (m := xx) (r := r) hx (mU_s _ _ _) hr (a := ao) (fun d hd => ?_) hlo (fun G hB3 fr3 => ?_)
  · show d ∈ (tKi c r).erase xx
    exact (List.mem_erase_of_ne (ha d hd).2).mpr (ha d hd).1
  have hB3' : BuP G (p + 20) (dMove c xx r (loK kd r) (aK (tKi (tCut c xx) r) ao)) := hB3
  have f3 : hFr h1 (wI h1 G) (fdT p) no2 := hFr_w h1 _ (fun d j hd => by unfold fdT at hd; rw [fr3 d (by omega) (by omega) (by omega) (by omega) (by omega), fr2 d (by omega) (by omega) (by omega) (by omega) (by omega)])
  have X3 := fX_fr X1 (hFr_mono f3 (fun _ _ _ g => Or.inl g) (fun _ _ _ g => g.elim))
  generalize eh3 : wI h1 G = h3 at f3 X3
  have hB3'' : BuP (hI h3) (p + 20) (dMove c xx r (loK kd r) (aK (tKi (tCut c xx) r) ao)) := by rw [← eh3]; exact hB3'
  have i63 : hI h3 (p + 63) = hI h (p + 63) := by
    rw [← eh3]
    show G (p + 63) = _
    rw [fr3 _ (by omega) (by omega) (by omega) (by omega) (by omega), fr2 _ (by omega) (by omega) (by omega) (by omega) (by omega), eI1 _ (by omega)]
  have i20 : hI h3 (p + 20) 8 = hI h (p + 20) 8 := by
    rw [← eh3]
    show G (p + 20) 8 = _
    rw [fr3 _ (by omega) (by omega) (by omega) (by omega) (by omega), fr2 _ (by omega) (by omega) (by omega) (by omega) (by omega), eI1 _ (by omega)]
  have z3 : hZ h3 = hZ h1 := by rw [← eh3]; rfl
  have u3 : hU h3 = hU h1 := by rw [← eh3]; rfl
  have eK' : tKi (dMove c xx r (loK kd r) (aK (tKi (tCut c xx) r) ao)) r = hgA (loK kd r) (tKi (tCut c xx) r) xx ((tKi (tCut c xx) r).take (aK (tKi (tCut c xx) r) ao)) ++ xx :: hgB (loK kd r) (tKi (tCut c xx) r) xx ((tKi (tCut c xx) r).drop (aK (tKi (tCut c xx) r) ao)) := mU_s _ _ _
  generalize dMove c xx r (loK kd r) (aK (tKi (tCut c xx) r) ao) = c' at hB3'' kk eK' hw'
  obtain ⟨lm3, lb3, _, lf3⟩ := fX_l X3
  intro a51 h52 e51 e52
  subst e51 e52
  have sm : ∀ d, d < hZ h3 → hSm h3 (nC h3 11 0 6) d := fun d hd => hSm_nC h3 11 0 6 d hd
  have s61 := sm (p + 61) (by omega)
  have zn : hZ (nC h3 11 0 6) = hZ h3 + 1 := rfl
  have un : hU (nC h3 11 0 6) = hU h3 + 6 := rfl
  refine ⟨by rw [s61.1]; exact lf3.1, p + 20, by rw [s61.2.2.1]; exact lf3.2.2.1, by rw [(sm (p + 20) (by omega)).1]; exact lb3.1, p_spot (lBu_k lb3 (fun d d1 d2 => sm d (by omega))) x2 (by omega) (BuP_k hB3'' (fun d d1 d2 => (sm d (by omega)).2.2.2.1)) hw'.1 eK' (fun h4 s4 f4 z4 u4 => ?_)⟩
  have f14 : hFr h1 h4 (fdT p) no2 := hFr_mono (hFr_tr f3 (hFr_tr (hFr_nC h3 11 0 6 no2 no2) f4)) (fun _ _ _ g => g.elim id (fun g => g.elim (fun g => g.elim) (fun g => g.elim))) (fun _ _ _ g => g.elim id (fun g => g.elim id id))
  have hu4 : SpP h4 p D (hZ h) (spO c xx) := SpP_fr s1 (by omega) f14 (fun d j hd => ⟨fun g => by unfold fdT at g; omega, fun g => g.elim⟩)
  refine p_St_late (h1 := h3) (k := 2) (by omega) (by omega) f4 hu4 s4 (fun h5 t5 f5 z5 u5 => ?_)
  have f15 : hFr h h5 (fdT p) no2 := hFr_mono (hFr_tr f1 (hFr_tr f3 f5)) (fun _ _ _ g => g.elim (fun g => g.elim) (fun g => g.elim id (fun g => g.elim))) (fun _ _ _ g => g.elim id (fun g => g.elim id id))
  have S5 : ScB h5 p D z0 sa 100 l := SS_fr (s := some l) S (by omega) x2 x3 f15
  have b20 : p + 63 < hZ h3 := by omega
  refine ⟨sa, rfl, S5.2.1, p_addO S5 (by omega) t5 (fun h6 v1 v2 v3 v4 => kk h6 v1 ?_ ?_ ?_ ?_ (by omega) (by omega))⟩
  · exact BuP_k hB3'' (fun d d1 d2 => funext fun j => ((v2.2 d (by omega)).2.2.2.2.1 j (by omega)).trans ((f5.2 d (by omega)).2.2.2.2.1 j (fun g => g.elim)))
  · exact hFr_mono (hFr_tr f15 v2) (fun d j _ g => g.elim (fun g => Or.inl g) (fun g => Or.inr g)) (fun d j _ g => g.elim (fun g => g.elim) id)
  · exact funext fun j => ((v2.2 _ (by omega)).2.2.2.2.1 j (by omega)).trans (((f5.2 _ (by omega)).2.2.2.2.1 j (fun g => g.elim)).trans (congrFun i63 j))
  · exact ((v2.2 _ (by omega)).2.2.2.2.1 8 (by omega)).trans (((f5.2 _ (by omega)).2.2.2.2.1 8 (fun g => g.elim)).trans i20)
end FD5
