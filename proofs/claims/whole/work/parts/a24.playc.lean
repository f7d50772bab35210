section PLAYC
theorem p_St_playOn {h : tpH} {p D b : Nat} {e : mSt} {mk : Nat} {kd idn : Nat → Int32} {rt : Nat → Bool} (lb : lBu h (p + 20) (some (p + 0))) (lm : lMa h (p + 0)) (hpD : p + 101 ≤ D) (hz : D ≤ hZ h) {F : Nat → Nat → Int32} (H : StP (wI h F) p D b e) {t : mT} (hB : BuP F (p + 20) t) (h8 : F (p + 20) 8 = nI (tRt t)) (hI0 : trI mk kd rt t) (hM : MaP F p mk kd idn) (hk : mk ≤ 300) (hs : stpI mk rt e) {R : Int32 → tpH → Prop}
    (kk : ∀ G, BuP G (p + 20) (mPl (loK kd) t e).1 → G (p + 20) 8 = nI (tRt t) → (∀ b, b < p + 20 ∨ p + 35 ≤ b → G b = F b) → R (nI (mPl (loK kd) t e).2) (wI h G)) : w_St_playOn b (some (p + 20)) (wI h F) R := by
  have hw := hI0.1
  have H' := H
  obtain ⟨H1, H2, H3, H4, H5, H6, _, v, H9, HV⟩ := H
  have hs' := hs
  obtain ⟨S1, S2, S3, S4, S5⟩ := hs
  have hm3 : e.2.1 < 300 := by omega
  have hkt : (nI e.1).toInt = (e.1 : Int) := nI_toInt (by omega)
  have hlr : ∀ r, tIn t r = true → (F (p + 2) r < 4 ↔ loK kd r = false) := fun r hr => by rw [(hM.2 r (hI0.2.1 r hr).1).1]; exact loK_iff kd r
  refine ⟨H2, p_fits lb H' hB h8 hw hk hs' (fun hf => ?_) (fun hf => ?_)⟩
  · obtain ⟨f0, f1, f2, f3⟩ := hf
    refine ⟨fun _ => ⟨H2, ?_⟩, fun g => absurd g (by decide)⟩
    rw [H3, hkt]
    have mov : e.1 = 2 → w_St_playOn_108 R b (some (p + 20)) (wI h F) := fun k2 => by
      obtain ⟨g1, r, er, hr, hn⟩ := f2 k2
      rw [mPl_mov k2 er g1 hr hn] at kk
      refine ⟨H2, p + 20, rfl, lb.1, ?_⟩
      rw [H4]
      show w_Bu_cut (p + 20) (nI e.2.1) (wI h F) _
      rw [e_Bu_cut lb]
      obtain ⟨hB1, hf1⟩ := bu_cutg hB hw.1 g1
      have hw1 := fCut hw.1 e.2.1
      have hum : tUp (tCut t e.2.1) e.2.1 = none := mU_s _ _ _
      have fr1 : ∀ b, b < p + 20 ∨ p + 35 ≤ b → uCut F (p + 20) (nI e.2.1) b = F b := fun b hb => hf1 b (by omega) (by omega) (by omega) (by omega) (by omega)
      have hmk : e.2.1 ∉ tKi (tCut t e.2.1) r := fun q => by have := (fKi_in hw1 q).2; rw [hum] at this; simp at this
      refine ⟨H2, p_arr lb lm hpD hz (StP_w H' hpD hz fr1) hB1 hw1 er hr hk S5 g1 hum hmk (by rw [fr1 _ (by omega)]; exact hlr r hr) (fun G k1 k3 => kk G k1 ?_ (fun b hb => ?_))⟩
      · rw [k3 (p + 20) (by omega) (by omega) (by omega) (by omega) (by omega), hf1 (p + 20) (by omega) (by omega) (by omega) (by omega) (by omega)]
        exact h8
      · rw [k3 b (by omega) (by omega) (by omega) (by omega) (by omega)]
        exact fr1 b hb
    refine ⟨fun g => absurd g (by omega), fun g => ?_, fun g => ?_, fun g => mov (by omega), fun g => ?_⟩
    · have k0 : e.1 = 0 := by omega
      have hi := f0 k0
      rw [mPl_set k0 hi] at kk
      have kv := kk (rPut F (p + 20 + 4) 300 (nI e.2.1) e.2.2.2.1) (bu_set hB hm3 _) (by rw [rw_ne F (by omega)]; exact h8) (fun b hb => rw_ne F (by omega))
      refine ⟨p + 20, rfl, lb.1, ?_⟩
      rw [H4]
      show w_Bu_worthOf (p + 20) (nI e.2.1) (wI h F) _
      rw [e_Bu_worthOf lb, rAt_n hm3 n300, (hB.2.2 _ hi).1]
      refine ⟨H2, lb.1, ?_⟩
      rw [H6, e_Bu_give lb, H4]
      have H5' : hI (wI h (rPut F (p + 20 + 4) 300 (nI e.2.1) e.2.2.2.1)) b 2 = e.2.2.1 := by
        have hb0 : b ≠ p + 20 + 4 := by omega
        rw [wI_I, rw_ne F hb0]
        exact H5
      refine ⟨H2, ?_⟩
      rw [H5']
      refine ⟨fun q => ?_, fun q => ?_⟩
      · have kv : R (nI (if tWo t e.2.1 = e.2.2.1 then 0 else 1)) _ := kv
        rw [if_neg q] at kv
        exact kv
      · have kv : R (nI (if tWo t e.2.1 = e.2.2.1 then 0 else 1)) _ := kv
        rw [if_pos q] at kv
        exact kv
    · have k1 : e.1 = 1 := by omega
      obtain ⟨g1, r, er, hr⟩ := f1 k1
      rw [mPl_put k1 er g1 hr] at kk
      have hrm : r ≠ e.2.1 := fun q => by rw [q, g1] at hr; simp at hr
      refine ⟨p + 20, rfl, lb.1, ?_⟩
      rw [H4, H6]
      show w_Bu_sprout (p + 20) (nI e.2.1) _ (wI h F) _
      rw [e_Bu_sprout lb]
      have hB1 := bu_spr (w := e.2.2.2.1) hB hw.1 hm3 g1
      have hw1 := fSpr (w := e.2.2.2.1) hw.1 g1 hm3
      obtain ⟨-, -, -, -, -, -, -, s0, so⟩ := spr_at F (d := p + 20) (w := e.2.2.2.1) hm3
      have fr1 : ∀ b, b < p + 20 ∨ p + 35 ≤ b → uSprout F (p + 20) (nI e.2.1) e.2.2.2.1 b = F b := fun b hb => so b (by omega) (by omega) (by omega) (by omega) (by omega) (by omega) (by omega) (by omega)
      have hik : tIn (tSpr t e.2.1 e.2.2.2.1) e.2.1 = true := mU_s _ _ _
      have hir : tIn (tSpr t e.2.1 e.2.2.2.1) r = true := (mU_n _ _ hrm).trans hr
      have hum : tUp (tSpr t e.2.1 e.2.2.2.1) e.2.1 = none := mU_s _ _ _
      have hmk : e.2.1 ∉ tKi (tSpr t e.2.1 e.2.2.2.1) r := fun q => by have := (fKi_in hw1 q).2; rw [hum] at this; simp at this
      refine ⟨H2, p_arr lb lm hpD hz (StP_w H' hpD hz fr1) hB1 hw1 er hir hk S5 hik hum hmk (lo := loK kd r) (by rw [fr1 _ (by omega)]; exact hlr r hr) (fun G k2 k3 => ?_)⟩
      rw [spr_kids hrm] at k2 ⊢
      refine kk G k2 ?_ (fun b hb => ?_)
      · rw [k3 (p + 20) (by omega) (by omega) (by omega) (by omega) (by omega), s0, mU_n _ _ (by decide)]
        exact h8
      · rw [k3 b (by omega) (by omega) (by omega) (by omega) (by omega)]
        exact fr1 b hb
    · have k3 : e.1 = 3 := by omega
      have hi := f3 k3
      rw [mPl_rem k3 hi] at kk
      refine ⟨p + 20, rfl, lb.1, ?_⟩
      rw [H4]
      show w_Bu_erase (p + 20) (nI e.2.1) (wI h F) _
      obtain ⟨e1, e2, e3⟩ := bu_ers hB hw.1 hi.1
      refine p_Bu_erase lb hB hw.1 hi.1 (kk _ e1 ?_ (fun b hb => e2 b (by omega) (by omega) (by omega) (by omega) (by omega) (by omega) (by omega)))
      rw [e3 8 (by decide)]
      exact h8
  · rw [mPl_no S1 hf] at kk
    exact ⟨fun g => absurd rfl g, fun _ => kk F hB h8 (fun _ _ => rfl)⟩
noncomputable def mPlL (lo : Nat → Bool) : mT → List mSt → mT × Nat
  | t, [] => (t, 0)
  | t, e :: s => ((mPlL lo (mPl lo t e).1 s).1, (mPl lo t e).2 + (mPlL lo (mPl lo t e).1 s).2)
theorem mPlL_I {mk : Nat} {kd : Nat → Int32} {rt : Nat → Bool} (hk : mk ≤ 300) : ∀ (s : List mSt) (t : mT), trI mk kd rt t → (∀ e ∈ s, stpI mk rt e) → trI mk kd rt (mPlL (loK kd) t s).1 ∧ tRt (mPlL (loK kd) t s).1 = tRt t ∧ (mPlL (loK kd) t s).2 ≤ 10 * s.length
  | [], t, H, _ => ⟨H, rfl, Nat.le_refl _⟩
  | e :: s, t, H, hs => by
    obtain ⟨a1, a2, a3⟩ := mPl_I H hk (hs e List.mem_cons_self)
    obtain ⟨b1, b2, b3⟩ := mPlL_I hk s (mPl (loK kd) t e).1 a1 (fun x hx => hs x (List.mem_cons_of_mem _ hx))
    refine ⟨b1, b2.trans a2, ?_⟩
    show (mPl (loK kd) t e).2 + (mPlL (loK kd) (mPl (loK kd) t e).1 s).2 ≤ 10 * (s.length + 1)
    omega
theorem p_play4 {h : tpH} {p D a mk : Nat} {kd idn : Nat → Int32} {rt : Nat → Bool} (lb : lBu h (p + 20) (some (p + 0))) (lm : lMa h (p + 0)) (hpD : p + 101 ≤ D) (hz : D ≤ hZ h) (hk : mk ≤ 300) {s : List mSt} (hs : s.length ≤ 100) (hI1 : ∀ e ∈ s, stpI mk rt e) {R : Int32 → tpH → Prop} {rtt : Nat} :
    ∀ (n : Nat) (A L : List mSt) (c : Nat) (t : mT) (F : Nat → Nat → Int32), s = A ++ L → L.length < n → ScO (wI h F) p D a s → BuP F (p + 20) t → F (p + 20) 8 = nI rtt → tRt t = rtt → trI mk kd rt t → MaP F p mk kd idn → (∀ G, BuP G (p + 20) (mPlL (loK kd) t L).1 → G (p + 20) 8 = nI rtt → (∀ b, b < p + 20 ∨ p + 35 ≤ b → G b = F b) → R (nI (c + (mPlL (loK kd) t L).2)) (wI h G)) → w_Sc_playOn_4 R n a (some (p + 20)) (nI c) (nI A.length) (wI h F)
  | 0, A, L, c, t, F, e1, e2, hO, hB, h8, hr, hI0, hM, kk => by omega
  | n + 1, A, [], c, t, F, e1, e2, hO, hB, h8, hr, hI0, hM, kk => by
    rw [List.append_nil] at e1
    refine ⟨hO.2.1, ?_⟩
    rw [hO.2.2.1, e1]
    exact ⟨fun _ => kk F hB h8 (fun _ _ => rfl), fun g => absurd (Int32.le_refl _) g⟩
  | n + 1, A, e :: L, c, t, F, e1, e2, hO, hB, h8, hr, hI0, hM, kk => by
    have hl : A.length < s.length := by rw [e1, List.length_append, List.length_cons]; omega
    have hz1 : s[A.length]? = some e := by rw [e1]; simp
    have hes := hI1 e (List.mem_of_getElem? hz1)
    refine ⟨hO.2.1, ?_⟩
    rw [hO.2.2.1]
    refine ⟨fun g => absurd ((nI_le_iff (by omega) (by omega)).mp g) (by omega), fun _ => p_stepAt hO hs hz1 (fun b hb => ⟨fun g => by simp at g, fun _ => ⟨b, rfl, hb.2.1, ?_⟩⟩)⟩
    refine p_St_playOn lb lm hpD hz hb hB (by rw [hr]; exact h8) hI0 hM hk hes (fun G k1 k2 k3 => ?_)
    obtain ⟨i1, i2, i3⟩ := mPl_I hI0 hk hes
    have hO' : ScO (wI h G) p D a s := by
      have f : hFr (wI h F) (wI h G) (fun b _ => p + 20 ≤ b ∧ b < p + 35) no2 := ⟨Nat.le_refl _, fun b _ => ⟨rfl, rfl, rfl, rfl, fun j hj => by rw [wI_I, wI_I, k3 b (by omega)], fun j _ => rfl⟩⟩
      exact ScO_fr hO (by rw [wI_Z]; omega) f (fun b j hb => ⟨fun g => by omega, fun g => g⟩)
    rw [nI_add, nI_1]
    have ih := p_play4 (rtt := rtt) lb lm hpD hz hk hs hI1 (R := R) n (A ++ [e]) L (c + (mPl (loK kd) t e).2) (mPl (loK kd) t e).1 G (by rw [e1]; simp) (by simp at e2; omega) hO' k1 (by rw [k2, hr]) (i2.trans hr) i1 (MaP_k hM (fun b b1 b2 => k3 b (by omega))) (fun G' g1 g2 g3 => ?_)
    · rw [List.length_append] at ih
      exact ih
    · have := kk G' g1 g2 (fun b hb => (g3 b hb).trans (k3 b hb))
      rw [Nat.add_assoc]
      exact this
theorem p_TP_apply {h : tpH} {x p D mk : Nat} {kd idn : Nat → Int32} {rt : Nat → Bool} (l : lTP h x p) (hxp : x < p) (hpD : p + 101 ≤ D) (hDz : D ≤ hZ h) {fr : List mT} (hF : FoP h (hI h) x p D fr) {sc : List (List mSt)} (hS : ScP h x p D sc) (hM : MaP (hI h) p mk kd idn) (hk : mk ≤ 300) (htr : ∀ t ∈ fr, trI mk kd rt t) (hsc : ∀ s ∈ sc, s.length ≤ 100 ∧ ∀ e ∈ s, stpI mk rt e) {y w : Int32} {X : String → tpH → Prop} {R : Int32 → tpH → Prop}
    (x1 : (lstAt sc y = none ∨ lstAt fr w = none) → X "java/lang/IndexOutOfBoundsException" (nC h 0 0 6)) (x2 : ∀ s t, lstAt sc y = some s → lstAt fr w = some t → fr.length = 40 → X "java/lang/IllegalStateException" (nC h 0 0 6))
    (kk : ∀ s t, lstAt sc y = some s → lstAt fr w = some t → fr.length < 40 → ∀ G, (∀ b j, ¬ ((p + 20 ≤ b ∧ b < p + 35) ∨ (b = x ∧ j = 10)) → G b j = hI h b j) → G x 10 = nI (mPlL (loK kd) t s).2 → ∀ h', hZ h' = hZ h + 19 → hU h' ≤ hU h + 2728 → hFr (wI h G) h' (fun b j => b = x ∧ j = 4) (fun b j => b = p + 35 ∧ j = fr.length) → hR h' (p + 35) fr.length = some (hZ h) → FoP h' (hI h') x p D (fr ++ [(mPlL (loK kd) t s).1]) → R (nI fr.length) h') : w_TP_apply x y w h X R := by
  obtain ⟨t0, r0, o0, r1, o1, r2, o2, _⟩ := id l
  refine ⟨l.1, p_scr l hS (fun e => x1 (Or.inl e)) (fun i s a ey hi hl ha O => ⟨l.1, p_tree l hF (fun e => x1 (Or.inr e)) (fun j t at' mk' ew hj hl' hat b1 b2 b3 b4 b5 => ⟨l.1, p_TP_needRoomForTree l hF.1 hF.2.1 (fun hlt => ⟨l.1, p + 20, r2, o2.1, ?_⟩) (fun e => x2 s t hl hl' e)⟩)⟩)⟩
  have hs := hsc s (List.mem_of_getElem? hi)
  have ht := htr t (List.mem_of_getElem? hj)
  have hlr : ∀ q, tIn t q = true → (hI h (p + 0 + 2) q < 4 ↔ loK kd q = false) := fun q hq => by
    show hI h (p + 2) q < 4 ↔ _
    rw [(hM.2 q (ht.2.1 q hq).1).1]; exact loK_iff kd q
  show w_Bu_takeOver (p + 20) (some at') (wI h (hI h)) _
  refine p_Bu_takeOver o2 o0 b1 (by omega) (by omega) ht.1 b3 b4 ht.2.2 b2 hlr (fun G0 g1 g2 g3 => ?_)
  refine ⟨l.1, a, rfl, O.2.1, s.length + 1, ?_⟩
  have fO : hFr h (wI h G0) (fun b _ => p + 20 ≤ b ∧ b < p + 35) no2 := hFr_w h _ (fun b j hb => by rw [g3 b (by omega)])
  have hO : ScO (wI h G0) p D a s := ScO_fr O (by omega) fO (fun b j hb => ⟨fun g => by omega, fun g => g⟩)
  rw [wI_R, r2]
  have key := p_play4 (kd := kd) (idn := idn) (rt := rt) (rtt := tRt t) o2 o0 hpD hDz hk hs.1 hs.2 (s.length + 1) [] s 0 t G0 rfl (by omega) hO g1 g2 rfl ht (MaP_k hM (fun b b1 b2 => g3 b (by omega))) (R := fun v19 h18 => hT h18 x = 13 ∧ (∀ h21, h21 = sI h18 x 10 v19 → (∃ a23, (hR h21 x 2) = some a23 ∧ hT h21 a23 = 1 ∧ (w_Bu_freeze a23 h21 (fun v27 h26 => hT h26 x = 13 ∧ (w_TP_keepTree x v27 h26 (fun v30 h29 => R v30 h29))))))) (fun G1 k1 k2 k3 => ⟨l.1, fun h21 e21 => ?_⟩)
  · exact key
  · rw [sI_wI, wI_wI, wI_I, Nat.zero_add] at e21
    have gx : ∀ b, b ≠ x → tpu G1 x 10 (nI (mPlL (loK kd) t s).2) b = G1 b := fun b hb => tpu_fa _ _ _ _ _ hb
    generalize hG : tpu G1 x 10 (nI (mPlL (loK kd) t s).2) = G at e21 gx
    subst e21
    have hGf : ∀ b j, ¬ ((p + 20 ≤ b ∧ b < p + 35) ∨ (b = x ∧ j = 10)) → G b j = hI h b j := fun b j hb => by
      rw [← hG, tpu_o (by omega), k3 b (by omega), g3 b (by omega)]
    have g10 : G x 10 = nI (mPlL (loK kd) t s).2 := by rw [← hG]; exact tpu_s _ _ _ _
    obtain ⟨i1, i2, i3⟩ := mPlL_I hk s t ht hs.2
    refine ⟨p + 20, r2, o2.1, ?_⟩
    have hBG : BuP G (p + 20) (mPlL (loK kd) t s).1 := BuP_k k1 (fun b b1 b2 => gx b (by omega))
    have h8G : G (p + 20) 8 = nI (tRt (mPlL (loK kd) t s).1) := by rw [gx _ (by omega), i2]; exact k2
    have h2G : G (p + 0) 2 = nI mk := by rw [hGf _ _ (by omega)]; exact hM.1
    refine p_Bu_freeze (h := wI h G) (k := p + 0) (mk := mk) o2 o0 hBG h8G h2G i1.1 hk (fun m hm => (i1.2.1 m hm).1) (by rw [wI_Z]; omega) (by rw [wI_Z]; omega) (fun h' lt tp z' u' sm => ?_)
    have fr0 : hFr h (wI h G) (fun b j => (p + 20 ≤ b ∧ b < p + 35) ∨ (b = x ∧ j = 10)) no2 := hFr_w h _ (fun b j hb => hGf b j hb)
    have fr1 := hFr_sm (by omega) sm no2 no2
    have lG : lTP (wI h G) x p := lTP_hFr l hxp (by omega) fr0 (fun b j _ g => g.elim)
    have hFG : FoP (wI h G) (hI (wI h G)) x p D fr := FoP_fr hF (by omega) hpD hDz fr0 (fun g => by omega) (fun b j hb g => by omega) (fun b j hb g => g) (fun i _ g => g)
    have l1 : lTP h' x p := lTP_hFr lG hxp (by rw [wI_Z]; omega) fr1 (fun b j _ g => g.elim)
    have hF1 : FoP h' (hI h') x p D fr := FoP_fr hFG (by omega) hpD (by rw [wI_Z]; omega) fr1 (fun g => g) (fun _ _ _ g => g) (fun _ _ _ g => g) (fun _ _ g => g)
    have h3 := pO_le i1.1
    rw [wI_Z] at z' lt tp
    rw [wI_U] at u'
    refine ⟨l1.1, ?_⟩
    show w_TP_keepTree x (some (hZ h)) h' _
    refine p_TP_keepTree l1 hxp hpD (by omega) hF1 hlt hDz (by omega) lt tp hk (fun m hm => (i1.2.1 m hm).1) (fun h2' z2 u2 f2 r2' F2 => kk s t hl hl' hlt G hGf g10 h2' (by omega) (by omega) (hFr_mono (hFr_tr fr1 f2) (fun b j _ g => g.elim (fun q => q.elim) (fun q => q)) (fun b j _ g => g.elim (fun q => q.elim) (fun q => q))) r2' F2)
end PLAYC
