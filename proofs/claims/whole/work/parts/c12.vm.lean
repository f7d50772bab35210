section VMERGE
theorem stP_rc {h : tpH} {x p D mk n : Nat} {kd idn : Nat → Int32} {dr : Option mT} {r : mRe} (H : stP h x p D mk kd idn dr r n) (hxp : x < p) (hpD : p + 101 ≤ D) (hDz : D ≤ hZ h) {F : Nat → Nat → Int32} (f : rcF p (hI h) F) : stP (wI h F) x p D mk kd idn dr r n ∧ hFr h (wI h F) (fun c _ => c = p + 98) no2 := by
  have fr : hFr h (wI h F) (fun c _ => c = p + 98) no2 := hFr_w h _ (fun c j hc => by rw [f c hc])
  obtain ⟨H1, H2, H3, H4, H5⟩ := H
  obtain ⟨q1, q2, q3, q4, q5, q6⟩ := reP_parts H5 hxp hpD hDz fr (fun c j g => by unfold fSc; omega) (fun c j g => g.elim)
  have eI : ∀ c, c ≠ p + 98 → F c = hI h c := f
  exact ⟨⟨lTP_hFr H1 hxp (by omega) fr (fun b j _ g => g.elim), MaP_k H2 (fun c c1 c2 => eI c (by omega)), DrP_k H3 (fun c c1 c2 => eI c (by omega)), fun j hj => by rw [wI_I, eI (p + 68) (by omega)]; exact H4 j hj, q1, q2, q3, by rw [wI_I, eI x (by omega)]; exact H5.2.2.2.1, fun j hj => by rw [wI_I, eI (p + 71) (by omega)]; exact H5.2.2.2.2.1 j hj, q4, q5, q6⟩, fr⟩
theorem mIn_vT {mk : Nat} {kd : Nat → Int32} {rt : Nat → Bool} {dr : Option mT} {r : mRe} (H : mIn mk kd rt dr r) : vsT r.1 r.2.2.2.2.2 := ⟨H.2.2.2.2.2.2.1, mIn_vo H, fun i e hi => (H.2.2.2.2.2.2.2 i e hi).1⟩
def trA (h : tpH) (D a k : Nat) (t : mT) : Prop := lTr h a (pO t).length k ∧ TrP (hI h) a t k ∧ k ≤ 300 ∧ (∀ m, tIn t m = true → m < k) ∧ D ≤ a ∧ a + 19 ≤ hZ h
theorem p_tOV {h : tpH} {o p D : Nat} (l : lTP h o p) {fr : List mT} (hF : FoP h (hI h) o p D fr) {vs : List mV} (hV : HiP (hI h) p vs) (hT : vsT fr vs) {i : Nat} {e : mV} (ei : vs[i]? = some e) {X : String → tpH → Prop} {R : Option Nat → tpH → Prop} (kk : ∀ t a k, fr[e.1]? = some t → hR h (p + 35) e.1 = some a → trA h D a k t → R (some a) h) : w_TP_treeOfVersion o (nI i) h X R := by
  have l9 := lTP_hiL l
  have h3 := hT.1
  have hi := (List.getElem?_eq_some_iff.mp ei).1
  have hlt := hT.2.2 i _ ei
  have h40 := hF.2.1
  refine ⟨l.1, p + 90, lTP_hi l, l9.1, l9.1, p + 91, l9.2.1.1, l9.2.1.2.1, p_at l9.2.1.2 (by decide) ⟨l.1, ?_⟩⟩
  rw [rAt_n (by omega) (by decide)]
  show w_TP_needTree o (hI h (p + 92) i) h X _
  rw [(hV.2 i _ ei).1]
  refine p_tree l hF (fun e' => ?_) (fun j t a mk ej hj hl ha b1 b2 b3 b4 b5 => ?_)
  · rw [lstAt_n fr (by omega), List.getElem?_eq_getElem hlt] at e'
    simp at e'
  · have hjl := (List.getElem?_eq_some_iff.mp hj).1
    have : e.1 = j := nI_inj (by omega) (by omega) ej
    rw [← this] at hj ha
    exact kk t a mk hj ha ⟨b1, b2, b3, b4, b5⟩
def vmT (x p z0 e0 e1 c j : Nat) : Prop := mkT x p z0 e0 e1 c j ∨ (p + 90 ≤ c ∧ c < p + 97)
/-- versions are merged, and the outcome is kept as a version -/
theorem p_vm {h : tpH} {x p D mk n : Nat} {kd idn : Nat → Int32} {dr : Option mT} {r : mRe} {rt : Nat → Bool} (hP : stP h x p D mk kd idn dr r n) (hxp : x < p) (hpD : p + 101 ≤ D) (hDz : D ≤ hZ h) (hm : mIn mk kd rt dr r) (hn : n ≤ 184001) {ib il ir : Nat} {eb el er : mV} (vb : r.2.2.2.2.2[ib]? = some eb) (vl : r.2.2.2.2.2[il]? = some el) (vr : r.2.2.2.2.2[ir]? = some er) {f s : Option Nat} (hf : ∀ a, f = some a → a < r.2.2.2.2.2.length) (hs : ∀ a, s = some a → a < r.2.2.2.2.2.length) {X : String → tpH → Prop} {R : Int32 → tpH → Prop} (x2 : ∀ t u v, r.1[eb.1]? = some t → r.1[el.1]? = some u → r.1[er.1]? = some v → ¬ cmK r.1 r.2.2.2.2.2 t u v → X "java/lang/IllegalStateException" (nC h 0 0 6)) (kk : ∀ t u v, r.1[eb.1]? = some t → r.1[el.1]? = some u → r.1[er.1]? = some v → cmK r.1 r.2.2.2.2.2 t u v → ∀ h' n' e0 e1, mIn mk kd rt dr (r.1 ++ [mgRes r.2.2.2.1 mk (tRt t) t u v (loK kd)], r.2.1, r.2.2.1, r.2.2.2.1, mgCfl r.2.2.2.1 mk (tRt t) t u v (loK kd), r.2.2.2.2.2 ++ [(r.1.length, f, s)]) → stP h' x p D mk kd idn dr (r.1 ++ [mgRes r.2.2.2.1 mk (tRt t) t u v (loK kd)], r.2.1, r.2.2.1, r.2.2.2.1, mgCfl r.2.2.2.1 mk (tRt t) t u v (loK kd), r.2.2.2.2.2 ++ [(r.1.length, f, s)]) n' → n ≤ n' ∧ n' ≤ 184001 → cfE p D (hZ h) e0 e1 → hFr h h' (vmT x p (hZ h) e0 e1) (mkU p r.1.length) → hZ h' ≤ hZ h + 19 + (n' - n) → hU h' ≤ hU h + 2728 + 4 * (n' - n) → R (nI r.2.2.2.2.2.length) h') : w_TP_needMergeable x (nI ib) (nI il) (nI ir) h X (fun h14 => hT h14 x = 13 ∧ (w_TP_treeOfVersion x (nI ib) h14 X (fun v17 h16 => hT h16 x = 13 ∧ (w_TP_treeOfVersion x (nI il) h16 X (fun v20 h19 => hT h19 x = 13 ∧ (w_TP_treeOfVersion x (nI ir) h19 X (fun v23 h22 => ∃ a24, (hR h14 x 11) = some a24 ∧ hT h22 a24 = 7 ∧ (w_Mg_mergeTrees a24 v17 v20 v23 h22 (fun v28 h27 => hT h27 x = 13 ∧ (w_TP_keepTree x v28 h27 (fun v31 h30 => ∃ a32, (hR h27 x 12) = some a32 ∧ hT h30 a32 = 3 ∧ (w_Hi_keep a32 v31 (nO f) (nO s) h30 (fun v36 h35 => R v36 h35))))))))))))) := by
  have hwf := mIn_wf hm
  have F := hP.2.2.2.2.1
  have V := hP.2.2.2.2.2.2.2.2.2.2.1
  have T := mIn_vT hm
  have h3 := T.1
  refine ⟨hP.1.1, p_tOV hP.1 F V T vb (fun t a1 k1 ht r1 l1 => ⟨hP.1.1, p_tOV hP.1 F V T vl (fun u a2 k2 hu r2 l2 => ⟨hP.1.1, p_tOV hP.1 F V T vr (fun v a3 k3 hv r3 l3 => ⟨hP.1.1, ?_⟩)⟩)⟩)⟩
  have I1 := hm.2.2.1 t (List.mem_of_getElem? ht)
  have I2 := hm.2.2.1 u (List.mem_of_getElem? hu)
  have I3 := hm.2.2.1 v (List.mem_of_getElem? hv)
  have no : ¬ cmK r.1 r.2.2.2.2.2 t u v → X "java/lang/IllegalStateException" (nC h 0 0 6) := x2 t u v ht hu hv
  refine p_sameR ⟨l1.1, l1.2.1, l1.2.2.1⟩ ⟨l2.1, l2.2.1, l2.2.2.1⟩ ⟨l3.1, l3.2.1, l3.2.2.1⟩ I1.1 I2.1 I3.1 (fun eR => ⟨hP.1.1, p_TP_needRoomForTree hP.1 F.1 F.2.1 (fun hlt => ⟨hP.1.1, p_TP_needRoomForVersion hP.1 V h3 (fun e30 => no (fun z => ?_)) (fun h30 => ?_)⟩) (fun e40 => no (fun z => ?_))⟩) (fun eR => no (fun z => eR z.1))
  · have := z.2.2
    omega
  · have l11 : hR h x 11 = some (p + 69) ∧ hT h (p + 69) = 7 := by
      obtain ⟨t0, r0, o0, r1, o1, r2, o2, r3, o3, r5, o5, r7, o7, r8, o8, r9, o9, r11, o11, r12, o12⟩ := id hP.1
      exact ⟨r11, o11.1⟩
    refine ⟨hP.1.1, p_tOV hP.1 F V T vb (fun t' a1' k1' ht' r1' l1' => ⟨hP.1.1, p_tOV hP.1 F V T vl (fun u' a2' k2' hu' r2' l2' => ⟨hP.1.1, p_tOV hP.1 F V T vr (fun v' a3' k3' hv' r3' l3' => ⟨p + 69, l11.1, l11.2, ?_⟩)⟩)⟩)⟩
    have et : t = t' := Option.some.inj (ht.symm.trans ht')
    have eu : u = u' := Option.some.inj (hu.symm.trans hu')
    have ev : v = v' := Option.some.inj (hv.symm.trans hv')
    subst et eu ev
    have HH : mgH mk (tRt t) t u v := ⟨⟨I1.1, I2.1, I3.1⟩, ⟨rfl, eR.1, eR.2⟩, hm.1, fun m g => (I1.2.1 m g).1, fun m g => (I2.2.1 m g).1, fun m g => (I3.2.1 m g).1⟩
    refine p_mgKeep (R := fun h1 v31 h30 => ∃ a32, (hR h1 x 12) = some a32 ∧ hT h30 a32 = 3 ∧ (w_Hi_keep a32 v31 (nO f) (nO s) h30 (fun v36 h35 => R v36 h35))) hP hxp hpD hDz hm hn hlt ht' hu' hv' r1' r2' r3' l1' l2' l3' ⟨rfl, eR.1, eR.2⟩ (fun h1 h' n' e0 e1 q1 q2 q3 q4 q5 q6 q7 => ⟨p + 90, by rw [q1]; exact lTP_hi hP.1, (lTP_hiL q2.1).1, ?_⟩)
    have zz := q5.1
    have V' := q2.2.2.2.2.2.2.2.2.2.2.1
    refine p_Hi_keep (lTP_hiL q2.1) V'.1 h30 ?_
    obtain ⟨S1, S2⟩ := stP_vs q2 hxp hpD (by omega) r.1.length f s
    have mI := mIn_mg hm (mgRes_I HH r.2.2.2.1 I1 I2 I3) (mgCfl_I (po := r.2.2.2.1) HH (loK kd))
    refine kk t u v ht hu hv ⟨eR, hlt, h30⟩ _ n' e0 e1 (mIn_vs mI h30 (i := r.1.length) (by rw [List.length_append]; exact Nat.lt_succ_self _) hf hs) S1 q3 q4 (hFr_mono (hFr_tr q5 S2) (fun _ _ _ g => g) (fun _ _ _ g => g.elim id (fun g => g.elim))) q6 q7
  · have := z.2.1
    omega
end VMERGE
