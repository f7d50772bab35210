section CASE7
/-- what may be touched without touching trees, scripts, conflicts, versions, the last matching -/
def fSc (x p D b j : Nat) : Prop := (b = x ∧ j = 10) ∨ (b ≠ x ∧ (b < p + 35 ∨ (p + 37 ≤ b ∧ b < p + 50) ∨ (p + 61 ≤ b ∧ b < p + 68) ∨ (p + 69 ≤ b ∧ b < p + 86) ∨ (b = p + 90 ∧ j = 6) ∨ (p + 97 ≤ b ∧ b < D)))
theorem reP_parts {h h' : tpH} {x p D n : Nat} {kd idn : Nat → Int32} {r : mRe} {T U : Nat → Nat → Prop} (H : reP h x p D kd idn r n) (hxp : x < p) (hpD : p + 101 ≤ D) (hDz : D ≤ hZ h) (a : hFr h h' T U) (nT : ∀ b j, T b j → fSc x p D b j) (nU : ∀ b j, U b j → fSc x p D b j) :
    FoP h' (hI h') x p D r.1 ∧ FoJ h' p r.1.length ∧ ScP h' x p D r.2.1 ∧ CfP h' p D r.2.2.2.2.1 n ∧ HiP (hI h') p r.2.2.2.2.2 ∧ MiP h' p kd idn r.1 := by
  obtain ⟨H1, H2, H3, H4, H5, H6, H7, H8⟩ := H
  unfold fSc at nT nU
  have nt : fNT p D T U := fun b j hb => ⟨fun g => by have := nT b j g; omega, fun g => by have := nU b j g; omega⟩
  have n35 : ∀ i, ¬ U (p + 35) i := fun i g => by have := nU _ _ g; omega
  have eI : ∀ b, (p + 35 ≤ b ∧ b < p + 37) ∨ (p + 50 ≤ b ∧ b < p + 61) ∨ (p + 86 ≤ b ∧ b < p + 90) ∨ (p + 91 ≤ b ∧ b < p + 97) → hI h' b = hI h b := fun b hb => funext fun j => (a.2 b (by omega)).2.2.2.2.1 j (fun g => by have := nT _ _ g; omega)
  have e35 : hR h' (p + 35) = hR h (p + 35) := funext fun j => (a.2 (p + 35) (by omega)).2.2.2.2.2 j (n35 j)
  refine ⟨FoP_fr H1 (by omega) hpD hDz a (fun g => by have := nT _ _ g; omega) (fun b j hb g => by have := nT _ _ g; omega) (fun b j hb g => by have := nU _ _ g; omega) (fun i _ => n35 i), fun i j hi hj e => ?_,
    ScP_fr H3 hxp (by omega) a nt (fun g => by have := nT _ _ g; omega) (fun i _ g => by have := nU _ _ g; omega),
    CfP_fr H6 (by omega) a (fun b j hb => ⟨fun g => by have := nT _ _ g; omega, fun g => by have := nU _ _ g; omega⟩) (fun i a0 e => Or.inl (by rw [← e35]; exact e)), HiP_fr H7 ((a.2 (p + 90) (by omega)).2.2.2.2.1 5 (fun g => by have := nT _ _ g; omega)) (fun b b1 b2 => eI b (by omega)),
    MiP_fr H8 (by omega) a (fun b j b1 b2 g => by have := nT _ _ g; omega) (fun b j b1 b2 g => by have := nU _ _ g; omega) (fun i _ => n35 i)⟩
  rw [e35] at e
  exact H2 i j hi hj e
theorem VsM_fr {F G : Nat → Nat → Int32} {Q q : Nat} {vs : List mV} (H : VsM F Q q vs) (h26 : G Q 26 = F Q 26) (hk : ∀ b, q + 20 ≤ b → b ≤ q + 23 → ∀ i, i < vs.length → G b i = F b i) : VsM G Q q vs := by
  refine ⟨h26.trans H.1, fun i e hi => ?_⟩
  have hil := (List.getElem?_eq_some_iff.mp hi).1
  rw [hk (q + 20) (by omega) (by omega) i hil, hk (q + 21) (by omega) (by omega) i hil, hk (q + 22) (by omega) (by omega) i hil, hk (q + 23) (by omega) (by omega) i hil]
  exact H.2 i e hi
theorem ScM_fr {F G : Nat → Nat → Int32} {Q q : Nat} {sc : List (List mSt)} (H : ScM F Q q sc) (h10 : G Q 10 = F Q 10) (hk : ∀ b, q + 7 ≤ b → b ≤ q + 17 → G b = F b) : ScM G Q q sc :=
  ⟨h10.trans H.1, fun i s hi => ⟨by rw [hk (q + 7) (by omega) (by omega)]; exact (H.2 i s hi).1, fun j e hj => StM_fr ((H.2 i s hi).2 j e hj) (fun b b1 b2 => by rw [hk b (by omega) (by omega)])⟩⟩
theorem CfM_fr {F G : Nat → Nat → Int32} {Q q : Nat} {cf : List (Nat × Nat)} (H : CfM F Q q cf) (h24 : G Q 24 = F Q 24) (hk : G (q + 19) = F (q + 19)) : CfM G Q q cf :=
  ⟨h24.trans H.1, fun i e hi => by rw [hk]; exact H.2 i e hi⟩
def polOK (x y : Int32) : Prop := (x = 0 ∨ x = 1 ∨ x = 2 ∨ x = 5) ∧ (0 ≤ y.toInt ∧ y.toInt ≤ 2)
theorem pol_k {x y : Int32} (h : polOK x y) : ∃ k, x = nI k ∧ k < 6 := by
  rcases h.1 with e | e | e | e
  · exact ⟨0, e, by decide⟩
  · exact ⟨1, e, by decide⟩
  · exact ⟨2, e, by decide⟩
  · exact ⟨5, e, by decide⟩
theorem pol_y {x y : Int32} (h : polOK x y) : y = 0 ∨ y = 1 ∨ y = 2 := by
  have h1 := h.2
  have : y.toInt = 0 ∨ y.toInt = 1 ∨ y.toInt = 2 := by omega
  rcases this with e | e | e
  · exact Or.inl (Int32.toInt_inj.mp e)
  · exact Or.inr (Or.inl (Int32.toInt_inj.mp e))
  · exact Or.inr (Or.inr (Int32.toInt_inj.mp e))
theorem p_TP_setPolicy {h : tpH} {o p : Nat} (l : lTP h o p) {po : Nat → Int32} (hP : PoP (hI h) p po) {x y : Int32} {X : String → tpH → Prop} {R : Int32 → tpH → Prop} (x1 : ¬ polOK x y → X "java/lang/IllegalArgumentException" (nC h 0 0 6)) (kk : polOK x y → ∀ k, x = nI k → k < 6 → R (po k) (wI h (tpu (hI h) (p + 71) k y))) : w_TP_setPolicy o x y h X R := by
  obtain ⟨g0, g1, g2, g3, g4, g5, g6⟩ := lTP_mgL l
  have e0 : (0 : Int32).toInt = 0 := rfl
  have e2 : (2 : Int32).toInt = 2 := rfl
  have no : ¬ polOK x y → w_TP_setPolicy_24 R X o x y 0 h := fun g => ⟨fun _ => x1 g, fun e => absurd rfl e⟩
  have yes : (x = 0 ∨ x = 1 ∨ x = 2 ∨ x = 5) → w_TP_setPolicy_24 R X o x y 1 h := fun gx => by
    refine ⟨fun e => absurd e (by decide), fun _ => ⟨fun e => x1 (fun g => ?_), fun e => ⟨fun e3 => ?_, fun e3 => x1 (fun g => ?_)⟩⟩⟩
    · rw [i_lt, e0] at e; have := g.2; omega
    · rw [i_lt, e0] at e
      rw [i_le, e2] at e3
      have ok : polOK x y := ⟨gx, by omega⟩
      obtain ⟨k, ek, hk⟩ := pol_k ok
      have kk := kk ok k ek hk
      refine ⟨l.1, p + 69, lTP_mg l, g0, p + 70, g5, g6.1, p_at g6 (by decide) ⟨l.1, p + 69, lTP_mg l, g0, p + 70, g5, g6.1, p_put g6 (by decide) ?_⟩⟩
      rw [ek, rAt_n hk (by decide), rPut_n hk (by decide), hP k hk]
      exact kk
    · rw [i_le, e2] at e3; have := g.2; omega
  refine ⟨fun e => yes (Or.inl e), fun n1 => ⟨fun e => yes (Or.inr (Or.inl e)), fun n2 => ⟨fun e => yes (Or.inr (Or.inr (Or.inl e))), fun n3 => ⟨fun n4 => no (fun g => ?_), fun e => yes (Or.inr (Or.inr (Or.inr e)))⟩⟩⟩⟩
  rcases g.1 with g | g | g | g
  · exact n1 g
  · exact n2 g
  · exact n3 g
  · exact n4 g
theorem p_Md_setPolicy {h : tpH} {Q q : Nat} (M : lMd h Q q) (hQ : Q < q) {F : Nat → Nat → Int32} {po : Nat → Int32} (hP : PoM F q po) {x y : Int32} {R : Int32 → tpH → Prop} (x1 : ¬ polOK x y → ∀ G, G Q 31 = 1 → oFr Q q F G → R 0 (wI h G)) (kk : polOK x y → ∀ k, x = nI k → k < 6 → R (po k) (wI h (tpu (tpu F Q 31 0) (q + 18) k y))) : w_Md_setPolicy Q x y (wI h F) R := by
  obtain ⟨o1, o2, o3⟩ := md_f M (j := 18) (kd := 15) (n := 6) (f := 23) (by decide)
  have e0 : (0 : Int32).toInt = 0 := rfl
  have e2 : (2 : Int32).toInt = 2 := rfl
  have no : ¬ polOK x y → w_Md_setPolicy_29 R Q x y 1 (some Q) (wI h F) := fun g => by
    refine ⟨Q, rfl, M.1, fun h4 e4 => ?_⟩
    rw [sI_wI, wI_wI, wI_I] at e4
    subst e4
    exact ⟨M.1, fun e => absurd (show tpu F Q 31 1 Q 31 ≤ 0 from e) (by rw [tpu_s]; decide), fun _ => x1 g _ (tpu_s _ _ _ _) (oFr_t F 1)⟩
  have yes : (x = 0 ∨ x = 1 ∨ x = 2 ∨ x = 5) → w_Md_setPolicy_15 R (w_Md_setPolicy_29 R) Q x y (some Q) (wI h F) := fun gx => by
    show w_Md_in y 0 2 (wI h F) _
    rw [e_Md_in, e0, e2]
    by_cases c : 0 ≤ y.toInt ∧ y.toInt ≤ 2
    · rw [if_pos c]
      have ok : polOK x y := ⟨gx, c⟩
      obtain ⟨k, ek, hk⟩ := pol_k ok
      have kk := kk ok k ek hk
      refine ⟨fun _ => ⟨Q, rfl, M.1, fun h4 e4 => ?_⟩, fun e => absurd e (by decide)⟩
      rw [sI_wI, wI_wI, wI_I] at e4
      subst e4
      have v1 : vp_in x (hL (wI h (tpu F Q 31 0)) (q + 18)) := by
        rw [wI_L, o2, ek]; exact vp_in_nI hk (by decide)
      refine ⟨M.1, fun _ => ⟨q + 18, o3, o1, v1, v1, fun h13 e13 => ?_⟩, fun e => absurd (show tpu F Q 31 0 Q 31 ≤ 0 by rw [tpu_s]; decide) e⟩
      rw [ek, nI_clamp (by omega), sI_wI, wI_wI, wI_I] at e13
      subst e13
      rw [ek, nI_clamp (by omega), wI_I, tpu_a _ _ _ _ _ _ (by omega), hP k hk]
      exact kk
    · rw [if_neg c]
      exact ⟨fun e => absurd rfl e, fun _ => no (fun g => c g.2)⟩
  show w_Md_in x 0 2 (wI h F) _
  rw [e_Md_in, e0, e2]
  by_cases c : 0 ≤ x.toInt ∧ x.toInt ≤ 2
  · rw [if_pos c]
    refine ⟨fun _ => yes ?_, fun e => absurd e (by decide)⟩
    have : x.toInt = 0 ∨ x.toInt = 1 ∨ x.toInt = 2 := by omega
    rcases this with e | e | e
    · exact Or.inl (Int32.toInt_inj.mp e)
    · exact Or.inr (Or.inl (Int32.toInt_inj.mp e))
    · exact Or.inr (Or.inr (Or.inl (Int32.toInt_inj.mp e)))
  · rw [if_neg c]
    refine ⟨fun e => absurd rfl e, fun _ => ⟨fun n5 => no (fun g => ?_), fun e => yes (Or.inr (Or.inr (Or.inr e)))⟩⟩
    rcases g.1 with g | g | g | g
    · exact c (by rw [g]; decide)
    · exact c (by rw [g]; decide)
    · exact c (by rw [g]; decide)
    · exact n5 g

theorem lw_setPolicy {b L z : Nat} {xs : Nat → Int32} (hL0 : L ≤ 3072) : lwOK (lwI b L z xs) b z (z + 102) (z + 149) (z + 150) L w_Lw_law_897 := by
  intro R K k h I h6 kk
  obtain ⟨hb, hC, mk, kd, idn, rt, dr, r, n, hm, hP, hM, hB⟩ := I
  have vp : ∀ j, j < 6 → ∀ h', lwC b L z xs h' → vp_in (nI (6 * k) + nI j) (hL h' b) := fun j hj h' hC => lw_vp hL0 hC.2.2.2.1 h6 hj
  have hz := hB.2.1
  have hwf := mIn_wf hm
  obtain ⟨hdw, hdm⟩ := mIn_dw hm
  refine ⟨b, rfl, hC.2.2.1, vp 1 (by decide) h hC, vp 2 (by decide) h hC, z, rfl, hP.1.1, ?_⟩
  rw [hC.2.2.2.2]
  generalize e1 : xs (nI (6 * k) + 1).toNatClampNeg = A1
  generalize e2 : xs (nI (6 * k) + 2).toNatClampNeg = A2
  have PP := hP.2.2.2.2.2.2.2.2.1
  refine p_TP_setPolicy hP.1 PP (fun ng => ⟨rfl, ?_⟩) (fun ok i ei hi => lw_put hC.1 ?_)
  · have H := lw_exc (k := k) hb hC hm hP hM hB
    obtain ⟨-, hC7, hM7, -⟩ := id H
    refine ⟨hC7.2.2.1, vp 1 (by decide) _ hC7, vp 2 (by decide) _ hC7, z + 102, rfl, hM7.1.1, ?_⟩
    rw [hC7.2.2.2.2, e1, e2]
    exact p_Md_setPolicy hM7.1 (by omega) hM7.2.2.2.2.2.2.1 (fun _ G k1 k2 => lw_xt H hwf (by decide) k1 k2 kk) (fun g => absurd g ng)
  · have f7 : hFr h (wI h (tpu (hI h) (z + 1 + 71) i A2)) (fun c j => c = z + 1 + 71 ∧ j = i) (fun _ _ => False) := hFr_w h _ (fun c j hc => by simp only [tpu]; rw [if_neg hc])
    obtain ⟨q1, q2, q3, q4, q5, q6⟩ := reP_parts hP.2.2.2.2 (by omega) (by omega) hz f7 (fun c j g => by unfold fSc; omega) (fun c j g => g.elim)
    have eI : ∀ c, c ≠ z + 1 + 71 → hI (wI h (tpu (hI h) (z + 1 + 71) i A2)) c = hI h c := fun c hc => funext fun j => tpu_a _ _ _ _ _ _ hc
    have hP7 : stP (wI h (tpu (hI h) (z + 1 + 71) i A2)) z (z + 1) (z + 151) mk kd idn dr (r.1, r.2.1, r.2.2.1, mU r.2.2.2.1 i A2, r.2.2.2.2) n := by
      refine ⟨hP.1, MaP_k hP.2.1 (fun c c1 c2 => eI c (by omega)), DrP_k hP.2.2.1 (fun c c1 c2 => eI c (by omega)), fun j hj => by rw [eI (z + 1 + 68) (by omega)]; exact hP.2.2.2.1 j hj, q1, q2, q3, by rw [eI z (by omega)]; exact hP.2.2.2.2.2.2.2.1, fun j hj => ?_, q4, q5, q6⟩
      show tpu (hI h) (z + 1 + 71) i A2 (z + 1 + 71) j = mU r.2.2.2.1 i A2 j
      by_cases c : j = i
      · subst c; rw [tpu_s, mU_s]
      · rw [tpu_j _ _ _ _ _ _ c, mU_n _ _ c]; exact PP j hj
    have hm7 : mIn mk kd rt dr (r.1, r.2.1, r.2.2.1, mU r.2.2.2.1 i A2, r.2.2.2.2) := by
      refine ⟨hm.1, hm.2.1, hm.2.2.1, hm.2.2.2.1, fun j => ?_, hm.2.2.2.2.2⟩
      show mU r.2.2.2.1 i A2 j = 0 ∨ mU r.2.2.2.1 i A2 j = 1 ∨ mU r.2.2.2.1 i A2 j = 2
      by_cases c : j = i
      · rw [c, mU_s]; exact pol_y ok
      · rw [mU_n _ _ c]; exact hm.2.2.2.2.1 j
    have H := lw_sJ (lw_cls (k := k) hb hC hm hM hB f7 (fun c j g => by omega) (fun c j g => g.elim) hm7 hP7 ⟨Nat.le_refl _, hB.1⟩ (by rw [wI_Z]; omega) (by rw [wI_U]; omega)) (z + 149) 0 (r.2.2.2.1 i).toInt64
    obtain ⟨-, hC7, hM7, -⟩ := id H
    refine ⟨hC7.2.2.1, vp 1 (by decide) _ hC7, vp 2 (by decide) _ hC7, z + 102, rfl, hM7.1.1, ?_⟩
    rw [hC7.2.2.2.2, e1, e2]
    refine p_Md_setPolicy hM7.1 (by omega) hM7.2.2.2.2.2.2.1 (fun ng => absurd ok ng) (fun _ i' ei' hi' => ?_)
    have eii : i = i' := nI_inj (by omega) (by omega) (ei.symm.trans ei')
    subst eii
    have fr : ∀ G : Nat → Nat → Int32, ∀ c j, ¬ ((c = z + 102 ∧ j = 31) ∨ (c = z + 103 + 18 ∧ j = i)) → tpu (tpu G (z + 102) 31 0) (z + 103 + 18) i A2 c j = G c j := fun G c j hc => by
      simp only [tpu]
      rw [if_neg (by omega), if_neg (by omega)]
    refine lw_tail hM7.1.1 (by rw [wI_I, tpu_a _ _ _ _ _ _ (by omega), tpu_s]) hC7.1 (fun _ => tpu_s _ _ _ _) (kk _ (lw_fin H (fun c j hc => fr _ c j (by omega)) ?_))
    obtain ⟨m1, m2, m3, m4, m5, m6, m7, m8, m9⟩ := hM7
    have fr := fr (hI (sJ (wI h (tpu (hI h) (z + 1 + 71) i A2)) (z + 149) 0 (r.2.2.2.1 i).toInt64))
    have mR := reM_fr (r := (r.1, r.2.1, r.2.2.1, r.2.2.2.1, r.2.2.2.2)) (G := tpu (hI (sJ (wI h (tpu (hI h) (z + 1 + 71) i A2)) (z + 149) 0 (r.2.2.2.1 i).toInt64)) (z + 102) 31 0) ⟨m4, m5, m6, m7, m8, m9⟩ hwf (fun j hj => tpu_j _ _ _ _ _ _ (by omega)) (fun j hj => tpu_a _ _ _ _ _ _ (by omega)) (fun c c1 c2 j hj => tpu_a _ _ _ _ _ _ (by omega)) (fun c c1 c2 => funext fun j => tpu_a _ _ _ _ _ _ (by omega))
    obtain ⟨n4, n5, n6, n7, n8, n9⟩ := mR
    refine ⟨m1, MaM_fr m2 (fr _ _ (by omega)) (fun c hc => funext fun j => fr _ _ (by omega)), DrM_fr m3 (fr _ _ (by omega)) (fun c c1 c2 => funext fun j => fr _ _ (by omega)), FoM_fr n4 hwf (tpu_a _ _ _ _ _ _ (by omega)) (fun j _ => tpu_a _ _ _ _ _ _ (by omega)) (fun c c1 c2 j _ => tpu_a _ _ _ _ _ _ (by omega)),
      ⟨(tpu_a _ _ _ _ _ _ (by omega)).trans n5.1, fun a s hs => ⟨(tpu_a _ _ _ _ _ _ (by omega)).trans (n5.2 a s hs).1, fun j e hj => StM_fr ((n5.2 a s hs).2 j e hj) (fun c c1 c2 => tpu_a _ _ _ _ _ _ (by omega))⟩⟩, (tpu_a _ _ _ _ _ _ (by omega)).trans n6, fun j hj => ?_, ⟨(tpu_a _ _ _ _ _ _ (by omega)).trans n8.1, fun a e ha => (tpu_a _ _ _ _ _ _ (by omega)).trans (n8.2 a e ha)⟩, VsM_fr n9 (tpu_a _ _ _ _ _ _ (by omega)) (fun c c1 c2 a _ => tpu_a _ _ _ _ _ _ (by omega))⟩
    · show tpu (tpu _ (z + 102) 31 0) (z + 103 + 18) i A2 (z + 103 + 18) j = mU r.2.2.2.1 i A2 j
      by_cases c : j = i
      · subst c; rw [tpu_s, mU_s]
      · rw [tpu_j _ _ _ _ _ _ c, mU_n _ _ c]; exact n7 j hj

end CASE7
