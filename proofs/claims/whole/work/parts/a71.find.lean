section FINDC
noncomputable def fdK (kd idn : Nat → Int32) (fr : List mT) (n : Nat) (A B : Int32) : Nat := match lstAt fr A, lstAt fr B with
  | some t, some u => if rkB kd idn t u = true then (if n = 40 then 2 else match fdA (loK kd) t u (MTd kd idn t u) with
    | some _ => 0
    | none => 3) else 2
  | some _, none => 1
  | none, _ => 1
noncomputable def fdV (kd idn : Nat → Int32) (fr : List mT) (A B : Int32) : List mSt := match lstAt fr A, lstAt fr B with
  | some t, some u => (fdA (loK kd) t u (MTd kd idn t u)).getD []
  | some _, none => []
  | none, _ => []
theorem fdK_2 {kd idn : Nat → Int32} {fr : List mT} {n : Nat} {A B : Int32} (h : lstAt fr A = none) : fdK kd idn fr n A B = 1 := by
  unfold fdK
  rw [h]
theorem fdK_3 {kd idn : Nat → Int32} {fr : List mT} {n : Nat} {A B : Int32} (h : lstAt fr B = none) : fdK kd idn fr n A B = 1 := by
  unfold fdK
  rw [h]
  cases lstAt fr A <;> rfl
theorem fdK_4 {kd idn : Nat → Int32} {fr : List mT} {n : Nat} {A B : Int32} {t u : mT} (h1 : lstAt fr A = some t) (h2 : lstAt fr B = some u) (h3 : rkB kd idn t u = false) : fdK kd idn fr n A B = 2 := by
  unfold fdK
  rw [h1, h2]
  exact if_neg (by rw [h3]; exact Bool.false_ne_true)
theorem fdK_5 {kd idn : Nat → Int32} {fr : List mT} {n : Nat} {A B : Int32} {t u : mT} (h1 : lstAt fr A = some t) (h2 : lstAt fr B = some u) (h3 : rkB kd idn t u = true) (h4 : n = 40) : fdK kd idn fr n A B = 2 := by
  unfold fdK
  rw [h1, h2]
  show (if rkB kd idn t u = true then (if n = 40 then 2 else _) else 2) = 2
  rw [if_pos h3, if_pos h4]
theorem fdK_6 {kd idn : Nat → Int32} {fr : List mT} {n : Nat} {A B : Int32} {t u : mT} (h1 : lstAt fr A = some t) (h2 : lstAt fr B = some u) (h3 : rkB kd idn t u = true) (h4 : n < 40) (h5 : fdA (loK kd) t u (MTd kd idn t u) = none) : fdK kd idn fr n A B = 3 := by
  unfold fdK
  rw [h1, h2]
  show (if rkB kd idn t u = true then (if n = 40 then 2 else _) else 2) = 3
  rw [if_pos h3, if_neg (by omega), h5]
theorem fdK_7 {kd idn : Nat → Int32} {fr : List mT} {n : Nat} {A B : Int32} {t u : mT} {l : List mSt} (h1 : lstAt fr A = some t) (h2 : lstAt fr B = some u) (h3 : rkB kd idn t u = true) (h4 : n < 40) (h5 : fdA (loK kd) t u (MTd kd idn t u) = some l) : fdK kd idn fr n A B = 0 ∧ fdV kd idn fr A B = l := by
  unfold fdK fdV
  rw [h1, h2]
  refine ⟨?_, ?_⟩
  · show (if rkB kd idn t u = true then (if n = 40 then 2 else _) else 2) = 0
    rw [if_pos h3, if_neg (by omega), h5]
  · show (fdA (loK kd) t u (MTd kd idn t u)).getD [] = l
    rw [h5]
    rfl
theorem fi_H {mk : Nat} {kd idn : Nat → Int32} {rt : Nat → Bool} {t u : mT} (h1 : trI mk kd rt t) (h2 : trI mk kd rt u) : fiH mk kd rt t u (MTd kd idn t u) :=
  ⟨h1, h2, MTd_ok h1.1 h2.1, fun x hx hy => MTd_same h1.1 h2.1 hx hy, MTd_root h1.1 h2.1 (fun g => (h2.2.1 _ g).2.mp ((h1.2.1 _ h1.1.2.1).2.mpr rfl)) (fun g => (h1.2.1 _ g).2.mp ((h2.2.1 _ h2.1.2.1).2.mpr rfl))⟩
theorem stP_gar {h h' : tpH} {x p D mk n : Nat} {kd idn : Nat → Int32} {dr : Option mT} {r : mRe} (H : stP h x p D mk kd idn dr r n) (hxp : x < p) (hpD : p + 101 ≤ D) (hDz : D ≤ hZ h) (f : hFr h h' (fdT p) no2) : stP h' x p D mk kd idn dr r n := by
  obtain ⟨H1, H2, H3, H4, H5⟩ := H
  obtain ⟨q1, q2, q3, q4, q5, q6⟩ := reP_parts H5 hxp hpD hDz f (fun c j g => by unfold fdT at g; unfold fSc; omega) (fun c j g => g.elim)
  have eI : ∀ c, c < p + 20 ∨ (p + 68 ≤ c ∧ c < p + 101) → hI h' c = hI h c := fun c hc => funext fun j => (f.2 c (by omega)).2.2.2.2.1 j (fun g => by unfold fdT at g; omega)
  exact ⟨lTP_hFr H1 hxp (by omega) f (fun b j _ g => g.elim), MaP_k H2 (fun c c1 c2 => eI c (by omega)), DrP_k H3 (fun c c1 c2 => eI c (by omega)), fun j hj => by rw [eI (p + 68) (by omega)]; exact H4 j hj, q1, q2, q3, by rw [eI x (by omega)]; exact H5.2.2.2.1, fun j hj => by rw [eI (p + 71) (by omega)]; exact H5.2.2.2.2.1 j hj, q4, q5, q6⟩
def fiT (x p c j : Nat) : Prop := seT p c j ∨ fdT p c j ∨ (c = x ∧ j = 6)
def fiU (p n c j : Nat) : Prop := seU p c j ∨ (c = p + 36 ∧ j = n)
theorem p_TP_find {h : tpH} {x p D mk n : Nat} {kd idn : Nat → Int32} {dr : Option mT} {r : mRe} {rt : Nat → Bool} (hP : stP h x p D mk kd idn dr r n) (hxp : x < p) (hpD : p + 101 ≤ D) (hDz : D ≤ hZ h) (hm : mIn mk kd rt dr r) {A B : Int32} {X : String → tpH → Prop} {R : Int32 → tpH → Prop} (x1 : fdK kd idn r.1 r.2.1.length A B = 1 → X "java/lang/IndexOutOfBoundsException" (nC h 0 0 6)) (x2 : fdK kd idn r.1 r.2.1.length A B = 2 → X "java/lang/IllegalStateException" (nC h 0 0 6)) (x3 : fdK kd idn r.1 r.2.1.length A B = 3 → ∀ h', stP h' x p D mk kd idn dr r n → hFr h h' (fiT x p) (fiU p r.2.1.length) → hZ h' ≤ hZ h + 305 → hU h' ≤ hU h + 1314 → X "java/lang/IllegalStateException" (nC h' 0 0 6)) (kk : fdK kd idn r.1 r.2.1.length A B = 0 → stL mk rt (fdV kd idn r.1 A B) → ∀ h', stP h' x p D mk kd idn dr (r.1, r.2.1 ++ [fdV kd idn r.1 A B], r.2.2) n → hFr h h' (fiT x p) (fiU p r.2.1.length) → hZ h' ≤ hZ h + 305 → hU h' ≤ hU h + 1314 → R (nI r.2.1.length) h') : w_TP_find x A B h X R := by
  have hwf := mIn_wf hm
  have hmm := mIn_mm hm
  have hS := hP.2.2.2.2.2.2.1
  refine ⟨hP.1.1, p_tree hP.1 hP.2.2.2.2.1 (fun e => x1 (fdK_2 e)) (fun i t a mk1 e hi hl ha b1 b2 b3 b4 b5 => ⟨hP.1.1, p_tree hP.1 hP.2.2.2.2.1 (fun e' => x1 (fdK_3 e')) (fun j u b mk2 e' hj hl' hb d1 d2 d3 d4 d5 => ⟨hP.1.1, ?_⟩)⟩)⟩
  have hwt := hwf i t hi
  have hwu := hwf j u hj
  have it := hm.2.2.1 t (List.mem_of_getElem? hi)
  have iu := hm.2.2.1 u (List.mem_of_getElem? hj)
  have HH := fi_H (idn := idn) it iu
  refine p_lkr (D := D) hP.1 hP.2.1 hm.1 b1 b3 d1 d3 hwt hwu b2 d2 (hmm i t hi) (hmm j u hj) (fun g2 => ⟨hP.1.1, ?_⟩) (fun g2 => x2 (fdK_4 hl hl' g2))
  refine p_TP_needRoomForScript hP.1 hS.1 hS.2.1 (fun hlt => ⟨hP.1.1, ?_⟩) (fun e40 => x2 (fdK_5 hl hl' g2 e40))
  have v0 : hR h x 8 = some (p + 50) ∧ hT h (p + 50) = 6 := by
    obtain ⟨t0, m0, m1, c0, c1, c2, c3, c4, c5, c6, c7, l0, l1, v0, v1, _⟩ := id hP.1
    exact ⟨v0, v1.1⟩
  refine ⟨p + 50, v0.1, v0.2, p_setS hP hxp hpD hDz hm hi hj ha hb b1 b3 b5.1 b4 d1 d3 d5.1 d4 b2 d2 (fun h' P' f' z' u' X' C' M' => ⟨P'.1.1, p + 61, ?_, ?_, ?_⟩)⟩
  · obtain ⟨t0, m0, m1, c0, c1, c2, c3, c4, c5, c6, c7, l0, l1, v0, v1, f0, f1, _⟩ := id P'.1
    exact f0
  · obtain ⟨t0, m0, m1, c0, c1, c2, c3, c4, c5, c6, c7, l0, l1, v0, v1, f0, f1, _⟩ := id P'.1
    exact f1.1
  have XX : fX h' x p D (hZ h') mk a mk1 b mk2 t u kd idn (MTd kd idn t u) := ⟨⟨P'.1, hxp, hpD, by rw [z']; exact hDz, Nat.le_refl _⟩, ⟨P'.2.1, P'.2.2.2.1⟩, ⟨X'.2.1.1, b3, b5.1, by rw [z']; exact b5.2, C'.2.1⟩, ⟨X'.2.2.1.1, d3, d5.1, by rw [z']; exact d5.2, C'.2.2⟩, M', ⟨hm.1, X'.2.2.2.2.2.1, X'.2.2.2.2.2.2⟩, hwt, hwu, HH.2.2⟩
  have sI := fdA_I HH (loK kd)
  refine p_Fi_findScript XX it.2.2 (fun h20 S20 f20 z20 u20 => ⟨hZ h', rfl, SS_T S20, ?_⟩)
  have f20' : hFr h' h20 (fdT p) no2 := hFr_mono f20 (fun c j hc g => g.elim id (fun q => absurd hc (Nat.not_lt.mpr q))) (fun c j hc g => absurd hc (Nat.not_lt.mpr g))
  have z0 := f20.1
  have P20 := stP_gar P' hxp hpD (by omega) f20'
  have fA : hFr h h20 (fiT x p) (fiU p r.2.1.length) := hFr_mono (hFr_tr f' f20') (fun _ _ _ g => g.elim Or.inl (fun g => Or.inr (Or.inl g))) (fun _ _ _ g => g.elim Or.inl (fun g => g.elim))
  refine p_too S20 (fun l el => ⟨fun _ => ⟨P20.1.1, ?_⟩, fun g => absurd rfl g⟩) (fun en => ⟨fun g => absurd g (by decide), fun _ => ?_⟩)
  · obtain ⟨k0, kv⟩ := fdK_7 (n := r.2.1.length) hl hl' g2 hlt el
    rw [el] at S20
    have S20' : ScB h20 p D (hZ h') (hZ h') 100 l := S20
    rw [kv] at kk
    refine p_TP_keepScript P20.1 hxp hpD (by omega) P20.2.2.2.2.2.2.1 hlt (ScB_O S20') (fun h2 z2 u2 f2 S2 => kk k0 (sI l el) h2 (stP_sc P20 hxp hpD (by omega) f2 (fun b j g => g) (fun b j g => g) S2) (hFr_mono (hFr_tr fA f2) (fun _ _ _ g => g.elim id (fun g => Or.inr (Or.inr g))) (fun _ _ _ g => g.elim id Or.inr)) (by omega) (by omega))
  · exact x3 (fdK_6 hl hl' g2 hlt en) h20 P20 fA (by omega) (by omega)
end FINDC
