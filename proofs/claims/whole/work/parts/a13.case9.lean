section CASE9
def vOr (vs : List mV) (y : Int32) : Prop := y = -1 ∨ ∃ a e, y = nI a ∧ vs[a]? = some e
def vO (y : Int32) : Option Nat := if y = -1 then none else some y.toInt.toNat
theorem vO_of {vs : List mV} (h3 : vs.length ≤ 30) {y : Int32} (h : vOr vs y) : y = nO (vO y) ∧ ∀ a, vO y = some a → a < vs.length := by
  unfold vO
  rcases h with e | ⟨a, e, ea, he⟩
  · rw [if_pos e]
    exact ⟨e, fun a g => by simp at g⟩
  · have hl := (List.getElem?_eq_some_iff.mp he).1
    rw [if_neg (by rw [ea]; exact nI_ne_m (by omega)), ea, nI_toInt (by omega)]
    exact ⟨rfl, fun b g => by
      have := Option.some.inj g
      omega⟩
def vA (fr : List mT) (vs : List mV) (x y w : Int32) : Prop := (∃ t, lstAt fr x = some t) ∧ vOr vs y ∧ vOr vs w
def vB (y w : Int32) : Prop := w ≠ -1 ∧ (y = -1 ∨ y = w)
theorem vOr_n {vs : List mV} (h3 : vs.length ≤ 30) {y : Int32} (h1 : y ≠ -1) (h2 : lstAt vs y = none) : ¬ vOr vs y := fun g => by
  rcases g with e | ⟨a, e, ea, he⟩
  · exact h1 e
  · have hl := (List.getElem?_eq_some_iff.mp he).1
    rw [ea, lstAt_n vs (by omega), he] at h2
    simp at h2
theorem vOr_s {vs : List mV} {y : Int32} {e : mV} (h2 : lstAt vs y = some e) : vOr vs y := by
  obtain ⟨c1, c2, c3⟩ := lst_some h2
  exact Or.inr ⟨_, e, c3, c2⟩
def uKp (F : Nat → Nat → Int32) (p n : Nat) (x y w : Int32) : Nat → Nat → Int32 := tpu (tpu (tpu (tpu F (p + 90) 5 (nI (n + 1))) (p + 92) n x) (p + 94) n y) (p + 96) n w
theorem p_Hi_keep {h : tpH} {p n : Nat} (l9 : lHi h (p + 90)) (h5 : hI h (p + 90) 5 = nI n) (hn : n < 30) {x y w : Int32} {R : Int32 → tpH → Prop} (k : R (nI n) (wI h (uKp (hI h) p n x y w))) : w_Hi_keep (p + 90) x y w h R := by
  obtain ⟨t9, ⟨a1, a2⟩, ⟨b1, b2⟩, ⟨c1, c2⟩, _⟩ := l9
  refine ⟨t9, fun h2 e2 => ?_⟩
  rw [h5, nI_1] at e2
  have e2 : h2 = wI h (tpu (hI h) (p + 90) 5 (nI (n + 1))) := e2
  subst e2
  rw [h5]
  refine ⟨p + 91, a1, a2.1, p_put (rwL_w a2) (by decide) ⟨t9, p + 93, b1, b2.1, p_put (rwL_w (rwL_w b2)) (by decide) ⟨t9, p + 95, c1, c2.1, p_put (rwL_w (rwL_w (rwL_w c2))) (by decide) ?_⟩⟩⟩
  rw [rPut_n hn (by decide), rPut_n hn (by decide), rPut_n hn (by decide)]
  exact k
theorem HiP_kp {F : Nat → Nat → Int32} {p : Nat} {vs : List mV} (H : HiP F p vs) (i : Nat) (f s : Option Nat) : HiP (uKp F p vs.length (nI i) (nO f) (nO s)) p (vs ++ [(i, f, s)]) := by
  unfold uKp
  refine ⟨?_, fun j e hj => ?_⟩
  · rw [tpu_a _ _ _ _ _ _ (by omega), tpu_a _ _ _ _ _ _ (by omega), tpu_a _ _ _ _ _ _ (by omega), tpu_s, List.length_append]
    rfl
  · by_cases c : j < vs.length
    · rw [List.getElem?_append_left c] at hj
      have e0 : ∀ b, p + 92 ≤ b → tpu (tpu (tpu (tpu F (p + 90) 5 (nI (vs.length + 1))) (p + 92) vs.length (nI i)) (p + 94) vs.length (nO f)) (p + 96) vs.length (nO s) b j = F b j := fun b hb => by
        simp only [tpu]
        rw [if_neg (by omega), if_neg (by omega), if_neg (by omega), if_neg (by omega)]
      rw [e0 _ (by omega), e0 _ (by omega), e0 _ (by omega)]
      exact H.2 j e hj
    · rw [List.getElem?_append_right (by omega)] at hj
      have hl := (List.getElem?_eq_some_iff.mp hj).1
      have ei : j = vs.length := by simp at hl; omega
      subst ei
      rw [Nat.sub_self] at hj
      simp only [List.getElem?_cons_zero, Option.some.injEq] at hj
      subst hj
      refine ⟨?_, ?_, ?_⟩
      · rw [tpu_a _ _ _ _ _ _ (by omega), tpu_a _ _ _ _ _ _ (by omega), tpu_s]
      · rw [tpu_a _ _ _ _ _ _ (by omega), tpu_s]
      · rw [tpu_s]
theorem p_vNone {h : tpH} {o p : Nat} (l : lTP h o p) {vs : List mV} (hV : HiP (hI h) p vs) (h3 : vs.length ≤ 30) {y : Int32} {X : String → tpH → Prop} {R : tpH → Prop} (x1 : ¬ vOr vs y → X "java/lang/IndexOutOfBoundsException" (nC h 0 0 6)) (kk : vOr vs y → R h) : w_TP_needVersionOrNone o y h X R :=
  ⟨fun e => kk (Or.inl e), fun n => ⟨l.1, p_TP_needVersion l hV h3 (fun e => x1 (vOr_n h3 n e)) (fun i e ey hi g => kk (vOr_s g))⟩⟩
theorem p_TP_needRoomForVersion {h : tpH} {o p : Nat} (l : lTP h o p) {vs : List mV} (hV : HiP (hI h) p vs) (h3 : vs.length ≤ 30) {X : String → tpH → Prop} {R : tpH → Prop} (x1 : vs.length = 30 → X "java/lang/IllegalStateException" (nC h 0 0 6)) (kk : vs.length < 30 → R h) : w_TP_needRoomForVersion o h X R := by
  have l9 := lTP_hiL l
  have e30 : (30 : Int32) = nI 30 := rfl
  refine ⟨l.1, p + 90, lTP_hi l, l9.1, ?_⟩
  rw [hV.1, e30, nI_lt_iff (by omega) (by decide)]
  exact ⟨kk, fun g => x1 (by omega)⟩
theorem p_TP_version {h : tpH} {o p D : Nat} (l : lTP h o p) {fr : List mT} (hF : FoP h (hI h) o p D fr) {vs : List mV} (hV : HiP (hI h) p vs) (h3 : vs.length ≤ 30) {x y w : Int32} {X : String → tpH → Prop} {R : Int32 → tpH → Prop} (x1 : ¬ vA fr vs x y w → X "java/lang/IndexOutOfBoundsException" (nC h 0 0 6)) (x2 : vA fr vs x y w → vB y w → X "java/lang/IllegalArgumentException" (nC h 0 0 6)) (x3 : vA fr vs x y w → ¬ vB y w → vs.length = 30 → X "java/lang/IllegalStateException" (nC h 0 0 6))
    (kk : vA fr vs x y w → ¬ vB y w → vs.length < 30 → R (nI vs.length) (wI h (uKp (hI h) p vs.length x y w))) : w_TP_version o x y w h X R := by
  refine ⟨l.1, p_tree l hF (fun e => x1 (fun g => ?_)) (fun i t a mk e hi hl ha b1 b2 b3 b4 b5 => ⟨l.1, p_vNone l hV h3 (fun g => x1 (fun a => g a.2.1)) (fun gy => ⟨l.1, p_vNone l hV h3 (fun g => x1 (fun a => g a.2.2)) (fun gw => ?_)⟩)⟩)⟩
  · obtain ⟨⟨t, g⟩, _⟩ := g
    rw [e] at g; simp at g
  · have A : vA fr vs x y w := ⟨⟨t, hl⟩, gy, gw⟩
    have go : ¬ vB y w → w_TP_version_41 R X o x y w h := fun nb => ⟨l.1, p_TP_needRoomForVersion l hV h3 (x3 A nb) (fun hlt => ⟨l.1, p + 90, lTP_hi l, (lTP_hiL l).1, p_Hi_keep (lTP_hiL l) hV.1 hlt (kk A nb hlt)⟩)⟩
    refine ⟨fun e => go (fun g => g.1 e), fun n => ⟨fun e => x2 A ⟨n, Or.inl e⟩, fun n2 => ⟨fun n3 => go (fun g => ?_), fun e => x2 A ⟨n, Or.inr e⟩⟩⟩⟩
    rcases g.2 with g | g
    · exact n2 g
    · exact n3 g
theorem p_Md_version {h : tpH} {Q q : Nat} (M : lMd h Q q) (hQ : Q < q) {F : Nat → Nat → Int32} {fr : List mT} (hF : FoM F Q q fr) {vs : List mV} (hV : VsM F Q q vs) (h3 : vs.length ≤ 30) (hv : vsO vs) {x y w : Int32} {R : Int32 → tpH → Prop} (x1 : ¬ vA fr vs x y w → R 0 (wI h (tpu F Q 31 1))) (x2 : vA fr vs x y w → vB y w → R 0 (wI h (tpu F Q 31 2))) (x3 : vA fr vs x y w → ¬ vB y w → vs.length = 30 → R 0 (wI h (tpu F Q 31 3)))
    (kk : vA fr vs x y w → ¬ vB y w → vs.length < 30 → ∀ G, VsM G Q q (vs ++ [(x.toInt.toNat, vO y, vO w)]) → G Q 31 = 0 → (∀ b j, ¬ ((b = Q ∧ (j = 26 ∨ j = 31)) ∨ (q + 20 ≤ b ∧ b ≤ q + 23)) → G b j = F b j) → R (nI vs.length) (wI h G)) : w_Md_version Q x y w (wI h F) R := by
  have h40 := hF.2.1
  have stop : ∀ c : Int32, ¬ c = 0 → R 0 (wI h (tpu F Q 31 c)) → w_Md_version_84 R Q x y w c (some Q) (wI h F) := fun c hc hr => by
    refine ⟨Q, rfl, M.1, fun h4 e4 => ?_⟩
    rw [sI_wI, wI_wI, wI_I] at e4
    subst e4
    exact ⟨M.1, fun _ => hr, fun e => absurd ((tpu_s _ _ _ _).symm.trans e) hc⟩
  have no : ¬ vA fr vs x y w → w_Md_version_39 R Q x y w 0 (wI h F) := fun g => ⟨fun e => absurd rfl e, fun _ => stop 1 (by decide) (x1 g)⟩
  have room : vA fr vs x y w → ¬ vB y w → w_Md_version_70 R (w_Md_version_84 R) Q x y w (some Q) (wI h F) := fun A nb => by
    have e30 : (30 : Int32) = nI 30 := rfl
    refine ⟨M.1, fun e => ?_, fun e => ?_⟩
    · rw [wI_I, hV.1, e30] at e
      have hlt : vs.length < 30 := Nat.lt_of_le_of_ne h3 (fun g => e (by rw [g]))
      refine ⟨Q, rfl, M.1, fun h4 e4 => ?_⟩
      rw [sI_wI, wI_wI, wI_I] at e4
      subst e4
      obtain ⟨ey, hy⟩ := vO_of h3 A.2.1
      obtain ⟨ew, hw⟩ := vO_of h3 A.2.2
      obtain ⟨⟨t, ht⟩, _⟩ := id A
      obtain ⟨c1, c2, c3⟩ := lst_some ht
      refine ⟨M.1, fun e => absurd (show tpu F Q 31 0 Q 31 = 0 from tpu_s _ _ _ _) e, fun _ => ?_⟩
      have key := p_Md_newVersion (R := fun v9 h8 => R v9 h8) M hQ (VsM_fr (G := tpu F Q 31 0) hV (tpu_j _ _ _ _ _ _ (by decide)) (fun b b1 b2 i _ => tpu_a _ _ _ _ _ _ (by omega))) hlt hv (x := x.toInt.toNat) hy hw (fun G g1 g2 => kk A nb hlt G g1 ?_ (fun b j hb => ?_))
      · rw [← c3, ← ey, ← ew] at key
        exact key
      · rw [g2 Q 31 (by omega), tpu_s]
      · rw [g2 b j (by omega)]
        simp only [tpu]
        rw [if_neg (by omega)]
    · rw [wI_I, hV.1, e30] at e
      exact stop 3 (by decide) (x3 A nb (nI_inj (b := 30) (by omega) (by decide) e))
  have yes : vA fr vs x y w → w_Md_version_39 R Q x y w 1 (wI h F) := fun A => by
    refine ⟨fun _ => ⟨fun e => room A (fun g => g.1 e), fun n => ⟨fun e => stop 2 (by decide) (x2 A ⟨n, Or.inl e⟩), fun n2 => ⟨fun n3 => room A (fun g => ?_), fun e => stop 2 (by decide) (x2 A ⟨n, Or.inr e⟩)⟩⟩⟩, fun e => absurd e (by decide)⟩
    rcases g.2 with g | g
    · exact n2 g
    · exact n3 g
  refine ⟨M.1, ?_⟩
  rw [e_Md_isTree M hF.2.1 hF.1]
  cases e : lstAt fr x with
  | none =>
    rw [if_neg (lst_none e)]
    exact ⟨fun _ => no (fun g => by obtain ⟨⟨t, g⟩, _⟩ := g; rw [e] at g; simp at g), fun g => absurd rfl g⟩
  | some t =>
    rw [if_pos (lst_some e).1]
    have third : vOr vs y → w_Md_version_21 R (w_Md_version_39 R) Q x y w (wI h F) := fun gy => by
      refine ⟨fun ew => yes ⟨⟨t, e⟩, gy, Or.inl ew⟩, fun nw => ⟨M.1, ?_⟩⟩
      rw [e_Md_isVersion M (by omega) hV.1]
      cases e3 : lstAt vs w with
      | none =>
        rw [if_neg (lst_none e3)]
        exact ⟨fun _ => no (fun g => vOr_n h3 nw e3 g.2.2), fun g => absurd rfl g⟩
      | some u =>
        rw [if_pos (lst_some e3).1]
        exact ⟨fun g => absurd g (by decide), fun _ => yes ⟨⟨t, e⟩, gy, vOr_s e3⟩⟩
    refine ⟨fun g => absurd g (by decide), fun _ => ⟨fun ey => third (Or.inl ey), fun ny => ⟨M.1, ?_⟩⟩⟩
    rw [e_Md_isVersion M (by omega) hV.1]
    cases e2 : lstAt vs y with
    | none =>
      rw [if_neg (lst_none e2)]
      exact ⟨fun _ => no (fun g => vOr_n h3 ny e2 g.2.1), fun g => absurd rfl g⟩
    | some u =>
      rw [if_pos (lst_some e2).1]
      exact ⟨fun g => absurd g (by decide), fun _ => third (vOr_s e2)⟩
/-! the state with one version more -/
theorem mIn_vs {mk : Nat} {kd : Nat → Int32} {rt : Nat → Bool} {dr : Option mT} {r : mRe} (H : mIn mk kd rt dr r) (h3 : r.2.2.2.2.2.length < 30) {i : Nat} {f s : Option Nat} (hi : i < r.1.length) (hf : ∀ a, f = some a → a < r.2.2.2.2.2.length) (hs : ∀ a, s = some a → a < r.2.2.2.2.2.length) : mIn mk kd rt dr (r.1, r.2.1, r.2.2.1, r.2.2.2.1, r.2.2.2.2.1, r.2.2.2.2.2 ++ [(i, f, s)]) := by
  obtain ⟨H1, H2, H3, H4, H5, H6, H7, H8⟩ := H
  refine ⟨H1, H2, H3, H4, H5, H6, by show (r.2.2.2.2.2 ++ [(i, f, s)]).length ≤ 30; rw [List.length_append]; exact h3, fun j e hj => ?_⟩
  have hj : (r.2.2.2.2.2 ++ [(i, f, s)])[j]? = some e := hj
  by_cases c : j < r.2.2.2.2.2.length
  · rw [List.getElem?_append_left c] at hj
    exact H8 j e hj
  · rw [List.getElem?_append_right (by omega)] at hj
    have hl := (List.getElem?_eq_some_iff.mp hj).1
    have ej : j = r.2.2.2.2.2.length := by simp at hl; omega
    subst ej
    rw [Nat.sub_self] at hj
    simp only [List.getElem?_cons_zero, Option.some.injEq] at hj
    subst hj
    exact ⟨hi, hf, hs⟩
theorem mIn_vo {mk : Nat} {kd : Nat → Int32} {rt : Nat → Bool} {dr : Option mT} {r : mRe} (H : mIn mk kd rt dr r) : vsO r.2.2.2.2.2 := fun i e hi => (H.2.2.2.2.2.2.2 i e hi).2
theorem stP_vs {h : tpH} {x p D mk n : Nat} {kd idn : Nat → Int32} {dr : Option mT} {r : mRe} (H : stP h x p D mk kd idn dr r n) (hxp : x < p) (hpD : p + 101 ≤ D) (hDz : D ≤ hZ h) (i : Nat) (f s : Option Nat) : stP (wI h (uKp (hI h) p r.2.2.2.2.2.length (nI i) (nO f) (nO s))) x p D mk kd idn dr (r.1, r.2.1, r.2.2.1, r.2.2.2.1, r.2.2.2.2.1, r.2.2.2.2.2 ++ [(i, f, s)]) n ∧ hFr h (wI h (uKp (hI h) p r.2.2.2.2.2.length (nI i) (nO f) (nO s))) (fun b _ => p + 90 ≤ b ∧ b < p + 97) (fun _ _ => False) := by
  have f7 : hFr h (wI h (uKp (hI h) p r.2.2.2.2.2.length (nI i) (nO f) (nO s))) (fun b _ => p + 90 ≤ b ∧ b < p + 97) (fun _ _ => False) := hFr_w h _ (fun b j hb => by
    unfold uKp
    simp only [tpu]
    rw [if_neg (by omega), if_neg (by omega), if_neg (by omega), if_neg (by omega)])
  have eI : ∀ b, b < p + 90 → hI (wI h (uKp (hI h) p r.2.2.2.2.2.length (nI i) (nO f) (nO s))) b = hI h b := fun b hb => funext fun j => (f7.2 b (by omega)).2.2.2.2.1 j (fun g => by omega)
  obtain ⟨H1, H2, H3, H4, H5, H6, H7, H8, H9, H10, H11, H12⟩ := H
  exact ⟨⟨H1, MaP_k H2 (fun b b1 b2 => eI b (by omega)), DrP_k H3 (fun b b1 b2 => eI b (by omega)), fun j hj => by rw [eI _ (by omega)]; exact H4 j hj,
    FoP_fr H5 (by omega) hpD hDz f7 (fun g => by omega) (fun b j hb g => by omega) (fun b j hb g => g.elim) (fun i _ g => g.elim), H6, ScP_fr H7 hxp (by omega) f7 (fun b j hb => ⟨fun g => by omega, fun g => g.elim⟩) (fun g => by omega) (fun i _ g => g.elim),
    by rw [eI x (by omega)]; exact H8, fun j hj => by rw [eI _ (by omega)]; exact H9 j hj, CfP_fr H10 (by omega) f7 (fun b j hb => ⟨fun g => by omega, fun g => g.elim⟩) (fun _ _ e => Or.inl e), HiP_kp H11 i f s, MiP_fr H12 (by omega) f7 (fun b j b1 b2 g => by omega) (fun b j b1 b2 g => g.elim) (fun i _ g => g.elim)⟩, f7⟩
theorem stM_vs {h : tpH} {Q q mk : Nat} {kd idn : Nat → Int32} {dr : Option mT} {r : mRe} (H : stM h Q q mk kd idn dr r) (hQ : Q < q) (hw : ∀ (i : Nat) (t : mT), r.1[i]? = some t → tWF 300 t) {G : Nat → Nat → Int32} {vs' : List mV} (hV : VsM G Q q vs') (fr : ∀ b j, ¬ ((b = Q ∧ (j = 26 ∨ j = 31)) ∨ (q + 20 ≤ b ∧ b ≤ q + 23) ∨ (q + 24 ≤ b ∧ b < q + 46)) → G b j = hI h b j) : stM (wI h G) Q q mk kd idn dr (r.1, r.2.1, r.2.2.1, r.2.2.2.1, r.2.2.2.2.1, vs') := by
  obtain ⟨m1, m2, m3, m4, m5, m6, m7, m8, m9⟩ := H
  exact ⟨m1, MaM_fr m2 (fr _ _ (by omega)) (fun b hb => funext fun j => fr _ _ (by omega)), DrM_fr m3 (fr _ _ (by omega)) (fun b b1 b2 => funext fun j => fr _ _ (by omega)), FoM_fr m4 hw (fr _ _ (by omega)) (fun j _ => fr _ _ (by omega)) (fun b b1 b2 j _ => fr _ _ (by omega)),
    ScM_fr m5 (fr _ _ (by omega)) (fun b b1 b2 => funext fun j => fr _ _ (by omega)), (fr _ _ (by omega)).trans m6, fun j hj => (fr _ _ (by omega)).trans (m7 j hj), CfM_fr m8 (fr _ _ (by omega)) (funext fun j => fr _ _ (by omega)), hV⟩

theorem lw_version {b L z : Nat} {xs : Nat → Int32} (hL0 : L ≤ 3072) : lwOK (lwI b L z xs) b z (z + 102) (z + 149) (z + 150) L w_Lw_law_1045 := by
  intro R K k h I h6 kk
  obtain ⟨hb, hC, mk, kd, idn, rt, dr, r, n, hm, hP, hM, hB⟩ := I
  have vp : ∀ j, j < 6 → ∀ h', lwC b L z xs h' → vp_in (nI (6 * k) + nI j) (hL h' b) := fun j hj h' hC => lw_vp hL0 hC.2.2.2.1 h6 hj
  have hz := hB.2.1
  have hwf := mIn_wf hm
  obtain ⟨hdw, hdm⟩ := mIn_dw hm
  refine ⟨b, rfl, hC.2.2.1, vp 1 (by decide) h hC, vp 2 (by decide) h hC, vp 3 (by decide) h hC, z, rfl, hP.1.1, ?_⟩
  rw [hC.2.2.2.2]
  generalize e1 : xs (nI (6 * k) + 1).toNatClampNeg = A1
  generalize e2 : xs (nI (6 * k) + 2).toNatClampNeg = A2
  generalize e3 : xs (nI (6 * k) + 3).toNatClampNeg = A3
  refine p_TP_version hP.1 hP.2.2.2.2.1 hP.2.2.2.2.2.2.2.2.2.2.1 hm.2.2.2.2.2.2.1 (fun na => Or.inl ⟨rfl, ?_⟩) (fun A B => Or.inr (Or.inl ⟨rfl, ?_⟩)) (fun A nB e30 => Or.inr (Or.inr ⟨rfl, ?_⟩)) (fun A nB hlt => lw_put hC.1 ?_)
  · have H := lw_exc (k := k) hb hC hm hP hM hB
    obtain ⟨-, hC7, hM7, -⟩ := id H
    refine ⟨hC7.2.2.1, vp 1 (by decide) _ hC7, vp 2 (by decide) _ hC7, vp 3 (by decide) _ hC7, z + 102, rfl, hM7.1.1, ?_⟩
    rw [hC7.2.2.2.2, e1, e2, e3]
    exact p_Md_version hM7.1 (by omega) hM7.2.2.2.1 hM7.2.2.2.2.2.2.2.2 hm.2.2.2.2.2.2.1 (mIn_vo hm) (fun _ => lw_xt H hwf (by decide) (tpu_s _ _ _ _) (lw_x1 1) kk) (fun A => absurd A na) (fun A => absurd A na) (fun A => absurd A na)
  · have H := lw_exc (k := k) hb hC hm hP hM hB
    obtain ⟨-, hC7, hM7, -⟩ := id H
    refine ⟨hC7.2.2.1, vp 1 (by decide) _ hC7, vp 2 (by decide) _ hC7, vp 3 (by decide) _ hC7, z + 102, rfl, hM7.1.1, ?_⟩
    rw [hC7.2.2.2.2, e1, e2, e3]
    exact p_Md_version hM7.1 (by omega) hM7.2.2.2.1 hM7.2.2.2.2.2.2.2.2 hm.2.2.2.2.2.2.1 (mIn_vo hm) (fun na => absurd A na) (fun _ _ => lw_xt H hwf (by decide) (tpu_s _ _ _ _) (lw_x1 2) kk) (fun _ nB => absurd B nB) (fun _ nB => absurd B nB)
  · have H := lw_exc (k := k) hb hC hm hP hM hB
    obtain ⟨-, hC7, hM7, -⟩ := id H
    refine ⟨hC7.2.2.1, vp 1 (by decide) _ hC7, vp 2 (by decide) _ hC7, vp 3 (by decide) _ hC7, z + 102, rfl, hM7.1.1, ?_⟩
    rw [hC7.2.2.2.2, e1, e2, e3]
    exact p_Md_version hM7.1 (by omega) hM7.2.2.2.1 hM7.2.2.2.2.2.2.2.2 hm.2.2.2.2.2.2.1 (mIn_vo hm) (fun na => absurd A na) (fun _ B => absurd B nB) (fun _ _ _ => lw_xt H hwf (by decide) (tpu_s _ _ _ _) (lw_x1 3) kk) (fun _ _ g => absurd e30 (by omega))
  · obtain ⟨ey, hy⟩ := vO_of hm.2.2.2.2.2.2.1 A.2.1
    obtain ⟨ew, hw⟩ := vO_of hm.2.2.2.2.2.2.1 A.2.2
    obtain ⟨⟨t, ht⟩, _⟩ := id A
    obtain ⟨c1, c2, c3⟩ := lst_some ht
    have hil := (List.getElem?_eq_some_iff.mp c2).1
    obtain ⟨hP7, f7⟩ := stP_vs hP (by omega) (by omega) hz A1.toInt.toNat (vO A2) (vO A3)
    rw [← c3, ← ey, ← ew] at hP7 f7
    have H := lw_sJ (lw_cls (k := k) hb hC hm hM hB f7 (fun c j g => by omega) (fun c j g => g.elim) (mIn_vs hm hlt hil hy hw) hP7 ⟨Nat.le_refl _, hB.1⟩ (by rw [wI_Z]; omega) (by rw [wI_U]; omega)) (z + 149) 0 (nI r.2.2.2.2.2.length).toInt64
    obtain ⟨-, hC7, hM7, -⟩ := id H
    refine ⟨hC7.2.2.1, vp 1 (by decide) _ hC7, vp 2 (by decide) _ hC7, vp 3 (by decide) _ hC7, z + 102, rfl, hM7.1.1, ?_⟩
    rw [hC7.2.2.2.2, e1, e2, e3]
    exact p_Md_version hM7.1 (by omega) hM7.2.2.2.1 hM7.2.2.2.2.2.2.2.2 hm.2.2.2.2.2.2.1 (mIn_vo hm) (fun na => absurd A na) (fun _ B => absurd B nB) (fun _ _ g => absurd g (by omega)) (fun _ _ _ G k1 k2 k3 => lw_tail hM7.1.1 k2 hC7.1 (fun _ => tpu_s _ _ _ _) (kk _ (lw_fin H (fun c j hc => k3 c j (by omega)) (stM_vs hM7 (by omega) hwf k1 (fun c j hc => k3 c j (by omega))))))

end CASE9
