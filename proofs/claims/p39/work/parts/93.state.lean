section STATE
abbrev mSp : Type := Option Nat × Option Nat × Option Nat
abbrev mSt : Type := Nat × Nat × Int32 × Int32 × mSp × mSp
abbrev mV : Type := Nat × Option Nat × Option Nat
abbrev mRe : Type := List mT × List (List mSt) × Int32 × (Nat → Int32) × List (Nat × Nat) × List mV
theorem loK_iff (kd : Nat → Int32) (m : Nat) : kd m < 4 ↔ loK kd m = false := by
  unfold loK
  by_cases c : kd m < 4 <;> simp [c]
def SpP (h : tpH) (p D b : Nat) (s : mSp) : Prop := (b = p + 68 ∨ (D ≤ b ∧ b < hZ h)) ∧ hT h b = 10 ∧ hI h b 0 = nO s.1 ∧ hI h b 1 = nO s.2.1 ∧ hI h b 2 = nO s.2.2
def StP (h : tpH) (p D b : Nat) (e : mSt) : Prop := (D ≤ b ∧ b < hZ h) ∧ hT h b = 11 ∧ hI h b 0 = nI e.1 ∧ hI h b 1 = nI e.2.1 ∧ hI h b 2 = e.2.2.1 ∧ hI h b 3 = e.2.2.2.1 ∧ (∃ u, hR h b 4 = some u ∧ SpP h p D u e.2.2.2.2.1) ∧ ∃ v, hR h b 5 = some v ∧ SpP h p D v e.2.2.2.2.2
def ScO (h : tpH) (p D a : Nat) (s : List mSt) : Prop := (D ≤ a ∧ a < hZ h) ∧ hT h a = 9 ∧ hI h a 1 = nI s.length ∧ ∃ c, hR h a 0 = some c ∧ (D ≤ c ∧ c < hZ h) ∧ hT h c = 20 ∧ s.length ≤ hL h c ∧ hL h c ≤ 100 ∧ ∀ (j : Nat) (e : mSt), s[j]? = some e → ∃ b, hR h c j = some b ∧ StP h p D b e
def ScP (h : tpH) (x p D : Nat) (sc : List (List mSt)) : Prop := hI h x 6 = nI sc.length ∧ sc.length ≤ 40 ∧ ∀ (i : Nat) (s : List mSt), sc[i]? = some s → ∃ a, hR h (p + 36) i = some a ∧ ScO h p D a s
/-- nothing is touched where sealed things lie -/
def fNT (p D : Nat) (T U : Nat → Nat → Prop) : Prop := ∀ b j, (D ≤ b ∨ b = p + 68) → ¬ T b j ∧ ¬ U b j
theorem SpP_fr {h h' : tpH} {p D b : Nat} {s : mSp} {T U : Nat → Nat → Prop} (H : SpP h p D b s) (hz : p + 101 ≤ hZ h) (a : hFr h h' T U) (n : fNT p D T U) : SpP h' p D b s := by
  obtain ⟨H1, H2, H3, H4, H5⟩ := H
  have hb : b < hZ h := by omega
  have hn : D ≤ b ∨ b = p + 68 := by omega
  obtain ⟨a1, a2, a3, a4, a5, a6⟩ := a.2 b hb
  have := a.1
  exact ⟨by omega, a1.trans H2, (a5 0 (n b 0 hn).1).trans H3, (a5 1 (n b 1 hn).1).trans H4, (a5 2 (n b 2 hn).1).trans H5⟩
theorem StP_fr {h h' : tpH} {p D b : Nat} {e : mSt} {T U : Nat → Nat → Prop} (H : StP h p D b e) (hz : p + 101 ≤ hZ h) (a : hFr h h' T U) (n : fNT p D T U) : StP h' p D b e := by
  obtain ⟨H1, H2, H3, H4, H5, H6, ⟨u, H7, H8⟩, v, H9, H10⟩ := H
  obtain ⟨a1, a2, a3, a4, a5, a6⟩ := a.2 b H1.2
  have hn : D ≤ b ∨ b = p + 68 := Or.inl H1.1
  have := a.1
  exact ⟨by omega, a1.trans H2, (a5 0 (n b 0 hn).1).trans H3, (a5 1 (n b 1 hn).1).trans H4, (a5 2 (n b 2 hn).1).trans H5, (a5 3 (n b 3 hn).1).trans H6, ⟨u, (a6 4 (n b 4 hn).2).trans H7, SpP_fr H8 hz a n⟩, v, (a6 5 (n b 5 hn).2).trans H9, SpP_fr H10 hz a n⟩
theorem ScO_fr {h h' : tpH} {p D b : Nat} {s : List mSt} {T U : Nat → Nat → Prop} (H : ScO h p D b s) (hz : p + 101 ≤ hZ h) (a : hFr h h' T U) (n : fNT p D T U) : ScO h' p D b s := by
  obtain ⟨H1, H2, H3, c, H4, H5, H6, H7, H8, H9⟩ := H
  obtain ⟨a1, a2, a3, a4, a5, a6⟩ := a.2 b H1.2
  obtain ⟨c1, c2, c3, c4, c5, c6⟩ := a.2 c H5.2
  have := a.1
  refine ⟨by omega, a1.trans H2, (a5 1 (n b 1 (Or.inl H1.1)).1).trans H3, c, (a6 0 (n b 0 (Or.inl H1.1)).2).trans H4, by omega, c1.trans H6, by rw [c2]; exact H7, by rw [c2]; exact H8, fun j e hj => ?_⟩
  obtain ⟨d, d1, d2⟩ := H9 j e hj
  exact ⟨d, (c6 j (n c j (Or.inl H5.1)).2).trans d1, StP_fr d2 hz a n⟩
theorem ScP_fr {h h' : tpH} {x p D : Nat} {sc : List (List mSt)} {T U : Nat → Nat → Prop} (H : ScP h x p D sc) (hxp : x < p) (hz : p + 101 ≤ hZ h) (a : hFr h h' T U) (n : fNT p D T U) (n6 : ¬ T x 6) (n36 : ∀ i, i < sc.length → ¬ U (p + 36) i) : ScP h' x p D sc := by
  refine ⟨((a.2 x (by omega)).2.2.2.2.1 6 n6).trans H.1, H.2.1, fun i s hi => ?_⟩
  obtain ⟨b, b1, b2⟩ := H.2.2 i s hi
  have hil : i < sc.length := (List.getElem?_eq_some_iff.mp hi).1
  exact ⟨b, ((a.2 (p + 36) (by omega)).2.2.2.2.2 i (n36 i hil)).trans b1, ScO_fr b2 hz a n⟩
def PoP (F : Nat → Nat → Int32) (p : Nat) (po : Nat → Int32) : Prop := ∀ k, k < 6 → F (p + 71) k = po k
def CfP (h : tpH) (p D : Nat) (cf : List (Nat × Nat)) (n : Nat) : Prop := hI h (p + 86) 1 = nI cf.length ∧ hI h (p + 88) 1 = nI cf.length ∧ (cf.length ≤ n ∧ 1 ≤ n) ∧ ∃ c c', (rwL h (p + 86) c n ∧ (c = p + 87 ∨ D ≤ c) ∧ c < hZ h) ∧ (rwL h (p + 88) c' n ∧ (c' = p + 89 ∨ D ≤ c') ∧ c' < hZ h) ∧ (c ≠ c' ∧ ∀ i a, hR h (p + 35) i = some a → a + 19 ≤ hZ h ∧ (c < a ∨ a + 19 ≤ c) ∧ (c' < a ∨ a + 19 ≤ c')) ∧
  ∀ (i : Nat) (e : Nat × Nat), cf[i]? = some e → hI h c i = nI e.1 ∧ hI h c' i = nI e.2
theorem CfP_fr {h h' : tpH} {p D n : Nat} {cf : List (Nat × Nat)} {T U : Nat → Nat → Prop} (H : CfP h p D cf n) (hz : p + 101 ≤ hZ h) (a : hFr h h' T U) (nt : ∀ b j, D ≤ b ∨ (p + 86 ≤ b ∧ b < p + 90) → ¬ T b j ∧ ¬ U b j) (n35 : ∀ i a, hR h' (p + 35) i = some a → hR h (p + 35) i = some a ∨ (hZ h ≤ a ∧ a + 19 ≤ hZ h')) : CfP h' p D cf n := by
  obtain ⟨H1, H2, H3, c, c', ⟨H4, H5, H6⟩, ⟨H7, H8, H9⟩, H10, H11⟩ := H
  have sm : ∀ b, b < hZ h → (D ≤ b ∨ (p + 86 ≤ b ∧ b < p + 90)) → hSm h h' b := fun b hb hc => hFr_sS a hb (fun j => (nt b j hc).1) (fun j => (nt b j hc).2)
  have s86 := sm (p + 86) (by omega) (by omega)
  have s88 := sm (p + 88) (by omega) (by omega)
  have sc := sm c H6 (by omega)
  have sd := sm c' H9 (by omega)
  have := a.1
  exact ⟨by rw [s86.2.2.2.1]; exact H1, by rw [s88.2.2.2.1]; exact H2, H3, c, c', ⟨rwL_k H4 s86 sc, H5, by omega⟩, ⟨rwL_k H7 s88 sd, H8, by omega⟩, ⟨H10.1, fun i a ha => (n35 i a ha).elim (fun g => ⟨Nat.le_trans (H10.2 i a g).1 (by omega), (H10.2 i a g).2⟩) (fun g => ⟨g.2, Or.inl (by omega), Or.inl (by omega)⟩)⟩, fun i e hi => by rw [sc.2.2.2.1, sd.2.2.2.1]; exact H11 i e hi⟩
def HiP (F : Nat → Nat → Int32) (p : Nat) (vs : List mV) : Prop := F (p + 90) 5 = nI vs.length ∧ ∀ (i : Nat) (e : mV), vs[i]? = some e → F (p + 92) i = nI e.1 ∧ F (p + 94) i = nO e.2.1 ∧ F (p + 96) i = nO e.2.2
theorem HiP_fr {F G : Nat → Nat → Int32} {p : Nat} {vs : List mV} (H : HiP F p vs) (h5 : G (p + 90) 5 = F (p + 90) 5) (hk : ∀ b, p + 92 ≤ b → b < p + 97 → G b = F b) : HiP G p vs :=
  ⟨h5.trans H.1, fun i e hi => by rw [hk (p + 92) (by omega) (by omega), hk (p + 94) (by omega) (by omega), hk (p + 96) (by omega) (by omega)]; exact H.2 i e hi⟩
/-- the last matching kept: none yet, or that of two trees kept -/
def MiP (h : tpH) (p : Nat) (kd idn : Nat → Int32) (fr : List mT) : Prop := hR h (p + 50) 7 = none ∨ ∃ (i j : Nat) (t u : mT) (a b : Nat), (fr[i]? = some t ∧ fr[j]? = some u ∧ tWF 300 t ∧ tWF 300 u) ∧ (hR h (p + 35) i = some a ∧ hR h (p + 35) j = some b ∧ hR h (p + 50) 7 = some a ∧ hR h (p + 50) 8 = some b) ∧ McP (hI h) p t u (MTd kd idn t u)
theorem MiP_fr {h h' : tpH} {p : Nat} {kd idn : Nat → Int32} {fr : List mT} {T U : Nat → Nat → Prop} (H : MiP h p kd idn fr) (hz : p + 101 ≤ hZ h) (a : hFr h h' T U) (nT : ∀ b j, p + 50 ≤ b → b < p + 61 → ¬ T b j) (nU : ∀ b j, p + 50 ≤ b → b < p + 61 → ¬ U b j) (n35 : ∀ i, i < fr.length → ¬ U (p + 35) i) : MiP h' p kd idn fr := by
  have e50 : ∀ j, hR h' (p + 50) j = hR h (p + 50) j := fun j => (a.2 _ (by omega)).2.2.2.2.2 j (nU _ j (by omega) (by omega))
  have eI : ∀ b, p + 50 ≤ b → b < p + 61 → ∀ j, hI h' b j = hI h b j := fun b b1 b2 j => (a.2 b (by omega)).2.2.2.2.1 j (nT b j b1 b2)
  rcases H with g | ⟨i, j, t, u, x, y, ⟨h1, h2, h3, h4⟩, ⟨g1, g2, g3, g4⟩, m1, m2⟩
  · exact Or.inl ((e50 7).trans g)
  · have e35 : ∀ k, k < fr.length → hR h' (p + 35) k = hR h (p + 35) k := fun k hk => (a.2 _ (by omega)).2.2.2.2.2 k (n35 k hk)
    exact Or.inr ⟨i, j, t, u, x, y, ⟨h1, h2, h3, h4⟩, ⟨(e35 i (List.getElem?_eq_some_iff.mp h1).1).trans g1, (e35 j (List.getElem?_eq_some_iff.mp h2).1).trans g2, (e50 7).trans g3, (e50 8).trans g4⟩, fun z hz => (eI _ (by omega) (by omega) _).trans (m1 z hz), fun z hz => (eI _ (by omega) (by omega) _).trans (m2 z hz)⟩
theorem MiP_kd {h : tpH} {p mk : Nat} {kd idn : Nat → Int32} {fr : List mT} (H : MiP h p kd idn fr) (hm : ∀ t ∈ fr, ∀ m, tIn t m = true → m < mk) (k i : Int32) : MiP h p (mU kd mk k) (mU idn mk i) fr := by
  rcases H with g | ⟨i', j, t, u, x, y, ⟨h1, h2, h3, h4⟩, hr, m⟩
  · exact Or.inl g
  · refine Or.inr ⟨i', j, t, u, x, y, ⟨h1, h2, h3, h4⟩, hr, ?_⟩
    have e : MTd kd idn t u = MTd (mU kd mk k) (mU idn mk i) t u := MTd_x h3 h4 (fun c hc => by
      have : c < mk := hc.elim (hm t (List.mem_of_getElem? h1) c) (hm u (List.mem_of_getElem? h2) c)
      unfold mU
      rw [if_neg (by omega), if_neg (by omega)]
      exact ⟨rfl, rfl⟩)
    rw [← e]
    exact m
theorem MiP_app {h : tpH} {p : Nat} {kd idn : Nat → Int32} {fr : List mT} (H : MiP h p kd idn fr) (t' : mT) : MiP h p kd idn (fr ++ [t']) := by
  have ap : ∀ {i : Nat} {t : mT}, fr[i]? = some t → (fr ++ [t'])[i]? = some t := fun {i t} g => by
    rw [List.getElem?_append_left (List.getElem?_eq_some_iff.mp g).1]
    exact g
  rcases H with g | ⟨i, j, t, u, x, y, ⟨h1, h2, h3, h4⟩, hr, m⟩
  · exact Or.inl g
  · exact Or.inr ⟨i, j, t, u, x, y, ⟨ap h1, ap h2, h3, h4⟩, hr, m⟩
/-- different trees are different objects -/
def FoJ (h : tpH) (p n : Nat) : Prop := ∀ i j, i < n → j < n → hR h (p + 35) i = hR h (p + 35) j → i = j
def reP (h : tpH) (x p D : Nat) (kd idn : Nat → Int32) (r : mRe) (n : Nat) : Prop :=
  FoP h (hI h) x p D r.1 ∧ FoJ h p r.1.length ∧ ScP h x p D r.2.1 ∧ hI h x 10 = r.2.2.1 ∧ PoP (hI h) p r.2.2.2.1 ∧ CfP h p D r.2.2.2.2.1 n ∧ HiP (hI h) p r.2.2.2.2.2 ∧ MiP h p kd idn r.1
theorem reP_fr {h h' : tpH} {x p D n : Nat} {kd idn : Nat → Int32} {r : mRe} {T U : Nat → Nat → Prop} (H : reP h x p D kd idn r n) (hxp : x < p) (hpD : p + 101 ≤ D) (hDz : D ≤ hZ h) (a : hFr h h' T U) (nT : ∀ b j, T b j → b ≠ x ∧ (b < p + 35 ∨ (p + 101 ≤ b ∧ b < D))) (nU : ∀ b j, U b j → b ≠ x ∧ (b < p + 35 ∨ (p + 101 ≤ b ∧ b < D))) : reP h' x p D kd idn r n := by
  obtain ⟨H1, H2, H3, H4, H5, H6, H7, H8⟩ := H
  have nt : fNT p D T U := fun b j hb => ⟨fun g => by have := nT b j g; omega, fun g => by have := nU b j g; omega⟩
  have n35 : ∀ i, ¬ U (p + 35) i := fun i g => by have := nU _ _ g; omega
  have eI : ∀ b, b = x ∨ (p + 35 ≤ b ∧ b < p + 101) → hI h' b = hI h b := fun b hb => funext fun j => (a.2 b (by omega)).2.2.2.2.1 j (fun g => by have := nT _ _ g; omega)
  have e35 : hR h' (p + 35) = hR h (p + 35) := funext fun j => (a.2 (p + 35) (by omega)).2.2.2.2.2 j (n35 j)
  refine ⟨FoP_fr H1 (by omega) hpD hDz a (fun g => by have := nT _ _ g; omega) (fun b j hb g => by have := nT _ _ g; omega) (fun b j hb g => by have := nU _ _ g; omega) (fun i _ => n35 i), ?_,
    ScP_fr H3 hxp (by omega) a nt (fun g => by have := nT _ _ g; omega) (fun i _ g => by have := nU _ _ g; omega), by rw [eI x (Or.inl rfl)]; exact H4, fun k hk => by rw [eI (p + 71) (by omega)]; exact H5 k hk,
    CfP_fr H6 (by omega) a (fun b j hb => ⟨fun g => by have := nT _ _ g; omega, fun g => by have := nU _ _ g; omega⟩) (fun i a0 e => Or.inl (by rw [← e35]; exact e)), HiP_fr H7 (by rw [eI _ (by omega)]) (fun b b1 b2 => eI b (by omega)),
    MiP_fr H8 (by omega) a (fun b j b1 b2 g => by have := nT _ _ g; omega) (fun b j b1 b2 g => by have := nU _ _ g; omega) (fun i _ => n35 i)⟩
  intro i j hi hj e
  rw [e35] at e
  exact H2 i j hi hj e
def trI (mk : Nat) (kd : Nat → Int32) (rt : Nat → Bool) (t : mT) : Prop := tWF 300 t ∧ (∀ m, tIn t m = true → m < mk ∧ (rt m = true ↔ m = tRt t)) ∧ tLo (loK kd) t
def spI (mk : Nat) (s : mSp) : Prop := (∀ m, s.1 = some m → m < mk) ∧ (∀ m, s.2.1 = some m → m < mk) ∧ ∀ m, s.2.2 = some m → m < mk
def stpI (mk : Nat) (rt : Nat → Bool) (e : mSt) : Prop := e.1 ≤ 3 ∧ e.2.1 < mk ∧ (e.1 = 1 ∨ e.1 = 3 → rt e.2.1 = false) ∧ spI mk e.2.2.2.2.1 ∧ spI mk e.2.2.2.2.2
def mIn (mk : Nat) (kd : Nat → Int32) (rt : Nat → Bool) (dr : Option mT) (r : mRe) : Prop :=
  mk ≤ 300 ∧ (∀ t, dr = some t → trI mk kd rt t) ∧ (∀ t ∈ r.1, trI mk kd rt t) ∧ (∀ s ∈ r.2.1, s.length ≤ 100 ∧ ∀ e ∈ s, stpI mk rt e) ∧ (∀ k, r.2.2.2.1 k = 0 ∨ r.2.2.2.1 k = 1 ∨ r.2.2.2.1 k = 2) ∧ (r.2.2.2.2.1.length ≤ 92000 ∧ ∀ e ∈ r.2.2.2.2.1, e.1 < 6 ∧ e.2 < 300) ∧
  r.2.2.2.2.2.length ≤ 30 ∧ ∀ (i : Nat) (e : mV), r.2.2.2.2.2[i]? = some e → e.1 < r.1.length ∧ (∀ f, e.2.1 = some f → f < i) ∧ ∀ s, e.2.2 = some s → s < i
end STATE
