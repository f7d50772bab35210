section CASE7
/-- what may be touched without touching trees, scripts, conflicts, versions, the last matching -/
def fSc (x p D b j : Nat) : Prop := (b = x ∧ j = 10) ∨ (b ≠ x ∧ (b < p + 35 ∨ (p + 37 ≤ b ∧ b < p + 50) ∨ (p + 61 ≤ b ∧ b < p + 68) ∨ (p + 69 ≤ b ∧ b < p + 86) ∨ (b = p + 90 ∧ j = 6) ∨ (p + 97 ≤ b ∧ b < D)))
theorem reP_parts {h h' : tpH} {x p D n : Nat} {kd idn : Nat → Int32} {r : mRe} {T U : Nat → Nat → Prop} (H : reP h x p D kd idn r n) (hxp : x < p) (hpD : p + 101 ≤ D) (hDz : D ≤ hZ h) (a : hFr h h' T U) (nT : ∀ b j, T b j → fSc x p D b j) (nU : ∀ b j, U b j → fSc x p D b j) :
    FoP h' (hI h') x p D r.1 ∧ FoJ h' p r.1.length ∧ ScP h' x p D r.2.1 ∧ CfP h' p D r.2.2.2.2.1 n ∧ HiP (hI h') p r.2.2.2.2.2 ∧ MiP h' p kd idn r.1 := by
  obtain ⟨H1, H2, H3, H4, H5, H6, H7, H8⟩ := H
  unfold fSc at nT nU
  have nt : fNT p D T U := fun b j hb => ⟨fun g => by have := nT b j g; omega, fun g => by have := nU b j g; omega⟩
  have n35 : ∀ i, ¬ U (p + 35) i := fun i g => by have := nU _ _ g; omega
  have eI : ∀ b, (p + 35 ≤ b ∧ b < p + 37) ∨ (p + 50 ≤ b ∧ b < p + 61) ∨ (p + 86 ≤ b ∧ b < p + 90) ∨ (p + 91 ≤ b ∧ b < p + 97) → hI h' b = hI h b := fun b hb => funext fun j => (a.2 b (by omega)).2.2.2.2.1 j (fun g => by have := nT _ _ g; omega)
  have e35 : hR h' (p + 35) = hR h (p + 35) := funext fun j => (a.2 (p + 35) (by omega)).2.2.2.2.2 j (n35 j)
  refine ⟨FoP_fr H1 (by omega) hpD hDz a (fun g => by have := nT _ _ g; omega) (fun b j hb g => by have := nT _ _ g; omega) (fun b j hb g => by have := nU _ _ g; omega) (fun i _ => n35 i), fun i j hi hj e => ?_,
    ScP_fr H3 hxp (by omega) a nt (fun g => by have := nT _ _ g; omega) (fun i _ g => by have := nU _ _ g; omega),
    CfP_fr H6 (by omega) a (fun b j hb => ⟨fun g => by have := nT _ _ g; omega, fun g => by have := nU _ _ g; omega⟩) (fun i a0 e => Or.inl (by rw [← e35]; exact e)), HiP_fr H7 ((a.2 (p + 90) (by omega)).2.2.2.2.1 5 (fun g => by have := nT _ _ g; omega)) (fun b b1 b2 => eI b (by omega)),
    MiP_fr H8 (by omega) a (fun b j b1 b2 g => by have := nT _ _ g; omega) (fun b j b1 b2 g => by have := nU _ _ g; omega) (fun i _ => n35 i)⟩
  rw [e35] at e
  exact H2 i j hi hj e
def polOK (x y : Int32) : Prop := (x = 0 ∨ x = 1 ∨ x = 2 ∨ x = 5) ∧ (0 ≤ y.toInt ∧ y.toInt ≤ 2)
theorem pol_k {x y : Int32} (h : polOK x y) : ∃ k, x = nI k ∧ k < 6 := by
  rcases h.1 with e | e | e | e
  · exact ⟨0, e, by decide⟩
  · exact ⟨1, e, by decide⟩
  · exact ⟨2, e, by decide⟩
  · exact ⟨5, e, by decide⟩
theorem pol_y {x y : Int32} (h : polOK x y) : y = 0 ∨ y = 1 ∨ y = 2 := by
  have h1 := h.2
  have : y.toInt = 0 ∨ y.toInt = 1 ∨ y.toInt = 2 := by omega
  rcases this with e | e | e
  · exact Or.inl (Int32.toInt_inj.mp e)
  · exact Or.inr (Or.inl (Int32.toInt_inj.mp e))
  · exact Or.inr (Or.inr (Int32.toInt_inj.mp e))
theorem p_TP_setPolicy {h : tpH} {o p : Nat} (l : lTP h o p) {po : Nat → Int32} (hP : PoP (hI h) p po) {x y : Int32} {X : String → tpH → Prop} {R : Int32 → tpH → Prop} (x1 : ¬ polOK x y → X "java/lang/IllegalArgumentException" (nC h 0 0 6)) (kk : polOK x y → ∀ k, x = nI k → k < 6 → R (po k) (wI h (tpu (hI h) (p + 71) k y))) : w_TP_setPolicy o x y h X R := by
  obtain ⟨g0, g1, g2, g3, g4, g5, g6⟩ := lTP_mgL l
  have e0 : (0 : Int32).toInt = 0 := rfl
  have e2 : (2 : Int32).toInt = 2 := rfl
  have no : ¬ polOK x y → w_TP_setPolicy_24 R X o x y 0 h := fun g => ⟨fun _ => x1 g, fun e => absurd rfl e⟩
  have yes : (x = 0 ∨ x = 1 ∨ x = 2 ∨ x = 5) → w_TP_setPolicy_24 R X o x y 1 h := fun gx => by
    refine ⟨fun e => absurd e (by decide), fun _ => ⟨fun e => x1 (fun g => ?_), fun e => ⟨fun e3 => ?_, fun e3 => x1 (fun g => ?_)⟩⟩⟩
    · rw [i_lt, e0] at e; have := g.2; omega
    · rw [i_lt, e0] at e
      rw [i_le, e2] at e3
      have ok : polOK x y := ⟨gx, by omega⟩
      obtain ⟨k, ek, hk⟩ := pol_k ok
      have kk := kk ok k ek hk
      refine ⟨l.1, p + 69, lTP_mg l, g0, p + 70, g5, g6.1, p_at g6 (by decide) ⟨l.1, p + 69, lTP_mg l, g0, p + 70, g5, g6.1, p_put g6 (by decide) ?_⟩⟩
      rw [ek, rAt_n hk (by decide), rPut_n hk (by decide), hP k hk]
      exact kk
    · rw [i_le, e2] at e3; have := g.2; omega
  refine ⟨fun e => yes (Or.inl e), fun n1 => ⟨fun e => yes (Or.inr (Or.inl e)), fun n2 => ⟨fun e => yes (Or.inr (Or.inr (Or.inl e))), fun n3 => ⟨fun n4 => no (fun g => ?_), fun e => yes (Or.inr (Or.inr (Or.inr e)))⟩⟩⟩⟩
  rcases g.1 with g | g | g | g
  · exact n1 g
  · exact n2 g
  · exact n3 g
  · exact n4 g
end CASE7
