section CCOPY
/-- the class's trees -/
def FoP (h : tpH) (F : Nat → Nat → Int32) (x p D : Nat) (fr : List mT) : Prop := F x 4 = nI fr.length ∧ fr.length ≤ 40 ∧ ∀ (i : Nat) (t : mT), fr[i]? = some t →
  ∃ a mk, hR h (p + 35) i = some a ∧ D ≤ a ∧ a + 19 ≤ hZ h ∧ lTr h a (pO t).length mk ∧ TrP F a t mk ∧ mk ≤ 300 ∧ ∀ m, tIn t m = true → m < mk
theorem p_TP_needTree {h : tpH} {o p D : Nat} (l : lTP h o p) {F : Nat → Nat → Int32} {fr : List mT} (hF : FoP h F o p D fr) {x : Int32} {X : String → tpH → Prop} {R : Option Nat → tpH → Prop}
    (x1 : (∀ i, i < fr.length → x ≠ nI i) → X "java/lang/IndexOutOfBoundsException" (nC (wI h F) 0 0 6))
    (kk : ∀ i t a, x = nI i → fr[i]? = some t → hR h (p + 35) i = some a → R (some a) (wI h F)) : w_TP_needTree o x (wI h F) X R := by
  obtain ⟨f1, f2, f3⟩ := hF
  have hr : hR h o 3 = some (p + 35) := l.2.2.2.2.2.2.2.1
  have hk : hT h (p + 35) = 21 ∧ hL h (p + 35) = 40 := l.2.2.2.2.2.2.2.2.1
  have no : (∀ i, i < fr.length → x ≠ nI i) → w_TP_needTree_31 R X none (wI h F) := fun g => ⟨fun e => absurd rfl e, fun _ => x1 g⟩
  refine ⟨fun e => no (fun i hi e2 => ?_), fun e => ⟨l.1, fun e2 => no (fun i hi e3 => ?_), fun e2 => ⟨p + 35, hr, hk.1, fun e3 => no (fun i hi e4 => ?_), fun e3 => ?_⟩⟩⟩
  · rw [e2] at e; exact nI_pos (by omega) e
  · rw [wI_I, f1, e3, nI_le_iff (by omega) (by omega)] at e2; omega
  · have e3 : Int32.ofNat (hL h (p + 35)) ≤ x := e3
    rw [hk.2, e4] at e3
    have := (nI_le_iff (a := 40) (b := i) (by decide) (by omega)).mp e3
    omega
  · obtain ⟨i, hi, rfl⟩ := nI_of e
    rw [wI_I, f1] at e2
    have hlt : i < fr.length := by
      by_cases c : i < fr.length
      · exact c
      · exact absurd ((nI_le_iff (by omega) hi).mpr (by omega)) e2
    have ht : fr[i]? = some fr[i] := List.getElem?_eq_getElem hlt
    obtain ⟨a, mk, ha, -⟩ := f3 i _ ht
    refine ⟨by rw [wI_L, hk.2]; exact vp_in_nI (by omega) (by decide), ?_⟩
    rw [nI_clamp hi, wI_R, ha]
    exact ⟨fun _ => kk i _ a rfl ht ha, fun e => by simp at e⟩
theorem p_TP_copy {h : tpH} {o p D : Nat} (l : lTP h o p) (hDp : p + 101 ≤ D) {F : Nat → Nat → Int32} {fr : List mT} (hF : FoP h F o p D fr) (hw : ∀ (i : Nat) (t : mT), fr[i]? = some t → tWF 300 t) {lo : Nat → Bool} (hl : ∀ (i : Nat) (t : mT), fr[i]? = some t → tLo lo t ∧ ∀ q, tIn t q = true → (F (p + 2) q < 4 ↔ lo q = false)) {x : Int32} {X : String → tpH → Prop} {R : Int32 → tpH → Prop}
    (x1 : (∀ i, i < fr.length → x ≠ nI i) → X "java/lang/IndexOutOfBoundsException" (nC (wI h F) 0 0 6))
    (kk : ∀ i t, x = nI i → fr[i]? = some t → ∀ G, DrP G p (some t) → (∀ b, b < p + 5 ∨ p + 20 ≤ b → G b = F b) → R (nI (tCn t)) (wI h G)) : w_TP_copy o x (wI h F) X R := by
  have lm : lMa h p := l.2.2.1
  have lb : lBu h (p + 5) (some (p + 0)) := l.2.2.2.2.1
  refine ⟨l.1, p_TP_needTree l hF x1 (fun i t a e ht ha => ?_)⟩
  obtain ⟨a', mk, ha', hDa, haz, lt, hT2, hk, hmk⟩ := hF.2.2 i t ht
  rw [ha] at ha'
  cases ha'
  have hwt := hw i t ht
  obtain ⟨h1, h2⟩ := hl i t ht
  refine ⟨l.1, p + 5, l.2.2.2.1, lb.1, ?_⟩
  refine p_Bu_takeOver lb lm lt (by omega) (by omega) hwt hk hmk h1 hT2 h2 (fun G g1 g2 g3 => ⟨a, rfl, lt.1, ?_⟩)
  rw [wI_I, g3 a (by omega), hT2.1, pO_len hwt]
  exact kk i t e ht G ⟨g1, g2, hwt⟩ (fun b hb => g3 b (by omega))
end CCOPY
