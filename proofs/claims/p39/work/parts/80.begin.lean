section PBEGIN
/-- the marks of the class, and of the reference -/
def MaP (F : Nat → Nat → Int32) (k mk : Nat) (kd idn : Nat → Int32) : Prop := F k 2 = nI mk ∧ ∀ m, m < mk → F (k + 2) m = kd m ∧ F (k + 4) m = idn m
theorem make_at {F : Nat → Nat → Int32} {k mk : Nat} {kd idn : Nat → Int32} (hM : MaP F k mk kd idn) (hk : mk < 300) (a b : Int32) : MaP (uMake F k a b) k (mk + 1) (mU kd mk a) (mU idn mk b) ∧ (∀ c, c ≠ k → c ≠ k + 2 → c ≠ k + 4 → uMake F k a b c = F c) := by
  have e : uMake F k a b = rPut (rPut (tpu F k 2 (nI (mk + 1))) (k + 2) 300 (nI mk) a) (k + 4) 300 (nI mk) b := by
    unfold uMake
    rw [hM.1, nI_1]
  rw [e]
  refine ⟨⟨?_, fun m hm => ⟨?_, ?_⟩⟩, fun c h0 h2 h4 => ?_⟩
  · rw [rw_ne _ (by omega), rw_ne _ (by omega), tpu_s]
  · rw [rw_ne _ (by omega), rw_at _ hk, tpu_ne (by omega)]
    by_cases c : m = mk
    · rw [c, mU_s, mU_s]
    · rw [mU_n _ _ c, mU_n _ _ c]; exact (hM.2 m (by omega)).1
  · rw [rw_at _ hk, rw_ne _ (by omega), tpu_ne (by omega)]
    by_cases c : m = mk
    · rw [c, mU_s, mU_s]
    · rw [mU_n _ _ c, mU_n _ _ c]; exact (hM.2 m (by omega)).2
  · rw [rw_ne _ h4, rw_ne _ h2, tpu_ne h0]
theorem p_TP_needFreeMark {h : tpH} {o p mk : Nat} (l : lTP h o p) {F : Nat → Nat → Int32} (hm : F p 2 = nI mk) (hk : mk ≤ 300) {X : String → tpH → Prop} {R : tpH → Prop} (k1 : mk < 300 → R (wI h F)) (k2 : mk = 300 → X "java/lang/IllegalStateException" (nC (wI h F) 0 0 6)) : w_TP_needFreeMark o (wI h F) X R := by
  have lm : lMa h p := l.2.2.1
  refine ⟨l.1, p, l.2.1, lm.1, ?_⟩
  have e3 : (300 : Int32) = nI 300 := rfl
  rw [wI_I, hm, e3, nI_lt_iff (by omega) (by omega)]
  exact ⟨fun e => k1 e, fun e => k2 (by omega)⟩
theorem p_TP_begin {h : tpH} {o p mk : Nat} (l : lTP h o p) {F : Nat → Nat → Int32} {kd idn : Nat → Int32} (hM : MaP F p mk kd idn) (hk : mk ≤ 300) {k v i : Int32} {X : String → tpH → Prop} {R : Int32 → tpH → Prop}
    (x1 : ¬ gdLk k v i → X "java/lang/IllegalArgumentException" (nC (wI h F) 0 0 6)) (x2 : gdLk k v i → mk = 300 → X "java/lang/IllegalStateException" (nC (wI h F) 0 0 6))
    (kk : gdLk k v i → mk < 300 → ∀ G, MaP G p (mk + 1) (mU kd mk k) (mU idn mk i) → BuP G (p + 5) (tOne mk v) → G (p + 5) 8 = nI mk → (∀ b, b < p ∨ p + 20 ≤ b → G b = F b) → R (nI mk) (wI h G)) : w_TP_begin o k v i (wI h F) X R := by
  have lm : lMa h p := l.2.2.1
  have lb : lBu h (p + 5) (some (p + 0)) := l.2.2.2.2.1
  refine ⟨l.1, p_TP_needLooks l.1 (fun g => ⟨l.1, p_TP_needFreeMark l hM.1 hk (fun hlt => ?_) (fun e => x2 g e)⟩) x1⟩
  refine ⟨l.1, p, l.2.1, lm.1, ?_⟩
  rw [e_Ma_make lm, hM.1]
  obtain ⟨m1, m2⟩ := make_at hM hlt k i
  refine ⟨l.1, p + 5, l.2.2.2.1, lb.1, p_Bu_plant lb hlt (fun G g1 g2 g3 => kk g hlt G ?_ g1 g2 (fun b hb => ?_))⟩
  · unfold MaP
    rw [g3 p (by omega), g3 (p + 2) (by omega), g3 (p + 4) (by omega)]
    exact m1
  · rw [g3 b (by omega), m2 b (by omega) (by omega) (by omega)]
end PBEGIN
