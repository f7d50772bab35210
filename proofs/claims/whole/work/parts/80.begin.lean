section PBEGIN
/-- the marks of the class, and of the reference -/
def MaP (F : Nat → Nat → Int32) (k mk : Nat) (kd idn : Nat → Int32) : Prop := F k 2 = nI mk ∧ ∀ m, m < mk → F (k + 2) m = kd m ∧ F (k + 4) m = idn m
def MaM (F : Nat → Nat → Int32) (Q q mk : Nat) (kd idn : Nat → Int32) : Prop := F Q 0 = nI mk ∧ ∀ m, m < mk → F q m = kd m ∧ F (q + 1) m = idn m
theorem make_at {F : Nat → Nat → Int32} {k mk : Nat} {kd idn : Nat → Int32} (hM : MaP F k mk kd idn) (hk : mk < 300) (a b : Int32) : MaP (uMake F k a b) k (mk + 1) (mU kd mk a) (mU idn mk b) ∧ (∀ c, c ≠ k → c ≠ k + 2 → c ≠ k + 4 → uMake F k a b c = F c) := by
  have e : uMake F k a b = rPut (rPut (tpu F k 2 (nI (mk + 1))) (k + 2) 300 (nI mk) a) (k + 4) 300 (nI mk) b := by
    unfold uMake
    rw [hM.1, nI_1]
  rw [e]
  refine ⟨⟨?_, fun m hm => ⟨?_, ?_⟩⟩, fun c h0 h2 h4 => ?_⟩
  · rw [rw_ne _ (by omega), rw_ne _ (by omega), tpu_s]
  · rw [rw_ne _ (by omega), rw_at _ hk, tpu_ne (by omega)]
    by_cases c : m = mk
    · rw [c, mU_s, mU_s]
    · rw [mU_n _ _ c, mU_n _ _ c]; exact (hM.2 m (by omega)).1
  · rw [rw_at _ hk, rw_ne _ (by omega), tpu_ne (by omega)]
    by_cases c : m = mk
    · rw [c, mU_s, mU_s]
    · rw [mU_n _ _ c, mU_n _ _ c]; exact (hM.2 m (by omega)).2
  · rw [rw_ne _ h4, rw_ne _ h2, tpu_ne h0]
theorem p_TP_needFreeMark {h : tpH} {o p mk : Nat} (l : lTP h o p) {F : Nat → Nat → Int32} (hm : F p 2 = nI mk) (hk : mk ≤ 300) {X : String → tpH → Prop} {R : tpH → Prop} (k1 : mk < 300 → R (wI h F)) (k2 : mk = 300 → X "java/lang/IllegalStateException" (nC (wI h F) 0 0 6)) : w_TP_needFreeMark o (wI h F) X R := by
  have lm : lMa h p := l.2.2.1
  refine ⟨l.1, p, l.2.1, lm.1, ?_⟩
  have e3 : (300 : Int32) = nI 300 := rfl
  rw [wI_I, hm, e3, nI_lt_iff (by omega) (by omega)]
  exact ⟨fun e => k1 e, fun e => k2 (by omega)⟩
theorem p_TP_begin {h : tpH} {o p mk : Nat} (l : lTP h o p) {F : Nat → Nat → Int32} {kd idn : Nat → Int32} (hM : MaP F p mk kd idn) (hk : mk ≤ 300) {k v i : Int32} {X : String → tpH → Prop} {R : Int32 → tpH → Prop}
    (x1 : ¬ gdLk k v i → X "java/lang/IllegalArgumentException" (nC (wI h F) 0 0 6)) (x2 : gdLk k v i → mk = 300 → X "java/lang/IllegalStateException" (nC (wI h F) 0 0 6))
    (kk : gdLk k v i → mk < 300 → ∀ G, MaP G p (mk + 1) (mU kd mk k) (mU idn mk i) → BuP G (p + 5) (tOne mk v) → G (p + 5) 8 = nI mk → (∀ b, b < p ∨ p + 20 ≤ b → G b = F b) → R (nI mk) (wI h G)) : w_TP_begin o k v i (wI h F) X R := by
  have lm : lMa h p := l.2.2.1
  have lb : lBu h (p + 5) (some (p + 0)) := l.2.2.2.2.1
  refine ⟨l.1, p_TP_needLooks l.1 (fun g => ⟨l.1, p_TP_needFreeMark l hM.1 hk (fun hlt => ?_) (fun e => x2 g e)⟩) x1⟩
  refine ⟨l.1, p, l.2.1, lm.1, ?_⟩
  rw [e_Ma_make lm, hM.1]
  obtain ⟨m1, m2⟩ := make_at hM hlt k i
  refine ⟨l.1, p + 5, l.2.2.2.1, lb.1, p_Bu_plant lb hlt (fun G g1 g2 g3 => kk g hlt G ?_ g1 g2 (fun b hb => ?_))⟩
  · unfold MaP
    rw [g3 p (by omega), g3 (p + 2) (by omega), g3 (p + 4) (by omega)]
    exact m1
  · rw [g3 b (by omega), m2 b (by omega) (by omega) (by omega)]
/-- what begin may change of the reference -/
def mdTch (Q q mk b j : Nat) : Prop := (b = Q ∧ (j = 0 ∨ j = 4 ∨ j = 31)) ∨ (b = q ∧ j = mk) ∨ (b = q + 1 ∧ j = mk) ∨ (b = q + 2 ∧ j = 40) ∨ (q + 3 ≤ b ∧ b ≤ q + 6 ∧ 12000 ≤ j ∧ j < 12300)
theorem p_Md_begin_29 {h : tpH} {Q q mk : Nat} (M : lMd h Q q) (hQ : Q < q) {F : Nat → Nat → Int32} {kd idn : Nat → Int32} (hM : MaM F Q q mk kd idn) (hk : mk < 300) {k v i : Int32} {R : Int32 → tpH → Prop}
    (kk : ∀ G, MaM G Q q (mk + 1) (mU kd mk k) (mU idn mk i) → MtP G q 40 (tOne mk v) → G Q 4 = 1 → G Q 31 = 0 → (∀ b j, ¬ mdTch Q q mk b j → G b j = F b j) → R (nI mk) (wI h G)) : w_Md_begin_29 R Q k v i 0 (some Q) (wI h F) := by
  obtain ⟨a1, a2, a3⟩ := md_f M (j := 3) (kd := 15) (n := 12600) (f := 6) (by decide)
  obtain ⟨b1, b2, b3⟩ := md_f M (j := 2) (kd := 15) (n := 42) (f := 5) (by decide)
  refine ⟨Q, rfl, M.1, fun h4 e4 => ?_⟩
  rw [sI_w] at e4
  subst e4
  refine ⟨M.1, fun _ => ?_, fun e => absurd (show tpu F Q 31 0 Q 31 ≤ 0 by rw [tpu_s]; exact Int32.le_refl 0) e⟩
  show w_Md_clear Q (nI 40) (wI h (tpu F Q 31 0)) _
  refine p_Md_clear M (by decide) ⟨M.1, fun h10 e10 => ?_⟩
  rw [sI_w] at e10
  subst e10
  show w_Md_newMark Q (nI 40) k v i (wI h (tpu (uClr (tpu F Q 31 0) q 40 300) Q 4 1)) _
  have hc : ∀ j, uClr (tpu F Q 31 0) q 40 300 Q j = tpu F Q 31 0 Q j := fun j => by
    simp only [uClr]
    split
    · rw [if_neg (by omega), if_neg (by omega), if_neg (by omega)]
    · rfl
  refine p_Md_newMark M hQ (by decide) hk (by rw [tpu_j _ _ _ _ _ _ (by decide), hc, tpu_j _ _ _ _ _ _ (by decide)]; exact hM.1) ?_
  refine ⟨M.1, q + 3, a3, a1, by rw [wI_L, a2]; show vp_in (nI 12000 + nI mk) 12600; rw [nI_add]; exact vp_in_nI (by omega) (by decide), fun h19 e19 => ?_⟩
  have e19 : h19 = sI (wI h (uNew (tpu (uClr (tpu F Q 31 0) q 40 300) Q 4 1) Q q 40 mk k v i)) (q + 3) (nI 12000 + nI mk).toNatClampNeg (-1) := e19
  rw [nI_add, nI_clamp (by omega), sI_w] at e19
  subst e19
  refine ⟨q + 2, b3, b1, by rw [wI_L, b2]; exact vp_in_nI (n := 40) (by decide) (by decide), fun h25 e25 => ?_⟩
  have e25 : h25 = sI (wI h (tpu (uNew (tpu (uClr (tpu F Q 31 0) q 40 300) Q 4 1) Q q 40 mk k v i) (q + 3) (12000 + mk) (-1))) (q + 2) (nI 40).toNatClampNeg (nI mk) := e25
  rw [nI_clamp (by decide), sI_w] at e25
  subst e25
  unfold uNew
  have fr : ∀ b j, ¬ mdTch Q q mk b j → tpu (tpu (tpu (tpu (tpu (tpu (tpu (tpu (tpu (uClr (tpu F Q 31 0) q 40 300) Q 4 1) (q + 0) mk k) (q + 1) mk i) (q + 4) (300 * 40 + mk) v) (q + 5) (300 * 40 + mk) (-1)) (q + 6) (300 * 40 + mk) (-1)) Q 0 (nI (mk + 1))) (q + 3) (12000 + mk) (-1)) (q + 2) 40 (nI mk) b j = F b j := fun b j hb => by
    unfold mdTch at hb
    simp only [tpu, uClr]
    rw [if_neg (by omega), if_neg (by omega), if_neg (by omega), if_neg (by omega), if_neg (by omega), if_neg (by omega), if_neg (by omega), if_neg (by omega), if_neg (by omega)]
    split
    · rw [if_neg (by omega), if_neg (by omega), if_neg (by omega), if_neg (by omega)]
    · rw [if_neg (by omega)]
  refine kk _ ⟨?_, fun m hm => ⟨?_, ?_⟩⟩ ⟨fun x hx => ?_, ⟨?_, ?_⟩, fun m hm hi => ?_, ?_⟩ ?_ ?_ fr
  · simp only [tpu]
    rw [if_neg (by omega), if_neg (by omega), if_pos (by simp)]
  · by_cases c : m = mk
    · subst c
      rw [mU_s]
      simp only [tpu]
      rw [if_neg (by omega), if_neg (by omega), if_neg (by omega), if_neg (by omega), if_neg (by omega), if_neg (by omega), if_neg (by omega), if_pos (by simp)]
    · rw [mU_n _ _ c, fr q m (by unfold mdTch; omega)]
      exact (hM.2 m (by omega)).1
  · by_cases c : m = mk
    · subst c
      rw [mU_s]
      simp only [tpu]
      rw [if_neg (by omega), if_neg (by omega), if_neg (by omega), if_neg (by omega), if_neg (by omega), if_neg (by omega), if_pos (by simp)]
    · rw [mU_n _ _ c, fr (q + 1) m (by unfold mdTch; omega)]
      exact (hM.2 m (by omega)).2
  · have hx := (tOne_in mk v x).mp hx
    subst hx
    refine ⟨?_, fun p hp => ?_, ?_⟩
    · show _ = mU (fun _ => 0) x v x
      rw [mU_s]
      simp only [tpu]
      rw [if_neg (by omega), if_neg (by omega), if_neg (by omega), if_neg (by omega), if_neg (by omega), if_pos (by simp)]
    · have hp : mU (fun _ => none) x none x = some p := hp
      rw [mU_s] at hp; simp at hp
    · show seg _ _ (mU (fun _ => []) x [] x) (-1)
      rw [mU_s]
      show _ = (-1 : Int32)
      simp only [tpu]
      rw [if_neg (by omega), if_neg (by omega), if_neg (by omega), if_neg (by omega), if_pos (by simp)]
  · show tpu _ (q + 2) 40 (nI mk) (q + 3) (300 * 40 + mk) = -1
    simp only [tpu]
    rw [if_neg (by omega), if_pos (by simp)]
  · show tpu _ (q + 2) 40 (nI mk) (q + 6) (300 * 40 + mk) = -1
    simp only [tpu]
    rw [if_neg (by omega), if_neg (by omega), if_neg (by omega), if_pos (by simp)]
  · have hne : m ≠ mk := fun e => by
      have := (tOne_in mk v m).mpr e
      rw [hi] at this; simp at this
    simp only [tpu, uClr]
    rw [if_neg (by omega), if_neg (by omega), if_neg (by omega), if_neg (by omega), if_neg (by omega), if_neg (by omega), if_neg (by omega), if_neg (by omega), if_neg (by omega), if_pos (by omega), if_pos (by simp)]
  · exact tpu_s _ _ _ _
  · simp only [tpu]
    rw [if_neg (by omega), if_neg (by omega), if_neg (by omega), if_neg (by omega), if_neg (by omega), if_neg (by omega), if_neg (by omega), if_neg (by omega), if_pos (by simp)]
  · simp only [tpu, uClr]
    rw [if_neg (by omega), if_neg (by omega), if_neg (by omega), if_neg (by omega), if_neg (by omega), if_neg (by omega), if_neg (by omega), if_neg (by omega), if_neg (by omega), if_neg (by omega), if_pos (by simp)]
theorem p_Md_begin {h : tpH} {Q q mk : Nat} (M : lMd h Q q) (hQ : Q < q) {F : Nat → Nat → Int32} {kd idn : Nat → Int32} (hM : MaM F Q q mk kd idn) (hk : mk ≤ 300) {k v i : Int32} {R : Int32 → tpH → Prop}
    (x1 : ¬ gdLk k v i → R 0 (wI h (tpu F Q 31 1))) (x2 : gdLk k v i → mk = 300 → R 0 (wI h (tpu F Q 31 2)))
    (kk : gdLk k v i → mk < 300 → ∀ G, MaM G Q q (mk + 1) (mU kd mk k) (mU idn mk i) → MtP G q 40 (tOne mk v) → G Q 4 = 1 → G Q 31 = 0 → (∀ b j, ¬ mdTch Q q mk b j → G b j = F b j) → R (nI mk) (wI h G)) : w_Md_begin Q k v i (wI h F) R := by
  have stop : ∀ c : Int32, ¬ c ≤ 0 → R 0 (wI h (tpu F Q 31 c)) → w_Md_begin_29 R Q k v i c (some Q) (wI h F) := fun c hc hr => by
    refine ⟨Q, rfl, M.1, fun h4 e4 => ?_⟩
    rw [sI_w] at e4
    subst e4
    exact ⟨M.1, fun e => absurd (by rw [wI_I, tpu_s] at e; exact e) hc, fun _ => hr⟩
  refine p_Md_areGood (fun g => ⟨fun _ => ⟨M.1, fun e => ?_, fun e => ?_⟩, fun e => absurd e (by decide)⟩) (fun g => ⟨fun e => absurd rfl e, fun _ => stop 1 (by decide) (x1 g)⟩)
  · refine p_Md_begin_29 M hQ hM ?_ (kk g ?_)
    · rw [wI_I, hM.1] at e
      exact Nat.lt_of_le_of_ne hk (fun e2 => e (by rw [e2]; rfl))
    · rw [wI_I, hM.1] at e
      exact Nat.lt_of_le_of_ne hk (fun e2 => e (by rw [e2]; rfl))
  · rw [wI_I, hM.1] at e
    exact stop 2 (by decide) (x2 g (nI_inj (b := 300) (by omega) (by decide) e))
end PBEGIN
