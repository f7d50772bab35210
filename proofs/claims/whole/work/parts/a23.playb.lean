section PLAYB
def fitC (t : mT) (e : mSt) : Prop := (e.1 = 0 → tIn t e.2.1 = true) ∧ (e.1 = 1 → tIn t e.2.1 = false ∧ ∃ r, e.2.2.2.2.2.1 = some r ∧ tIn t r = true) ∧ (e.1 = 2 → tIn t e.2.1 = true ∧ ∃ r, e.2.2.2.2.2.1 = some r ∧ tIn t r = true ∧ r ∉ tPo t e.2.1) ∧ (e.1 = 3 → tIn t e.2.1 = true ∧ tKi t e.2.1 = [] ∧ e.2.1 ≠ tRt t)
theorem bu_hasO {F : Nat → Nat → Int32} {d : Nat} {t : mT} (hB : BuP F d t) {a : Option Nat} (ha : ∀ x, a = some x → x < 300) : rAt (F (d + 2)) 300 (nO a) = 1 ↔ ∃ x, a = some x ∧ tIn t x = true := by
  cases a with
  | none =>
    constructor
    · intro g
      rw [show nO none = (-1 : Int32) from rfl, rAt_m] at g
      exact absurd g (by decide)
    · rintro ⟨x, e, _⟩; simp at e
  | some x =>
    have hx := ha x rfl
    show rAt (F (d + 2)) 300 (nI x) = 1 ↔ _
    rw [rAt_n hx n300, hB.2.1 x hx]
    constructor
    · intro g
      refine ⟨x, rfl, Classical.byContradiction fun n => ?_⟩
      rw [if_neg n] at g
      exact absurd g (by decide)
    · rintro ⟨y, e, hy⟩
      rw [Option.some.inj e, if_pos hy]
theorem p_fits {h : tpH} {p D b : Nat} {e : mSt} {mk : Nat} {rt : Nat → Bool} (lb : lBu h (p + 20) (some (p + 0))) {F : Nat → Nat → Int32} (H : StP (wI h F) p D b e) {t : mT} (hB : BuP F (p + 20) t) (h8 : F (p + 20) 8 = nI (tRt t)) (hw : tWF 300 t) (hk : mk ≤ 300) (hs : stpI mk rt e) {R : Int32 → tpH → Prop} (k1 : fitC t e → R 1 (wI h F)) (k0 : ¬ fitC t e → R 0 (wI h F)) : w_St_fits b (some (p + 20)) (wI h F) R := by
  obtain ⟨H1, H2, H3, H4, H5, H6, _, v, H9, ⟨V0, V1, V2, V3, V4⟩⟩ := H
  obtain ⟨S1, S2, S3, S4, S5⟩ := hs
  have hm3 : e.2.1 < 300 := by omega
  have hg : ∀ x, e.2.2.2.2.2.1 = some x → x < 300 := fun x hx => by have := S5.1 x hx; omega
  have ho := bu_hasO hB hg
  have hkt : (nI e.1).toInt = (e.1 : Int) := nI_toInt (by omega)
  refine ⟨H2, p + 20, rfl, lb.1, ?_⟩
  rw [H4]
  show w_Bu_has (p + 20) (nI e.2.1) (wI h F) _
  rw [e_Bu_has lb, rAt_n hm3 n300, hB.2.1 _ hm3]
  have e1 : (if (if tIn t e.2.1 = true then (1 : Int32) else 0) = 1 then (1 : Int32) else 0) = if tIn t e.2.1 = true then 1 else 0 := by
    by_cases c : tIn t e.2.1 = true
    · rw [if_pos c]; rfl
    · rw [if_neg c]; rfl
  rw [e1, H3, hkt]
  have w102 : e.1 = 2 → w_St_fits_102 R b (some (p + 20)) (if tIn t e.2.1 = true then 1 else 0) (wI h F) := fun e2 => by
    by_cases c : tIn t e.2.1 = true
    · rw [if_pos c]
      refine ⟨fun g => absurd g (by decide), fun _ => ⟨H2, v, H9, V1, p + 20, rfl, lb.1, ?_⟩⟩
      rw [V2]
      show w_Bu_has (p + 20) _ (wI h F) _
      rw [e_Bu_has lb]
      by_cases c2 : ∃ x, e.2.2.2.2.2.1 = some x ∧ tIn t x = true
      · rw [if_pos (ho.mpr c2)]
        obtain ⟨r, er, hr⟩ := c2
        refine ⟨fun g => absurd g (by decide), fun _ => ⟨H2, v, H9, V1, lb.1, ?_⟩⟩
        rw [V2, H4, er]
        show w_Bu_isWithin (p + 20) (nI r) (nI e.2.1) (wI h F) _
        refine p_Bu_isWithin lb (BuP_L hB) hw.1 hr hm3 ?_
        by_cases c3 : r ∈ tPo t e.2.1
        · rw [if_pos c3]
          exact ⟨fun _ => k0 (fun g => by
            obtain ⟨_, r', er', _, n⟩ := g.2.2.1 e2
            rw [er] at er'
            exact n (by rw [← Option.some.inj er']; exact c3)), fun g => absurd g (by decide)⟩
        · rw [if_neg c3]
          exact ⟨fun g => absurd rfl g, fun _ => k1 ⟨fun g => by omega, fun g => by omega, fun _ => ⟨c, r, er, hr, c3⟩, fun g => by omega⟩⟩
      · rw [if_neg (fun g => c2 (ho.mp g))]
        exact ⟨fun _ => k0 (fun g => by
          obtain ⟨_, r', er', hr', _⟩ := g.2.2.1 e2
          exact c2 ⟨r', er', hr'⟩), fun g => absurd rfl g⟩
    · rw [if_neg c]
      exact ⟨fun _ => k0 (fun g => c (g.2.2.1 e2).1), fun g => absurd rfl g⟩
  refine ⟨H2, fun g => absurd g (by omega), fun g => ?_, fun g => ?_, fun g => w102 (by omega), fun g => ?_⟩
  · by_cases c : tIn t e.2.1 = true
    · rw [if_pos c]
      exact ⟨Or.inr rfl, k1 ⟨fun _ => c, fun g => by omega, fun g => by omega, fun g => by omega⟩⟩
    · rw [if_neg c]
      exact ⟨Or.inl rfl, k0 (fun q => c (q.1 (by omega)))⟩
  · have e1' : e.1 = 1 := by omega
    by_cases c : tIn t e.2.1 = true
    · rw [if_pos c]
      exact ⟨fun _ => k0 (fun q => by have := (q.2.1 e1').1; rw [c] at this; simp at this), fun g => absurd g (by decide)⟩
    · rw [if_neg c]
      have cf : tIn t e.2.1 = false := by simpa using c
      refine ⟨fun g => absurd rfl g, fun _ => ⟨v, H9, V1, lb.1, ?_⟩⟩
      rw [V2]
      show w_Bu_has (p + 20) _ (wI h F) _
      rw [e_Bu_has lb]
      by_cases c2 : ∃ x, e.2.2.2.2.2.1 = some x ∧ tIn t x = true
      · rw [if_pos (ho.mpr c2)]
        exact ⟨fun g => absurd g (by decide), fun _ => k1 ⟨fun g => by omega, fun _ => ⟨cf, c2⟩, fun g => by omega, fun g => by omega⟩⟩
      · rw [if_neg (fun g => c2 (ho.mp g))]
        exact ⟨fun _ => k0 (fun q => c2 (q.2.1 e1').2), fun g => absurd rfl g⟩
  · have e3' : e.1 = 3 := by omega
    by_cases c : tIn t e.2.1 = true
    · rw [if_pos c]
      refine ⟨fun g => absurd g (by decide), fun _ => ⟨lb.1, ?_⟩⟩
      show w_Bu_hasChildren (p + 20) _ (wI h F) _
      rw [H4, e_Bu_hasChildren lb, rAt_n hm3 n300, seg_heads (hB.2.2 _ c).2.2.1]
      cases ek : tKi t e.2.1 with
      | nil =>
        rw [if_pos (show headO [] = -1 from rfl)]
        refine ⟨fun g => absurd rfl g, fun _ => ⟨H2, lb.1, ?_⟩⟩
        have hr3 := hw.1.1 _ hw.2.1
        show (hI (wI h F) b 1 = F (p + 20) 8 → _) ∧ (¬ hI (wI h F) b 1 = F (p + 20) 8 → _)
        rw [H4, h8]
        refine ⟨fun g => k0 (fun q => (q.2.2.2 e3').2.2 (nI_inj (by omega) (by omega) g)), fun g => k1 ⟨fun g => by omega, fun g => by omega, fun g => by omega, fun _ => ⟨c, ek, fun q => g (by rw [q])⟩⟩⟩
      | cons x K =>
        have hx := hw.1.1 x (fKi_in hw.1 (by rw [ek]; exact List.mem_cons_self)).1
        rw [if_neg (show ¬ headO (x :: K) = -1 from nI_ne_m (by omega))]
        exact ⟨fun _ => k0 (fun q => by have := (q.2.2.2 e3').2.1; rw [ek] at this; simp at this), fun g => absurd g (by decide)⟩
    · rw [if_neg c]
      exact ⟨fun _ => k0 (fun q => c (q.2.2.2 e3').1), fun g => absurd rfl g⟩
/-! what a step makes of a tree -/
theorem mPl_no {lo : Nat → Bool} {t : mT} {e : mSt} (hk : e.1 ≤ 3) (h : ¬ fitC t e) : mPl lo t e = (t, 10) := by
  unfold mPl
  by_cases k0 : e.1 = 0
  · rw [if_pos k0, if_neg (fun g => h ⟨fun _ => g, fun q => by omega, fun q => by omega, fun q => by omega⟩)]
  · rw [if_neg k0]
    by_cases k3 : e.1 = 3
    · rw [if_pos k3, if_neg (fun g => h ⟨fun q => by omega, fun q => by omega, fun q => by omega, fun _ => g⟩)]
    · rw [if_neg k3]
      cases eg : e.2.2.2.2.2.1 with
      | none => rfl
      | some r =>
        show (if e.1 = 1 then _ else _) = _
        by_cases k1 : e.1 = 1
        · rw [if_pos k1, if_neg (fun g => h ⟨fun q => by omega, fun _ => ⟨g.1, r, eg, g.2⟩, fun q => by omega, fun q => by omega⟩)]
        · rw [if_neg k1, if_neg (fun g => h ⟨fun q => by omega, fun q => by omega, fun _ => ⟨g.1, r, eg, g.2.1, g.2.2⟩, fun q => by omega⟩)]
theorem mPl_set {lo : Nat → Bool} {t : mT} {e : mSt} (k0 : e.1 = 0) (hi : tIn t e.2.1 = true) : mPl lo t e = (tSet t e.2.1 e.2.2.2.1, if tWo t e.2.1 = e.2.2.1 then 0 else 1) := by
  unfold mPl
  rw [if_pos k0, if_pos hi]
theorem mPl_rem {lo : Nat → Bool} {t : mT} {e : mSt} (k3 : e.1 = 3) (hi : tIn t e.2.1 = true ∧ tKi t e.2.1 = [] ∧ e.2.1 ≠ tRt t) : mPl lo t e = (tErs t e.2.1, 0) := by
  unfold mPl
  rw [if_neg (by omega), if_pos k3, if_pos hi]
theorem mPl_put {lo : Nat → Bool} {t : mT} {e : mSt} {r : Nat} (k1 : e.1 = 1) (er : e.2.2.2.2.2.1 = some r) (hi : tIn t e.2.1 = false) (hr : tIn t r = true) : mPl lo t e = (dNode t e.2.1 e.2.2.2.1 r (lo r) (plN (tKi t r) e.2.2.2.2.2.2.1 e.2.2.2.2.2.2.2), fzN (lo r) (tKi t r) (plN (tKi t r) e.2.2.2.2.2.2.1 e.2.2.2.2.2.2.2) e.2.2.2.2.2.2.1 e.2.2.2.2.2.2.2) := by
  unfold mPl
  rw [if_neg (by omega), if_neg (by omega), er]
  exact (if_pos k1).trans (if_pos ⟨hi, hr⟩)
theorem mPl_mov {lo : Nat → Bool} {t : mT} {e : mSt} {r : Nat} (k2 : e.1 = 2) (er : e.2.2.2.2.2.1 = some r) (hi : tIn t e.2.1 = true) (hr : tIn t r = true) (hn : r ∉ tPo t e.2.1) : mPl lo t e = (dMove t e.2.1 r (lo r) (plN (tKi (tCut t e.2.1) r) e.2.2.2.2.2.2.1 e.2.2.2.2.2.2.2), fzN (lo r) (tKi (tCut t e.2.1) r) (plN (tKi (tCut t e.2.1) r) e.2.2.2.2.2.2.1 e.2.2.2.2.2.2.2) e.2.2.2.2.2.2.1 e.2.2.2.2.2.2.2) := by
  unfold mPl
  rw [if_neg (by omega), if_neg (by omega), er]
  exact (if_neg (by omega)).trans (if_pos ⟨hi, hr, hn⟩)
theorem fzN_le (lo : Bool) (l : List Nat) (k : Nat) (a b : Option Nat) : fzN lo l k a b ≤ 10 := by
  have two : ∀ (p q : Prop) [Decidable p] [Decidable q], (if p then (1 : Nat) else 0) + (if q then 1 else 0) ≤ 10 := fun p q _ _ => by
    by_cases c1 : p
    · rw [if_pos c1]
      by_cases c2 : q
      · rw [if_pos c2]; omega
      · rw [if_neg c2]; omega
    · rw [if_neg c1]
      by_cases c2 : q
      · rw [if_pos c2]; omega
      · rw [if_neg c2]; omega
  unfold fzN
  by_cases c : lo = true
  · rw [if_pos c]; omega
  · rw [if_neg c]
    exact two _ _
theorem trI_put {mk : Nat} {kd : Nat → Int32} {rt : Nat → Bool} {t : mT} (H : trI mk kd rt t) {m : Nat} (hm : m < mk) (hk : mk ≤ 300) (hno : tIn t m = false) (hrt : rt m = false) (v : Int32) {r : Nat} (hr : tIn t r = true) (K : Nat) : trI mk kd rt (dNode t m v r (loK kd r) K) := by
  have hrm : r ≠ m := fun e => by rw [e, hno] at hr; simp at hr
  have ht : tRt t ≠ m := fun e => by have := H.1.2.1; rw [e, hno] at this; simp at this
  refine ⟨wNode H.1 hno (by omega) hr _ _, fun x hi => ?_, fun p hp hl => ?_⟩
  · have hi : mU (tIn t) m true x = true := hi
    show x < mk ∧ (rt x = true ↔ x = tRt t)
    by_cases e : x = m
    · rw [e]
      exact ⟨hm, fun g => by rw [hrt] at g; simp at g, fun g => absurd g.symm ht⟩
    · rw [mU_n _ _ e] at hi
      exact H.2.1 x hi
  · have hp : mU (tIn t) m true p = true := hp
    show (mU (mU (tKi t) m []) r (inKids (loK kd r) (tKi t r) m K) p).Pairwise (· < ·)
    by_cases e : p = r
    · subst e
      rw [mU_s, hl]
      refine in_asc (H.2.2 p hr hl) (fun g => ?_)
      have := (fKi_in H.1.1 g).1
      rw [hno] at this
      simp at this
    · rw [mU_n _ _ e]
      by_cases e2 : p = m
      · rw [e2, mU_s]; exact List.Pairwise.nil
      · rw [mU_n _ _ e2]
        rw [mU_n _ _ e2] at hp
        exact H.2.2 p hp hl
theorem mPl_I {mk : Nat} {kd : Nat → Int32} {rt : Nat → Bool} {t : mT} {e : mSt} (H : trI mk kd rt t) (hk : mk ≤ 300) (hs : stpI mk rt e) : trI mk kd rt (mPl (loK kd) t e).1 ∧ tRt (mPl (loK kd) t e).1 = tRt t ∧ (mPl (loK kd) t e).2 ≤ 10 := by
  by_cases hf : fitC t e
  · obtain ⟨S1, S2, S3, S4, S5⟩ := hs
    obtain ⟨f0, f1, f2, f3⟩ := hf
    by_cases k0 : e.1 = 0
    · rw [mPl_set k0 (f0 k0)]
      refine ⟨trI_set H _ _, rfl, ?_⟩
      show (if tWo t e.2.1 = e.2.2.1 then 0 else 1) ≤ 10
      by_cases c : tWo t e.2.1 = e.2.2.1
      · rw [if_pos c]; omega
      · rw [if_neg c]; omega
    · by_cases k3 : e.1 = 3
      · rw [mPl_rem k3 (f3 k3)]
        exact ⟨trI_ers H (f3 k3).1 (f3 k3).2.2, rfl, Nat.zero_le _⟩
      · by_cases k1 : e.1 = 1
        · obtain ⟨g1, r, er, hr⟩ := f1 k1
          rw [mPl_put k1 er g1 hr]
          exact ⟨trI_put H S2 hk g1 (S3 (Or.inl k1)) _ hr _, rfl, fzN_le _ _ _ _ _⟩
        · have k2 : e.1 = 2 := by omega
          obtain ⟨g1, r, er, hr, hn⟩ := f2 k2
          rw [mPl_mov k2 er g1 hr hn]
          exact ⟨trI_move H g1 hr hn _, rfl, fzN_le _ _ _ _ _⟩
  · rw [mPl_no hs.1 hf]
    exact ⟨H, rfl, Nat.le_refl _⟩
end PLAYB
