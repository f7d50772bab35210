section FD10
/-! the steps that are found are good ones -/
theorem spO_I {c : mT} {mk m : Nat} (hw : fWF 300 c) (hc : ∀ x, tIn c x = true → x < mk) (hm : tIn c m = true) : spI mk (spO c m) := by
  refine ⟨fun z hz => hc z (hw.2.2.2.2 m z hm hz), fun z hz => ?_, fun z hz => ?_⟩
  · have hz : prv c m = some z := hz
    unfold prv at hz
    cases e : tUp c m with
    | none => rw [e] at hz; cases hz
    | some p =>
      rw [e] at hz
      have hz : ((tKi c p).take ((tKi c p).idxOf m)).getLast? = some z := hz
      exact hc z ((hw.2.1 z p).mp (List.mem_of_mem_take (List.mem_of_getLast? hz))).1
  · have hz : nxt c m = some z := hz
    unfold nxt at hz
    cases e : tUp c m with
    | none => rw [e] at hz; cases hz
    | some p =>
      rw [e] at hz
      have hz : ((tKi c p).drop ((tKi c p).idxOf m + 1)).head? = some z := hz
      exact hc z ((hw.2.1 z p).mp (List.mem_of_mem_drop (List.mem_of_head? hz))).1
theorem nwh_I (mk : Nat) : spI mk nwh := by
  refine ⟨fun z h => ?_, fun z h => ?_, fun z h => ?_⟩
  · exact absurd (show (none : Option Nat) = some z from h) (by simp)
  · exact absurd (show (none : Option Nat) = some z from h) (by simp)
  · exact absurd (show (none : Option Nat) = some z from h) (by simp)
def stL (mk : Nat) (rt : Nat → Bool) (l : List mSt) : Prop := l.length ≤ 100 ∧ ∀ e ∈ l, stpI mk rt e
def stO (mk : Nat) (rt : Nat → Bool) (s : Option (List mSt)) : Prop := ∀ l, s = some l → stL mk rt l
theorem addO_I {mk : Nat} {rt : Nat → Bool} {l : List mSt} {e : mSt} (h : stL mk rt l) (he : stpI mk rt e) : stO mk rt (addO l e) := fun l' hl => by
  unfold addO at hl
  by_cases c : l.length < 100
  · rw [if_pos c] at hl
    rw [← Option.some.inj hl]
    refine ⟨by rw [List.length_append]; show l.length + 1 ≤ 100; omega, fun e' he' => ?_⟩
    rcases List.mem_append.mp he' with g | g
    · exact h.2 e' g
    · rw [List.mem_singleton.mp g]
      exact he
  · rw [if_neg c] at hl
    cases hl
def fiH (mk : Nat) (kd : Nat → Int32) (rt : Nat → Bool) (t u : mT) (P : mP) : Prop := trI mk kd rt t ∧ trI mk kd rt u ∧ fdP t u P
theorem fi_rt {mk : Nat} {kd : Nat → Int32} {rt : Nat → Bool} {t : mT} (h : trI mk kd rt t) {m : Nat} (hm : tIn t m = true) (hr : m ≠ tRt t) : rt m = false := by
  cases e : rt m with
  | false => rfl
  | true => exact absurd ((h.2.1 m hm).2.mp e) hr
theorem fuA_I {mk : Nat} {kd : Nat → Int32} {rt : Nat → Bool} {t u : mT} {P : mP} (H : fiH mk kd rt t u P) : stO mk rt (fuA t u P) := by
  unfold fuA
  refine f_inv (I := stO mk rt) (f := fu1 t u P) (pO u) (some []) (fun s y hy h => ?_) (fun l hl => ?_)
  · cases s with
    | none => exact h
    | some l =>
      have hl := h l rfl
      show stO mk rt (fdU t u P l y)
      cases e : P.2 y with
      | none =>
        rw [fdU_n e]
        exact h
      | some x =>
        have hx := (H.2.2.1.2 x y ((H.2.2.1.1 x y).mpr e)).1
        rw [fdU_s e]
        by_cases c : tWo t x = tWo u y
        · rw [if_pos c]
          exact h
        · rw [if_neg c]
          refine addO_I hl ⟨Nat.zero_le _, (H.1.2.1 x hx).1, fun g => ?_, nwh_I mk, nwh_I mk⟩
          rcases g with g | g
          · cases g
          · cases g
  · rw [← Option.some.inj hl]
    exact ⟨Nat.zero_le _, fun e he => by cases he⟩
theorem fdI_mk {mk : Nat} {kd : Nat → Int32} {rt : Nat → Bool} {t u c : mT} {P : mP} {i : Nat} (H : fiH mk kd rt t u P) (I : fdI t u P i c) : ∀ m, tIn c m = true → m < mk := fun m hm => by
  rcases (I.2.2.1 m).mp hm with g | g
  · exact (H.1.2.1 m g).1
  · exact (H.2.1.2.1 m g.1).1
theorem fdR_I {mk : Nat} {kd : Nat → Int32} {rt : Nat → Bool} {t u c : mT} {P : mP} {i : Nat} (H : fiH mk kd rt t u P) (I : fdI t u P i c) {lo : Nat → Bool} {l : List mSt} (hl : stL mk rt l) {y : Nat} (hy : tIn u y = true) (hpl : pl u y = i) (h0 : 0 < i) : stO mk rt (fdR lo P u c l y) := by
  have I' := fdI_step H.2.1.1 H.2.2 I hy hpl h0 lo
  have cm := fdI_mk H I
  have cm' := fdI_mk H I'
  have it := fdI_tw H.2.2 I' hy (by omega)
  cases e : fdE lo P u c y with
  | none =>
    rw [fdR_n e]
    intro l' hl'
    rw [← Option.some.inj hl']
    exact hl
  | some st =>
    rw [fdR_s e]
    refine addO_I hl ?_
    unfold fdE at e
    cases ey : P.2 y with
    | none =>
      rw [ey] at e
      have e : some (1, y, -1, tWo u y, nwh, spO (fdC lo P u c y) y) = some st := e
      rw [← Option.some.inj e]
      rw [twF_n ey] at it
      refine ⟨by show 1 ≤ 3; omega, (H.2.1.2.1 y hy).1, fun _ => fi_rt H.2.1 hy (fun q => ?_), nwh_I mk, spO_I I'.1.1 cm' it⟩
      have q : y = tRt u := q
      rw [q, H.2.2.2.2] at ey
      cases ey
    | some x =>
      rw [ey] at e
      have e : (if mvB lo c x (twF P ((tUp u y).getD 0)) ((prv u y).map (twF P)) = true then some (2, x, -1, -1, spO c x, spO (fdC lo P u c y) x) else none) = some st := e
      by_cases mv : mvB lo c x (twF P ((tUp u y).getD 0)) ((prv u y).map (twF P)) = true
      · rw [if_pos mv] at e
        rw [← Option.some.inj e]
        have hx := (H.2.2.1.2 x y ((H.2.2.1.1 x y).mpr ey)).1
        have hxc : tIn c x = true := (I.2.2.1 x).mpr (Or.inl hx)
        rw [twF_s ey] at it
        refine ⟨by show 2 ≤ 3; omega, (H.1.2.1 x hx).1, fun g => ?_, spO_I I.1.1 cm hxc, spO_I I'.1.1 cm' it⟩
        rcases g with g | g
        · exact absurd (show (2 : Nat) = 1 from g) (by decide)
        · exact absurd (show (2 : Nat) = 3 from g) (by decide)
      · rw [if_neg mv] at e
        cases e
theorem fbA_I {mk : Nat} {kd : Nat → Int32} {rt : Nat → Bool} {t u : mT} {P : mP} (H : fiH mk kd rt t u P) (lo : Nat → Bool) : ∀ (n i : Nat) (c : mT) (s : Option (List mSt)), 0 < i → i ≤ (pO u).length → (pO u).length = n + i → (s ≠ none → fdI t u P i c) → stO mk rt s → ((((pO u).drop i).foldl (fb1 lo P u) (c, s)).2 ≠ none → fdI t u P (pO u).length (((pO u).drop i).foldl (fb1 lo P u) (c, s)).1) ∧ stO mk rt (((pO u).drop i).foldl (fb1 lo P u) (c, s)).2
  | 0, i, c, s, h0, h1, h2, I, S => by
    rw [List.drop_eq_nil_of_le (by omega), h2, Nat.zero_add]
    exact ⟨I, S⟩
  | n + 1, i, c, s, h0, h1, h2, I, S => by
    obtain ⟨z, ez, pz, hz, _⟩ := dr_cons H.2.1.1 (show i < (pO u).length by omega)
    rw [ez, List.foldl_cons]
    cases s with
    | none =>
      have e : fb1 lo P u (c, none) z = (c, none) := rfl
      rw [e, fb1_n]
      exact ⟨fun g => absurd rfl g, S⟩
    | some l =>
      have e : fb1 lo P u (c, some l) z = (fdC lo P u c z, fdR lo P u c l z) := rfl
      rw [e]
      have I0 := I (by intro g; cases g)
      exact fbA_I H lo n (i + 1) _ _ (by omega) (by omega) (by omega) (fun _ => fdI_step H.2.1.1 H.2.2 I0 hz pz h0 lo) (fdR_I H I0 (S l rfl) hz pz h0)
theorem rmA_I {mk : Nat} {kd : Nat → Int32} {rt : Nat → Bool} {t u c0 : mT} {P : mP} (H : fiH mk kd rt t u P) (R0 : rmH (kpB u P) c0) (cm : ∀ m, tIn c0 m = true → m < mk) (rtt : tRt c0 = tRt t) (ct : ∀ m, tIn c0 m = true → kpB u P m = false → tIn t m = true) : ∀ (i : Nat) (c : mT) (s : Option (List mSt)), i ≤ (pO c0).length → (s ≠ none → rmI (kpB u P) c0 i c) → stO mk rt s → stO mk rt (((pO c0).take i).reverse.foldl (rmS (kpB u P) (tWo t)) (c, s)).2
  | 0, c, s, h1, I, S => S
  | i + 1, c, s, h1, I, S => by
    cases s with
    | none => rw [rmS_n]; exact S
    | some l =>
      obtain ⟨m, em, pm, hm, _⟩ := dr_cons R0.1 (show i < (pO c0).length by omega)
      have et : (pO c0).take (i + 1) = (pO c0).take i ++ [m] := by
        rw [List.take_add_one]
        have := pO_at R0.1 hm
        rw [pm] at this
        rw [this]
        rfl
      rw [et, List.reverse_append]
      show stO mk rt (((pO c0).take i).reverse.foldl (rmS (kpB u P) (tWo t)) (rmS (kpB u P) (tWo t) (c, some l) m)).2
      have I0 := I (by intro g; cases g)
      cases hk : kpB u P m with
      | true =>
        rw [rmS_k hk]
        exact rmA_I H R0 cm rtt ct i c (some l) (by omega) (fun _ => rm_keep R0 I0 hm pm hk) S
      | false =>
        rw [rmS_r hk]
        obtain ⟨im, kn, nr, po⟩ := rm_leaf R0 I0 hm pm hk
        refine rmA_I H R0 cm rtt ct i _ _ (by omega) (fun _ => rm_step R0 I0 hm pm hk) (addO_I (S l rfl) ⟨Nat.le_refl _, cm m hm, fun _ => fi_rt H.1 (ct m hm hk) (fun q => ?_), spO_I I0.1.1 (fun x hx => cm x ((I0.2.2.1 x).mp hx).1) im, nwh_I mk⟩)
        rw [← rtt] at q
        have q : m = tRt c0 := q
        rw [q, R0.2.1] at hk
        cases hk
theorem fdA_I {mk : Nat} {kd : Nat → Int32} {rt : Nat → Bool} {t u : mT} {P : mP} (H : fiH mk kd rt t u P) (lo : Nat → Bool) : stO mk rt (fdA lo t u P) := by
  have pos := pl_lt H.2.1.1 H.2.1.1.2.1
  rw [pl_rt H.2.1.1] at pos
  have B := fbA_I H lo ((pO u).length - 1) 1 t (fuA t u P) (Nat.lt_succ_self _) pos (by omega) (fun _ => fdI_1 H.1.1 H.2.1.1 H.2.2) (fuA_I H)
  have eE : fdA lo t u P = ((pO (fbA lo t u P).1).reverse.foldl (rmS (kpB u P) (tWo t)) ((fbA lo t u P).1, (fbA lo t u P).2)).2 := rfl
  have B' : ((fbA lo t u P).2 ≠ none → fdI t u P (pO u).length (fbA lo t u P).1) ∧ stO mk rt (fbA lo t u P).2 := B
  rw [eE]
  generalize (fbA lo t u P).1 = c at B'
  generalize (fbA lo t u P).2 = s at B'
  cases s with
  | none => rw [rmS_n]; exact B'.2
  | some l =>
    have I := B'.1 (by intro g; cases g)
    have R0 := fd_rmH H.2.1.1 H.2.2 I
    have := rmA_I H R0 (fdI_mk H I) I.2.1 (fun m hm hk => fd_rest H.2.1.1 I hm hk) (pO c).length c (some l) (Nat.le_refl _) (fun _ => rm_0 R0) B'.2
    rw [List.take_length] at this
    exact this
end FD10
