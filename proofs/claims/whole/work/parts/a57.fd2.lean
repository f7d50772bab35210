section FD2
/-! finding a script: the copy, and the steps -/
def nwh : mSp := (none, none, none)
def prv (c : mT) (m : Nat) : Option Nat := match tUp c m with
  | none => none
  | some p => ((tKi c p).take ((tKi c p).idxOf m)).getLast?
def nxt (c : mT) (m : Nat) : Option Nat := match tUp c m with
  | none => none
  | some p => ((tKi c p).drop ((tKi c p).idxOf m + 1)).head?
def spO (c : mT) (m : Nat) : mSp := (tUp c m, prv c m, nxt c m)
theorem sp_at {c : mT} (hw : fWF 300 c) {m p : Nat} {A B : List Nat} (e : tKi c p = A ++ m :: B) : tUp c m = some p ∧ prv c m = A.getLast? ∧ nxt c m = B.head? := by
  have hu := ((hw.2.1 m p).mp (by rw [e]; exact List.mem_append_right _ List.mem_cons_self)).2
  have ix : (tKi c p).idxOf m = A.length := idx_split (hw.2.2.1 p) e
  unfold prv nxt
  rw [hu]
  show some p = some p ∧ ((tKi c p).take ((tKi c p).idxOf m)).getLast? = A.getLast? ∧ ((tKi c p).drop ((tKi c p).idxOf m + 1)).head? = B.head?
  rw [ix, e, List.take_left']
  · refine ⟨rfl, rfl, ?_⟩
    rw [show A ++ m :: B = (A ++ [m]) ++ B by rw [List.append_assoc]; rfl, List.drop_left' (by rw [List.length_append]; rfl)]
  · rfl
def aK (K : List Nat) (a : Option Nat) : Nat := match a with
  | none => 0
  | some x => K.idxOf x + 1
def mvB (lo : Nat → Bool) (c : mT) (x p : Nat) (a : Option Nat) : Bool := !decide (tUp c x = some p) || (!lo p && (match a with
  | none => false
  | some b => decide (x ∈ (tKi c p).take ((tKi c p).idxOf b))))
def fdC (lo : Nat → Bool) (P : mP) (u c : mT) (y : Nat) : mT := match P.2 y with
  | none => dNode c y (tWo u y) (twF P ((tUp u y).getD 0)) (lo (twF P ((tUp u y).getD 0))) (aK (tKi c (twF P ((tUp u y).getD 0))) ((prv u y).map (twF P)))
  | some x => if mvB lo c x (twF P ((tUp u y).getD 0)) ((prv u y).map (twF P)) = true then dMove c x (twF P ((tUp u y).getD 0)) (lo (twF P ((tUp u y).getD 0))) (aK (tKi (tCut c x) (twF P ((tUp u y).getD 0))) ((prv u y).map (twF P))) else c
def fdE (lo : Nat → Bool) (P : mP) (u c : mT) (y : Nat) : Option mSt := match P.2 y with
  | none => some (1, y, -1, tWo u y, nwh, spO (fdC lo P u c y) y)
  | some x => if mvB lo c x (twF P ((tUp u y).getD 0)) ((prv u y).map (twF P)) = true then some (2, x, -1, -1, spO c x, spO (fdC lo P u c y) x) else none
def fdI (t u : mT) (P : mP) (i : Nat) (c : mT) : Prop := tWF 300 c ∧ tRt c = tRt t ∧ (∀ x, tIn c x = true ↔ (tIn t x = true ∨ (tIn u x = true ∧ pl u x < i ∧ P.2 x = none))) ∧ ∀ y p, tIn u y = true → pl u y < i → tUp u y = some p → tUp c (twF P y) = some (twF P p)
theorem fdI_tw {t u : mT} {P : mP} {i : Nat} {c : mT} (H : fdP t u P) (I : fdI t u P i c) {y : Nat} (hy : tIn u y = true) (hl : pl u y < i) : tIn c (twF P y) = true := by
  rw [I.2.2.1]
  cases e : P.2 y with
  | none => rw [twF_n e]; exact Or.inr ⟨hy, hl, e⟩
  | some x => rw [twF_s e]; exact Or.inl (H.1.2 x y ((H.1.1 x y).mpr e)).1
theorem fdI_anc {t u : mT} {P : mP} {i : Nat} {c : mT} (hu : tWF 300 u) (H : fdP t u P) (I : fdI t u P i c) {y : Nat} (hy : tIn u y = true) (hl : i ≤ pl u y) : ∀ (N z : Nat), pl u z < N → tIn u z = true → pl u z < i → twF P z ∉ tPo c (twF P y)
  | 0, z, h1, hz, h2, g => by omega
  | N + 1, z, h1, hz, h2, g => by
    have hw := I.1
    rcases tPo_up hw.1.2.2.2.1 _ g with e | ⟨q, q1, q2⟩
    · have := tw_inj H hz hy e
      rw [this] at h2
      omega
    · have up := ((hw.1.2.1 _ q).mp q1).2
      cases ez : tUp u z with
      | none =>
        have er := (up_rt hu hz).mp ez
        rw [er, tw_rt H, ← I.2.1, hw.2.2.1] at up
        cases up
      | some p =>
        rw [I.2.2.2 z p hz h2 ez] at up
        rw [← Option.some.inj up] at q2
        have hk : z ∈ tKi u p := (hu.1.2.1 z p).mpr ⟨hz, ez⟩
        have lt := pl_kid_lt hu hk
        exact fdI_anc hu H I hy hl N p (by omega) (hu.1.2.2.2.2 z p hz ez) (by omega) q2
/-- what one node of the new tree asks of the copy -/
theorem fdI_at {t u : mT} {P : mP} {i : Nat} {c : mT} (hu : tWF 300 u) (H : fdP t u P) (I : fdI t u P i c) {y : Nat} (hy : tIn u y = true) (hl : pl u y = i) (h0 : 0 < i) : ∃ p A B, tUp u y = some p ∧ tKi u p = A ++ y :: B ∧ prv u y = A.getLast? ∧ tIn u p = true ∧ pl u p < i ∧ tIn c (twF P p) = true ∧ twF P p ∉ tPo c (twF P y) ∧ twF P p ≠ twF P y ∧ (∀ b, prv u y = some b → b ∈ A ∧ tIn u b = true ∧ pl u b < i ∧ twF P b ∈ tKi c (twF P p) ∧ twF P b ≠ twF P y) := by
  have hw := I.1
  have nr : y ≠ tRt u := fun e => by
    rw [e, pl_rt hu] at hl
    omega
  obtain ⟨p, hp⟩ : ∃ p, tUp u y = some p := by
    cases e : tUp u y with
    | none => exact absurd e (hu.2.2.2 y hy nr)
    | some p => exact ⟨p, rfl⟩
  have hk : y ∈ tKi u p := (hu.1.2.1 y p).mpr ⟨hy, hp⟩
  obtain ⟨A, B, e⟩ := List.append_of_mem hk
  have hpi := hu.1.2.2.2.2 y p hy hp
  have lt := pl_kid_lt hu hk
  have sp := sp_at hu.1 e
  have anc := fdI_anc hu H I hy (by omega) _ p (Nat.lt_succ_self _) hpi (by omega)
  refine ⟨p, A, B, hp, e, sp.2.1, hpi, by omega, fdI_tw H I hpi (by omega), anc, fun q => anc (by rw [q]; exact tPo_self hw.1.2.2.2.1 _), fun b hb => ?_⟩
  rw [sp.2.1] at hb
  have mb : b ∈ A := List.mem_of_getLast? hb
  have hbk : b ∈ tKi u p := by rw [e]; exact List.mem_append_left _ mb
  have hbi := ((hu.1.2.1 b p).mp hbk)
  obtain ⟨A1, A2, eA⟩ := List.append_of_mem mb
  have lb : pl u b < pl u y := pl_kid_ord hu (k := b) (j := y) (K1 := A1) (K2 := A2 ++ y :: B) (by rw [e, eA, List.append_assoc]; rfl) (List.mem_append_right _ List.mem_cons_self)
  have up := I.2.2.2 b p hbi.1 (by omega) hbi.2
  refine ⟨mb, hbi.1, by omega, (hw.1.2.1 _ _).mpr ⟨fdI_tw H I hbi.1 (by omega), up⟩, fun q => ?_⟩
  have := tw_inj H hbi.1 hy q
  rw [this] at lb
  omega
theorem fdI_step {t u : mT} {P : mP} {i : Nat} {c : mT} (hu : tWF 300 u) (H : fdP t u P) (I : fdI t u P i c) {y : Nat} (hy : tIn u y = true) (hl : pl u y = i) (h0 : 0 < i) (lo : Nat → Bool) : fdI t u P (i + 1) (fdC lo P u c y) := by
  obtain ⟨p, A, B, hp, e, epr, hpi, lp, hpc, anc, ne, hb⟩ := fdI_at hu H I hy hl h0
  obtain ⟨hw, hr, hi, hup⟩ := id I
  have eg : (tUp u y).getD 0 = p := by rw [hp]; rfl
  have old : ∀ z, tIn u z = true → pl u z < i + 1 → z ≠ y → pl u z < i := fun z hz h1 h2 => by
    have : pl u z ≠ i := fun q => h2 (pl_inj hu hz hy (by omega))
    omega
  unfold fdC
  rw [eg]
  cases ey : P.2 y with
  | none =>
    show fdI t u P (i + 1) (dNode c y (tWo u y) (twF P p) (lo (twF P p)) (aK (tKi c (twF P p)) ((prv u y).map (twF P))))
    have ny : tIn c y = false := by
      cases q : tIn c y with
      | false => rfl
      | true =>
        rcases (hi y).mp q with g | g
        · rw [tw_new H hy ey] at g; cases g
        · omega
    refine ⟨wNode hw ny (hu.1.1 y hy) hpc _ _, hr, fun x => ?_, fun z q hz h1 h2 => ?_⟩
    · show (if x = y then true else tIn c x) = true ↔ _
      by_cases ex : x = y
      · rw [if_pos ex, ex]
        exact ⟨fun _ => Or.inr ⟨hy, by omega, ey⟩, fun _ => rfl⟩
      · rw [if_neg ex, hi x]
        exact ⟨fun g => g.elim Or.inl (fun g => Or.inr ⟨g.1, by omega, g.2.2⟩), fun g => g.elim Or.inl (fun g => Or.inr ⟨g.1, old x g.1 g.2.1 ex, g.2.2⟩)⟩
    · show (if twF P z = y then some (twF P p) else (if twF P z = y then none else tUp c (twF P z))) = some (twF P q)
      by_cases ez : z = y
      · rw [ez] at h2 ⊢
        rw [hp] at h2
        rw [if_pos (twF_n ey), Option.some.inj h2]
      · have n : twF P z ≠ y := fun g => ez (tw_inj H hz hy (by rw [g, twF_n ey]))
        rw [if_neg n, if_neg n]
        exact hup z q hz (old z hz h1 ez) h2
  | some x =>
    have ex : twF P y = x := twF_s ey
    have hx := (H.1.2 x y ((H.1.1 x y).mpr ey)).1
    have hxc : tIn c x = true := (hi x).mpr (Or.inl hx)
    rw [ex] at anc ne
    have nin : ∀ x', tIn c x' = true ↔ (tIn t x' = true ∨ (tIn u x' = true ∧ pl u x' < i + 1 ∧ P.2 x' = none)) := fun x' => by
      rw [hi x']
      refine ⟨fun g => g.elim Or.inl (fun g => Or.inr ⟨g.1, by omega, g.2.2⟩), fun g => g.elim Or.inl (fun g => Or.inr ⟨g.1, old x' g.1 g.2.1 (fun q => ?_), g.2.2⟩)⟩
      rw [q, ey] at g
      cases g.2.2
    show fdI t u P (i + 1) (if mvB lo c x (twF P p) ((prv u y).map (twF P)) = true then dMove c x (twF P p) (lo (twF P p)) (aK (tKi (tCut c x) (twF P p)) ((prv u y).map (twF P))) else c)
    by_cases mv : mvB lo c x (twF P p) ((prv u y).map (twF P)) = true
    · rw [if_pos mv]
      refine ⟨wMove hw hxc hpc anc _ _, hr, nin, fun z q hz h1 h2 => ?_⟩
      show (if twF P z = x then some (twF P p) else (if twF P z = x then none else tUp c (twF P z))) = some (twF P q)
      by_cases ez : z = y
      · rw [ez] at h2 ⊢
        rw [hp] at h2
        rw [if_pos ex, Option.some.inj h2]
      · have n : twF P z ≠ x := fun g => ez (tw_inj H hz hy (by rw [g, ex]))
        rw [if_neg n, if_neg n]
        exact hup z q hz (old z hz h1 ez) h2
    · rw [if_neg mv]
      refine ⟨hw, hr, nin, fun z q hz h1 h2 => ?_⟩
      by_cases ez : z = y
      · rw [ez] at h2 ⊢
        rw [hp] at h2
        rw [ex, ← Option.some.inj h2]
        refine Classical.byContradiction (fun g => mv ?_)
        unfold mvB
        rw [decide_eq_false g]
        rfl
      · exact hup z q hz (old z hz h1 ez) h2
theorem fdI_1 {t u : mT} {P : mP} (hw : tWF 300 t) (hu : tWF 300 u) (H : fdP t u P) : fdI t u P 1 t := by
  have r0 : ∀ y, tIn u y = true → pl u y < 1 → y = tRt u := fun y hy h => pl_inj hu hy hu.2.1 (by rw [pl_rt hu]; omega)
  refine ⟨hw, rfl, fun x => ⟨Or.inl, fun g => g.elim id (fun g => ?_)⟩, fun y p hy h1 h2 => ?_⟩
  · rw [r0 x g.1 g.2.1, H.2.2] at g
    cases g.2.2
  · rw [r0 y hy h1, hu.2.2.1] at h2
    cases h2
end FD2
