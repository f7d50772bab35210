section MG3
def orpB (s : mgS) (m : Nat) : Bool := sIn s m && (match sUp s m with
  | some p => !sIn s p
  | none => false)
def orpO (mk : Nat) (s : mgS) : Option Nat := (List.range mk).find? (orpB s)
noncomputable def rngO (mk : Nat) (s : mgS) : Option Nat := (List.range mk).find? (fun m => sIn s m && rgB (sUp s) m)
def lostS (b : mT) (s : mgS) (p : Nat) : mgS := (mU (sIn s) p true, mU (sWo s) p (tWo b p), mU (sUp s) p (tUp b p), sCf s ++ [(3, p)])
noncomputable def ringS (mk : Nat) (b : mT) (s : mgS) (m : Nat) : mgS := (sIn s, sWo s, fun k => if (rgC (sUp s) m k && tIn b k) = true then tUp b k else sUp s k, sCf s ++ ((List.range mk).filter (fun k => rgC (sUp s) m k && tIn b k)).map (fun k => (4, k)))
noncomputable def mdS (mk : Nat) (b : mT) (s : mgS) : Option mgS := match orpO mk s with
  | some m => some (lostS b s ((sUp s m).getD 0))
  | none => match rngO mk s with
    | some m => some (ringS mk b s m)
    | none => none
noncomputable def mdR (mk : Nat) (b : mT) : Nat → mgS → mgS
  | 0, s => s
  | n + 1, s => match mdS mk b s with
    | none => s
    | some s' => mdR mk b n s'
noncomputable def mdF (mk : Nat) (b : mT) (s : mgS) : mgS := mdR mk b 601 s
def cD (mk : Nat) (b : mT) (s : mgS) : Nat := ((List.range mk).filter (fun k => sIn s k && tIn b k && !decide (sUp s k = tUp b k))).length
def cO (mk : Nat) (b : mT) (s : mgS) : Nat := ((List.range mk).filter (fun k => tIn b k && !sIn s k)).length
theorem flt_le {p p' : Nat → Bool} : ∀ (L : List Nat), (∀ x ∈ L, p' x = true → p x = true) → (L.filter p').length ≤ (L.filter p).length
  | [], h => Nat.le_refl _
  | x :: L, h => by
    have ih := flt_le L (fun y hy => h y (List.mem_cons_of_mem _ hy))
    rw [List.filter_cons, List.filter_cons]
    cases e' : p' x with
    | true =>
      rw [if_pos rfl, if_pos (h x List.mem_cons_self e'), List.length_cons, List.length_cons]
      omega
    | false =>
      rw [if_neg Bool.false_ne_true]
      cases e : p x with
      | true => rw [if_pos rfl, List.length_cons]; omega
      | false => rw [if_neg Bool.false_ne_true]; exact ih
theorem flt_lt {p p' : Nat → Bool} {a : Nat} : ∀ (L : List Nat), (∀ x ∈ L, p' x = true → p x = true) → a ∈ L → p a = true → p' a = false → (L.filter p').length < (L.filter p).length
  | [], h, ha, h1, h2 => by cases ha
  | x :: L, h, ha, h1, h2 => by
    rw [List.filter_cons, List.filter_cons]
    rcases List.mem_cons.mp ha with e | e
    · rw [← e, h2, h1, if_neg Bool.false_ne_true, if_pos rfl, List.length_cons]
      have := flt_le L (p := p) (p' := p') (fun y hy => h y (List.mem_cons_of_mem _ hy))
      omega
    · have ih := flt_lt L (fun y hy => h y (List.mem_cons_of_mem _ hy)) e h1 h2
      cases e' : p' x with
      | true =>
        rw [if_pos rfl, if_pos (h x List.mem_cons_self e'), List.length_cons, List.length_cons]
        omega
      | false =>
        rw [if_neg Bool.false_ne_true]
        cases e2 : p x with
        | true => rw [if_pos rfl, List.length_cons]; omega
        | false => rw [if_neg Bool.false_ne_true]; exact ih
theorem flt_mk {p : Nat → Bool} (mk : Nat) : ((List.range mk).filter p).length ≤ mk := by
  have := List.length_filter_le p (List.range mk)
  rw [List.length_range] at this
  exact this
theorem orp_s {mk : Nat} {s : mgS} {m : Nat} (h : orpO mk s = some m) : ∃ p, m < mk ∧ sIn s m = true ∧ sUp s m = some p ∧ sIn s p = false := by
  have h1 := List.mem_range.mp (List.mem_of_find?_eq_some h)
  have h2 := List.find?_some h
  unfold orpB at h2
  rw [Bool.and_eq_true] at h2
  cases e : sUp s m with
  | none =>
    rw [e] at h2
    cases h2.2
  | some p =>
    rw [e] at h2
    refine ⟨p, h1, h2.1, rfl, ?_⟩
    have h3 : (!sIn s p) = true := h2.2
    cases q : sIn s p with
    | true => rw [q] at h3; cases h3
    | false => rfl
theorem orp_n {mk : Nat} {s : mgS} (h : orpO mk s = none) {m p : Nat} (hm : m < mk) (hi : sIn s m = true) (hu : sUp s m = some p) : sIn s p = true := by
  have h1 := (List.find?_eq_none.mp h) m (List.mem_range.mpr hm)
  unfold orpB at h1
  rw [hi, hu] at h1
  have h1 : ¬ (true && !sIn s p) = true := h1
  cases q : sIn s p with
  | true => rfl
  | false => rw [q] at h1; exact absurd rfl h1
theorem rng_s {mk : Nat} {s : mgS} {m : Nat} (h : rngO mk s = some m) : m < mk ∧ sIn s m = true ∧ isRg (sUp s) m := by
  have h1 := List.mem_range.mp (List.mem_of_find?_eq_some h)
  have h2 := List.find?_some h
  rw [Bool.and_eq_true] at h2
  exact ⟨h1, h2.1, rgB_iff.mp h2.2⟩
theorem rng_n {mk : Nat} {s : mgS} (h : rngO mk s = none) {m : Nat} (hm : m < mk) (hi : sIn s m = true) : ¬ isRg (sUp s) m := fun g => by
  have h1 := (List.find?_eq_none.mp h) m (List.mem_range.mpr hm)
  rw [hi, rgB_iff.mpr g] at h1
  exact h1 rfl
theorem mg_par {mk R : Nat} {b l r : mT} (H : mgH mk R b l r) {m p : Nat} (h : mgSrc b l r m p) : tIn b p = true ∨ tIn l p = true ∨ tIn r p = true := by
  rcases h with ⟨g1, g2⟩ | ⟨g1, g2⟩ | ⟨g1, g2⟩
  · exact Or.inl (H.1.1.1.2.2.2.2 m p g1 g2)
  · exact Or.inr (Or.inl (H.1.2.1.1.2.2.2.2 m p g1 g2))
  · exact Or.inr (Or.inr (H.1.2.2.1.2.2.2.2 m p g1 g2))
/-- a lost parent is one of the base -/
theorem lost_b {mk R : Nat} {po : Nat → Int32} {b l r : mT} (H : mgH mk R b l r) {s : mgS} (I : mgI mk R po b l r s) {m p : Nat} (hu : sUp s m = some p) (hp : sIn s p = false) : tIn b p = true := by
  cases e : tIn b p with
  | true => rfl
  | false =>
    rcases mg_par H (I.2.2.1 m p hu) with g | g
    · rw [e] at g; cases g
    · rw [I.2.2.2.2.2.1 p e g] at hp; cases hp
theorem lost_I {mk R : Nat} {po : Nat → Int32} {b l r : mT} (H : mgH mk R b l r) {s : mgS} (I : mgI mk R po b l r s) {p : Nat} (hb : tIn b p = true) (hp : sIn s p = false) : mgI mk R po b l r (lostS b s p) := by
  obtain ⟨i1, i2, i3, i4, ⟨i5, i6⟩, i7, i8⟩ := I
  have nR : R ≠ p := fun e => by rw [e, hp] at i5; cases i5
  have eIn : ∀ x, sIn (lostS b s p) x = mU (sIn s) p true x := fun _ => rfl
  have eUp : ∀ x, sUp (lostS b s p) x = mU (sUp s) p (tUp b p) x := fun _ => rfl
  refine ⟨fun m hm => ?_, fun m hm => ?_, fun m q hq => ?_, fun m hm hu => ?_, ⟨?_, ?_⟩, fun m nb g => ?_, fun m nb hm => ?_⟩
  · rw [eIn] at hm
    by_cases c : m = p
    · rw [c]; exact ⟨H.2.2.2.1 p hb, Or.inl hb⟩
    · rw [mU_n _ _ c] at hm; exact i1 m hm
  · rw [eIn] at hm
    rw [eUp]
    by_cases c : m = p
    · rw [c, mU_s] at hm; cases hm
    · rw [mU_n _ _ c] at hm ⊢; exact i2 m hm
  · rw [eUp] at hq
    by_cases c : m = p
    · rw [c, mU_s] at hq; rw [c]; exact Or.inl ⟨hb, hq⟩
    · rw [mU_n _ _ c] at hq; exact i3 m q hq
  · rw [eIn] at hm
    rw [eUp] at hu
    by_cases c : m = p
    · rw [c, mU_s] at hu
      rw [c, ← H.2.1.1]
      exact up_rtR H.1.1 hb hu
    · rw [mU_n _ _ c] at hm hu; exact i4 m hm hu
  · rw [eIn, mU_n _ _ nR]; exact i5
  · rw [eUp, mU_n _ _ nR]; exact i6
  · rw [eIn]
    have c : m ≠ p := fun e => by rw [e, hb] at nb; cases nb
    rw [mU_n _ _ c]; exact i7 m nb g
  · have c : m ≠ p := fun e => by rw [e, hb] at nb; cases nb
    rw [eIn, mU_n _ _ c] at hm
    rw [eUp, mU_n _ _ c]
    exact i8 m nb hm
theorem lost_c {mk : Nat} {b : mT} {s : mgS} {p : Nat} (hb : tIn b p = true) (hp : sIn s p = false) (hm : p < mk) : cD mk b (lostS b s p) ≤ cD mk b s ∧ cO mk b (lostS b s p) < cO mk b s ∧ (sCf (lostS b s p)).length = (sCf s).length + 1 := by
  have eIn : ∀ x, sIn (lostS b s p) x = mU (sIn s) p true x := fun _ => rfl
  have eUp : ∀ x, sUp (lostS b s p) x = mU (sUp s) p (tUp b p) x := fun _ => rfl
  refine ⟨flt_le _ (fun x hx h => ?_), flt_lt _ (fun x hx h => ?_) (List.mem_range.mpr hm) ?_ ?_, by show (sCf s ++ [(3, p)]).length = _; rw [List.length_append]; rfl⟩
  · rw [eIn, eUp] at h
    by_cases c : x = p
    · rw [c, mU_s, mU_s, decide_eq_true (show tUp b p = tUp b p from rfl), Bool.not_true, Bool.and_false] at h
      cases h
    · rw [mU_n _ _ c, mU_n _ _ c] at h; exact h
  · rw [eIn] at h
    by_cases c : x = p
    · rw [c, mU_s, Bool.not_true, Bool.and_false] at h
      cases h
    · rw [mU_n _ _ c] at h; exact h
  · rw [hb, hp]; rfl
  · rw [eIn, mU_s, Bool.not_true, Bool.and_false]
theorem ring_I {mk R : Nat} {po : Nat → Int32} {b l r : mT} (H : mgH mk R b l r) {s : mgS} (I : mgI mk R po b l r s) {m : Nat} (hr : isRg (sUp s) m) : mgI mk R po b l r (ringS mk b s m) := by
  obtain ⟨i1, i2, i3, i4, ⟨i5, i6⟩, i7, i8⟩ := I
  have eUp : ∀ k, sUp (ringS mk b s m) k = if (rgC (sUp s) m k && tIn b k) = true then tUp b k else sUp s k := fun _ => rfl
  have up : ∀ k, (rgC (sUp s) m k && tIn b k) = true → tIn b k = true ∧ ∃ y, sUp s k = some y := fun k h => by
    rw [Bool.and_eq_true] at h
    obtain ⟨n, hn⟩ := rgC_iff.mp h.1
    obtain ⟨y, hy, _⟩ := ring_all hr hn
    exact ⟨h.2, y, hy⟩
  refine ⟨i1, fun k hk => ?_, fun k q hq => ?_, fun k hk hu => ?_, ⟨i5, ?_⟩, i7, fun k nb hk => ?_⟩
  · rw [eUp]
    by_cases c : (rgC (sUp s) m k && tIn b k) = true
    · obtain ⟨_, y, hy⟩ := up k c
      rw [i2 k hk] at hy
      cases hy
    · rw [if_neg c]; exact i2 k hk
  · rw [eUp] at hq
    by_cases c : (rgC (sUp s) m k && tIn b k) = true
    · rw [if_pos c] at hq; exact Or.inl ⟨(up k c).1, hq⟩
    · rw [if_neg c] at hq; exact i3 k q hq
  · rw [eUp] at hu
    by_cases c : (rgC (sUp s) m k && tIn b k) = true
    · rw [if_pos c] at hu
      rw [← H.2.1.1]
      exact up_rtR H.1.1 (up k c).1 hu
    · rw [if_neg c] at hu; exact i4 k hk hu
  · rw [eUp]
    by_cases c : (rgC (sUp s) m R && tIn b R) = true
    · obtain ⟨_, y, hy⟩ := up R c
      rw [i6] at hy
      cases hy
    · rw [if_neg c]; exact i6
  · rw [eUp, if_neg (by rw [nb, Bool.and_false]; exact Bool.false_ne_true)]
    exact i8 k nb hk
theorem rg_in {mk R : Nat} {po : Nat → Int32} {b l r : mT} {s : mgS} (I : mgI mk R po b l r s) (ho : orpO mk s = none) {m : Nat} (hm : sIn s m = true) : ∀ n x, itU (sUp s) n m = some x → sIn s x = true := by
  intro n
  induction n with
  | zero =>
    intro x hx
    have hx : some m = some x := hx
    rw [← Option.some.inj hx]
    exact hm
  | succ n ih =>
    intro x hx
    rw [itU_1] at hx
    cases e : itU (sUp s) n m with
    | none => rw [e] at hx; cases hx
    | some y =>
      rw [e] at hx
      have iy := ih y e
      exact orp_n ho (I.1 y iy).1 iy hx
theorem rg_at {up : Nat → Option Nat} {m n x : Nat} (hr : isRg up m) (hx : itU up n m = some x) : isRg up x := by
  obtain ⟨k, hk⟩ := hr
  refine ⟨k, ?_⟩
  have e1 := itU_add (up := up) n (k + 1) m
  have e2 := itU_add (up := up) (k + 1) n m
  rw [hx] at e1
  rw [hk] at e2
  have e1 : itU up (n + (k + 1)) m = itU up (k + 1) x := e1
  have e2 : itU up (k + 1 + n) m = itU up n m := e2
  rw [← e1, Nat.add_comm n (k + 1), e2]
  exact hx
/-- a ring has a mark of the base that has left the base's parent -/
theorem ring_b {mk R : Nat} {po : Nat → Int32} {b l r : mT} (H : mgH mk R b l r) {s : mgS} (I : mgI mk R po b l r s) (ho : orpO mk s = none) {m : Nat} (hm : sIn s m = true) (hr : isRg (sUp s) m) : ∃ n k, itU (sUp s) n m = some k ∧ tIn b k = true ∧ sUp s k ≠ tUp b k := by
  refine Classical.byContradiction (fun no => ?_)
  have all : ∀ n k, itU (sUp s) n m = some k → tIn b k = true → sUp s k = tUp b k := fun n k h1 h2 => Classical.byContradiction (fun g => no ⟨n, k, h1, h2, g⟩)
  have inn := rg_in I ho hm
  have wP : fWF 300 (mgPri po l r) := by
    unfold mgPri
    by_cases c : po 2 = 2
    · rw [if_pos c]; exact H.1.2.2.1
    · rw [if_neg c]; exact H.1.2.1.1
  have wS : fWF 300 (mgSec po l r) := by
    unfold mgSec
    by_cases c : po 2 = 2
    · rw [if_pos c]; exact H.1.2.1.1
    · rw [if_neg c]; exact H.1.2.2.1
  -- from a mark of a tree on, all are in it
  have go : ∀ (t : mT), fWF 300 t → (∀ n k, itU (sUp s) n m = some k → tIn t k = true → tUp t k = sUp s k) → ∀ n0 x, itU (sUp s) n0 m = some x → tIn t x = true → False := fun t wt ht n0 x hx hi => by
    refine ring_no wt (rg_at hr hx) ?_
    intro n
    induction n with
    | zero =>
      intro y hy
      have hy : some x = some y := hy
      rw [← Option.some.inj hy]
      exact ⟨hi, ht n0 x hx hi⟩
    | succ n ih =>
      intro y hy
      rw [itU_1] at hy
      cases e : itU (sUp s) n x with
      | none => rw [e] at hy; cases hy
      | some z =>
        rw [e] at hy
        have hy : sUp s z = some y := hy
        obtain ⟨z1, z2⟩ := ih z e
        rw [hy] at z2
        have y1 := wt.2.2.2.2 z y z1 z2
        have ey : itU (sUp s) (n0 + (n + 1)) m = some y := by
          rw [itU_add, hx]
          show itU (sUp s) (n + 1) x = some y
          rw [itU_1, e]
          exact hy
        exact ⟨y1, ht _ y ey y1⟩
  have nb : ∀ n k, itU (sUp s) n m = some k → tIn b k = false := fun n k hk => by
    cases e : tIn b k with
    | false => rfl
    | true => exact (go b H.1.1.1 (fun n' k' h1 h2 => (all n' k' h1 h2).symm) n k hk e).elim
  have np : ∀ n k, itU (sUp s) n m = some k → tIn (mgPri po l r) k = false := fun n k hk => by
    cases e : tIn (mgPri po l r) k with
    | false => rfl
    | true => exact (go (mgPri po l r) wP (fun n' k' h1 h2 => ((I.2.2.2.2.2.2 k' (nb n' k' h1) (inn n' k' h1)).1 h2).symm) n k hk e).elim
  have sec := fun n k (hk : itU (sUp s) n m = some k) => (I.2.2.2.2.2.2 k (nb n k hk) (inn n k hk)).2 (np n k hk)
  exact go (mgSec po l r) wS (fun n' k' h1 h2 => (sec n' k' h1).2.symm) 0 m rfl (sec 0 m rfl).1
theorem ring_c {mk R : Nat} {po : Nat → Int32} {b l r : mT} (H : mgH mk R b l r) {s : mgS} (I : mgI mk R po b l r s) (ho : orpO mk s = none) {m : Nat} (hm : sIn s m = true) (hr : isRg (sUp s) m) : cD mk b (ringS mk b s m) < cD mk b s ∧ cO mk b (ringS mk b s m) = cO mk b s ∧ (sCf (ringS mk b s m)).length ≤ (sCf s).length + 300 := by
  obtain ⟨n, k, hk, kb, ku⟩ := ring_b H I ho hm hr
  have ki := rg_in I ho hm n k hk
  have eUp : ∀ k, sUp (ringS mk b s m) k = if (rgC (sUp s) m k && tIn b k) = true then tUp b k else sUp s k := fun _ => rfl
  refine ⟨flt_lt _ (fun x hx h => ?_) (List.mem_range.mpr (I.1 k ki).1) ?_ ?_, rfl, ?_⟩
  · rw [eUp] at h
    by_cases c : (rgC (sUp s) m x && tIn b x) = true
    · rw [if_pos c, decide_eq_true (show tUp b x = tUp b x from rfl), Bool.not_true, Bool.and_false] at h
      cases h
    · rw [if_neg c] at h; exact h
  · rw [ki, kb, decide_eq_false ku]; rfl
  · rw [eUp, rgC_iff.mpr ⟨n, hk⟩, kb, if_pos (by rfl), decide_eq_true (show tUp b k = tUp b k from rfl), Bool.not_true, Bool.and_false]
  · show (sCf s ++ ((List.range mk).filter (fun k => rgC (sUp s) m k && tIn b k)).map (fun k => (4, k))).length ≤ _
    rw [List.length_append, List.length_map]
    have := flt_mk (p := fun k => rgC (sUp s) m k && tIn b k) mk
    have := H.2.2.1
    omega
theorem mdS_s {mk R : Nat} {po : Nat → Int32} {b l r : mT} (H : mgH mk R b l r) {s s' : mgS} (I : mgI mk R po b l r s) (h : mdS mk b s = some s') : mgI mk R po b l r s' ∧ cD mk b s' + cO mk b s' < cD mk b s + cO mk b s ∧ (sCf s').length + 300 * cD mk b s' + cO mk b s' ≤ (sCf s).length + 300 * cD mk b s + cO mk b s := by
  unfold mdS at h
  cases e : orpO mk s with
  | some m =>
    rw [e] at h
    obtain ⟨p, h1, h2, h3, h4⟩ := orp_s e
    have h : some (lostS b s ((sUp s m).getD 0)) = some s' := h
    rw [h3] at h
    have h : some (lostS b s p) = some s' := h
    rw [← Option.some.inj h]
    have hb := lost_b H I h3 h4
    obtain ⟨c1, c2, c3⟩ := lost_c hb h4 (H.2.2.2.1 p hb)
    refine ⟨lost_I H I hb h4, by omega, ?_⟩
    rw [c3]
    have := Nat.mul_le_mul_left 300 c1
    omega
  | none =>
    rw [e] at h
    have h : (match rngO mk s with
      | some m => some (ringS mk b s m)
      | none => none) = some s' := h
    cases e2 : rngO mk s with
    | none => rw [e2] at h; cases h
    | some m =>
      rw [e2] at h
      obtain ⟨h1, h2, h3⟩ := rng_s e2
      have h : some (ringS mk b s m) = some s' := h
      rw [← Option.some.inj h]
      obtain ⟨c1, c2, c3⟩ := ring_c H I e h2 h3
      refine ⟨ring_I H I h3, by omega, ?_⟩
      rw [c2]
      have := Nat.mul_le_mul_left 300 (show cD mk b (ringS mk b s m) + 1 ≤ cD mk b s from c1)
      rw [Nat.mul_add, Nat.mul_one] at this
      omega
theorem mdR_eq {mk R : Nat} {po : Nat → Int32} {b l r : mT} (H : mgH mk R b l r) : ∀ (n n' : Nat) (s : mgS), mgI mk R po b l r s → cD mk b s + cO mk b s < n → cD mk b s + cO mk b s < n' → mdR mk b n s = mdR mk b n' s
  | 0, n', s, I, h1, h2 => by omega
  | n + 1, 0, s, I, h1, h2 => by omega
  | n + 1, n' + 1, s, I, h1, h2 => by
    show (match mdS mk b s with
      | none => s
      | some s' => mdR mk b n s') = (match mdS mk b s with
      | none => s
      | some s' => mdR mk b n' s')
    cases e : mdS mk b s with
    | none => rfl
    | some s' =>
      obtain ⟨i1, i2, _⟩ := mdS_s H I e
      exact mdR_eq H n n' s' i1 (by omega) (by omega)
theorem cDO {mk : Nat} (hk : mk ≤ 300) (b : mT) (s : mgS) : cD mk b s + cO mk b s ≤ 600 := by
  have h1 : cD mk b s ≤ mk := flt_mk mk
  have h2 : cO mk b s ≤ mk := flt_mk mk
  omega
theorem mdF_s {mk R : Nat} {po : Nat → Int32} {b l r : mT} (H : mgH mk R b l r) {s s' : mgS} (I : mgI mk R po b l r s) (h : mdS mk b s = some s') : mdF mk b s = mdF mk b s' := by
  have e : mdF mk b s = mdR mk b 600 s' := by
    show (match mdS mk b s with
      | none => s
      | some s' => mdR mk b 600 s') = _
    rw [h]
  obtain ⟨i1, i2, _⟩ := mdS_s H I h
  have c := cDO H.2.2.1 b s
  rw [e]
  exact mdR_eq H 600 601 s' i1 (by omega) (by omega)
theorem mdF_n {mk : Nat} {b : mT} {s : mgS} (h : mdS mk b s = none) : mdF mk b s = s := by
  show (match mdS mk b s with
    | none => s
    | some s' => mdR mk b 600 s') = s
  rw [h]
theorem mdF_I {mk R : Nat} {po : Nat → Int32} {b l r : mT} (H : mgH mk R b l r) : ∀ (n : Nat) (s : mgS), mgI mk R po b l r s → cD mk b s + cO mk b s < n → mgI mk R po b l r (mdF mk b s) ∧ mdS mk b (mdF mk b s) = none ∧ (sCf (mdF mk b s)).length ≤ (sCf s).length + 300 * cD mk b s + cO mk b s
  | 0, s, I, h => by omega
  | n + 1, s, I, h => by
    cases e : mdS mk b s with
    | none =>
      rw [mdF_n e]
      exact ⟨I, e, by omega⟩
    | some s' =>
      obtain ⟨i1, i2, i3⟩ := mdS_s H I e
      rw [mdF_s H I e]
      obtain ⟨k1, k2, k3⟩ := mdF_I H n s' i1 (by omega)
      exact ⟨k1, k2, by omega⟩
theorem mdS_n {mk : Nat} {b : mT} {s : mgS} (h : mdS mk b s = none) : orpO mk s = none ∧ rngO mk s = none := by
  unfold mdS at h
  cases e : orpO mk s with
  | some m => rw [e] at h; cases h
  | none =>
    rw [e] at h
    refine ⟨rfl, ?_⟩
    have h : (match rngO mk s with
      | some m => some (ringS mk b s m)
      | none => none) = none := h
    cases e2 : rngO mk s with
    | none => rfl
    | some m => rw [e2] at h; cases h
theorem mdS_1 {mk : Nat} {b : mT} {s : mgS} {m p : Nat} (h : orpO mk s = some m) (hu : sUp s m = some p) : mdS mk b s = some (lostS b s p) := by
  unfold mdS
  rw [h]
  show some (lostS b s ((sUp s m).getD 0)) = _
  rw [hu]
  rfl
theorem mdS_2 {mk : Nat} {b : mT} {s : mgS} {m : Nat} (h1 : orpO mk s = none) (h : rngO mk s = some m) : mdS mk b s = some (ringS mk b s m) := by
  unfold mdS
  rw [h1]
  show (match rngO mk s with
      | some m => some (ringS mk b s m)
      | none => none) = _
  rw [h]
theorem mdS_3 {mk : Nat} {b : mT} {s : mgS} (h1 : orpO mk s = none) (h : rngO mk s = none) : mdS mk b s = none := by
  unfold mdS
  rw [h1]
  show (match rngO mk s with
      | some m => some (ringS mk b s m)
      | none => none) = _
  rw [h]
end MG3
