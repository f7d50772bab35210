section MG4
def insK (lo : Bool) (K : List Nat) (m : Nat) (a : Option Nat) : List Nat := inKids lo K m (aK K a)
def shL (b : mT) (s : mgS) (p : Nat) : List Nat := (tKi b p).filter (fun m => decide (sUp s m = some p))
def sdL (t b : mT) (s : mgS) (p : Nat) : List Nat := (tKi t p).filter (fun m => decide (m ∈ shL b s p))
def trnB (ix : Nat → Nat) : List Nat → Bool
  | x :: y :: L => decide (ix y < ix x) || trnB ix (y :: L)
  | [_] => false
  | [] => false
noncomputable def ldP (po : Nat → Int32) (b l r : mT) (s : mgS) (p : Nat) : List Nat × Bool := if trnB (pl b) (sdL l b s p) = false then (sdL r b s p, false) else if trnB (pl b) (sdL r b s p) = false ∨ sdL l b s p = sdL r b s p then (sdL l b s p, false) else (if po 5 = 1 then sdL l b s p else if po 5 = 2 then sdL r b s p else shL b s p, true)
def bsS (st : List Nat × Option Nat) (m : Nat) : List Nat × Option Nat := (if m ∈ st.1 then st.1 else insK false st.1 m st.2, some m)
noncomputable def bsK (po : Nat → Int32) (b l r : mT) (s : mgS) (p : Nat) : List Nat := ((shL b s p).foldl bsS ((ldP po b l r s p).1, none)).1
def nrA (t : mT) (K : List Nat) (p m : Nat) : Option Nat := (((tKi t p).take ((tKi t p).idxOf m)).filter (fun x => decide (x ∈ K))).getLast?
def mnO : Option Nat → Option Nat → Option Nat
  | some a, some b => some (if a < b then a else b)
  | some _, none => none
  | none, _ => none
def nrO (l r : mT) (K : List Nat) (p m : Nat) : Option Nat := if m ∈ tKi l p then (if m ∈ tKi r p then mnO (nrA l K p m) (nrA r K p m) else nrA l K p m) else if m ∈ tKi r p then nrA r K p m else none
def otS (lo : Bool) (l r : mT) (s : mgS) (p : Nat) (K : List Nat) (m : Nat) : List Nat := if sUp s m = some p ∧ m ∉ K then insK lo K m (nrO l r K p m) else K
noncomputable def stK (po : Nat → Int32) (b l r : mT) (s : mgS) (lo : Bool) (p : Nat) : List Nat := if lo = true then [] else bsK po b l r s p
noncomputable def KF (po : Nat → Int32) (mk : Nat) (b l r : mT) (s : mgS) (lo : Nat → Bool) (p : Nat) : List Nat := (List.range mk).foldl (otS (lo p) l r s p) (stK po b l r s (lo p) p)
noncomputable def mgTr (po : Nat → Int32) (mk R : Nat) (b l r : mT) (s : mgS) (lo : Nat → Bool) : mT := (R, sWo s, KF po mk b l r s lo, sUp s, sIn s)
theorem in_mem {lo : Bool} {K : List Nat} {m k x : Nat} : x ∈ inKids lo K m k ↔ x = m ∨ x ∈ K := by
  have e := in_split lo K m k
  have h : x ∈ K ↔ x ∈ hgA lo K m (K.take k) ∨ x ∈ hgB lo K m (K.drop k) := by
    rw [← List.mem_append, ← e]
  unfold inKids
  rw [List.mem_append, List.mem_cons, h]
  constructor
  · rintro (g | g | g)
    · exact Or.inr (Or.inl g)
    · exact Or.inl g
    · exact Or.inr (Or.inr g)
  · rintro (g | g | g)
    · exact Or.inr (Or.inl g)
    · exact Or.inl g
    · exact Or.inr (Or.inr g)
theorem in_nd {lo : Bool} {K : List Nat} {m k : Nat} (h : K.Nodup) (hm : m ∉ K) : (inKids lo K m k).Nodup := by
  have e := in_split lo K m k
  unfold inKids
  rw [e] at h hm
  generalize hgA lo K m (K.take k) = A at h hm
  generalize hgB lo K m (K.drop k) = B at h hm
  obtain ⟨h1, h2, h3⟩ := List.nodup_append.mp h
  refine List.nodup_append.mpr ⟨h1, List.nodup_cons.mpr ⟨fun g => hm (List.mem_append_right _ g), h2⟩, fun a ha c hc => ?_⟩
  rcases List.mem_cons.mp hc with g | g
  · rw [g]
    exact fun q => hm (List.mem_append_left _ (by rw [← q]; exact ha))
  · exact h3 a ha c g
/-- a list of different marks that go under p -/
def kOK (s : mgS) (p : Nat) (K : List Nat) : Prop := K.Nodup ∧ ∀ m ∈ K, sUp s m = some p
theorem ins_OK {s : mgS} {p : Nat} {K : List Nat} (h : kOK s p K) {lo : Bool} {m k : Nat} (hu : sUp s m = some p) (hm : m ∉ K) : kOK s p (inKids lo K m k) :=
  ⟨in_nd h.1 hm, fun x hx => (in_mem.mp hx).elim (fun e => by rw [e]; exact hu) (h.2 x)⟩
theorem shL_iff {b : mT} (hb : fWF 300 b) {s : mgS} {p m : Nat} : m ∈ shL b s p ↔ (tIn b m = true ∧ tUp b m = some p) ∧ sUp s m = some p := by
  unfold shL
  rw [List.mem_filter, hb.2.1 m p, decide_eq_true_iff]
theorem shL_OK {b : mT} (hb : fWF 300 b) (s : mgS) (p : Nat) : kOK s p (shL b s p) := ⟨(hb.2.2.1 p).filter _, fun m hm => ((shL_iff hb).mp hm).2⟩
theorem sdL_iff {t b : mT} (ht : fWF 300 t) {s : mgS} {p m : Nat} : m ∈ sdL t b s p ↔ (tIn t m = true ∧ tUp t m = some p) ∧ m ∈ shL b s p := by
  unfold sdL
  rw [List.mem_filter, ht.2.1 m p, decide_eq_true_iff]
theorem sdL_OK {t b : mT} (ht : fWF 300 t) (hb : fWF 300 b) (s : mgS) (p : Nat) : kOK s p (sdL t b s p) := ⟨(ht.2.2.1 p).filter _, fun m hm => ((shL_iff hb).mp ((sdL_iff ht).mp hm).2).2⟩
theorem ldP_or (po : Nat → Int32) (b l r : mT) (s : mgS) (p : Nat) : (ldP po b l r s p).1 = sdL l b s p ∨ (ldP po b l r s p).1 = sdL r b s p ∨ (ldP po b l r s p).1 = shL b s p := by
  unfold ldP
  by_cases c1 : trnB (pl b) (sdL l b s p) = false
  · rw [if_pos c1]; exact Or.inr (Or.inl rfl)
  · rw [if_neg c1]
    by_cases c2 : trnB (pl b) (sdL r b s p) = false ∨ sdL l b s p = sdL r b s p
    · rw [if_pos c2]; exact Or.inl rfl
    · rw [if_neg c2]
      show (if po 5 = 1 then sdL l b s p else if po 5 = 2 then sdL r b s p else shL b s p) = _ ∨ (if po 5 = 1 then sdL l b s p else if po 5 = 2 then sdL r b s p else shL b s p) = _ ∨ (if po 5 = 1 then sdL l b s p else if po 5 = 2 then sdL r b s p else shL b s p) = _
      by_cases c3 : po 5 = 1
      · rw [if_pos c3]; exact Or.inl rfl
      · rw [if_neg c3]
        by_cases c4 : po 5 = 2
        · rw [if_pos c4]; exact Or.inr (Or.inl rfl)
        · rw [if_neg c4]; exact Or.inr (Or.inr rfl)
theorem ldP_OK {po : Nat → Int32} {b l r : mT} (hb : fWF 300 b) (hl : fWF 300 l) (hr : fWF 300 r) (s : mgS) (p : Nat) : kOK s p (ldP po b l r s p).1 := by
  rcases ldP_or po b l r s p with e | e | e
  · rw [e]; exact sdL_OK hl hb s p
  · rw [e]; exact sdL_OK hr hb s p
  · rw [e]; exact shL_OK hb s p
theorem bs_OK {s : mgS} {p : Nat} : ∀ (L : List Nat) (st : List Nat × Option Nat), (∀ m ∈ L, sUp s m = some p) → kOK s p st.1 → kOK s p (L.foldl bsS st).1
  | [], st, h, k => k
  | m :: L, st, h, k => by
    rw [List.foldl_cons]
    refine bs_OK L _ (fun x hx => h x (List.mem_cons_of_mem _ hx)) ?_
    show kOK s p (if m ∈ st.1 then st.1 else insK false st.1 m st.2)
    by_cases c : m ∈ st.1
    · rw [if_pos c]; exact k
    · rw [if_neg c]; exact ins_OK k (h m List.mem_cons_self) c
theorem bsK_OK {po : Nat → Int32} {b l r : mT} (hb : fWF 300 b) (hl : fWF 300 l) (hr : fWF 300 r) (s : mgS) (p : Nat) : kOK s p (bsK po b l r s p) :=
  bs_OK (shL b s p) _ (shL_OK hb s p).2 (ldP_OK hb hl hr s p)
theorem ot_OK {lo : Bool} {l r : mT} {s : mgS} {p : Nat} : ∀ (L : List Nat) (K : List Nat), kOK s p K → kOK s p (L.foldl (otS lo l r s p) K) ∧ (∀ x ∈ K, x ∈ L.foldl (otS lo l r s p) K) ∧ ∀ x ∈ L, sUp s x = some p → x ∈ L.foldl (otS lo l r s p) K
  | [], K, k => ⟨k, fun x hx => hx, fun x hx => by cases hx⟩
  | m :: L, K, k => by
    rw [List.foldl_cons]
    have k1 : kOK s p (otS lo l r s p K m) ∧ (∀ x ∈ K, x ∈ otS lo l r s p K m) ∧ (sUp s m = some p → m ∈ otS lo l r s p K m) := by
      unfold otS
      by_cases c : sUp s m = some p ∧ m ∉ K
      · rw [if_pos c]
        exact ⟨ins_OK k c.1 c.2, fun x hx => in_mem.mpr (Or.inr hx), fun _ => in_mem.mpr (Or.inl rfl)⟩
      · rw [if_neg c]
        exact ⟨k, fun x hx => hx, fun g => Classical.byContradiction (fun q => c ⟨g, q⟩)⟩
    obtain ⟨q1, q2, q3⟩ := ot_OK L _ k1.1
    refine ⟨q1, fun x hx => q2 x (k1.2.1 x hx), fun x hx hu => ?_⟩
    rcases List.mem_cons.mp hx with g | g
    · rw [g] at hu ⊢
      exact q2 m (k1.2.2 hu)
    · exact q3 x g hu
theorem stK_OK {po : Nat → Int32} {b l r : mT} (hb : fWF 300 b) (hl : fWF 300 l) (hr : fWF 300 r) (s : mgS) (lo : Bool) (p : Nat) : kOK s p (stK po b l r s lo p) := by
  unfold stK
  cases lo with
  | true => rw [if_pos rfl]; exact ⟨List.nodup_nil, fun m hm => by cases hm⟩
  | false => rw [if_neg Bool.false_ne_true]; exact bsK_OK hb hl hr s p
theorem KF_OK {po : Nat → Int32} {mk R : Nat} {b l r : mT} (H : mgH mk R b l r) {s : mgS} (I : mgI mk R po b l r s) (lo : Nat → Bool) (p : Nat) : (KF po mk b l r s lo p).Nodup ∧ ∀ x, x ∈ KF po mk b l r s lo p ↔ sUp s x = some p := by
  obtain ⟨q1, q2, q3⟩ := ot_OK (lo := lo p) (l := l) (r := r) (List.range mk) _ (stK_OK (po := po) H.1.1.1 H.1.2.1.1 H.1.2.2.1 s (lo p) p)
  refine ⟨q1.1, fun x => ⟨fun h => q1.2 x h, fun h => q3 x (List.mem_range.mpr ?_) h⟩⟩
  cases e : sIn s x with
  | true => exact (I.1 x e).1
  | false => rw [I.2.1 x e] at h; cases h
theorem ot_asc {l r : mT} {s : mgS} {p : Nat} : ∀ (L : List Nat) (K : List Nat), K.Pairwise (· < ·) → (L.foldl (otS true l r s p) K).Pairwise (· < ·)
  | [], K, k => k
  | m :: L, K, k => by
    rw [List.foldl_cons]
    refine ot_asc L _ ?_
    unfold otS
    by_cases c : sUp s m = some p ∧ m ∉ K
    · rw [if_pos c]; exact in_asc k c.2
    · rw [if_neg c]; exact k
/-- what stands when nothing is lost, and no ring is left -/
def mgE (mk : Nat) (s : mgS) : Prop := (∀ m p, sUp s m = some p → sIn s p = true) ∧ ∀ m, m < mk → ¬ isRg (sUp s) m
theorem mgE_of {mk R : Nat} {po : Nat → Int32} {b l r : mT} {s : mgS} (I : mgI mk R po b l r s) (h : mdS mk b s = none) : mgE mk s := by
  obtain ⟨h1, h2⟩ := mdS_n h
  refine ⟨fun m p hu => ?_, fun m hm hr => ?_⟩
  · cases e : sIn s m with
    | true => exact orp_n h1 (I.1 m e).1 e hu
    | false => rw [I.2.1 m e] at hu; cases hu
  · cases e : sIn s m with
    | true => exact rng_n h2 hm e hr
    | false =>
      obtain ⟨n, hn⟩ := hr
      rw [itU_no (I.2.1 m e)] at hn
      cases hn
theorem mg_dep {mk R : Nat} {po : Nat → Int32} {b l r : mT} (H : mgH mk R b l r) {s : mgS} (I : mgI mk R po b l r s) (E : mgE mk s) (m : Nat) : ∃ d, d ≤ 300 ∧ itU (sUp s) d m = none ∧ ∀ j, j < d → itU (sUp s) j m ≠ none := by
  have ex : ∃ n, n ≤ 300 ∧ itU (sUp s) n m = none := by
    by_cases c : m < mk
    · refine ⟨300, Nat.le_refl _, ?_⟩
      cases e : itU (sUp s) 300 m with
      | none => rfl
      | some x =>
        have := noring_nd (mk := mk) (fun y p hy => (I.1 p (E.1 y p hy)).1) E.2 300 m x c e
        have := H.2.2.1
        omega
    · refine ⟨1, by omega, ?_⟩
      have : sIn s m = false := by
        cases e : sIn s m with
        | false => rfl
        | true => exact absurd (I.1 m e).1 c
      exact itU_no (I.2.1 m this) 0
  obtain ⟨n, n1, n2⟩ := ex
  obtain ⟨d, d1, d2, d3⟩ := leastN (Q := fun n => itU (sUp s) n m = none) (n + 1) n (Nat.lt_succ_self _) n2
  exact ⟨d, by omega, d2, d3⟩
theorem mg_rk {mk R : Nat} {po : Nat → Int32} {b l r : mT} (H : mgH mk R b l r) {s : mgS} (I : mgI mk R po b l r s) (E : mgE mk s) : ∃ rk : Nat → Nat, ∀ m p, sUp s m = some p → rk m < rk p := by
  refine ⟨fun m => 300 - Classical.choose (mg_dep H I E m), fun m p hu => ?_⟩
  obtain ⟨a1, a2, a3⟩ := Classical.choose_spec (mg_dep H I E m)
  obtain ⟨c1, c2, c3⟩ := Classical.choose_spec (mg_dep H I E p)
  show 300 - Classical.choose (mg_dep H I E m) < 300 - Classical.choose (mg_dep H I E p)
  generalize Classical.choose (mg_dep H I E m) = d at a1 a2 a3
  generalize Classical.choose (mg_dep H I E p) = f at c1 c2 c3
  cases d with
  | zero => cases a2
  | succ d =>
    rw [itU_s hu] at a2
    have h1 : f ≤ d := Classical.byContradiction (fun g => c3 d (by omega) a2)
    omega
theorem mgTr_wf {po : Nat → Int32} {mk R : Nat} {b l r : mT} (H : mgH mk R b l r) {s : mgS} (I : mgI mk R po b l r s) (E : mgE mk s) (lo : Nat → Bool) : tWF 300 (mgTr po mk R b l r s lo) := by
  have K := KF_OK H I lo
  obtain ⟨rk, hrk⟩ := mg_rk H I E
  have up : ∀ m p, sUp s m = some p → sIn s m = true := fun m p hu => by
    cases e : sIn s m with
    | true => rfl
    | false => rw [I.2.1 m e] at hu; cases hu
  refine ⟨⟨fun m hm => ?_, fun m p => ⟨fun h => ?_, fun h => ((K p).2 m).mpr h.2⟩, fun p => (K p).1, ⟨rk, fun m p h => hrk m p (((K p).2 m).mp h)⟩, fun m p _ hu => E.1 m p hu⟩, I.2.2.2.2.1.1, I.2.2.2.2.1.2, fun m hm nr hu => nr (I.2.2.2.1 m hm hu)⟩
  · have := (I.1 m hm).1
    have := H.2.2.1
    omega
  · have hu := ((K p).2 m).mp h
    exact ⟨up m p hu, hu⟩
theorem mgTr_lo {po : Nat → Int32} {mk R : Nat} {b l r : mT} {s : mgS} (lo : Nat → Bool) : tLo lo (mgTr po mk R b l r s lo) := fun p _ hp => by
  show (KF po mk b l r s lo p).Pairwise (· < ·)
  unfold KF stK
  rw [hp, if_pos rfl]
  exact ot_asc _ _ List.Pairwise.nil
end MG4
