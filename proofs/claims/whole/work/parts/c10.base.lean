section BASE
/-! which versions come behind which, as mathematics -/
def parV (vs : List mV) (u k : Nat) : Prop := ∃ e, vs[u]? = some e ∧ (e.2.1 = some k ∨ e.2.2 = some k)
def beB (vs : List mV) (i k : Nat) : Bool := decide (k = i) || rcB vs 30 i k
def bsN (P : Nat → Bool) : Nat → Option Nat
  | 0 => none
  | n + 1 => if P n = true then some n else bsN P n
theorem bsN_up {P : Nat → Bool} {a : Nat} : ∀ d, (∀ k, a ≤ k → P k = false) → bsN P (a + d) = bsN P a
  | 0, _ => rfl
  | d + 1, h => by
    show (if P (a + d) = true then some (a + d) else bsN P (a + d)) = bsN P a
    rw [if_neg (by rw [h (a + d) (by omega)]; exact Bool.false_ne_true)]
    exact bsN_up d h
theorem rc_eq {vs : List mV} (hv : vsO vs) (h3 : vs.length ≤ 30) {i k : Nat} {e : mV} (hi : vs[i]? = some e) : rcB vs 30 i k = (rcO (rcB vs 30) e.2.1 k || rcO (rcB vs 30) e.2.2 k) := by
  have hl := (List.getElem?_eq_some_iff.mp hi).1
  have g := hv i e hi
  show (match vs[i]? with
      | none => false
      | some e => rcO (rcB vs 29) e.2.1 k || rcO (rcB vs 29) e.2.2 k) = _
  rw [hi]
  show (rcO (rcB vs 29) e.2.1 k || rcO (rcB vs 29) e.2.2 k) = _
  rw [rcO_c (fun f hf => rcB_fuel hv 29 30 f k (by have := g.1 f hf; omega) (by have := g.1 f hf; omega)), rcO_c (o := e.2.2) (fun f hf => rcB_fuel hv 29 30 f k (by have := g.2 f hf; omega) (by have := g.2 f hf; omega))]
theorem rcO_iff {g : Nat → Nat → Bool} {o : Option Nat} {k : Nat} : rcO g o k = true ↔ ∃ f, o = some f ∧ (f = k ∨ g f k = true) := by
  cases o with
  | none => exact ⟨fun h => (by cases h), fun ⟨f, h, _⟩ => (by cases h)⟩
  | some f =>
    show (f == k || g f k) = true ↔ _
    rw [Bool.or_eq_true, beq_iff_eq]
    exact ⟨fun h => ⟨f, rfl, h⟩, fun ⟨f', h, h2⟩ => by rw [Option.some.inj h]; exact h2⟩
theorem rc_iff {vs : List mV} (hv : vsO vs) (h3 : vs.length ≤ 30) {i k : Nat} : rcB vs 30 i k = true ↔ ∃ f, parV vs i f ∧ (f = k ∨ rcB vs 30 f k = true) := by
  cases e : vs[i]? with
  | none =>
    refine ⟨fun h => ?_, fun ⟨f, ⟨e', h, _⟩, _⟩ => by rw [e] at h; cases h⟩
    have : rcB vs 30 i k = false := by
      show (match vs[i]? with
        | none => false
        | some e => rcO (rcB vs 29) e.2.1 k || rcO (rcB vs 29) e.2.2 k) = false
      rw [e]
    rw [this] at h
    cases h
  | some e0 =>
    rw [rc_eq hv h3 e, Bool.or_eq_true, rcO_iff, rcO_iff]
    constructor
    · rintro (⟨f, h1, h2⟩ | ⟨f, h1, h2⟩)
      · exact ⟨f, ⟨e0, e, Or.inl h1⟩, h2⟩
      · exact ⟨f, ⟨e0, e, Or.inr h1⟩, h2⟩
    · rintro ⟨f, ⟨e', h, h1⟩, h2⟩
      have h : vs[i]? = some e' := h
      rw [e] at h
      have := Option.some.inj h
      subst this
      exact h1.elim (fun z => Or.inl ⟨f, z, h2⟩) (fun z => Or.inr ⟨f, z, h2⟩)
theorem par_lt {vs : List mV} (hv : vsO vs) {u k : Nat} (h : parV vs u k) : k < u := by
  obtain ⟨e, h1, h2⟩ := h
  exact h2.elim ((hv u e h1).1 k) ((hv u e h1).2 k)
theorem rc_lt {vs : List mV} (hv : vsO vs) (h3 : vs.length ≤ 30) {k : Nat} : ∀ (N i : Nat), i < N → rcB vs 30 i k = true → k < i
  | 0, i, hi, h => by omega
  | N + 1, i, hi, h => by
    obtain ⟨f, h1, h2⟩ := (rc_iff hv h3).mp h
    have := par_lt hv h1
    rcases h2 with g | g
    · omega
    · have := rc_lt hv h3 N f (by omega) g
      omega
theorem rc_last {vs : List mV} (hv : vsO vs) (h3 : vs.length ≤ 30) {k : Nat} : ∀ (N i : Nat), i < N → (rcB vs 30 i k = true ↔ ∃ u, (u = i ∨ rcB vs 30 i u = true) ∧ parV vs u k)
  | 0, i, hi => by omega
  | N + 1, i, hi => by
    constructor
    · intro h
      obtain ⟨f, h1, h2⟩ := (rc_iff hv h3).mp h
      have := par_lt hv h1
      rcases h2 with g | g
      · exact ⟨i, Or.inl rfl, by rw [← g]; exact h1⟩
      · obtain ⟨u, u1, u2⟩ := (rc_last hv h3 N f (by omega)).mp g
        refine ⟨u, Or.inr ((rc_iff hv h3).mpr ⟨f, h1, ?_⟩), u2⟩
        exact u1.elim (fun z => Or.inl z.symm) Or.inr
    · rintro ⟨u, u1, u2⟩
      rcases u1 with g | g
      · rw [g] at u2
        exact (rc_iff hv h3).mpr ⟨k, u2, Or.inl rfl⟩
      · obtain ⟨f, h1, h2⟩ := (rc_iff hv h3).mp g
        have := par_lt hv h1
        refine (rc_iff hv h3).mpr ⟨f, h1, Or.inr ((rc_last hv h3 N f (by omega)).mpr ⟨u, ?_, u2⟩)⟩
        exact h2.elim (fun z => Or.inl z.symm) Or.inr
theorem be_iff {vs : List mV} {i k : Nat} : beB vs i k = true ↔ (k = i ∨ rcB vs 30 i k = true) := by
  unfold beB
  rw [Bool.or_eq_true, decide_eq_true_iff]
theorem be_le {vs : List mV} (hv : vsO vs) (h3 : vs.length ≤ 30) {i k : Nat} (h : beB vs i k = true) : k ≤ i := by
  rcases be_iff.mp h with g | g
  · omega
  · have := rc_lt hv h3 (i + 1) i (Nat.lt_succ_self _) g
    omega
/-- marked, when those from j on have been gone through -/
def mkM (vs : List mV) (i j k : Nat) : Prop := k = i ∨ ∃ u, j ≤ u ∧ (u = i ∨ rcB vs 30 i u = true) ∧ parV vs u k
theorem mkM_0 {vs : List mV} (hv : vsO vs) (h3 : vs.length ≤ 30) {i k : Nat} : mkM vs i 0 k ↔ beB vs i k = true := by
  rw [be_iff, rc_last hv h3 (i + 1) i (Nat.lt_succ_self _)]
  unfold mkM
  exact ⟨fun h => h.elim Or.inl (fun ⟨u, _, h2⟩ => Or.inr ⟨u, h2⟩), fun h => h.elim Or.inl (fun ⟨u, h2⟩ => Or.inr ⟨u, Nat.zero_le _, h2⟩)⟩
theorem mkM_v {vs : List mV} (hv : vsO vs) (h3 : vs.length ≤ 30) {i j : Nat} : mkM vs i (j + 1) j ↔ (j = i ∨ rcB vs 30 i j = true) := by
  rw [rc_last hv h3 (i + 1) i (Nat.lt_succ_self _)]
  unfold mkM
  exact ⟨fun h => h.elim Or.inl (fun ⟨u, _, h2⟩ => Or.inr ⟨u, h2⟩), fun h => h.elim Or.inl (fun ⟨u, h2⟩ => Or.inr ⟨u, by have := par_lt hv h2.2; omega, h2⟩)⟩
theorem mkM_s {vs : List mV} {i j k : Nat} : mkM vs i j k ↔ (mkM vs i (j + 1) k ∨ ((j = i ∨ rcB vs 30 i j = true) ∧ parV vs j k)) := by
  unfold mkM
  constructor
  · rintro (h | ⟨u, h1, h2⟩)
    · exact Or.inl (Or.inl h)
    · by_cases c : u = j
      · rw [c] at h2; exact Or.inr h2
      · exact Or.inl (Or.inr ⟨u, by omega, h2⟩)
  · rintro ((h | ⟨u, h1, h2⟩) | h)
    · exact Or.inl h
    · exact Or.inr ⟨u, by omega, h2⟩
    · exact Or.inr ⟨j, Nat.le_refl _, h⟩
/-! the class -/
def rcF (p : Nat) (F G : Nat → Nat → Int32) : Prop := ∀ c, c ≠ p + 98 → G c = F c
theorem p_rf21 {h : tpH} {p : Nat} (l9 : lHi h (p + 90)) {F0 : Nat → Nat → Int32} {vs : List mV} (hV : HiP F0 p vs) (hv : vsO vs) (h3 : vs.length ≤ 30) {i : Nat} (hi : i < vs.length) {R : tpH → Prop} (fin : ∀ F, rcF p F0 F → (∀ k, k < 30 → (F (p + 98) k = 1 ↔ beB vs i k = true)) → R (wI h F)) : ∀ (n j : Nat) (F : Nat → Nat → Int32), j ≤ i + 1 → j < n → rcF p F0 F → (∀ k, k < 30 → (F (p + 98) k = 1 ↔ mkM vs i j k)) → w_Hi_reachFrom_21 R n (p + 90) (nI j - 1) (wI h F)
  | 0, j, F, hj, hn, f, A => by omega
  | n + 1, 0, F, hj, hn, f, A => by
    refine ⟨fun _ => fin F f (fun k hk => (A k hk).trans (mkM_0 hv h3)), fun g => absurd (show nI 0 - 1 < (0 : Int32) by decide) g⟩
  | n + 1, j + 1, F, hj, hn, f, A => by
    obtain ⟨t9, ⟨a1, a2⟩, ⟨b1, b2⟩, ⟨c1, c2⟩, ⟨d1, d2⟩, _⟩ := id l9
    have ej : nI (j + 1) - 1 = nI j := nI_pred _
    have hjl : j < vs.length := by omega
    have eg := List.getElem?_eq_getElem hjl
    generalize vs[j] = e at eg
    rw [ej]
    refine ⟨fun g => absurd g (nI_pos (by omega)), fun _ => ⟨t9, p + 97, d1, d2.1, p_at (rwL_w d2) (by decide) ?_⟩⟩
    rw [rAt_n (by omega) (by decide), wI_I, ← Int32.sub_eq_add_neg]
    have nx : ∀ G, rcF p F0 G → (∀ k, k < 30 → (G (p + 98) k = 1 ↔ mkM vs i j k)) → w_Hi_reachFrom_21 R n (p + 90) (nI j - 1) (wI h G) := fun G fG AG => p_rf21 l9 hV hv h3 hi fin n j G (by omega) (by omega) fG AG
    have key := (A j (by omega)).trans (mkM_v hv h3)
    refine ⟨fun g => nx F f (fun k hk => (A k hk).trans ⟨fun z => mkM_s.mpr (Or.inl z), fun z => (mkM_s.mp z).elim id (fun z => absurd (key.mpr z.1) g)⟩), fun g => ⟨t9, p + 93, b1, b2.1, p_at (rwL_w b2) (by decide) ⟨p + 97, d1, d2.1, p_put (rwL_w d2) (by decide) ⟨t9, p + 95, c1, c2.1, p_at (rwL_w (rwL_w c2)) (by decide) ⟨p + 97, d1, d2.1, p_put (rwL_w (rwL_w d2)) (by decide) ?_⟩⟩⟩⟩⟩
    have hr := key.mp g
    obtain ⟨v1, v2, v3⟩ := hV.2 j e eg
    have e1 : rAt (F (p + 94)) 30 (nI j) = nO e.2.1 := by rw [rAt_n (by omega) (by decide), f _ (by omega)]; exact v2
    have hf := (hv j e eg).1
    have hs := (hv j e eg).2
    -- the two that are put
    have put : ∀ (G : Nat → Nat → Int32) (o : Option Nat), (∀ f, o = some f → f < 30) → rcF p G (rPut G (p + 98) 30 (nO o) 1) ∧ ∀ k, k < 30 → (rPut G (p + 98) 30 (nO o) 1 (p + 98) k = 1 ↔ (G (p + 98) k = 1 ∨ o = some k)) := fun G o ho => by
      cases o with
      | none =>
        have e0 : rPut G (p + 98) 30 (nO none) 1 = G := by
          unfold rPut
          rw [if_pos (show nO none < (0 : Int32) by decide)]
        rw [e0]
        exact ⟨fun _ _ => rfl, fun k hk => ⟨Or.inl, fun z => z.elim id (fun z => by cases z)⟩⟩
      | some y =>
        have y3 := ho y rfl
        rw [show nO (some y) = nI y from rfl, rPut_n y3 (by decide)]
        refine ⟨fun c hc => tpu_fa _ _ _ _ _ hc, fun k hk => ?_⟩
        by_cases c : k = y
        · rw [c, tpu_s]
          exact ⟨fun _ => Or.inr rfl, fun _ => rfl⟩
        · rw [tpu_o (by omega)]
          exact ⟨Or.inl, fun z => z.elim id (fun z => absurd (Option.some.inj z).symm c)⟩
    obtain ⟨p1, p2⟩ := put F e.2.1 (fun f hf' => by have := hf f hf'; omega)
    show w_Hi_reachFrom_21 R n (p + 90) (nI j - 1) (wI h (rPut (rPut F (p + 98) 30 (rAt (F (p + 94)) 30 (nI j)) 1) (p + 98) 30 (rAt (rPut F (p + 98) 30 (rAt (F (p + 94)) 30 (nI j)) 1 (p + 96)) 30 (nI j)) 1))
    rw [e1]
    generalize rPut F (p + 98) 30 (nO e.2.1) 1 = G at p1 p2
    have e2 : rAt (G (p + 96)) 30 (nI j) = nO e.2.2 := by rw [rAt_n (by omega) (by decide), p1 _ (by omega), f _ (by omega)]; exact v3
    rw [e2]
    obtain ⟨q1, q2⟩ := put G e.2.2 (fun f hf' => by have := hs f hf'; omega)
    generalize rPut G (p + 98) 30 (nO e.2.2) 1 = G' at q1 q2
    refine nx G' (fun c hc => by rw [q1 c hc, p1 c hc, f c hc]) (fun k hk => ?_)
    rw [q2 k hk, p2 k hk, A k hk, mkM_s (j := j)]
    constructor
    · rintro ((z | z) | z)
      · exact Or.inl z
      · exact Or.inr ⟨hr, e, eg, Or.inl z⟩
      · exact Or.inr ⟨hr, e, eg, Or.inr z⟩
    · rintro (z | ⟨_, e', z1, z2⟩)
      · exact Or.inl (Or.inl z)
      · rw [eg] at z1
        rw [← Option.some.inj z1] at z2
        exact z2.elim (fun z => Or.inl (Or.inr z)) Or.inr
theorem p_reaches {h : tpH} {p : Nat} (l9 : lHi h (p + 90)) {F0 : Nat → Nat → Int32} {vs : List mV} (hV : HiP F0 p vs) (hv : vsO vs) (h3 : vs.length ≤ 30) {i k : Nat} (hi : i < vs.length) (hk : k < 30) {R : Int32 → tpH → Prop} (kk : ∀ F, rcF p F0 F → R (if beB vs i k = true then 1 else 0) (wI h F)) : w_Hi_reaches (p + 90) (nI i) (nI k) (wI h F0) R := by
  obtain ⟨t9, ⟨a1, a2⟩, ⟨b1, b2⟩, ⟨c1, c2⟩, ⟨d1, d2⟩, _⟩ := id l9
  refine ⟨t9, t9, p + 97, d1, d2.1, ?_⟩
  show w_Ro_fill (p + 97) (nI 30) 0 (wI h F0) _
  refine p_fill (rwL_w d2) (by decide) (Nat.le_refl _) ⟨t9, p + 97, d1, d2.1, p_put (rwL_w (rwL_w d2)) (by decide) ⟨i + 2, ?_⟩⟩
  rw [wI_wI, wI_I, wI_I, wI_wI, rPut_n (by omega) (by decide)]
  have o1 : ∀ c, c ≠ p + 98 → tpu (rFill F0 (p + 98) 30 0) (p + 98) i 1 c = F0 c := fun c hc => by rw [tpu_fa _ _ _ _ _ hc]; exact rFill_ne hc
  have o2 : ∀ y, y < 30 → (tpu (rFill F0 (p + 98) 30 0) (p + 98) i 1 (p + 98) y = 1 ↔ mkM vs i (i + 1) y) := fun y hy => by
    by_cases c : y = i
    · rw [c, tpu_s]
      exact ⟨fun _ => Or.inl rfl, fun _ => rfl⟩
    · rw [tpu_o (by omega), rFill_in hy]
      refine ⟨fun z => absurd z (by decide), fun z => ?_⟩
      rcases z with z | ⟨u, u1, u2, u3⟩
      · exact absurd z c
      · rcases u2 with u2 | u2
        · omega
        · have := rc_lt hv h3 (i + 1) i (Nat.lt_succ_self _) u2
          omega
  have e1 : nI i = nI (i + 1) - 1 := (nI_pred _).symm
  show w_Hi_reachFrom_21 _ (i + 2) (p + 90) (nI i) (wI h (tpu (rFill F0 (p + 98) 30 0) (p + 98) i 1))
  rw [e1]
  refine p_rf21 l9 hV hv h3 hi (fun F f A => ⟨t9, p + 97, d1, d2.1, p_at (rwL_w d2) (by decide) ?_⟩) (i + 2) (i + 1) _ (Nat.le_refl _) (by omega) o1 o2
  rw [rAt_n hk (by decide), wI_I]
  have kv := kk F f
  have A := A k hk
  cases c : beB vs i k with
  | true =>
    rw [c, if_pos rfl] at kv
    exact ⟨fun g => absurd (A.mpr c) g, fun _ => kv⟩
  | false =>
    rw [c, if_neg Bool.false_ne_true] at kv
    exact ⟨fun _ => kv, fun g => by rw [A.mp g] at c; cases c⟩
def baP (vs : List mV) (i j k : Nat) : Bool := beB vs i k && beB vs j k
theorem p_baseOf6 {h : tpH} {p : Nat} (l9 : lHi h (p + 90)) {F0 : Nat → Nat → Int32} {vs : List mV} (hV : HiP F0 p vs) (hv : vsO vs) (h3 : vs.length ≤ 30) {i j : Nat} (hi : i < vs.length) (hj : j < vs.length) {R : Int32 → tpH → Prop} (kk : ∀ F, rcF p F0 F → R (nO (bsN (baP vs i j) vs.length)) (wI h F)) : ∀ (n m : Nat) (F : Nat → Nat → Int32), m ≤ 30 → m < n → bsN (baP vs i j) m = bsN (baP vs i j) vs.length → rcF p F0 F → w_Hi_baseOf_6 R n (p + 90) (nI i) (nI j) (nI m - 1) (wI h F)
  | 0, m, F, h1, h2, e, f => by omega
  | n + 1, 0, F, h1, h2, e, f => by
    have kv := kk F f
    rw [← e] at kv
    exact ⟨fun _ => kv, fun g => absurd (show nI 0 - 1 < (0 : Int32) by decide) g⟩
  | n + 1, m + 1, F, h1, h2, e, f => by
    have ej : nI (m + 1) - 1 = nI m := nI_pred _
    have fV : ∀ G, rcF p F0 G → HiP G p vs := fun G fG => HiP_fr hV (by rw [fG _ (by omega)]) (fun c c1 c2 => fG c (by omega))
    have es : bsN (baP vs i j) (m + 1) = if baP vs i j m = true then some m else bsN (baP vs i j) m := rfl
    rw [es] at e
    have nx : baP vs i j m = false → ∀ G, rcF p F0 G → w_Hi_baseOf_6 R n (p + 90) (nI i) (nI j) (nI m + -1) (wI h G) := fun g G fG => by
      rw [← Int32.sub_eq_add_neg]
      refine p_baseOf6 l9 hV hv h3 hi hj kk n m G (by omega) (by omega) ?_ fG
      rw [g, if_neg Bool.false_ne_true] at e
      exact e
    rw [ej]
    refine ⟨fun g => absurd g (nI_pos (by omega)), fun _ => ⟨l9.1, p_reaches l9 (fV F f) hv h3 hi (by omega) (fun G fG => ?_)⟩⟩
    have fG' : rcF p F0 G := fun c hc => (fG c hc).trans (f c hc)
    cases c1 : beB vs i m with
    | false =>
      rw [if_neg Bool.false_ne_true]
      exact ⟨fun _ => nx (by unfold baP; rw [c1]; rfl) G fG', fun g => absurd rfl g⟩
    | true =>
      rw [if_pos rfl]
      refine ⟨fun g => absurd g (by decide), fun _ => ⟨l9.1, p_reaches l9 (fV G fG') hv h3 hj (by omega) (fun G2 fG2 => ?_)⟩⟩
      have fG2' : rcF p F0 G2 := fun c hc => (fG2 c hc).trans (fG' c hc)
      cases c2 : beB vs j m with
      | false =>
        rw [if_neg Bool.false_ne_true]
        exact ⟨fun _ => nx (by unfold baP; rw [c1, c2]; rfl) G2 fG2', fun g => absurd rfl g⟩
      | true =>
        rw [if_pos rfl]
        have kv := kk G2 fG2'
        rw [← e, if_pos (show baP vs i j m = true by unfold baP; rw [c1, c2]; rfl)] at kv
        exact ⟨fun g => absurd g (by decide), fun _ => kv⟩
theorem p_baseOf {h : tpH} {p : Nat} (l9 : lHi h (p + 90)) {F0 : Nat → Nat → Int32} {vs : List mV} (hV : HiP F0 p vs) (hv : vsO vs) (h3 : vs.length ≤ 30) {i j : Nat} (hi : i < vs.length) (hj : j < vs.length) {R : Int32 → tpH → Prop} (kk : ∀ F, rcF p F0 F → R (nO (bsN (baP vs i j) vs.length)) (wI h F)) : w_Hi_baseOf (p + 90) (nI i) (nI j) (wI h F0) R := by
  refine ⟨32, ?_⟩
  have e : (if nI j < nI i then nI j else nI i) = nI ((if j < i then j else i) + 1) - 1 := by
    rw [show nI ((if j < i then j else i) + 1) - 1 = nI (if j < i then j else i) from nI_pred _]
    by_cases c : j < i
    · rw [if_pos c, if_pos ((nI_lt_iff (by omega) (by omega)).mpr c)]
    · rw [if_neg c, if_neg (fun g => c ((nI_lt_iff (by omega) (by omega)).mp g))]
  rw [e]
  have hm : (if j < i then j else i) < vs.length := by
    by_cases c : j < i
    · rw [if_pos c]; exact hj
    · rw [if_neg c]; exact hi
  have no : ∀ k, (if j < i then j else i) + 1 ≤ k → baP vs i j k = false := fun k hk => by
    refine Bool.eq_false_iff.mpr (fun g => ?_)
    unfold baP at g
    rw [Bool.and_eq_true] at g
    have g1 := be_le hv h3 g.1
    have g2 := be_le hv h3 g.2
    by_cases c : j < i
    · rw [if_pos c] at hk; omega
    · rw [if_neg c] at hk; omega
  obtain ⟨d, hd⟩ : ∃ d, vs.length = (if j < i then j else i) + 1 + d := ⟨vs.length - ((if j < i then j else i) + 1), by omega⟩
  refine p_baseOf6 l9 hV hv h3 hi hj kk 32 _ F0 (by omega) (by omega) ?_ (fun _ _ => rfl)
  rw [hd]
  exact (bsN_up d no).symm
end BASE
