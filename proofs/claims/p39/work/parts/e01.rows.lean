section ROWMATH
/-! the law's own rows: a tree is a row of entries (mark, value, parent), packed in one number each -/
abbrev lE : Type := Nat × Nat × Option Nat
def lpc (o : Option Nat) : Nat := match o with
  | none => 0
  | some p => p + 1
def lcd (e : lE) : Nat := e.1 + 64 * e.2.1 + 8192 * lpc e.2.2
def lOK (e : lE) : Prop := e.1 < 40 ∧ e.2.1 < 128 ∧ ∀ p, e.2.2 = some p → p < 40
theorem lpc_le {e : lE} (H : lOK e) : lpc e.2.2 ≤ 40 := by
  cases c : e.2.2 with
  | none => exact Nat.zero_le _
  | some p => exact H.2.2 p c
theorem lcd_lt {e : lE} (H : lOK e) : lcd e < 400000 := by
  have h1 := H.1
  have h2 := H.2.1
  have h3 := lpc_le H
  unfold lcd
  omega
theorem nI_div {a b : Nat} (ha : a < 2 ^ 31) (hb : b < 2 ^ 31) : nI a / nI b = nI (a / b) := by
  refine Int32.toInt_inj.mp ?_
  have h1 : a / b ≤ a := Nat.div_le_self a b
  have e : Int.tdiv (a : Int) (b : Int) = ((a / b : Nat) : Int) := rfl
  rw [Int32.toInt_div, nI_toInt ha, nI_toInt hb, e, nI_toInt (by omega)]
  generalize a / b = c at h1
  exact Int.bmod_eq_of_le (by omega) (by omega)
theorem nI_rem {a b : Nat} (ha : a < 2 ^ 31) (hb : b < 2 ^ 31) : nI a - nI a / nI b * nI b = nI (a % b) := by
  have h1 : a / b * b ≤ a := Nat.div_mul_le_self a b
  rw [nI_div ha hb, mI_mul, nI_sub2 h1]
  congr 1
  have h : b * (a / b) + a % b = a := Nat.div_add_mod a b
  rw [Nat.mul_comm] at h
  omega
theorem lcd_m {e : lE} (H : lOK e) : nI (lcd e) - nI (lcd e) / 64 * 64 = nI e.1 := by
  have h1 := H.1
  have h2 := lcd_lt H
  rw [show (64 : Int32) = nI 64 from rfl, nI_rem (by omega) (by decide)]
  congr 1
  unfold lcd
  omega
theorem lcd_v {e : lE} (H : lOK e) : nI (lcd e) / 64 - nI (lcd e) / 64 / 128 * 128 = nI e.2.1 := by
  have h1 := H.1
  have h2 := lcd_lt H
  have h3 := H.2.1
  rw [show (64 : Int32) = nI 64 from rfl, show (128 : Int32) = nI 128 from rfl, nI_div (by omega) (by decide), nI_rem (by omega) (by decide)]
  congr 1
  unfold lcd
  omega
theorem lcd_p {e : lE} (H : lOK e) : nI (lcd e) / 8192 - 1 = nO e.2.2 := by
  have h1 := H.1
  have h2 := lcd_lt H
  have h3 := H.2.1
  have e1 : lcd e / 8192 = lpc e.2.2 := by unfold lcd; omega
  rw [show (8192 : Int32) = nI 8192 from rfl, nI_div (by omega) (by decide), e1]
  cases e.2.2 with
  | none => rfl
  | some p => exact nI_pred p
theorem nI_m1 (k : Nat) : nI (k + 1) + -1 = nI k := by
  rw [← Int32.sub_eq_add_neg]
  exact nI_pred k
/-! things laid in a row from a place on -/
def rwG {α : Type} (g : α → Int32) (F : Nat → Nat → Int32) (r s : Nat) (K : List α) : Prop := ∀ (i : Nat) (x : α), K[i]? = some x → F r (s + i) = g x
theorem rwG_nil {α : Type} (g : α → Int32) (F : Nat → Nat → Int32) (r s : Nat) : rwG g F r s [] := fun i x hi => by simp at hi
theorem rwG_cons {α : Type} {g : α → Int32} {F : Nat → Nat → Int32} {r s : Nat} {x : α} {K : List α} : rwG g F r s (x :: K) ↔ F r s = g x ∧ rwG g F r (s + 1) K := by
  constructor
  · intro H
    refine ⟨H 0 x rfl, fun i y hi => ?_⟩
    have := H (i + 1) y hi
    rw [show s + 1 + i = s + (i + 1) by omega]
    exact this
  · intro H i y hi
    match i, hi with
    | 0, hi => rw [← Option.some.inj hi]; exact H.1
    | i + 1, hi => rw [show s + (i + 1) = s + 1 + i by omega]; exact H.2 i y hi
theorem rwG_app {α : Type} {g : α → Int32} {F : Nat → Nat → Int32} {r : Nat} {B : List α} : ∀ {A : List α} {s : Nat}, rwG g F r s (A ++ B) ↔ rwG g F r s A ∧ rwG g F r (s + A.length) B
  | [], s => ⟨fun H => ⟨rwG_nil _ _ _ _, H⟩, fun H => H.2⟩
  | x :: A, s => by
    rw [List.cons_append, rwG_cons, rwG_cons, rwG_app, and_assoc, List.length_cons, show s + 1 + A.length = s + (A.length + 1) by omega]
theorem rwG_k {α : Type} {g : α → Int32} {F G : Nat → Nat → Int32} {r s : Nat} {K : List α} (H : rwG g F r s K) (k : ∀ j, s ≤ j → j < s + K.length → G r j = F r j) : rwG g G r s K := fun i x hi => by
  have := (List.getElem?_eq_some_iff.mp hi).1
  rw [k _ (by omega) (by omega)]
  exact H i x hi
theorem ex_at {α : Type} {L : List α} {i : Nat} (h : i < L.length) : ∃ e, L[i]? = some e := ⟨L[i]'h, List.getElem?_eq_getElem h⟩
theorem ex_snoc {α : Type} {L : List α} (h : L ≠ []) : ∃ A e, L = A ++ [e] := ⟨L.dropLast, L.getLast h, (List.dropLast_concat_getLast h).symm⟩
/-! the row of a tree -/
def iA (h : tpH) (t n : Nat) : Prop := hT h t = 15 ∧ hL h t = n
def rwP (F : Nat → Nat → Int32) (t : Nat) (L : List lE) : Prop := F t 0 = nI L.length ∧ L.length ≤ 40 ∧ (∀ e ∈ L, lOK e) ∧ rwG (fun e => nI (lcd e)) F t 1 L
theorem rwP_k {F G : Nat → Nat → Int32} {t : Nat} {L : List lE} (H : rwP F t L) (e : G t = F t) : rwP G t L := ⟨by rw [e]; exact H.1, H.2.1, H.2.2.1, rwG_k H.2.2.2 (fun j _ _ => by rw [e])⟩
theorem vp0 {n : Nat} (h : 0 < n) (h2 : n < 2 ^ 31) : vp_in (0 : Int32) n := vp_in_nI (n := 0) h h2
theorem p_mark {h : tpH} {t i : Nat} {L : List lE} {e : lE} {R : Int32 → tpH → Prop} (A : iA h t 41) (P : rwP (hI h) t L) (hi : L[i]? = some e) (kk : R (nI e.1) h) : w_Lw_mark (some t) (nI i) h R := by
  have hil := (List.getElem?_eq_some_iff.mp hi).1
  have h40 := P.2.1
  refine ⟨t, rfl, A.1, ?_⟩
  have e1 : (1 : Int32) + nI i = nI (1 + i) := nI_add 1 i
  rw [e1, A.2, nI_clamp (by omega), P.2.2.2 i e hi, lcd_m (P.2.2.1 e (List.mem_of_getElem? hi))]
  exact ⟨vp_in_nI (by omega) (by decide), kk⟩
theorem p_par {h : tpH} {t i : Nat} {L : List lE} {e : lE} {R : Int32 → tpH → Prop} (A : iA h t 41) (P : rwP (hI h) t L) (hi : L[i]? = some e) (kk : R (nO e.2.2) h) : w_Lw_parent (some t) (nI i) h R := by
  have hil := (List.getElem?_eq_some_iff.mp hi).1
  have h40 := P.2.1
  refine ⟨t, rfl, A.1, ?_⟩
  have e1 : (1 : Int32) + nI i = nI (1 + i) := nI_add 1 i
  rw [e1, A.2, nI_clamp (by omega), P.2.2.2 i e hi, lcd_p (P.2.2.1 e (List.mem_of_getElem? hi))]
  exact ⟨vp_in_nI (by omega) (by decide), kk⟩
theorem p_val {h : tpH} {t i : Nat} {L : List lE} {e : lE} {R : Int32 → tpH → Prop} (A : iA h t 41) (P : rwP (hI h) t L) (hi : L[i]? = some e) (kk : R (nI e.2.1) h) : w_Lw_value (some t) (nI i) h R := by
  have hil := (List.getElem?_eq_some_iff.mp hi).1
  have h40 := P.2.1
  refine ⟨t, rfl, A.1, ?_⟩
  have e1 : (1 : Int32) + nI i = nI (1 + i) := nI_add 1 i
  rw [e1, A.2, nI_clamp (by omega), P.2.2.2 i e hi, lcd_v (P.2.2.1 e (List.mem_of_getElem? hi))]
  exact ⟨vp_in_nI (by omega) (by decide), kk⟩
theorem p_place4 {h : tpH} {t m : Nat} {L : List lE} {R : Int32 → tpH → Prop} (A : iA h t 41) (P : rwP (hI h) t L) (hm : m < 2 ^ 31) (k1 : ∀ (i : Nat) (e : lE), L[i]? = some e → e.1 = m → R (nI i) h) (k0 : (∀ e ∈ L, e.1 ≠ m) → R (-1) h) :
    ∀ (n i : Nat) (v : Int32), i ≤ L.length → L.length < n + i → ((v = -1 ∧ ∀ (j : Nat) (e : lE), j < i → L[j]? = some e → e.1 ≠ m) ∨ ∃ (j : Nat) (e : lE), L[j]? = some e ∧ e.1 = m ∧ v = nI j) → w_Lw_place_4 R n (some t) (nI m) v (nI i) h
  | 0, i, v, h1, h2, _ => by omega
  | n + 1, i, v, h1, h2, hv => by
    have h40 := P.2.1
    refine ⟨t, rfl, A.1, by rw [A.2]; exact vp0 (by decide) (by decide), ?_⟩
    rw [show (0 : Int32).toNatClampNeg = 0 from rfl, P.1, nI_le_iff (by omega) (by omega)]
    refine ⟨fun g => ?_, fun g => ?_⟩
    · rcases hv with ⟨rfl, hv⟩ | ⟨j, e, q1, q2, rfl⟩
      · exact k0 (fun e he => by
          obtain ⟨j, hj⟩ := List.mem_iff_getElem?.mp he
          exact hv j e (by have := (List.getElem?_eq_some_iff.mp hj).1; omega) hj)
      · exact k1 j e q1 q2
    · obtain ⟨e, hi⟩ : ∃ e, L[i]? = some e := ex_at (by omega)
      have he := (P.2.2.1 e (List.mem_of_getElem? hi)).1
      refine p_mark A P hi ⟨fun c => ?_, fun c => ?_⟩
      · rw [nI_1]
        refine p_place4 A P hm k1 k0 n (i + 1) v (by omega) (by omega) ?_
        rcases hv with ⟨e0, hv⟩ | hv
        · refine Or.inl ⟨e0, fun j e' hj he' => ?_⟩
          by_cases c2 : j = i
          · subst c2
            rw [hi] at he'
            rw [← Option.some.inj he']
            exact fun q => c (by rw [q])
          · exact hv j e' (by omega) he'
        · exact Or.inr hv
      · rw [nI_1]
        exact p_place4 A P hm k1 k0 n (i + 1) (nI i) (by omega) (by omega) (Or.inr ⟨i, e, hi, nI_inj (by omega) hm c, rfl⟩)
theorem p_place {h : tpH} {t m : Nat} {L : List lE} {R : Int32 → tpH → Prop} (A : iA h t 41) (P : rwP (hI h) t L) (hm : m < 2 ^ 31) (k1 : ∀ (i : Nat) (e : lE), L[i]? = some e → e.1 = m → R (nI i) h) (k0 : (∀ e ∈ L, e.1 ≠ m) → R (-1) h) : w_Lw_place (some t) (nI m) h R :=
  ⟨L.length + 1, p_place4 A P hm k1 k0 (L.length + 1) 0 (-1) (Nat.zero_le _) (by omega) (Or.inl ⟨rfl, fun j e hj => absurd hj (Nat.not_lt_zero _)⟩)⟩
/-! what a row says of its marks -/
def rwT (L : List lE) (I : Nat → Bool) (W : Nat → Int32) (U : Nat → Option Nat) : Prop := (∀ m, I m = true ↔ ∃ e ∈ L, e.1 = m) ∧ ∀ e ∈ L, W e.1 = nI e.2.1 ∧ U e.1 = e.2.2
def rPa (I : Nat → Bool) (U : Nat → Option Nat) (m : Nat) : Int32 := if I m = true then nO (U m) else -2
def rVa (I : Nat → Bool) (W : Nat → Int32) (m : Nat) : Int32 := if I m = true then W m else -1
theorem p_pOf {h : tpH} {t m : Nat} {L : List lE} {I : Nat → Bool} {W : Nat → Int32} {U : Nat → Option Nat} {R : Int32 → tpH → Prop} (A : iA h t 41) (P : rwP (hI h) t L) (T : rwT L I W U) (hm : m < 2 ^ 31) (kk : R (rPa I U m) h) : w_Lw_parentOf (some t) (nI m) h R := by
  refine p_place A P hm (fun i e hi em => ⟨fun _ => p_par A P hi ?_, fun g => absurd (nI_pos' ?_) g⟩) (fun n0 => ⟨fun g => absurd g (by decide), fun _ => ?_⟩)
  · have he := List.mem_of_getElem? hi
    unfold rPa at kk
    rw [if_pos ((T.1 m).mpr ⟨e, he, em⟩), ← em, (T.2 e he).2] at kk
    exact kk
  · have := (List.getElem?_eq_some_iff.mp hi).1
    have := P.2.1
    omega
  · unfold rPa at kk
    rw [if_neg (fun g => by obtain ⟨e, h1, h2⟩ := (T.1 m).mp g; exact n0 e h1 h2)] at kk
    exact kk
theorem p_vOf {h : tpH} {t m : Nat} {L : List lE} {I : Nat → Bool} {W : Nat → Int32} {U : Nat → Option Nat} {R : Int32 → tpH → Prop} (A : iA h t 41) (P : rwP (hI h) t L) (T : rwT L I W U) (hm : m < 2 ^ 31) (kk : R (rVa I W m) h) : w_Lw_valueOf (some t) (nI m) h R := by
  refine p_place A P hm (fun i e hi em => ⟨fun _ => p_val A P hi ?_, fun g => absurd (nI_pos' ?_) g⟩) (fun n0 => ⟨fun g => absurd g (by decide), fun _ => ?_⟩)
  · have he := List.mem_of_getElem? hi
    unfold rVa at kk
    rw [if_pos ((T.1 m).mpr ⟨e, he, em⟩), ← em, (T.2 e he).1] at kk
    exact kk
  · have := (List.getElem?_eq_some_iff.mp hi).1
    have := P.2.1
    omega
  · unfold rVa at kk
    rw [if_neg (fun g => by obtain ⟨e, h1, h2⟩ := (T.1 m).mp g; exact n0 e h1 h2)] at kk
    exact kk
end ROWMATH
