section VERS
theorem nI_or (a b : Nat) : nI a ||| nI b = nI (a ||| b) := by
  apply Int32.toBitVec_inj.mp
  rw [Int32.toBitVec_or]
  show BitVec.ofNat 32 a ||| BitVec.ofNat 32 b = BitVec.ofNat 32 (a ||| b)
  apply BitVec.eq_of_toNat_eq
  rw [BitVec.toNat_or, BitVec.toNat_ofNat, BitVec.toNat_ofNat, BitVec.toNat_ofNat, Nat.or_mod_two_pow]
theorem nI_sh : ∀ f : Nat, f < 30 → (1 : Int32) <<< (nI f &&& 31) = nI (2 ^ f) := by decide
def vsO (vs : List mV) : Prop := ∀ (i : Nat) (e : mV), vs[i]? = some e → (∀ f, e.2.1 = some f → f < i) ∧ ∀ s, e.2.2 = some s → s < i
theorem rcO_c {g g' : Nat → Nat → Bool} {o : Option Nat} {k : Nat} (h : ∀ f, o = some f → g f k = g' f k) : rcO g o k = rcO g' o k := by
  cases o with
  | none => rfl
  | some f => show (f == k || g f k) = (f == k || g' f k); rw [h f rfl]
theorem rcB_fuel {vs : List mV} (hv : vsO vs) : ∀ (m m' i k : Nat), i < m → i < m' → rcB vs m i k = rcB vs m' i k
  | 0, _, i, k, h, _ => by omega
  | m + 1, 0, i, k, _, h => by omega
  | m + 1, m' + 1, i, k, h1, h2 => by
    show (match vs[i]? with
      | none => false
      | some e => rcO (rcB vs m) e.2.1 k || rcO (rcB vs m) e.2.2 k) = (match vs[i]? with
      | none => false
      | some e => rcO (rcB vs m') e.2.1 k || rcO (rcB vs m') e.2.2 k)
    cases e : vs[i]? with
    | none => rfl
    | some e0 =>
      have g := hv i e0 e
      show (rcO (rcB vs m) e0.2.1 k || rcO (rcB vs m) e0.2.2 k) = (rcO (rcB vs m') e0.2.1 k || rcO (rcB vs m') e0.2.2 k)
      rw [rcO_c (fun f hf => rcB_fuel hv m m' f k (by have := g.1 f hf; omega) (by have := g.1 f hf; omega)), rcO_c (o := e0.2.2) (fun f hf => rcB_fuel hv m m' f k (by have := g.2 f hf; omega) (by have := g.2 f hf; omega))]
theorem rcB_app {vs : List mV} (hv : vsO vs) (e1 : mV) : ∀ (m i k : Nat), i < vs.length → rcB (vs ++ [e1]) m i k = rcB vs m i k
  | 0, i, k, h => rfl
  | m + 1, i, k, h => by
    show (match (vs ++ [e1])[i]? with
      | none => false
      | some e => rcO (rcB (vs ++ [e1]) m) e.2.1 k || rcO (rcB (vs ++ [e1]) m) e.2.2 k) = (match vs[i]? with
      | none => false
      | some e => rcO (rcB vs m) e.2.1 k || rcO (rcB vs m) e.2.2 k)
    rw [List.getElem?_append_left h]
    cases e : vs[i]? with
    | none => rfl
    | some e0 =>
      have g := hv i e0 e
      show (rcO (rcB (vs ++ [e1]) m) e0.2.1 k || rcO (rcB (vs ++ [e1]) m) e0.2.2 k) = (rcO (rcB vs m) e0.2.1 k || rcO (rcB vs m) e0.2.2 k)
      rw [rcO_c (fun f hf => rcB_app hv e1 m f k (by have := g.1 f hf; omega)), rcO_c (o := e0.2.2) (fun f hf => rcB_app hv e1 m f k (by have := g.2 f hf; omega))]
theorem vsO_app {vs : List mV} (hv : vsO vs) {e1 : mV} (h1 : ∀ f, e1.2.1 = some f → f < vs.length) (h2 : ∀ f, e1.2.2 = some f → f < vs.length) : vsO (vs ++ [e1]) := fun i e hi => by
  by_cases c : i < vs.length
  · rw [List.getElem?_append_left c] at hi
    exact hv i e hi
  · rw [List.getElem?_append_right (by omega)] at hi
    have hl := (List.getElem?_eq_some_iff.mp hi).1
    have ei : i = vs.length := by simp at hl; omega
    subst ei
    rw [Nat.sub_self] at hi
    simp only [List.getElem?_cons_zero, Option.some.injEq] at hi
    subst hi
    exact ⟨h1, h2⟩
/-- what a parent adds to what is behind -/
theorem bh_or {F : Nat → Nat → Int32} {Q q : Nat} {vs : List mV} (hV : VsM F Q q vs) (h3 : vs.length ≤ 30) (o : Option Nat) (ho : ∀ f, o = some f → f < vs.length) : ∃ v : Nat, (match o with | none => (0 : Int32) | some f => F (q + 23) f ||| ((1 : Int32) <<< (nI f &&& 31))) = nI v ∧ v < 2 ^ 30 ∧ ∀ k, v.testBit k = rcO (rcB vs 30) o k := by
  cases o with
  | none => exact ⟨0, rfl, by decide, fun k => by rw [Nat.zero_testBit]; rfl⟩
  | some f =>
    have hf := ho f rfl
    obtain ⟨_, _, _, v, v1, v2, v3⟩ := hV.2 f _ (List.getElem?_eq_getElem hf)
    refine ⟨v ||| 2 ^ f, ?_, Nat.or_lt_two_pow v2 (Nat.pow_lt_pow_of_lt (by decide) (by omega)), fun k => ?_⟩
    · show F (q + 23) f ||| ((1 : Int32) <<< (nI f &&& 31)) = _
      rw [v1, nI_sh f (by omega), nI_or]
    · rw [Nat.testBit_or, v3, Nat.testBit_two_pow]
      show _ = (f == k || rcB vs 30 f k)
      rw [Bool.or_comm]
      congr 1
def vrFr (Q q n : Nat) (F G : Nat → Nat → Int32) : Prop := ∀ b j, ¬ ((b = Q ∧ j = 26) ∨ (q + 20 ≤ b ∧ b ≤ q + 23 ∧ j = n)) → G b j = F b j
theorem p_Md_newVersion {h : tpH} {Q q : Nat} (M : lMd h Q q) (hQ : Q < q) {F : Nat → Nat → Int32} {vs : List mV} (hV : VsM F Q q vs) (h3 : vs.length < 30) (hv : vsO vs) {x : Nat} {f s : Option Nat} (hf : ∀ a, f = some a → a < vs.length) (hs : ∀ a, s = some a → a < vs.length) {R : Int32 → tpH → Prop} (kk : ∀ G, VsM G Q q (vs ++ [(x, f, s)]) → vrFr Q q vs.length F G → R (nI vs.length) (wI h G)) : w_Md_newVersion Q (nI x) (nO f) (nO s) (wI h F) R := by
  obtain ⟨a1, a2, a3⟩ := md_f M (j := 20) (kd := 15) (n := 30) (f := 27) (by decide)
  obtain ⟨b1, b2, b3⟩ := md_f M (j := 21) (kd := 15) (n := 30) (f := 28) (by decide)
  obtain ⟨c1, c2, c3⟩ := md_f M (j := 22) (kd := 15) (n := 30) (f := 29) (by decide)
  obtain ⟨d1, d2, d3⟩ := md_f M (j := 23) (kd := 15) (n := 30) (f := 30) (by decide)
  have vn : ∀ m, m < 30 → vp_in (nI m) 30 := fun m hm => vp_in_nI hm (by decide)
  have hn := vn vs.length h3
  obtain ⟨v, v1, v2, v3⟩ := bh_or hV (by omega) f hf
  obtain ⟨w, w1, w2, w3⟩ := bh_or hV (by omega) s hs
  generalize hF3 : tpu (tpu (tpu F (q + 20) vs.length (nI x)) (q + 21) vs.length (nO f)) (q + 22) vs.length (nO s) = F3
  have fin : R (nI vs.length) (wI h (tpu (tpu (tpu F3 (q + 23) vs.length (nI v)) (q + 23) vs.length (nI v ||| nI w)) Q 26 (nI (vs.length + 1)))) := by
    refine kk _ ⟨by rw [tpu_s, List.length_append]; rfl, fun i e hi => ?_⟩ (fun b j hb => ?_)
    · have eo : ∀ b, q + 20 ≤ b → b ≤ q + 23 → ∀ i, i ≠ vs.length → tpu (tpu (tpu F3 (q + 23) vs.length (nI v)) (q + 23) vs.length (nI v ||| nI w)) Q 26 (nI (vs.length + 1)) b i = F b i := fun b b1 b2 i hi => by
        rw [← hF3]
        simp only [tpu]
        rw [if_neg (by omega), if_neg (by omega), if_neg (by omega), if_neg (by omega), if_neg (by omega), if_neg (by omega)]
      by_cases c : i < vs.length
      · rw [List.getElem?_append_left c] at hi
        obtain ⟨g1, g2, g3, u, g4, g5, g6⟩ := hV.2 i e hi
        rw [eo (q + 20) (by omega) (by omega) i (by omega), eo (q + 21) (by omega) (by omega) i (by omega), eo (q + 22) (by omega) (by omega) i (by omega), eo (q + 23) (by omega) (by omega) i (by omega)]
        exact ⟨g1, g2, g3, u, g4, g5, fun k => by rw [g6, rcB_app hv _ _ _ _ c]⟩
      · rw [List.getElem?_append_right (by omega)] at hi
        have hl := (List.getElem?_eq_some_iff.mp hi).1
        have ei : i = vs.length := by simp at hl; omega
        subst ei
        rw [Nat.sub_self] at hi
        simp only [List.getElem?_cons_zero, Option.some.injEq] at hi
        subst hi
        have e0 : ∀ b, b ≠ q + 23 → b ≠ Q → tpu (tpu (tpu F3 (q + 23) vs.length (nI v)) (q + 23) vs.length (nI v ||| nI w)) Q 26 (nI (vs.length + 1)) b = F3 b := fun b n1 n2 => by
          rw [tpu_fa _ _ _ _ _ n2, tpu_fa _ _ _ _ _ n1, tpu_fa _ _ _ _ _ n1]
        refine ⟨?_, ?_, ?_, v ||| w, ?_, Nat.or_lt_two_pow v2 w2, fun k => ?_⟩
        · rw [e0 _ (by omega) (by omega), ← hF3, tpu_a _ _ _ _ _ _ (by omega), tpu_a _ _ _ _ _ _ (by omega), tpu_s]
        · rw [e0 _ (by omega) (by omega), ← hF3, tpu_a _ _ _ _ _ _ (by omega), tpu_s]
        · rw [e0 _ (by omega) (by omega), ← hF3, tpu_s]
        · rw [tpu_a _ _ _ _ _ _ (by omega), tpu_s, nI_or]
        · have hv' : vsO (vs ++ [(x, f, s)]) := vsO_app hv hf hs
          rw [Nat.testBit_or, v3, w3]
          show _ = (match (vs ++ [(x, f, s)])[vs.length]? with
            | none => false
            | some e => rcO (rcB (vs ++ [(x, f, s)]) 29) e.2.1 k || rcO (rcB (vs ++ [(x, f, s)]) 29) e.2.2 k)
          rw [List.getElem?_append_right (Nat.le_refl _), Nat.sub_self]
          show _ = (rcO (rcB (vs ++ [(x, f, s)]) 29) f k || rcO (rcB (vs ++ [(x, f, s)]) 29) s k)
          have eq : ∀ o : Option Nat, (∀ a, o = some a → a < vs.length) → rcO (rcB vs 30) o k = rcO (rcB (vs ++ [(x, f, s)]) 29) o k := fun o ho => rcO_c (fun a ha => by
            rw [rcB_app hv _ _ _ _ (ho a ha)]
            exact rcB_fuel hv 30 29 a k (by have := ho a ha; omega) (by have := ho a ha; omega))
          rw [eq f hf, eq s hs]
    · rw [← hF3]
      simp only [tpu]
      rw [if_neg (by omega), if_neg (by omega), if_neg (by omega), if_neg (by omega), if_neg (by omega), if_neg (by omega)]
  have last : ∀ t0 : Int32, t0 = nI w → w_Md_newVersion_83 R Q (nI vs.length) t0 (nI v) (nI vs.length) (some (q + 23)) (wI h (tpu F3 (q + 23) vs.length (nI v))) := fun t0 e0 => by
    refine ⟨q + 23, rfl, d1, by rw [wI_L, d2]; exact hn, fun h5 e5 => ⟨?_, fun h8 e8 => ?_⟩⟩
    · rw [e5]; exact M.1
    · rw [nI_clamp (by omega), sI_wI, wI_wI, wI_I, e0] at e5
      subst e5
      have e26 : hI (wI h (tpu (tpu F3 (q + 23) vs.length (nI v)) (q + 23) vs.length (nI v ||| nI w))) Q 26 = nI vs.length := by
        rw [wI_I, tpu_a _ _ _ _ _ _ (by omega), tpu_a _ _ _ _ _ _ (by omega), ← hF3, tpu_a _ _ _ _ _ _ (by omega), tpu_a _ _ _ _ _ _ (by omega), tpu_a _ _ _ _ _ _ (by omega), hV.1]
      rw [e26, sI_wI, wI_wI, wI_I, nI_1] at e8
      rw [e8]
      exact fin
  have mid : ∀ t0 : Int32, t0 = nI v → w_Md_newVersion_55 R Q (nO s) (nI vs.length) t0 (nI vs.length) (some (q + 23)) (wI h F3) := fun t0 e0 => by
    refine ⟨q + 23, rfl, d1, by rw [wI_L, d2]; exact hn, fun h5 e5 => ?_⟩
    rw [nI_clamp (by omega), sI_wI, wI_wI, wI_I, e0] at e5
    subst e5
    have e7 : hI (wI h (tpu F3 (q + 23) vs.length (nI v))) (q + 23) (nI vs.length).toNatClampNeg = nI v := by
      rw [nI_clamp (by omega), wI_I, tpu_s]
    refine ⟨M.1, q + 23, d3, d1, by rw [wI_L, d2]; exact hn, fun e => ?_, fun e => ?_⟩
    · cases s with
      | none => exact absurd rfl e
      | some a =>
        have ha := hs a rfl
        rw [e7, wI_R, d3]
        refine ⟨by rw [wI_L, d2]; exact vn a (by omega), last _ ?_⟩
        rw [← w1]
        show hI (wI h (tpu F3 (q + 23) vs.length (nI v))) (q + 23) (nI a).toNatClampNeg ||| _ = _
        rw [nI_clamp (by omega), wI_I, tpu_j _ _ _ _ _ _ (by omega), ← hF3, tpu_a _ _ _ _ _ _ (by omega), tpu_a _ _ _ _ _ _ (by omega), tpu_a _ _ _ _ _ _ (by omega)]
        rfl
    · cases s with
      | none =>
        rw [e7, wI_R, d3]
        exact last 0 w1
      | some a => exact absurd e (nI_ne_m (by have := hs a rfl; omega))
  refine ⟨M.1, q + 20, a3, a1, by rw [wI_L, a2, wI_I, hV.1]; exact hn, fun h6 e6 => ?_⟩
  rw [wI_I, hV.1, nI_clamp (by omega), sI_wI, wI_wI, wI_I] at e6
  subst e6
  refine ⟨q + 21, b3, b1, by rw [wI_L, b2, wI_I, hV.1]; exact hn, fun h12 e12 => ?_⟩
  rw [wI_I, hV.1, nI_clamp (by omega), sI_wI, wI_wI, wI_I] at e12
  subst e12
  refine ⟨q + 22, c3, c1, by rw [wI_L, c2, wI_I, hV.1]; exact hn, fun h18 e18 => ?_⟩
  rw [wI_I, hV.1, nI_clamp (by omega), sI_wI, wI_wI, wI_I, hF3] at e18
  subst e18
  rw [wI_I, hV.1, wI_R, d3]
  refine ⟨fun e => ?_, fun e => ?_⟩
  · cases f with
    | none => exact absurd rfl e
    | some a =>
      have ha := hf a rfl
      refine ⟨q + 23, rfl, d1, by rw [wI_L, d2]; exact vn a (by omega), mid _ ?_⟩
      rw [← v1]
      show hI (wI h F3) (q + 23) (nI a).toNatClampNeg ||| _ = _
      rw [nI_clamp (by omega), wI_I, ← hF3, tpu_a _ _ _ _ _ _ (by omega), tpu_a _ _ _ _ _ _ (by omega), tpu_a _ _ _ _ _ _ (by omega)]
      rfl
  · cases f with
    | none => exact mid 0 v1
    | some a => exact absurd e (nI_ne_m (by have := hf a rfl; omega))
end VERS
