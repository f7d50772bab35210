section TPVERS
def mvOK (fr : List mT) (vs : List mV) (i j : Nat) : Prop := ∃ k t u v, bsN (baP vs i j) vs.length = some k ∧ vT fr vs k = some t ∧ vT fr vs i = some u ∧ vT fr vs j = some v ∧ cmK fr vs t u v
def tbOK (fr : List mT) (vs : List mV) (i j : Nat) : Prop := ∃ e f t u v, vs[i]? = some e ∧ e.2.1 = some f ∧ rcB vs 30 j i = true ∧ vT fr vs i = some t ∧ vT fr vs j = some u ∧ vT fr vs f = some v ∧ cmK fr vs t u v
theorem vT_of {fr : List mT} {vs : List mV} {i : Nat} {e : mV} {t : mT} (h : vs[i]? = some e) (h2 : fr[e.1]? = some t) : vT fr vs i = some t := by
  unfold vT
  rw [h]
  exact h2
theorem bsN_lt {P : Nat → Bool} {k : Nat} : ∀ n, bsN P n = some k → k < n ∧ P k = true
  | 0, h => by cases h
  | n + 1, h => by
    have h : (if P n = true then some n else bsN P n) = some k := h
    by_cases c : P n = true
    · rw [if_pos c] at h
      rw [← Option.some.inj h]
      exact ⟨Nat.lt_succ_self _, c⟩
    · rw [if_neg c] at h
      have := bsN_lt n h
      exact ⟨by omega, this.2⟩
def vmT2 (x p z0 e0 e1 c j : Nat) : Prop := vmT x p z0 e0 e1 c j ∨ c = p + 98
/-- the state when versions were merged -/
noncomputable def mgR (r : mRe) (mk : Nat) (kd : Nat → Int32) (t u v : mT) (f s : Option Nat) : mRe := (r.1 ++ [mgRes r.2.2.2.1 mk (tRt t) t u v (loK kd)], r.2.1, r.2.2.1, r.2.2.2.1, mgCfl r.2.2.2.1 mk (tRt t) t u v (loK kd), r.2.2.2.2.2 ++ [(r.1.length, f, s)])
def vmE (h h' : tpH) (x p D n n' l : Nat) : Prop := (n ≤ n' ∧ n' ≤ 184001) ∧ (∃ e0 e1, cfE p D (hZ h) e0 e1 ∧ hFr h h' (vmT2 x p (hZ h) e0 e1) (mkU p l)) ∧ hZ h' ≤ hZ h + 19 + (n' - n) ∧ hU h' ≤ hU h + 2728 + 4 * (n' - n)
theorem p_TP_mergeV {h : tpH} {x p D mk n : Nat} {kd idn : Nat → Int32} {dr : Option mT} {r : mRe} {rt : Nat → Bool} (hP : stP h x p D mk kd idn dr r n) (hxp : x < p) (hpD : p + 101 ≤ D) (hDz : D ≤ hZ h) (hm : mIn mk kd rt dr r) (hn : n ≤ 184001) {A B : Int32} {X : String → tpH → Prop} {R : Int32 → tpH → Prop} (x1 : (lstAt r.2.2.2.2.2 A = none ∨ lstAt r.2.2.2.2.2 B = none) → X "java/lang/IndexOutOfBoundsException" (nC h 0 0 6)) (x2 : ∀ i, A = nI i → B = nI i → i < r.2.2.2.2.2.length → X "java/lang/IllegalArgumentException" (nC h 0 0 6)) (x3 : ∀ i j, A = nI i → B = nI j → i < r.2.2.2.2.2.length → j < r.2.2.2.2.2.length → i ≠ j → ¬ mvOK r.1 r.2.2.2.2.2 i j → ∀ F, rcF p (hI h) F → X "java/lang/IllegalStateException" (nC (wI h F) 0 0 6)) (kk : ∀ i j k t u v, A = nI i → B = nI j → i < r.2.2.2.2.2.length → j < r.2.2.2.2.2.length → i ≠ j → bsN (baP r.2.2.2.2.2 i j) r.2.2.2.2.2.length = some k → vT r.1 r.2.2.2.2.2 k = some t → vT r.1 r.2.2.2.2.2 i = some u → vT r.1 r.2.2.2.2.2 j = some v → cmK r.1 r.2.2.2.2.2 t u v → ∀ h' n', mIn mk kd rt dr (mgR r mk kd t u v (some i) (some j)) → stP h' x p D mk kd idn dr (mgR r mk kd t u v (some i) (some j)) n' → vmE h h' x p D n n' r.1.length → R (nI r.2.2.2.2.2.length) h') : w_TP_mergeVersions x A B h X R := by
  have V := hP.2.2.2.2.2.2.2.2.2.2.1
  have T := mIn_vT hm
  have h3 := T.1
  have l9 := lTP_hiL hP.1
  refine ⟨hP.1.1, p_TP_needVersion hP.1 V h3 (fun e => x1 (Or.inl e)) (fun i ei hA hi hla => ⟨hP.1.1, p_TP_needVersion hP.1 V h3 (fun e => x1 (Or.inr e)) (fun j ej hB hj hlb => ?_)⟩)⟩
  have il := (List.getElem?_eq_some_iff.mp hi).1
  have jl := (List.getElem?_eq_some_iff.mp hj).1
  refine ⟨fun ne => ?_, fun e => x2 i hA (e.symm.trans hA) il⟩
  have nij : i ≠ j := fun e => ne (by rw [hA, hB, e])
  have X3 := x3 i j hA hB il jl nij
  have K := fun k t u v => kk i j k t u v hA hB il jl nij
  refine ⟨hP.1.1, p + 90, lTP_hi hP.1, l9.1, ?_⟩
  rw [hA, hB]
  show w_Hi_baseOf (p + 90) (nI i) (nI j) (wI h (hI h)) _
  refine p_baseOf l9 V T.2.1 h3 il jl (fun F f => ?_)
  obtain ⟨P', f'⟩ := stP_rc hP hxp hpD hDz f
  cases eb : bsN (baP r.2.2.2.2.2 i j) r.2.2.2.2.2.length with
  | none =>
    refine ⟨fun g => absurd rfl g, fun _ => X3 (fun ⟨k, t, u, v, z, _⟩ => ?_) F f⟩
    rw [eb] at z
    cases z
  | some k =>
    have kl := (bsN_lt _ eb).1
    have ek := List.getElem?_eq_getElem kl
    generalize r.2.2.2.2.2[k] = ee at ek
    refine ⟨fun _ => ⟨P'.1.1, ?_⟩, fun g => absurd g (nI_ne_m (by omega))⟩
    refine p_vm (f := some i) (s := some j) P' hxp hpD hDz hm hn ek hi hj (fun a z => by rw [← Option.some.inj z]; exact il) (fun a z => by rw [← Option.some.inj z]; exact jl) (fun t u v ht hu hv nc => X3 (fun ⟨k', t', u', v', z0, z1, z2, z3, z4⟩ => nc ?_) F f) (fun t u v ht hu hv cm h' n' e0 e1 q1 q2 q3 q4 q5 q6 q7 => ?_)
    · rw [eb] at z0
      rw [← Option.some.inj z0, vT_of ek ht] at z1
      rw [vT_of hi hu] at z2
      rw [vT_of hj hv] at z3
      rw [Option.some.inj z1, Option.some.inj z2, Option.some.inj z3]
      exact z4
    · exact K k t u v eb (vT_of ek ht) (vT_of hi hu) (vT_of hj hv) cm h' n' q1 q2 ⟨q3, ⟨e0, e1, q4, hFr_mono (hFr_tr f' q5) (fun _ _ _ g => g.elim Or.inr Or.inl) (fun _ _ _ g => g.elim (fun g => g.elim) id)⟩, q6, q7⟩
theorem p_TP_takeBack {h : tpH} {x p D mk n : Nat} {kd idn : Nat → Int32} {dr : Option mT} {r : mRe} {rt : Nat → Bool} (hP : stP h x p D mk kd idn dr r n) (hxp : x < p) (hpD : p + 101 ≤ D) (hDz : D ≤ hZ h) (hm : mIn mk kd rt dr r) (hn : n ≤ 184001) {A B : Int32} {X : String → tpH → Prop} {R : Int32 → tpH → Prop} (x1 : (lstAt r.2.2.2.2.2 A = none ∨ lstAt r.2.2.2.2.2 B = none) → X "java/lang/IndexOutOfBoundsException" (nC h 0 0 6)) (x3 : ∀ i j, A = nI i → B = nI j → i < r.2.2.2.2.2.length → j < r.2.2.2.2.2.length → ¬ tbOK r.1 r.2.2.2.2.2 i j → ∀ F, rcF p (hI h) F → X "java/lang/IllegalStateException" (nC (wI h F) 0 0 6)) (kk : ∀ i j e f t u v, A = nI i → B = nI j → i < r.2.2.2.2.2.length → j < r.2.2.2.2.2.length → r.2.2.2.2.2[i]? = some e → e.2.1 = some f → rcB r.2.2.2.2.2 30 j i = true → vT r.1 r.2.2.2.2.2 i = some t → vT r.1 r.2.2.2.2.2 j = some u → vT r.1 r.2.2.2.2.2 f = some v → cmK r.1 r.2.2.2.2.2 t u v → ∀ h' n', mIn mk kd rt dr (mgR r mk kd t u v (some j) none) → stP h' x p D mk kd idn dr (mgR r mk kd t u v (some j) none) n' → vmE h h' x p D n n' r.1.length → R (nI r.2.2.2.2.2.length) h') : w_TP_takeBack x A B h X R := by
  have V := hP.2.2.2.2.2.2.2.2.2.2.1
  have T := mIn_vT hm
  have h3 := T.1
  have l9 := lTP_hiL hP.1
  refine ⟨hP.1.1, p_TP_needVersion hP.1 V h3 (fun e => x1 (Or.inl e)) (fun i ei hA hi hla => ⟨hP.1.1, p_TP_needVersion hP.1 V h3 (fun e => x1 (Or.inr e)) (fun j ej hB hj hlb => ⟨hP.1.1, p + 90, lTP_hi hP.1, l9.1, ?_⟩)⟩)⟩
  have il := (List.getElem?_eq_some_iff.mp hi).1
  have jl := (List.getElem?_eq_some_iff.mp hj).1
  have X3 := x3 i j hA hB il jl
  have X3' : ¬ tbOK r.1 r.2.2.2.2.2 i j → X "java/lang/IllegalStateException" (nC h 0 0 6) := fun g => X3 g (hI h) (fun _ _ => rfl)
  have K := fun e f t u v => kk i j e f t u v hA hB il jl
  rw [hA, hB]
  refine p_hFirst hP.1 V h3 hi ?_
  cases ef : ei.2.1 with
  | none =>
    refine ⟨fun g => absurd rfl g, fun _ => X3' (fun ⟨e, f, t, u, v, z0, z1, _⟩ => ?_)⟩
    rw [hi] at z0
    rw [← Option.some.inj z0, ef] at z1
    cases z1
  | some f =>
    have fi := (T.2.1 i ei hi).1 f ef
    refine ⟨fun _ => ⟨fun g => X3' (fun ⟨e, f, t, u, v, z0, z1, z2, _⟩ => ?_), fun g => ⟨hP.1.1, p + 90, lTP_hi hP.1, l9.1, ?_⟩⟩, fun g => absurd g (nI_ne_m (by omega))⟩
    · have := rc_lt T.2.1 h3 (j + 1) j (Nat.lt_succ_self _) z2
      have : j = i := nI_inj (by omega) (by omega) g
      omega
    · have nji : i ≠ j := fun e => g (by rw [e])
      show w_Hi_reaches (p + 90) (nI j) (nI i) (wI h (hI h)) _
      refine p_reaches l9 V T.2.1 h3 jl (by omega) (fun F fF => ?_)
      obtain ⟨P', f'⟩ := stP_rc hP hxp hpD hDz fF
      have rb : beB r.2.2.2.2.2 j i = true ↔ rcB r.2.2.2.2.2 30 j i = true := by
        rw [be_iff]
        exact ⟨fun z => z.elim (fun z => absurd z nji) id, Or.inr⟩
      cases ec : beB r.2.2.2.2.2 j i with
      | false =>
        rw [if_neg Bool.false_ne_true]
        refine ⟨fun g => absurd rfl g, fun _ => X3 (fun ⟨e, f, t, u, v, z0, z1, z2, _⟩ => ?_) F fF⟩
        rw [rb.mpr z2] at ec
        cases ec
      | true =>
        rw [if_pos rfl]
        have ek := List.getElem?_eq_getElem (show f < r.2.2.2.2.2.length by omega)
        generalize r.2.2.2.2.2[f] = ee at ek
        refine ⟨fun _ => ⟨P'.1.1, ?_⟩, fun g => absurd g (by decide)⟩
        show w_TP_needMergeable x (nI i) (nI j) (nI f) (wI h F) X _
        refine p_vm (f := some j) (s := none) P' hxp hpD hDz hm hn hi hj ek (fun a z => by rw [← Option.some.inj z]; exact jl) (fun a z => by cases z) (fun t u v ht hu hv nc => X3 (fun ⟨e', f', t', u', v', z0, z1, z2, z3, z4, z5, z6⟩ => nc ?_) F fF) (fun t u v ht hu hv cm h' n' e0 e1 q1 q2 q3 q4 q5 q6 q7 => ?_)
        · rw [hi] at z0
          rw [← Option.some.inj z0, ef] at z1
          rw [vT_of hi ht] at z3
          rw [vT_of hj hu] at z4
          rw [← Option.some.inj z1, vT_of ek hv] at z5
          rw [Option.some.inj z3, Option.some.inj z4, Option.some.inj z5]
          exact z6
        · exact K ei f t u v hi ef (rb.mp ec) (vT_of hi ht) (vT_of hj hu) (vT_of ek hv) cm h' n' q1 q2 ⟨q3, ⟨e0, e1, q4, hFr_mono (hFr_tr f' q5) (fun _ _ _ g => g.elim Or.inr Or.inl) (fun _ _ _ g => g.elim (fun g => g.elim) id)⟩, q6, q7⟩
end TPVERS
