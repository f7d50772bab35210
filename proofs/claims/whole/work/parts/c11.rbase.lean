section RBASE
theorem nI_and (a b : Nat) : nI a &&& nI b = nI (a &&& b) := by
  apply Int32.toBitVec_inj.mp
  rw [Int32.toBitVec_and]
  show BitVec.ofNat 32 a &&& BitVec.ofNat 32 b = BitVec.ofNat 32 (a &&& b)
  apply BitVec.eq_of_toNat_eq
  rw [BitVec.toNat_and, BitVec.toNat_ofNat, BitVec.toNat_ofNat, BitVec.toNat_ofNat, Nat.and_mod_two_pow]
theorem sh_k : ∀ k : Nat, k < 30 → ((nI k &&& 31).toBitVec.smod 32).toNat = k := by decide
theorem bv_one (x : BitVec 32) : (x &&& 1#32 = 1#32) ↔ x.getLsbD 0 = true := by
  constructor
  · intro h
    have := congrArg (fun y => BitVec.getLsbD y 0) h
    simpa using this
  · intro h
    apply BitVec.eq_of_getLsbD_eq
    intro i hi
    rw [BitVec.getLsbD_and]
    by_cases c : i = 0
    · rw [c, h]
      rfl
    · have : (1#32).getLsbD i = false := by
        rw [BitVec.getLsbD_one]
        simp [c]
      rw [this, Bool.and_false]
theorem nI_bit {v k : Nat} (hk : k < 30) : ((nI v >>> (nI k &&& 31)) &&& 1 = 1) ↔ v.testBit k = true := by
  rw [← Int32.toBitVec_inj, Int32.toBitVec_and, Int32.toBitVec_shiftRight, BitVec.sshiftRight_eq', sh_k k hk]
  show ((BitVec.ofNat 32 v).sshiftRight k &&& 1#32 = 1#32) ↔ _
  rw [bv_one, BitVec.getLsbD_sshiftRight, BitVec.getLsbD_ofNat]
  have h1 : k + 0 < 32 := by omega
  rw [if_pos h1]
  simp
  intro _
  omega
variable {h : tpH} {Q q : Nat}
theorem p_MbaseOf28 (M : lMd h Q q) {F : Nat → Nat → Int32} {n0 v : Nat} {P : Nat → Bool} (N : F Q 26 = nI n0) (h3 : n0 ≤ 30) (hv : ∀ k, k < 30 → (v.testBit k = true ↔ P k = true)) {R : Int32 → tpH → Prop} (kk : R (nO (bsN P n0)) (wI h F)) : ∀ (n m : Nat), m ≤ n0 → n0 < n + m → w_Md_baseOf_28 R n Q (nI v) (nO (bsN P m)) (nI m) (wI h F)
  | 0, m, h1, h2 => by omega
  | n + 1, m, h1, h2 => by
    have eN : hI (wI h F) Q 26 = nI n0 := N
    refine ⟨M.1, ?_⟩
    rw [eN]
    by_cases hm : m < n0
    · have es : bsN P (m + 1) = if P m = true then some m else bsN P m := rfl
      have nx := p_MbaseOf28 M N h3 hv kk n (m + 1) (by omega) (by omega)
      rw [es] at nx
      rw [nI_1]
      refine ⟨fun g => absurd ((nI_le_iff (by omega) (by omega)).mp g) (by omega), fun _ => ⟨fun g => ?_, fun g => ?_⟩⟩
      · rw [if_neg (fun z => g ((nI_bit (by omega)).mpr ((hv m (by omega)).mpr z)))] at nx
        exact nx
      · rw [if_pos ((hv m (by omega)).mp ((nI_bit (by omega)).mp g))] at nx
        exact nx
    · have em : m = n0 := by omega
      subst em
      exact ⟨fun _ => kk, fun g => absurd (Int32.le_refl _) g⟩
theorem be_bits {F : Nat → Nat → Int32} {vs : List mV} (hV : VsM F Q q vs) (h3 : vs.length ≤ 30) {i : Nat} (hi : i < vs.length) : ∃ v : Nat, F (q + 23) i ||| ((1 : Int32) <<< (nI i &&& 31)) = nI v ∧ ∀ k, v.testBit k = true ↔ beB vs i k = true := by
  obtain ⟨_, _, _, v, v1, v2, v3⟩ := hV.2 i _ (List.getElem?_eq_getElem hi)
  refine ⟨v ||| 2 ^ i, by rw [v1, nI_sh i (by omega), nI_or], fun k => ?_⟩
  rw [Nat.testBit_or, v3, Nat.testBit_two_pow, be_iff, Bool.or_eq_true, decide_eq_true_iff]
  exact ⟨fun z => z.elim Or.inr (fun z => Or.inl z.symm), fun z => z.elim (fun z => Or.inr z.symm) Or.inl⟩
theorem p_MbaseOf (M : lMd h Q q) {F : Nat → Nat → Int32} {vs : List mV} (hV : VsM F Q q vs) (h3 : vs.length ≤ 30) {i j : Nat} (hi : i < vs.length) (hj : j < vs.length) {R : Int32 → tpH → Prop} (kk : R (nO (bsN (baP vs i j) vs.length)) (wI h F)) : w_Md_baseOf Q (nI i) (nI j) (wI h F) R := by
  obtain ⟨a1, a2, a3⟩ := md_f M (j := 23) (kd := 15) (n := 30) (f := 30) (by decide)
  obtain ⟨v, v1, v2⟩ := be_bits hV h3 hi
  obtain ⟨u, u1, u2⟩ := be_bits hV h3 hj
  refine ⟨M.1, q + 23, a3, a1, by rw [wI_L, a2]; exact vp_in_nI (by omega) (by decide), by rw [wI_L, a2]; exact vp_in_nI (by omega) (by decide), vs.length + 1, ?_⟩
  rw [nI_clamp (by omega), nI_clamp (by omega), wI_I, v1, u1, nI_and]
  show w_Md_baseOf_28 R _ Q _ (nO (bsN (baP vs i j) 0)) (nI 0) (wI h F)
  refine p_MbaseOf28 M hV.1 h3 (fun k hk => ?_) kk _ 0 (Nat.zero_le _) (by omega)
  unfold baP
  rw [Nat.testBit_and, Bool.and_eq_true, Bool.and_eq_true, v2, u2]
/-- may they be merged -/
def cmK (fr : List mT) (vs : List mV) (t u v : mT) : Prop := (tRt u = tRt t ∧ tRt v = tRt t) ∧ fr.length < 40 ∧ vs.length < 30
theorem p_Mcan (M : lMd h Q q) {F : Nat → Nat → Int32} {fr : List mT} (hF : FoM F Q q fr) (hwf : ∀ (i : Nat) (t : mT), fr[i]? = some t → tWF 300 t) {vs : List mV} (N : F Q 26 = nI vs.length) (h3 : vs.length ≤ 30) {i1 i2 i3 : Nat} {t u v : mT} (e1 : fr[i1]? = some t) (e2 : fr[i2]? = some u) (e3 : fr[i3]? = some v) {R : Int32 → tpH → Prop} (k1 : cmK fr vs t u v → R 1 (wI h F)) (k0 : ¬ cmK fr vs t u v → R 0 (wI h F)) : w_Md_canMerge Q (nI i1) (nI i2) (nI i3) (wI h F) R := by
  obtain ⟨r1, r2, r3⟩ := md_f M (j := 2) (kd := 15) (n := 42) (f := 5) (by decide)
  have f40 := hF.2.1
  have n1 : i1 < fr.length := (List.getElem?_eq_some_iff.mp e1).1
  have n2 : i2 < fr.length := (List.getElem?_eq_some_iff.mp e2).1
  have n3 : i3 < fr.length := (List.getElem?_eq_some_iff.mp e3).1
  have w1 := hwf _ _ e1
  have w2 := hwf _ _ e2
  have w3 := hwf _ _ e3
  have m1 := w1.1.1 _ w1.2.1
  have m2 := w2.1.1 _ w2.2.1
  have m3 := w3.1.1 _ w3.2.1
  have vp : ∀ i, i < fr.length → vp_in (nI i) (hL (wI h F) (q + 2)) := fun i hi => by rw [wI_L, r2]; exact vp_in_nI (by omega) (by decide)
  have q1 : hI (wI h F) (q + 2) (nI i1).toNatClampNeg = nI (tRt t) := by rw [nI_clamp (by omega)]; exact (hF.2.2 _ t e1).2.2.2
  have q2 : hI (wI h F) (q + 2) (nI i2).toNatClampNeg = nI (tRt u) := by rw [nI_clamp (by omega)]; exact (hF.2.2 _ u e2).2.2.2
  have q3 : hI (wI h F) (q + 2) (nI i3).toNatClampNeg = nI (tRt v) := by rw [nI_clamp (by omega)]; exact (hF.2.2 _ v e3).2.2.2
  have c40 : (40 : Int32) = nI 40 := rfl
  have c30 : (30 : Int32) = nI 30 := rfl
  refine ⟨M.1, M.1, q + 2, r3, r1, vp i1 n1, vp i2 n2, ?_⟩
  rw [q1, q2, q3]
  have no : ¬ (tRt u = tRt t ∧ tRt v = tRt t) → R 0 (wI h F) := fun g => k0 (fun z => g z.1)
  refine ⟨fun g => ⟨fun _ => no (fun z => g (by rw [z.1])), fun z => absurd rfl z⟩, fun g => ⟨vp i1 n1, vp i3 n3, fun g' => ⟨fun _ => no (fun z => g' (by rw [z.2])), fun z => absurd rfl z⟩, fun g' => ⟨fun z => absurd (show (1 : Int32) = 0 from z) (by decide), fun _ => ⟨M.1, ?_⟩⟩⟩⟩
  have er : tRt u = tRt t ∧ tRt v = tRt t := ⟨(nI_inj (by omega) (by omega) g).symm, (nI_inj (by omega) (by omega) g').symm⟩
  have eF : hI (wI h F) Q 3 = nI fr.length := hF.1
  have eV : hI (wI h F) Q 26 = nI vs.length := N
  rw [eF, c40, eV, c30]
  refine ⟨fun z => k0 (fun y => ?_), fun z => ⟨fun z2 => k0 (fun y => ?_), fun z2 => k1 ⟨er, ?_, ?_⟩⟩⟩
  · have := (nI_le_iff (a := 40) (by decide) (by omega)).mp z
    have := y.2.1
    omega
  · have := (nI_le_iff (a := 30) (by decide) (by omega)).mp z2
    have := y.2.2
    omega
  · exact Classical.byContradiction (fun y => z ((nI_le_iff (a := 40) (by decide) (by omega)).mpr (by omega)))
  · exact Classical.byContradiction (fun y => z2 ((nI_le_iff (a := 30) (by decide) (by omega)).mpr (by omega)))
end RBASE
