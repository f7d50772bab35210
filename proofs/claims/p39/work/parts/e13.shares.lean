section SHARES
theorem p_at5 {h : tpH} {r N x : Nat} {K : List Nat} (b : iA h r N) (hN : K.length ≤ N) (hN2 : N < 1000) (rK : rwKs (hI h) r 0 K) (hx : x < 2 ^ 31) (hK : ∀ y ∈ K, y < 2 ^ 31) {R : Int32 → tpH → Prop} (k1 : ∀ i, K[i]? = some x → R (nI i) h) (k0 : x ∉ K → R (-1) h) :
    ∀ (n i : Nat) (v : Int32), i ≤ K.length → K.length < n + i → ((v = -1 ∧ ∀ (j y : Nat), j < i → K[j]? = some y → y ≠ x) ∨ ∃ j, K[j]? = some x ∧ v = nI j) → w_Lw_at_5 R n (some r) (nI K.length) (nI x) v (nI i) h
  | 0, i, v, h1, h2, _ => by omega
  | n + 1, i, v, h1, h2, hv => by
    refine ⟨fun g => ?_, fun g => ?_⟩
    · have gi := (nI_le_iff (by omega) (by omega)).mp g
      rcases hv with ⟨rfl, hv⟩ | ⟨j, q1, rfl⟩
      · exact k0 (fun he => by
          obtain ⟨j, hj⟩ := List.mem_iff_getElem?.mp he
          exact hv j x (by have := (List.getElem?_eq_some_iff.mp hj).1; omega) hj rfl)
      · exact k1 j q1
    · have gi : ¬ K.length ≤ i := fun q => g ((nI_le_iff (by omega) (by omega)).mpr q)
      obtain ⟨y, hi⟩ : ∃ y, K[i]? = some y := ex_at (by omega)
      have ey := rK i y hi
      rw [Nat.zero_add] at ey
      refine ⟨r, rfl, b.1, by rw [b.2]; exact vp_in_nI (by omega) (by omega), ?_⟩
      rw [nI_clamp (by omega), ey, nI_1]
      refine ⟨fun c => p_at5 b hN hN2 rK hx hK k1 k0 n (i + 1) v (by omega) (by omega) ?_, fun c => ?_⟩
      · rcases hv with ⟨e0, hv⟩ | hv
        · refine Or.inl ⟨e0, fun j y' hj hy' => ?_⟩
          by_cases c2 : j = i
          · subst c2
            rw [hi] at hy'
            rw [← Option.some.inj hy']
            exact fun q => c (by rw [q])
          · exact hv j y' (by omega) hy'
        · exact Or.inr hv
      · have e : y = x := nI_inj (hK y (List.mem_of_getElem? hi)) hx c
        rw [e] at hi
        exact p_at5 b hN hN2 rK hx hK k1 k0 n (i + 1) (nI i) (by omega) (by omega) (Or.inr ⟨i, hi, rfl⟩)
theorem p_at_ {h : tpH} {r N x : Nat} {K : List Nat} (b : iA h r N) (hN : K.length ≤ N) (hN2 : N < 1000) (rK : rwKs (hI h) r 0 K) (hx : x < 2 ^ 31) (hK : ∀ y ∈ K, y < 2 ^ 31) {R : Int32 → tpH → Prop} (k1 : ∀ i, K[i]? = some x → R (nI i) h) (k0 : x ∉ K → R (-1) h) : w_Lw_at (some r) (nI K.length) (nI x) h R :=
  ⟨K.length + 1, p_at5 b hN hN2 rK hx hK k1 k0 (K.length + 1) 0 (-1) (Nat.zero_le _) (by omega) (Or.inl ⟨rfl, fun j e hj => absurd hj (Nat.not_lt_zero _)⟩)⟩
theorem idx_of {K : List Nat} (hn : K.Nodup) {i x : Nat} (h : K[i]? = some x) : K.idxOf x = i := by
  have hx := List.mem_of_getElem? h
  have h2 : K[K.idxOf x]? = some x := by
    have := List.idxOf_lt_length_iff.mpr hx
    rw [List.getElem?_eq_getElem this, List.getElem_idxOf]
  exact get_un hn h2 h
theorem trnB_snoc (ix : Nat → Nat) (z y : Nat) : ∀ (A : List Nat), trnB ix (A ++ [z] ++ [y]) = (trnB ix (A ++ [z]) || decide (ix y < ix z))
  | [] => by simp [trnB]
  | [a] => by simp [trnB]
  | a :: b :: A => by
    have ih := trnB_snoc ix z y (b :: A)
    show (decide (ix b < ix a) || trnB ix (b :: A ++ [z] ++ [y])) = ((decide (ix b < ix a) || trnB ix (b :: A ++ [z])) || decide (ix y < ix z))
    rw [ih, Bool.or_assoc]
def lsO (ix : Nat → Nat) (D : List Nat) : Int32 := match D.getLast? with
  | none => -1
  | some z => nI (ix z)
/-- a row of children with their number ahead -/
def rwC (F : Nat → Nat → Int32) (r : Nat) (K : List Nat) : Prop := F r 0 = nI K.length ∧ rwKs F r 1 K
theorem rwC_k {F G : Nat → Nat → Int32} {r : Nat} {K : List Nat} (H : rwC F r K) (e : G r = F r) : rwC G r K := ⟨by rw [e]; exact H.1, rwG_k H.2 (fun j _ _ => by rw [e])⟩
theorem p_sh40 {h : tpH} {sh al o : Nat} {S C : List Nat} (bs : iA h sh 40) (ba : iA h al 40) (bo : iA h o 41) (d : sh ≠ o ∧ al ≠ o) (hS : S.Nodup) (hS40 : ∀ y ∈ S, y < 40) (hC40 : ∀ y ∈ C, y < 40) (lS : S.length ≤ 40) (lC : C.length ≤ 40) {F0 : Nat → Nat → Int32} (rS : rwKs F0 sh 0 S) (rC : rwKs F0 al 0 C) {R : Int32 → tpH → Prop}
    (kk : ∀ G, (∀ b, b ≠ o → G b = F0 b) → rwC G o (C.filter (fun x => decide (x ∈ S))) → R (lB (trnB (fun x => S.idxOf x) (C.filter (fun x => decide (x ∈ S))))) (wI h G)) :
    ∀ (n j : Nat) (A B : List Nat) (F : Nat → Nat → Int32), C = A ++ B → A.length = j → B.length < n → (∀ b, b ≠ o → F b = F0 b) → rwKs F o 1 (A.filter (fun x => decide (x ∈ S))) → w_Lw_shares_40 R n (some sh) (nI S.length) (some o) (some al) (nI C.length) (nI (A.filter (fun x => decide (x ∈ S))).length) (lsO (fun x => S.idxOf x) (A.filter (fun x => decide (x ∈ S)))) (lB (trnB (fun x => S.idxOf x) (A.filter (fun x => decide (x ∈ S))))) (nI j) (wI h F)
  | 0, j, A, B, F, _, _, hn, _, _ => absurd hn (Nat.not_lt_zero _)
  | n + 1, j, A, B, F, hAB, hj, hn, hF, rO => by
    have hlen : C.length = A.length + B.length := by rw [hAB, List.length_append]
    have fl : (A.filter (fun x => decide (x ∈ S))).length ≤ A.length := List.length_filter_le _ _
    have eo : hL (wI h F) o = 41 := bo.2
    have ea : hL (wI h F) al = 40 := ba.2
    refine ⟨fun g => ⟨o, rfl, bo.1, by rw [eo]; exact vp0 (by decide) (by decide), fun h6 e6 => ?_⟩, fun g => ?_⟩
    · have gi : C.length ≤ j := (nI_le_iff (by omega) (by omega)).mp g
      have eB : B = [] := List.eq_nil_of_length_eq_zero (by omega)
      rw [eB, List.append_nil] at hAB
      rw [show (0 : Int32).toNatClampNeg = 0 from rfl, sI_wI, wI_wI, wI_I] at e6
      subst e6
      rw [hAB] at kk
      refine ⟨?_, kk _ (fun b hb => (tpu_ne hb).trans (hF b hb)) ⟨tpu_s _ _ _ _, rwG_k rO (fun j _ _ => tpu_o (by omega))⟩⟩
      unfold lB
      split
      · exact Or.inr rfl
      · exact Or.inl rfl
    · have gi : ¬ C.length ≤ j := fun q => g ((nI_le_iff (by omega) (by omega)).mpr q)
      match B, hAB, hn, hlen with
      | [], _, _, hlen => simp at hlen; omega
      | x :: B, hAB, hn, hlen =>
        rw [List.length_cons] at hn
        have hx : C[j]? = some x := by rw [hAB, ← hj, List.getElem?_append_right (Nat.le_refl _), Nat.sub_self]; rfl
        have hx40 := hC40 x (List.mem_of_getElem? hx)
        have ex : F al j = nI x := by
          rw [hF al d.2]
          have := rC j x hx
          rw [Nat.zero_add] at this
          exact this
        refine ⟨al, rfl, ba.1, by rw [ea]; exact vp_in_nI (by omega) (by decide), ?_⟩
        rw [nI_clamp (by omega), wI_I, ex]
        have IH := p_sh40 bs ba bo d hS hS40 hC40 lS lC rS rC kk n (j + 1) (A ++ [x]) B
        have hAB2 : C = A ++ [x] ++ B := by rw [hAB, List.append_assoc]; rfl
        have el : (A ++ [x]).length = j + 1 := by rw [List.length_append, hj]; rfl
        refine p_at_ (h := wI h F) bs lS (by decide) (rwG_k rS (fun q _ _ => congrFun (hF sh d.1) q)) (by omega) (fun y hy => by have := hS40 y hy; omega) (fun i hi => ⟨fun g2 => absurd g2 (nI_pos ?_), fun _ => ?_⟩) (fun nn => ⟨fun _ => ?_, fun g2 => absurd (show (-1 : Int32) < 0 by decide) g2⟩)
        · have := (List.getElem?_eq_some_iff.mp hi).1
          omega
        · have hil := (List.getElem?_eq_some_iff.mp hi).1
          have hxS := List.mem_of_getElem? hi
          have ei : S.idxOf x = i := idx_of hS hi
          have ef : (A ++ [x]).filter (fun x => decide (x ∈ S)) = A.filter (fun x => decide (x ∈ S)) ++ [x] := by
            rw [List.filter_append, List.filter_cons_of_pos (by exact decide_eq_true hxS), List.filter_nil]
          rw [ef] at IH
          generalize hD : A.filter (fun x => decide (x ∈ S)) = D at IH fl rO ⊢
          have e82 : ∀ t0, t0 = lB (trnB (fun x => S.idxOf x) (D ++ [x])) → w_Lw_shares_82 R (w_Lw_shares_40 R n) (some sh) (nI S.length) (some o) (some al) (nI C.length) (nI D.length) (nI j) (nI i) t0 (wI h F) := fun t0 e0 => by
            rw [e0]
            have e1 : nI D.length + 1 = nI (D.length + 1) := nI_1 _
            refine ⟨al, rfl, ba.1, by rw [ea]; exact vp_in_nI (by omega) (by decide), o, rfl, bo.1, by rw [e1, eo]; exact vp_in_nI (by omega) (by decide), fun h9 e9 => ?_⟩
            rw [e1, nI_clamp (by omega), nI_clamp (by omega), wI_I, ex, sI_wI, wI_wI, wI_I] at e9
            subst e9
            rw [e1, nI_1]
            have q := IH (tpu F o (D.length + 1) (nI x)) hAB2 el (by omega) (fun b hb => (tpu_ne hb).trans (hF b hb)) (rwG_app.mpr ⟨rwG_k rO (fun j _ hj => tpu_o (by omega)), rwG_cons.mpr ⟨by rw [Nat.add_comm 1]; exact tpu_s _ _ _ _, rwG_nil _ _ _ _⟩⟩)
            have els : lsO (fun x => S.idxOf x) (D ++ [x]) = nI i := by
              unfold lsO
              rw [List.getLast?_concat]
              show nI (S.idxOf x) = _
              rw [ei]
            rw [els, List.length_append, List.length_singleton] at q
            exact q
          cases hl : D.getLast? with
          | none =>
            have eD : D = [] := List.getLast?_eq_none_iff.mp hl
            subst eD
            have t1 : trnB (fun x => S.idxOf x) ([] ++ [x]) = false := rfl
            refine ⟨fun q => absurd rfl q, fun _ => ⟨fun _ => e82 0 (by rw [t1]; rfl), fun q => absurd ?_ q⟩⟩
            show (-1 : Int32) ≤ nI i
            rw [Int32.le_iff_toInt_le, nI_toInt (by omega)]
            have : (-1 : Int32).toInt = -1 := rfl
            omega
          | some z =>
            obtain ⟨D1, z', eD⟩ := ex_snoc (L := D) (fun q => by rw [q] at hl; cases hl)
            have ez : z' = z := by
              rw [eD, List.getLast?_concat] at hl
              exact Option.some.inj hl
            rw [ez] at eD
            have hzS : z ∈ S := by
              have : z ∈ A.filter (fun x => decide (x ∈ S)) := by rw [hD, eD]; simp
              exact of_decide_eq_true (List.mem_filter.mp this).2
            have hz1 := List.idxOf_lt_length_iff.mpr hzS
            have tn : trnB (fun x => S.idxOf x) (D ++ [x]) = (trnB (fun x => S.idxOf x) D || decide (S.idxOf x < S.idxOf z)) := by
              rw [eD]
              exact trnB_snoc _ z x D1
            have el2 : lsO (fun x => S.idxOf x) D = nI (S.idxOf z) := by
              unfold lsO
              rw [hl]
            rw [tn] at e82
            rw [el2]
            cases ht : trnB (fun x => S.idxOf x) D with
            | true =>
              rw [ht, Bool.true_or] at e82
              exact ⟨fun _ => e82 1 rfl, fun q => absurd q (by decide)⟩
            | false =>
              rw [ht, Bool.false_or] at e82
              refine ⟨fun q => absurd rfl q, fun _ => ⟨fun q => e82 0 ?_, fun q => e82 1 ?_⟩⟩
              · have := (nI_le_iff (by omega) (by omega)).mp q
                rw [decide_eq_false (by omega)]
                rfl
              · have : ¬ S.idxOf z ≤ i := fun q2 => q ((nI_le_iff (by omega) (by omega)).mpr q2)
                rw [decide_eq_true (by omega)]
                rfl
        · have ef : (A ++ [x]).filter (fun x => decide (x ∈ S)) = A.filter (fun x => decide (x ∈ S)) := by
            rw [List.filter_append, List.filter_cons_of_neg (by simp only [decide_eq_true_eq]; exact nn), List.filter_nil, List.append_nil]
          rw [ef] at IH
          rw [nI_1]
          exact IH F hAB2 el (by omega) hF rO
/-- the children of a mark in a row, also of one that is not there -/
theorem LT_kids0 {L : List lE} {T : mT} (H : rwT L (tIn T) (tWo T) (tUp T)) (hw : fWF 300 T) {lo : Bool} {p : Nat} (hp : tIn T p = false) : lcL lo L p = [] := by
  refine List.eq_nil_iff_forall_not_mem.mpr (fun x hx => ?_)
  obtain ⟨e, h1, h2, h3, -⟩ := lcL_mem.mp hx
  have q1 := (H.2 e h1).2
  rw [h3, h2] at q1
  have := hw.2.2.2.2 x p ((H.1 x).mpr ⟨e, h1, h2⟩) q1
  rw [hp] at this
  cases this
theorem ki_0 {T : mT} (hw : fWF 300 T) {p : Nat} (hp : tIn T p = false) : tKi T p = [] := by
  refine List.eq_nil_iff_forall_not_mem.mpr (fun x hx => ?_)
  obtain ⟨h1, h2⟩ := (hw.2.1 x p).mp hx
  have := hw.2.2.2.2 x p h1 h2
  rw [hp] at this
  cases this
theorem ki_40 {T : mT} {F : Nat → Nat → Int32} {t p : Nat} {h : tpH} (H : bR h F t T) : (∀ y ∈ tKi T p, y < 40) ∧ (tKi T p).length ≤ 40 := by
  have q : ∀ y ∈ tKi T p, y < 40 := fun y hy => by
    have hi := ((H.2.1.1.2.1 y p).mp hy).1
    obtain ⟨e, h1, h2⟩ := ((preL_rwT H.2.1 H.2.2).1 y).mp hi
    rw [← h2]
    exact (H.1.2.2.2.1 e h1).1
  exact ⟨q, nd_lt (H.2.1.1.2.2.1 p) q⟩
theorem p_kidsT {h : tpH} {F : Nat → Nat → Int32} {t k r p : Nat} {T : mT} {lo : Nat → Bool} (H : bR h F t T) (hlo : tLo lo T) (b : iA h r 40) (ak : iA h k 40) (hrt : t ≠ r) (hrk : k ≠ r) (hp : p < 40) (hk : tIn T p = true → (F k p ≤ 3 ↔ lo p = false)) (hip : tIn T p = true) {R : Int32 → tpH → Prop}
    (kk : ∀ G, (∀ c, c ≠ r → G c = F c) → rwKs G r 0 (tKi T p) → R (nI (tKi T p).length) (wI h G)) : w_Lw_children (some t) (some k) (nI p) (some r) (wI h F) R := by
  have e := LT_kids (preL_LT H.2.1 H.2.2 lo) H.2.1.1 hlo hip
  rw [← e] at kk
  exact p_children H.1.1 b ak hrt hrk hp H.1.2 (hk hip) kk
theorem p_shares {h : tpH} {t k sh o p : Nat} {T : mT} {S : List Nat} {lo : Nat → Bool} (H : bR h (hI h) t T) (hlo : tLo lo T) (ak : iA h k 40) (bs : iA h sh 40) (bo : iA h o 41) (d : sh ≠ o) (z : t < hZ h ∧ k < hZ h ∧ sh < hZ h ∧ o < hZ h) (hp : p < 40) (hk : tIn T p = true → (hI h k p ≤ 3 ↔ lo p = false)) (hS : S.Nodup) (hS40 : ∀ y ∈ S, y < 40) (lS : S.length ≤ 40) (rS : rwKs (hI h) sh 0 S) {R : Int32 → tpH → Prop}
    (kk : ∀ h', aFr h h' (fun b _ => b = o) 1 40 → rwC (hI h') o ((tKi T p).filter (fun x => decide (x ∈ S))) → R (lB (trnB (fun x => S.idxOf x) ((tKi T p).filter (fun x => decide (x ∈ S))))) h') : w_Lw_shares (some t) (some k) (nI p) (some sh) (nI S.length) (some o) h R := by
  intro a1 h2 e1 e2
  obtain ⟨z1, z2, z3, z4⟩ := z
  have f2 : aFr h h2 nT0 1 40 := by rw [e2]; exact aFr_n h 40 40 _
  have b1 : iA h2 a1 40 := by rw [e1, e2]; exact iA_n h 40 40
  have kI : ∀ x, x < hZ h → hI h2 x = hI h x := fun x hx => aFr_I f2 hx (fun _ q => q)
  have H2 : bR h2 (hI h2) t T := ⟨⟨aFr_iA f2 z1 H.1.1, rwP_k H.1.2 (kI t z1)⟩, H.2⟩
  have bs2 := aFr_iA f2 z3 bs
  have bo2 := aFr_iA f2 z4 bo
  have ak2 := aFr_iA f2 z2 ak
  obtain ⟨c1, c2⟩ := ki_40 (p := p) H
  have fin : ∀ (F : Nat → Nat → Int32), (∀ c, c ≠ a1 → F c = hI h2 c) → rwKs F a1 0 (tKi T p) → w_Lw_shares_26 R (some sh) (nI S.length) (some o) (some a1) (nI (tKi T p).length) (wI h2 F) := fun F q1 q2 => by
    refine ⟨(tKi T p).length + 1, p_sh40 (F0 := F) bs2 b1 bo2 ⟨d, by omega⟩ hS hS40 c1 lS c2 (rwG_k rS (fun j _ _ => by rw [q1 sh (by omega), kI sh z3])) q2 (fun G g1 g2 => kk _ ?_ g2) _ 0 [] (tKi T p) F rfl rfl (Nat.lt_succ_self _) (fun _ _ => rfl) (rwG_nil _ _ _ _)⟩
    have q3 := aFr_tr (aFr_mono f2 (T' := fun b _ => b = o) (fun _ _ _ g => g.elim) (Nat.le_refl _) (Nat.le_refl _)) (k' := 0) (u' := 0) (T' := fun b _ => b = a1 ∨ b = o) (aFr_w (h := h2) (F := hI h2) (G := G) (fun b j hb => by rw [g1 b (by omega), q1 b (by omega)])) (fun x j hx g => by omega)
    exact q3
  have hpl : ∀ (K : Int32 → tpH → Prop), (tIn T p = true → ∀ i, i < 41 → K (nI i) h2) → (tIn T p = false → K (-1) h2) → w_Lw_place (some t) (nI p) h2 K := fun K q1 q0 => by
    have qT := preL_rwT H.2.1 H.2.2
    refine p_place H2.1.1 H2.1.2 (by omega) (fun i e hi he => q1 ((qT.1 p).mpr ⟨e, List.mem_of_getElem? hi, he⟩) i (by have := (List.getElem?_eq_some_iff.mp hi).1; have := H.1.2.2.1; omega)) (fun nn => q0 ?_)
    cases q : tIn T p with
    | false => rfl
    | true =>
      obtain ⟨e, h1, h2⟩ := (qT.1 p).mp q
      exact absurd h2 (nn e h1)
  refine hpl _ (fun hip i hi => ⟨fun _ => ?_, fun g => absurd (nI_pos' (by omega)) g⟩) (fun hip => ⟨fun g => absurd g (by decide), fun _ => ?_⟩)
  · exact p_kidsT H2 hlo b1 ak2 (by omega) (by omega) hp (fun q => by rw [kI k z2]; exact hk q) hip (fun G g1 g2 => fin G g1 g2)
  · have e0 := ki_0 H.2.1.1 hip
    rw [e0] at fin
    exact fin (hI h2) (fun _ _ => rfl) (rwG_nil _ _ _ _)
end SHARES
