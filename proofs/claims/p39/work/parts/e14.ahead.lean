section AHEAD
theorem p_ah41 {h : tpH} {r al x i : Nat} {K : List Nat} (br : iA h r 42) (ba : iA h al 40) (rK : rwC (hI h) r K) (lK : K.length ≤ 41) (hK : ∀ y ∈ K, y < 2 ^ 31) (hx : x < 2 ^ 31) (hi : i < 40) (hal : hI h al i = nI x) {R : Int32 → tpH → Prop} {K22 : Int32 → (Option Nat) → (Option Nat) → Int32 → Int32 → Int32 → tpH → Prop} {x3 x6 x7 : Int32}
    (k1 : x ∈ K → K22 x3 (some r) (some al) x6 (nI x) (nI (i + 1)) h) (k0 : x ∉ K → K22 x3 (some r) (some al) x6 x7 (nI (i + 1)) h) :
    ∀ (n : Nat) (A B : List Nat), K = A ++ B → B.length < n → w_Lw_ahead_41 R K22 n x3 (some r) (some al) x6 x7 (nI i) (lB (decide (x ∈ A))) (nI (A.length + 1)) h
  | 0, A, B, _, hn => absurd hn (Nat.not_lt_zero _)
  | n + 1, A, B, hAB, hn => by
    have hlen : K.length = A.length + B.length := by rw [hAB, List.length_append]
    refine ⟨r, rfl, br.1, by rw [br.2]; exact vp0 (by decide) (by decide), ?_⟩
    rw [show (0 : Int32).toNatClampNeg = 0 from rfl, rK.1, nI_lt_iff (by omega) (by omega), nI_1, nI_1]
    refine ⟨fun g => ?_, fun g => ?_⟩
    · have eB : B = [] := List.eq_nil_of_length_eq_zero (by omega)
      rw [eB, List.append_nil] at hAB
      rw [← hAB]
      by_cases c : x ∈ K
      · rw [decide_eq_true c]
        refine ⟨fun q => absurd q (by decide), fun _ => ⟨al, rfl, ba.1, by rw [ba.2]; exact vp_in_nI hi (by decide), ?_⟩⟩
        rw [nI_clamp (by omega), hal]
        exact k1 c
      · rw [decide_eq_false c]
        exact ⟨fun _ => k0 c, fun q => absurd rfl q⟩
    · match B, hAB, hn, hlen with
      | [], _, _, hlen => simp at hlen; omega
      | y :: B, hAB, hn, hlen =>
        rw [List.length_cons] at hn hlen
        have IH := p_ah41 (R := R) br ba rK lK hK hx hi hal k1 k0 n (A ++ [y]) B (by rw [hAB, List.append_assoc]; rfl) (by omega)
        rw [List.length_append, List.length_singleton] at IH
        have ey : hI h r (A.length + 1) = nI y := by
          have := rK.2 A.length y (by rw [hAB, List.getElem?_append_right (Nat.le_refl _), Nat.sub_self]; rfl)
          rw [Nat.add_comm] at this
          exact this
        by_cases c : x ∈ A
        · rw [decide_eq_true (List.mem_append_left _ c)] at IH
          rw [decide_eq_true c]
          exact ⟨fun _ => IH, fun q => absurd q (by decide)⟩
        · rw [decide_eq_false c]
          refine ⟨fun q => absurd rfl q, fun _ => ⟨by rw [br.2]; exact vp_in_nI (by omega) (by decide), al, rfl, ba.1, by rw [ba.2]; exact vp_in_nI hi (by decide), ?_⟩⟩
          rw [nI_clamp (by omega), nI_clamp (by omega), ey, hal]
          have hy := hK y (by rw [hAB]; simp)
          refine ⟨fun q => ?_, fun q => ?_⟩
          · have : x ∉ A ++ [y] := fun g2 => by
              rcases List.mem_append.mp g2 with g2 | g2
              · exact c g2
              · exact q (by rw [List.mem_singleton.mp g2])
            rw [decide_eq_false this] at IH
            exact IH
          · have : x ∈ A ++ [y] := by rw [nI_inj hy hx q]; simp
            rw [decide_eq_true this] at IH
            exact IH
theorem p_ah22 {h : tpH} {r al m : Nat} {K C : List Nat} (br : iA h r 42) (ba : iA h al 40) (rK : rwC (hI h) r K) (lK : K.length ≤ 41) (hK : ∀ y ∈ K, y < 2 ^ 31) (rC : rwKs (hI h) al 0 C) (lC : C.length ≤ 40) (hC : ∀ y ∈ C, y < 40) (nC : C.Nodup) (hm : m ∈ C) {R : Int32 → tpH → Prop} (kk : R (nO ((C.take (C.idxOf m)).filter (fun x => decide (x ∈ K))).getLast?) h) :
    ∀ (n : Nat) (A B : List Nat), C.take (C.idxOf m) = A ++ B → B.length < n → w_Lw_ahead_22 R n (nI m) (some r) (some al) (nI C.length) (nO (A.filter (fun x => decide (x ∈ K))).getLast?) (nI A.length) h
  | 0, A, B, _, hn => absurd hn (Nat.not_lt_zero _)
  | n + 1, A, B, hAB, hn => by
    have hm1 := List.idxOf_lt_length_iff.mpr hm
    have hlen : C.idxOf m = A.length + B.length := by
      have := congrArg List.length hAB
      rw [List.length_take, List.length_append] at this
      omega
    refine p_at_ ba lC (by decide) rC (by have := hC m hm; omega) (fun y hy => by have := hC y hy; omega) (fun i hi => ?_) (fun nn => absurd hm nn)
    have ei := idx_of nC hi
    rw [nI_le_iff (by omega) (by omega)]
    refine ⟨fun g => ?_, fun g => ?_⟩
    · have eB : B = [] := List.eq_nil_of_length_eq_zero (by omega)
      rw [eB, List.append_nil] at hAB
      rw [hAB] at kk
      exact kk
    · match B, hAB, hn, hlen with
      | [], _, _, hlen => simp at hlen; omega
      | x :: B, hAB, hn, hlen =>
        rw [List.length_cons] at hn hlen
        have IH := p_ah22 br ba rK lK hK rC lC hC nC hm kk n (A ++ [x]) B (by rw [hAB, List.append_assoc]; rfl) (by omega)
        rw [List.length_append, List.length_singleton] at IH
        have hxa : C[A.length]? = some x := by
          have q : (C.take (C.idxOf m))[A.length]? = some x := by rw [hAB, List.getElem?_append_right (Nat.le_refl _), Nat.sub_self]; rfl
          rw [List.getElem?_take, if_pos (by omega)] at q
          exact q
        have hx40 := hC x (List.mem_of_getElem? hxa)
        have ex : hI h al A.length = nI x := by
          have := rC A.length x hxa
          rw [Nat.zero_add] at this
          exact this
        refine ⟨K.length + 1, p_ah41 br ba rK lK hK (by omega) (by omega) ex (fun c => ?_) (fun c => ?_) (K.length + 1) [] K rfl (Nat.lt_succ_self _)⟩
        · rw [List.filter_append, List.filter_cons_of_pos (by exact decide_eq_true c), List.filter_nil, List.getLast?_concat] at IH
          exact IH
        · rw [List.filter_append, List.filter_cons_of_neg (by simp only [decide_eq_true_eq]; exact c), List.filter_nil, List.append_nil] at IH
          exact IH
theorem p_ahead {h : tpH} {t k r p m : Nat} {T : mT} {K : List Nat} {lo : Nat → Bool} (H : bR h (hI h) t T) (hlo : tLo lo T) (ak : iA h k 40) (br : iA h r 42) (z : t < hZ h ∧ k < hZ h ∧ r < hZ h) (hp : p < 40) (hk : hI h k p ≤ 3 ↔ lo p = false) (rK : rwC (hI h) r K) (lK : K.length ≤ 41) (hK : ∀ y ∈ K, y < 40) (hm : m ∈ tKi T p) {R : Int32 → tpH → Prop}
    (kk : ∀ h', aFr h h' nT0 1 40 → R (nO (nrA T K p m)) h') : w_Lw_ahead (some t) (some k) (nI p) (nI m) (some r) h R := by
  intro a1 h2 e1 e2
  obtain ⟨z1, z2, z3⟩ := z
  have f2 : aFr h h2 nT0 1 40 := by rw [e2]; exact aFr_n h 40 40 _
  have b1 : iA h2 a1 40 := by rw [e1, e2]; exact iA_n h 40 40
  have kI : ∀ x, x < hZ h → hI h2 x = hI h x := fun x hx => aFr_I f2 hx (fun _ q => q)
  have H2 : bR h2 (hI h2) t T := ⟨⟨aFr_iA f2 z1 H.1.1, rwP_k H.1.2 (kI t z1)⟩, H.2⟩
  have br2 := aFr_iA f2 z3 br
  have ak2 := aFr_iA f2 z2 ak
  obtain ⟨c1, c2⟩ := ki_40 (p := p) H
  have hip : tIn T p = true := by
    obtain ⟨q1, q2⟩ := (H.2.1.1.2.1 m p).mp hm
    exact H.2.1.1.2.2.2.2 m p q1 q2
  refine p_kidsT H2 hlo b1 ak2 (by omega) (by omega) hp (fun q => by rw [kI k z2]; exact hk) hip (fun G g1 g2 => ⟨((tKi T p).take ((tKi T p).idxOf m)).length + 1, ?_⟩)
  have q3 : aFr h (wI h2 G) nT0 1 40 := aFr_tr f2 (k' := 0) (u' := 0) (T' := fun b _ => b = a1) (aFr_w (h := h2) (F := hI h2) (G := G) (fun b j hb => by rw [g1 b hb])) (fun x j hx g => by omega)
  refine p_ah22 (h := wI h2 G) br2 b1 (rwC_k rK (by rw [wI_I, g1 r (by omega), kI r z3])) lK (fun y hy => by have := hK y hy; omega) g2 c2 c1 (H.2.1.1.2.2.1 p) hm (kk _ q3) _ [] _ rfl (Nat.lt_succ_self _)
theorem p_pb41 {h : tpH} {r m pl : Nat} {K : List Nat} (br : iA h r 42) (lK : K.length ≤ 40) (hpl : pl ≤ K.length) {R : tpH → Prop} {F0 : Nat → Nat → Int32} (kk : ∀ G, (∀ b, b ≠ r → G b = F0 b) → rwC G r (K.take pl ++ m :: K.drop pl) → R (wI h G)) :
    ∀ (n : Nat) (C S : List Nat) (F : Nat → Nat → Int32), C.length < n → K = C ++ S → pl ≤ C.length → (∀ b, b ≠ r → F b = F0 b) → F r 0 = nI K.length → rwKs F r 1 C → rwKs F r (2 + C.length) S → w_Lw_putsBehind_41 R n (some r) (nI m) (nI (pl + 1)) (nI C.length) (wI h F)
  | 0, C, S, F, hn, _, _, _, _, _, _ => absurd hn (Nat.not_lt_zero _)
  | n + 1, C, S, F, hn, hCS, hpC, hF, h0, rC, rS => by
    have hlen : K.length = C.length + S.length := by rw [hCS, List.length_append]
    have er : ∀ F, hL (wI h F) r = 42 := fun _ => br.2
    refine ⟨fun g => ?_, fun g => ?_⟩
    · have g1 := (nI_lt_iff (by omega) (by omega)).mp g
      have eC : C.length = pl := by omega
      refine ⟨r, rfl, br.1, by rw [er]; exact vp_in_nI (by omega) (by decide), fun h6 e6 => ?_⟩
      rw [nI_clamp (by omega), sI_wI, wI_wI, wI_I] at e6
      subst e6
      refine ⟨by rw [er]; exact vp0 (by decide) (by decide), by rw [er]; exact vp0 (by decide) (by decide), fun h10 e10 => ?_⟩
      rw [show (0 : Int32).toNatClampNeg = 0 from rfl, wI_I, tpu_o (by omega), h0, nI_1, sI_wI, wI_wI, wI_I] at e10
      subst e10
      have k1 : K.take pl = C := by rw [hCS, ← eC, List.take_left]
      have k2 : K.drop pl = S := by rw [hCS, ← eC, List.drop_left]
      refine kk _ (fun b hb => by rw [tpu_ne hb, tpu_ne hb]; exact hF b hb) ⟨?_, ?_⟩
      · rw [tpu_s, k1, k2, List.length_append, List.length_cons]
        congr 1
        omega
      · rw [k1, k2]
        refine rwG_app.mpr ⟨rwG_k rC (fun j h1 h2 => by rw [tpu_o (by omega), tpu_o (by omega)]), rwG_cons.mpr ⟨?_, ?_⟩⟩
        · rw [tpu_o (by omega), eC, Nat.add_comm 1, tpu_s]
        · have e2 : 1 + C.length + 1 = 2 + C.length := by omega
          rw [e2]
          exact rwG_k rS (fun j h1 h2 => by rw [tpu_o (by omega), tpu_o (by omega)])
    · have g1 : ¬ C.length < pl + 1 := fun q => g ((nI_lt_iff (by omega) (by omega)).mpr q)
      obtain ⟨C', d, rfl⟩ := ex_snoc (L := C) (fun q => g1 (by rw [q]; exact Nat.succ_pos _))
      have el : (C' ++ [d]).length = C'.length + 1 := by rw [List.length_append, List.length_singleton]
      rw [el] at hlen rS hn hpC g1 ⊢
      refine ⟨r, rfl, br.1, ?_⟩
      rw [nI_1, er, nI_clamp (by omega), nI_clamp (by omega)]
      refine ⟨vp_in_nI (by omega) (by decide), vp_in_nI (by omega) (by decide), fun h17 e17 => ?_⟩
      obtain ⟨rC1, rC2⟩ := rwG_app.mp rC
      have ed : F r (C'.length + 1) = nI d := by
        have := (rwG_cons.mp rC2).1
        rw [Nat.add_comm 1] at this
        exact this
      rw [wI_I, ed, sI_wI, wI_wI, wI_I] at e17
      subst e17
      have em : nI (C'.length + 1) + -1 = nI C'.length := nI_m1 _
      rw [em]
      refine p_pb41 br lK hpl kk n C' (d :: S) _ (by omega) (by rw [hCS, List.append_assoc]; rfl) (by omega) (fun b hb => (tpu_ne hb).trans (hF b hb)) (by rw [tpu_o (by omega)]; exact h0) (rwG_k rC1 (fun j _ hj => tpu_o (by omega))) (rwG_cons.mpr ⟨?_, rwG_k (show rwKs F r (2 + C'.length + 1) S from by rw [show 2 + C'.length + 1 = 2 + (C'.length + 1) by omega]; exact rS) (fun j hj _ => tpu_o (by omega))⟩)
      rw [show 2 + C'.length = C'.length + 1 + 1 by omega]
      exact tpu_s _ _ _ _
def aV (K : List Nat) (a : Option Nat) (v : Int32) : Prop := match a with
  | none => ∀ y ∈ K, nI y ≠ v
  | some x => x ∈ K ∧ v = nI x
theorem p_pb5 {h : tpH} {r m : Nat} {K : List Nat} (br : iA h r 42) (lK : K.length ≤ 40) (nK : K.Nodup) (hK : ∀ y ∈ K, y < 40) {F : Nat → Nat → Int32} (rK : rwC F r K) {a : Option Nat} {v : Int32} (hv : aV K a v) {R : tpH → Prop} (kk : ∀ G, (∀ b, b ≠ r → G b = F b) → rwC G r (K.take (aK K a) ++ m :: K.drop (aK K a)) → R (wI h G)) :
    ∀ (n : Nat) (A B : List Nat) (pl : Nat), K = A ++ B → B.length < n → (pl = 0 ∧ (∀ y ∈ A, nI y ≠ v) ∨ pl = aK K a ∧ ∃ y ∈ K, nI y = v) → w_Lw_putsBehind_5 R n (some r) (nI m) v (nI (pl + 1)) (nI (A.length + 1)) (wI h F)
  | 0, A, B, pl, _, hn, _ => absurd hn (Nat.not_lt_zero _)
  | n + 1, A, B, pl, hAB, hn, hp => by
    have hlen : K.length = A.length + B.length := by rw [hAB, List.length_append]
    have er : hL (wI h F) r = 42 := br.2
    refine ⟨r, rfl, br.1, by rw [er]; exact vp0 (by decide) (by decide), ?_⟩
    rw [show (0 : Int32).toNatClampNeg = 0 from rfl, wI_I, rK.1, nI_lt_iff (by omega) (by omega), nI_1]
    refine ⟨fun g => ⟨by rw [er]; exact vp0 (by decide) (by decide), K.length + 1, ?_⟩, fun g => ?_⟩
    · have eB : B = [] := List.eq_nil_of_length_eq_zero (by omega)
      rw [eB, List.append_nil] at hAB
      have epl : pl = aK K a := by
        rcases hp with ⟨p1, p2⟩ | ⟨p1, p2⟩
        · cases a with
          | none => exact p1
          | some x =>
            obtain ⟨q1, q2⟩ : x ∈ K ∧ v = nI x := hv
            rw [hAB] at q1
            exact absurd q2.symm (p2 x q1)
        · exact p1
      have hle : pl ≤ K.length := by
        rw [epl]
        cases a with
        | none => exact Nat.zero_le _
        | some x =>
          have q1 : x ∈ K := (show x ∈ K ∧ v = nI x from hv).1
          have := List.idxOf_lt_length_iff.mpr q1
          show K.idxOf x + 1 ≤ K.length
          omega
      rw [← epl] at kk
      exact p_pb41 br lK hle kk (K.length + 1) K [] F (Nat.lt_succ_self _) (List.append_nil _).symm hle (fun _ _ => rfl) rK.1 rK.2 (rwG_nil _ _ _ _)
    · match B, hAB, hn, hlen with
      | [], _, _, hlen => simp at hlen; omega
      | y :: B, hAB, hn, hlen =>
        rw [List.length_cons] at hn hlen
        have hyK : y ∈ K := by rw [hAB]; simp
        have hya : K[A.length]? = some y := by rw [hAB, List.getElem?_append_right (Nat.le_refl _), Nat.sub_self]; rfl
        have ey : F r (A.length + 1) = nI y := by
          have := rK.2 A.length y hya
          rw [Nat.add_comm] at this
          exact this
        have IH := fun pl q => p_pb5 br lK nK hK rK hv kk n (A ++ [y]) B pl (by rw [hAB, List.append_assoc]; rfl) (by omega) q
        rw [List.length_append, List.length_singleton] at IH
        rw [er, nI_clamp (by omega), ey]
        refine ⟨vp_in_nI (by omega) (by decide), fun q => IH pl ?_, fun q => IH (A.length + 1) (Or.inr ⟨?_, y, hyK, q⟩)⟩
        · rcases hp with ⟨p1, p2⟩ | p2
          · refine Or.inl ⟨p1, fun z hz => ?_⟩
            rcases List.mem_append.mp hz with g2 | g2
            · exact p2 z g2
            · rw [List.mem_singleton.mp g2]; exact q
          · exact Or.inr p2
        · cases a with
          | none => exact absurd q (hv y hyK)
          | some x =>
            obtain ⟨q1, q2⟩ : x ∈ K ∧ v = nI x := hv
            have hy4 := hK y hyK
            have hx4 := hK x q1
            have : y = x := nI_inj (by omega) (by omega) (q.trans q2)
            rw [this] at hya
            show A.length + 1 = K.idxOf x + 1
            rw [idx_of nK hya]
theorem insK_f (K : List Nat) (m : Nat) (a : Option Nat) : insK false K m a = K.take (aK K a) ++ m :: K.drop (aK K a) := rfl
theorem p_putsB {h : tpH} {r m : Nat} {K : List Nat} (br : iA h r 42) (lK : K.length ≤ 40) (nK : K.Nodup) (hK : ∀ y ∈ K, y < 40) {F : Nat → Nat → Int32} (rK : rwC F r K) {a : Option Nat} {v : Int32} (hv : aV K a v) {R : tpH → Prop} (kk : ∀ G, (∀ b, b ≠ r → G b = F b) → rwC G r (insK false K m a) → R (wI h G)) : w_Lw_putsBehind (some r) (nI m) v (wI h F) R :=
  ⟨K.length + 1, p_pb5 br lK nK hK rK hv kk (K.length + 1) [] K 0 rfl (Nat.lt_succ_self _) (Or.inl ⟨rfl, fun y hy => by cases hy⟩)⟩
end AHEAD
