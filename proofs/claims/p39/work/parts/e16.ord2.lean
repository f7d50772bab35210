section ORD2
theorem shL_sub {b : mT} {s : mgS} {p : Nat} : ∀ x, x ∈ shL b s p → x ∈ tKi b p := fun x hx => (List.mem_filter.mp hx).1
theorem nrA_prev {b : mT} (hb : fWF 300 b) {s : mgS} {p m : Nat} {A B K : List Nat} (hS : shL b s p = A ++ m :: B) (h1 : ∀ x ∈ K, x ∈ shL b s p) (h2 : ∀ x ∈ A, x ∈ K) : nrA b K p m = A.getLast? := by
  have hmS : m ∈ shL b s p := by rw [hS]; simp
  have hm := shL_sub m hmS
  obtain ⟨C1, C2, hC⟩ := List.append_of_mem hm
  have hn := hb.2.2.1 p
  have hm1 : m ∉ C1 := fun q => by
    rw [hC] at hn
    obtain ⟨-, -, n3⟩ := List.nodup_append.mp hn
    exact n3 m q m List.mem_cons_self rfl
  have ei : (tKi b p).idxOf m = C1.length := by rw [hC]; exact ix_mid hm1
  have et : (tKi b p).take ((tKi b p).idxOf m) = C1 := by rw [ei, hC, List.take_left]
  have hum : sUp s m = some p := of_decide_eq_true (List.mem_filter.mp hmS).2
  have eS : shL b s p = C1.filter (fun m => decide (sUp s m = some p)) ++ m :: C2.filter (fun m => decide (sUp s m = some p)) := by
    unfold shL
    rw [hC, List.filter_append, List.filter_cons_of_pos (by exact decide_eq_true hum)]
  have nS : (shL b s p).Nodup := hn.filter _
  rw [eS] at hS nS
  obtain ⟨eA, -⟩ := nd_split nS hS
  unfold nrA
  rw [et, ← eA]
  congr 1
  refine List.filter_congr (fun x hx => ?_)
  by_cases c : sUp s x = some p
  · rw [decide_eq_true c, decide_eq_true]
    exact h2 x (by rw [← eA]; exact List.mem_filter.mpr ⟨hx, decide_eq_true c⟩)
  · rw [decide_eq_false c, decide_eq_false]
    exact fun q => c (of_decide_eq_true (List.mem_filter.mp (h1 x q)).2)
theorem insf_mem {K : List Nat} {m x : Nat} {a : Option Nat} : x ∈ insK false K m a ↔ x = m ∨ x ∈ K := in_mem
theorem insf_nd {K : List Nat} {m : Nat} {a : Option Nat} (h : K.Nodup) (hm : m ∉ K) : (insK false K m a).Nodup := in_nd h hm
theorem l40_of {K : List Nat} (h : K.Nodup) (h2 : ∀ y ∈ K, y < 39) : K.length ≤ 39 := nd_lt h h2
theorem p_or366 {h : tpH} {r sh m i : Nat} {K : List Nat} (br : iA h r 42) (bs : iA h sh 40) (rK : rwC (hI h) r K) (lK : K.length ≤ 41) (hK : ∀ y ∈ K, y < 2 ^ 31) (hm : m < 2 ^ 31) (hi : i < 40) (hsh : hI h sh i = nI m) {R : Int32 → tpH → Prop} {x0 x1 x2 x3 x4 : Option Nat} {x6 x14 x18 : Int32} {K353 : (Option Nat) → (Option Nat) → (Option Nat) → (Option Nat) → (Option Nat) → Int32 → (Option Nat) → (Option Nat) → Int32 → Int32 → Int32 → tpH → Prop}
    (k1 : m ∈ K → K353 x0 x1 x2 x3 x4 x6 (some r) (some sh) x14 x18 (nI (i + 1)) h) (k0 : m ∉ K → w_Lw_ahead x0 x4 x6 (nI m) (some r) h (fun v13 h12 => w_Lw_putsBehind (some r) (nI m) v13 h12 (fun h14 => K353 x0 x1 x2 x3 x4 x6 (some r) (some sh) x14 x18 (nI (i + 1)) h14))) :
    ∀ (n : Nat) (A B : List Nat), K = A ++ B → B.length < n → w_Lw_orders_366 R K353 n x0 x1 x2 x3 x4 x6 (some r) (some sh) x14 x18 (nI i) (lB (decide (m ∈ A))) (nI (A.length + 1)) h
  | 0, A, B, _, hn => absurd hn (Nat.not_lt_zero _)
  | n + 1, A, B, hAB, hn => by
    have hlen : K.length = A.length + B.length := by rw [hAB, List.length_append]
    refine ⟨r, rfl, br.1, by rw [br.2]; exact vp0 (by decide) (by decide), ?_⟩
    have vs : vp_in (nI i) (hL h sh) := by rw [bs.2]; exact vp_in_nI hi (by decide)
    rw [show (0 : Int32).toNatClampNeg = 0 from rfl, rK.1, nI_lt_iff (by omega) (by omega), nI_1, nI_1]
    refine ⟨fun g => ?_, fun g => ?_⟩
    · have eB : B = [] := List.eq_nil_of_length_eq_zero (by omega)
      rw [eB, List.append_nil] at hAB
      rw [← hAB]
      by_cases c : m ∈ K
      · rw [decide_eq_true c]
        exact ⟨fun _ => k1 c, fun q => absurd q (by decide)⟩
      · rw [decide_eq_false c]
        refine ⟨fun q => absurd rfl q, fun _ => ⟨sh, rfl, bs.1, vs, vs, ?_⟩⟩
        rw [nI_clamp (by omega), hsh]
        exact k0 c
    · match B, hAB, hn, hlen with
      | [], _, _, hlen => simp at hlen; omega
      | y :: B, hAB, hn, hlen =>
        rw [List.length_cons] at hn hlen
        have IH := p_or366 (R := R) br bs rK lK hK hm hi hsh k1 k0 n (A ++ [y]) B (by rw [hAB, List.append_assoc]; rfl) (by omega)
        rw [List.length_append, List.length_singleton] at IH
        have ey : hI h r (A.length + 1) = nI y := by
          have := rK.2 A.length y (by rw [hAB, List.getElem?_append_right (Nat.le_refl _), Nat.sub_self]; rfl)
          rw [Nat.add_comm] at this
          exact this
        by_cases c : m ∈ A
        · rw [decide_eq_true (List.mem_append_left _ c)] at IH
          rw [decide_eq_true c]
          exact ⟨fun _ => IH, fun q => absurd q (by decide)⟩
        · rw [decide_eq_false c]
          refine ⟨fun q => absurd rfl q, fun _ => ⟨by rw [br.2]; exact vp_in_nI (by omega) (by decide), sh, rfl, bs.1, vs, ?_⟩⟩
          rw [nI_clamp (by omega), nI_clamp (by omega), ey, hsh]
          have hy := hK y (by rw [hAB]; simp)
          refine ⟨fun q => ?_, fun q => ?_⟩
          · have : m ∉ A ++ [y] := fun g2 => by
              rcases List.mem_append.mp g2 with g2 | g2
              · exact c g2
              · exact q (by rw [List.mem_singleton.mp g2])
            rw [decide_eq_false this] at IH
            exact IH
          · have : m ∈ A ++ [y] := by rw [nI_inj hy hm q]; simp
            rw [decide_eq_true this] at IH
            exact IH
/-- what stays while children are ordered: the trees' rows, and others, but the row r -/
def oX (h1 : tpH) (tb t k sh r : Nat) (b : mT) (S : List Nat) : Prop := (bR h1 (hI h1) tb b ∧ iA h1 t 41 ∧ iA h1 k 40 ∧ iA h1 sh 40 ∧ iA h1 r 42) ∧ (tb < hZ h1 ∧ t < hZ h1 ∧ k < hZ h1 ∧ sh < hZ h1 ∧ r < hZ h1) ∧ (tb ≠ r ∧ t ≠ r ∧ k ≠ r ∧ sh ≠ r) ∧ rwKs (hI h1) sh 0 S
def oR (r : Nat) : Nat → Nat → Prop := fun b _ => b = r
theorem bR_fr {h h' : tpH} {T : Nat → Nat → Prop} {k u t : Nat} {A : mT} (H : bR h (hI h) t A) (f : aFr h h' T k u) (ht : t < hZ h) (n : ∀ j, ¬ T t j) : bR h' (hI h') t A := ⟨⟨aFr_iA f ht H.1.1, rwP_k H.1.2 (aFr_I f ht n)⟩, H.2⟩
theorem p_or353 {h1 : tpH} {tb t k sh r p mk R0 : Nat} {po : Nat → Int32} {b l rr : mT} {s : mgS} {lo : Nat → Bool} (HH : mgH mk R0 b l rr) (hmk : mk ≤ 39) (X : oX h1 tb t k sh r b (shL b s p)) (hlo : tLo lo b) (hp : p < 40) (hk : hI h1 k p ≤ 3 ↔ lo p = false) {K0 : List Nat} (nK0 : K0.Nodup) (sK0 : ∀ x ∈ K0, x ∈ shL b s p) {R : Int32 → tpH → Prop} {x1 x2 : Option Nat} {x18 : Int32}
    (fin : ∀ h' c, aFr h1 h' (oR r) c (40 * c) → c ≤ (shL b s p).length → rwC (hI h') r ((shL b s p).foldl bsS (K0, none)).1 → ∃ n, w_Lw_orders_445 R n x1 x2 (some t) (some k) (nI p) (some r) (some sh) (nI (shL b s p).length) x18 (0 : Int32) h') :
    ∀ (n : Nat) (A B K : List Nat) (h : tpH) (c : Nat), shL b s p = A ++ B → B.length < n → A.foldl bsS (K0, none) = (K, A.getLast?) → K.Nodup → (∀ x ∈ K, x ∈ shL b s p) → (∀ x ∈ A, x ∈ K) → aFr h1 h (oR r) c (40 * c) → c ≤ A.length → rwC (hI h) r K → w_Lw_orders_353 R n (some tb) x1 x2 (some t) (some k) (nI p) (some r) (some sh) (nI (shL b s p).length) x18 (nI A.length) h
  | 0, A, B, K, h, c, _, hn, _, _, _, _, _, _, _ => absurd hn (Nat.not_lt_zero _)
  | n + 1, A, B, K, h, c, hAB, hn, eK, nK, sK, aK', f, hc, rK => by
    obtain ⟨⟨Hb, at_, ak, as, ar⟩, ⟨z1, z2, z3, z4, z5⟩, ⟨d1, d2, d3, d4⟩, rS⟩ := id X
    have zz := f.1.1
    have hw := HH.1.1.1
    have kib : ∀ y ∈ tKi b p, y < mk := fun y hy => HH.2.2.2.1 y ((hw.2.1 y p).mp hy).1
    have S39 : (shL b s p).length ≤ 39 := nd_lt ((hw.2.2.1 p).filter _) (fun y hy => by have := kib y (shL_sub y hy); omega)
    have K39 : K.length ≤ 39 := nd_lt nK (fun y hy => by have := kib y (shL_sub y (sK y hy)); omega)
    have hlen : (shL b s p).length = A.length + B.length := by rw [hAB, List.length_append]
    refine ⟨fun g => ?_, fun g => ?_⟩
    · have gi := (nI_le_iff (by omega) (by omega)).mp g
      have eB : B = [] := List.eq_nil_of_length_eq_zero (by omega)
      rw [eB, List.append_nil] at hAB
      refine fin h c f (by omega) ?_
      rw [hAB, eK]
      exact rK
    · have gi : ¬ (shL b s p).length ≤ A.length := fun q => g ((nI_le_iff (by omega) (by omega)).mpr q)
      match B, hAB, hn, hlen with
      | [], _, _, hlen => simp at hlen; omega
      | m :: B, hAB, hn, hlen =>
        rw [List.length_cons] at hn hlen
        have hmS : m ∈ shL b s p := by rw [hAB]; simp
        have hm39 := kib m (shL_sub m hmS)
        have hma : (shL b s p)[A.length]? = some m := by rw [hAB, List.getElem?_append_right (Nat.le_refl _), Nat.sub_self]; rfl
        have es : hI h sh A.length = nI m := by
          rw [aFr_I f z4 (fun _ q => d4 q)]
          have := rS A.length m hma
          rw [Nat.zero_add] at this
          exact this
        have hAB2 : shL b s p = A ++ [m] ++ B := by rw [hAB, List.append_assoc]; rfl
        have eK2 : (A ++ [m]).foldl bsS (K0, none) = (if m ∈ K then K else insK false K m A.getLast?, (A ++ [m]).getLast?) := by
          rw [List.foldl_append, eK, List.getLast?_concat]
          rfl
        have IH := p_or353 (po := po) HH hmk X hlo hp hk nK0 sK0 fin n (A ++ [m]) B
        have el : (A ++ [m]).length = A.length + 1 := by rw [List.length_append, List.length_singleton]
        rw [el] at IH
        have br := aFr_iA f z5 ar
        refine ⟨K.length + 1, p_or366 br (aFr_iA f z4 as) rK (by omega) (fun y hy => by have := kib y (shL_sub y (sK y hy)); omega) (by omega) (by omega) es (fun cm => ?_) (fun cm => ?_) (K.length + 1) [] K rfl (Nat.lt_succ_self _)⟩
        · rw [if_pos cm] at eK2
          refine IH K h c hAB2 (by omega) eK2 nK sK (fun x hx => ?_) f (by omega) rK
          rcases List.mem_append.mp hx with q | q
          · exact aK' x q
          · rw [List.mem_singleton.mp q]; exact cm
        · rw [if_neg cm] at eK2
          have HbF := bR_fr Hb f z1 (fun _ q => d1 q)
          have hkF : hI h k p ≤ 3 ↔ lo p = false := by rw [aFr_I f z3 (fun _ q => d3 q)]; exact hk
          refine p_ahead HbF hlo (aFr_iA f z3 ak) br ⟨by omega, by omega, by omega⟩ hp hkF rK (by omega) (fun y hy => by have := kib y (shL_sub y (sK y hy)); omega) (shL_sub m hmS) (fun h' f' => ?_)
          have enr : nrA b K p m = A.getLast? := nrA_prev hw hAB sK aK'
          have hav : aV K (nrA b K p m) (nO (nrA b K p m)) := by
            rw [enr]
            cases q : A.getLast? with
            | none =>
              refine fun y hy q2 => ?_
              have := kib y (shL_sub y (sK y hy))
              exact nI_ne_m (by omega) q2
            | some z => exact ⟨aK' z (List.mem_of_getLast? q), rfl⟩
          refine p_putsB (h := h') (F := hI h') (aFr_iA f' (by omega) br) (by omega) nK (fun y hy => by have := kib y (shL_sub y (sK y hy)); omega) (rwC_k rK (aFr_I f' (by omega) (fun _ q => q))) hav (fun G g1 g2 => ?_)
          rw [enr] at g2
          refine IH _ (wI h' G) (c + 1) hAB2 (by omega) eK2 (insf_nd nK cm) (fun x hx => ?_) (fun x hx => ?_) ?_ (by omega) g2
          · rcases insf_mem.mp hx with q | q
            · rw [q]; exact hmS
            · exact sK x q
          · rcases List.mem_append.mp hx with q | q
            · exact insf_mem.mpr (Or.inr (aK' x q))
            · exact insf_mem.mpr (Or.inl (List.mem_singleton.mp q))
          · have q1 := aFr_tr f (aFr_mono f' (T' := oR r) (fun _ _ _ g => g.elim) (Nat.le_refl _) (Nat.le_refl _)) (fun _ _ _ g => g)
            have q2 := aFr_tr q1 (k' := 0) (u' := 0) (T' := oR r) (aFr_w (h := h') (F := hI h') (G := G) (fun x j hx => by rw [g1 x hx])) (fun _ _ _ g => g)
            exact aFr_mono q2 (fun _ _ _ g => g) (by omega) (by omega)
theorem nr_v {T : mT} {K : List Nat} {p m : Nat} : ∀ x, nrA T K p m = some x → x ∈ K := fun x hx => by
  unfold nrA at hx
  exact of_decide_eq_true (List.mem_filter.mp (List.mem_of_getLast? hx)).2
theorem aV_1 {T : mT} {K : List Nat} {p m : Nat} (hK : ∀ y ∈ K, y < 40) : aV K (nrA T K p m) (nO (nrA T K p m)) := by
  cases q : nrA T K p m with
  | none =>
    refine fun y hy q2 => ?_
    have := hK y hy
    exact nI_ne_m (by omega) q2
  | some z => exact ⟨nr_v z q, rfl⟩
theorem nO_99 {o : Option Nat} (h : ∀ x, o = some x → x < 40) : nO o ≤ 99 := by
  cases o with
  | none => decide
  | some x => exact (nI_le_iff (b := 99) (by have := h x rfl; omega) (by decide)).mpr (by have := h x rfl; omega)
theorem n99_nO {o : Option Nat} (h : ∀ x, o = some x → x < 40) : ¬ 99 ≤ nO o := by
  cases o with
  | none => decide
  | some x =>
    refine fun q => ?_
    have h1 := h x rfl
    have := (nI_le_iff (a := 99) (by decide) (by omega)).mp q
    omega
theorem mn_v {K : List Nat} (hK : ∀ y ∈ K, y < 40) {o1 o2 : Option Nat} (h1 : ∀ x, o1 = some x → x ∈ K) (h2 : ∀ x, o2 = some x → x ∈ K) : (nO o2 ≤ nO o1 → aV K (mnO o1 o2) (nO o2)) ∧ (¬ nO o2 ≤ nO o1 → aV K (mnO o1 o2) (nO o1)) := by
  have nn : ∀ y ∈ K, nI y ≠ -1 := fun y hy => by have := hK y hy; exact nI_ne_m (by omega)
  cases o1 with
  | none =>
    refine ⟨fun q => ?_, fun _ => nn⟩
    cases o2 with
    | none => exact nn
    | some z =>
      have hz := hK z (h2 z rfl)
      rw [Int32.le_iff_toInt_le] at q
      have e1 : (nO (some z)).toInt = (z : Int) := nI_toInt (by omega)
      have e2 : (nO none).toInt = -1 := rfl
      omega
  | some y =>
    have hy := hK y (h1 y rfl)
    cases o2 with
    | none =>
      refine ⟨fun _ => nn, fun q => absurd ?_ q⟩
      rw [Int32.le_iff_toInt_le]
      have e1 : (nO (some y)).toInt = (y : Int) := nI_toInt (by omega)
      have e2 : (nO none).toInt = -1 := rfl
      omega
    | some z =>
      have hz := hK z (h2 z rfl)
      have iff : nO (some z) ≤ nO (some y) ↔ z ≤ y := nI_le_iff (by omega) (by omega)
      refine ⟨fun q => ?_, fun q => ?_⟩
      · have q2 := iff.mp q
        show aV K (some (if y < z then y else z)) _
        rw [if_neg (by omega)]
        exact ⟨h2 z rfl, rfl⟩
      · have q2 : ¬ z ≤ y := fun x => q (iff.mpr x)
        show aV K (some (if y < z then y else z)) _
        rw [if_pos (by omega)]
        exact ⟨h1 y rfl, rfl⟩
theorem p_or445 {h1 : tpH} {tb tl tr t k sh r p mk R0 : Nat} {po : Nat → Int32} {b l rr : mT} {s : mgS} {lo : Nat → Bool} (HH : mgH mk R0 b l rr) (hmk : mk ≤ 39) (I : mgI mk R0 po b l rr s) (X : oX h1 tb t k sh r b (shL b s p)) (Hl : bR h1 (hI h1) tl l) (Hr : bR h1 (hI h1) tr rr) (zl : tl < hZ h1 ∧ tr < hZ h1 ∧ tl ≠ r ∧ tr ≠ r) (W : mRo (hI h1) t s) (ll : tLo lo l) (lr : tLo lo rr) (hp : p < 40) (hkp : hI h1 k p ≤ 3 ↔ lo p = false) (hlp : lo p = false) {K0 : List Nat} (nK0 : K0.Nodup) (sK0 : ∀ x, x ∈ K0 ↔ x ∈ shL b s p) {R : Int32 → tpH → Prop} {v18 : Bool}
    (fin : ∀ h' c, aFr h1 h' (oR r) c (40 * c) → c ≤ 80 → rwC (hI h') r ((List.range mk).foldl (otS (lo p) l rr s p) K0) → R (lB v18) h') :
    ∀ (n i : Nat) (K : List Nat) (h : tpH) (c : Nat), i ≤ 40 → 40 < n + i → (List.range i).foldl (otS (lo p) l rr s p) K0 = K → K.Nodup → (∀ x, x ∈ K ↔ x ∈ shL b s p ∨ (x < i ∧ sUp s x = some p)) → aFr h1 h (oR r) c (40 * c) → c ≤ 2 * i → rwC (hI h) r K → w_Lw_orders_445 R n (some tl) (some tr) (some t) (some k) (nI p) (some r) (some sh) (nI (shL b s p).length) (lB v18) (nI i) h
  | 0, i, K, h, c, h1, h2, _, _, _, _, _, _ => by omega
  | n + 1, i, K, h, c, hi, hn, eK, nK, sK, f, hc, rK => by
    obtain ⟨⟨Hb, at_, ak, as, ar⟩, ⟨z1, z2, z3, z4, z5⟩, ⟨d1, d2, d3, d4⟩, rS⟩ := id X
    obtain ⟨y1, y2, y3, y4⟩ := zl
    have zz := f.1.1
    have hw := HH.1.1.1
    have K40 : ∀ y ∈ K, y < 39 := fun y hy => by
      rcases (sK y).mp hy with q | q
      · have := HH.2.2.2.1 y ((hw.2.1 y p).mp (shL_sub y q)).1
        omega
      · have hin : sIn s y = true := by
          cases cc : sIn s y with
          | true => rfl
          | false => rw [I.2.1 y cc] at q; exact absurd q.2 (by simp)
        have := (I.1 y hin).1
        omega
    have K39 := l40_of nK K40
    have S39 : (shL b s p).length ≤ 39 := l40_of ((hw.2.2.1 p).filter _) (fun y hy => K40 y ((sK y).mpr (Or.inl hy)))
    have noUp : ∀ x, mk ≤ x → sUp s x ≠ some p := fun x hx q => by
      cases cc : sIn s x with
      | true => have := (I.1 x cc).1; omega
      | false => rw [I.2.1 x cc] at q; cases q
    refine ⟨fun g => ?_, fun g => ?_⟩
    · have gi := (nI_le_iff (a := 40) (by decide) (by omega)).mp g
      have e40 : ∀ d, (List.range (mk + d)).foldl (otS (lo p) l rr s p) K0 = (List.range mk).foldl (otS (lo p) l rr s p) K0 := fun d => by
        induction d with
        | zero => rfl
        | succ d ih =>
          rw [show mk + (d + 1) = mk + d + 1 from rfl, List.range_succ, List.foldl_append, ih]
          show otS (lo p) l rr s p _ (mk + d) = _
          unfold otS
          rw [if_neg (fun q => noUp (mk + d) (by omega) q.1)]
      refine ⟨?_, fin h c f (by omega) ?_⟩
      · unfold lB
        split
        · exact Or.inr rfl
        · exact Or.inl rfl
      · have e := e40 (40 - mk)
        rw [show mk + (40 - mk) = i by omega, eK] at e
        rw [← e]
        exact rK
    · have gi : i < 40 := by
        have : ¬ 40 ≤ i := fun q => g ((nI_le_iff (a := 40) (by decide) (by omega)).mpr q)
        omega
      have IH := p_or445 (po := po) HH hmk I X Hl Hr ⟨y1, y2, y3, y4⟩ W ll lr hp hkp hlp nK0 sK0 fin n (i + 1)
      have eK2 : (List.range (i + 1)).foldl (otS (lo p) l rr s p) K0 = otS (lo p) l rr s p K i := by
        rw [List.range_succ, List.foldl_append, eK]
        rfl
      have iK : i ∈ K ↔ i ∈ shL b s p := (sK i).trans ⟨fun q => q.elim id (fun q => absurd q.1 (Nat.lt_irrefl _)), Or.inl⟩
      have stay : otS (lo p) l rr s p K i = K → (sUp s i = some p → i ∈ shL b s p) → w_Lw_orders_445 R n (some tl) (some tr) (some t) (some k) (nI p) (some r) (some sh) (nI (shL b s p).length) (lB v18) (nI i + 1) h := fun q1 q2 => by
        rw [nI_1]
        refine IH K h c (by omega) (by omega) (eK2.trans q1) nK (fun x => (sK x).trans ⟨fun q => q.imp_right (fun q => ⟨by omega, q.2⟩), fun q => ?_⟩) f (by omega) rK
        rcases q with q | ⟨q, q3⟩
        · exact Or.inl q
        · by_cases cx : x = i
          · rw [cx] at q3 ⊢; exact Or.inl (q2 q3)
          · exact Or.inr ⟨by omega, q3⟩
      obtain ⟨L, L1, L2, L3⟩ := mR_k W (aFr_I f z2 (fun _ q => d2 q))
      refine p_pOf (aFr_iA f z2 at_) L1 L2 (by omega) ?_
      have iff := rPa_iff (I := sIn s) (U := sUp s) (x := i) (m := p) (fun _ q hq => by have := up_lt HH I hq; omega) (by omega)
      refine ⟨fun g2 => ?_, fun g2 => ?_⟩
      · have nu : ¬ sUp s i = some p := fun q => by
          have hin : sIn s i = true := by
            cases cc : sIn s i with
            | true => rfl
            | false => rw [I.2.1 i cc] at q; cases q
          exact g2 (iff.mpr ⟨hin, q⟩)
        exact stay (by unfold otS; rw [if_neg (fun q => nu q.1)]) (fun q => absurd q nu)
      · have hu := (iff.mp g2).2
        have rSh : rwKs (hI h) sh 0 (shL b s p) := rwG_k rS (fun j _ _ => by rw [aFr_I f z4 (fun _ q => d4 q)])
        refine p_at_ (aFr_iA f z4 as) (by omega) (by decide) rSh (by omega) (fun y hy => by have := K40 y ((sK y).mpr (Or.inl hy)); omega) (fun j hj => ⟨fun _ => ?_, fun q => absurd (nI_pos' ?_) q⟩) (fun nn => ⟨fun q => absurd q (by decide), fun _ => ?_⟩)
        · have hS := List.mem_of_getElem? hj
          exact stay (by unfold otS; rw [if_neg (fun q => q.2 (iK.mpr hS))]) (fun _ => hS)
        · have := (List.getElem?_eq_some_iff.mp hj).1
          omega
        · have niK : i ∉ K := fun q => nn (iK.mp q)
          have eo : otS (lo p) l rr s p K i = insK false K i (nrO l rr K p i) := by
            unfold otS
            rw [if_pos ⟨hu, niK⟩, hlp]
          rw [eo] at eK2
          have K40' : ∀ y ∈ K, y < 40 := fun y hy => by have := K40 y hy; omega
          -- the end of a step
          have put : ∀ (h' : tpH) (c' : Nat) (v : Int32), aFr h1 h' (oR r) c' (40 * c') → c' ≤ 2 * (i + 1) → hI h' r = hI h r → iA h' r 42 → aV K (nrO l rr K p i) v → w_Lw_putsBehind (some r) (nI i) v h' (fun h1 => w_Lw_orders_445 R n (some tl) (some tr) (some t) (some k) (nI p) (some r) (some sh) (nI (shL b s p).length) (lB v18) (nI i + 1) h1) := fun h' c' v f' hc' er br' hv => by
            refine p_putsB (h := h') (F := hI h') br' (by omega) nK K40' (rwC_k rK er) hv (fun G g3 g4 => ?_)
            rw [nI_1]
            refine IH _ (wI h' G) c' (by omega) (by omega) eK2 (insf_nd nK niK) (fun x => insf_mem.trans ⟨fun q => ?_, fun q => ?_⟩) ?_ hc' g4
            · rcases q with q | q
              · exact Or.inr ⟨by omega, by rw [q]; exact hu⟩
              · exact ((sK x).mp q).imp_right (fun q => ⟨by omega, q.2⟩)
            · rcases q with q | ⟨q, q3⟩
              · exact Or.inr ((sK x).mpr (Or.inl q))
              · by_cases cx : x = i
                · exact Or.inl cx
                · exact Or.inr ((sK x).mpr (Or.inr ⟨by omega, q3⟩))
            · exact aFr_tr f' (k' := 0) (u' := 0) (T' := oR r) (aFr_w (h := h') (F := hI h') (G := G) (fun x j hx => by rw [g3 x hx])) (fun _ _ _ g => g)
          have par : ∀ (h' : tpH) (tt : Nat) (T : mT), bR h' (hI h') tt T → ∀ (Q : Int32 → tpH → Prop), (i ∈ tKi T p → Q (nI p) h') → (i ∉ tKi T p → ∀ v, v ≠ nI p → Q v h') → w_Lw_parentOf (some tt) (nI i) h' Q := fun h' tt T HT Q q1 q0 => by
            refine bR_p (h := h') (F := hI h') HT (by omega) ?_
            have iff2 := rPa_iff (I := tIn T) (U := tUp T) (x := i) (m := p) (fun hi2 q hq => by have := (rwT_par (preL_rwT HT.2.1 HT.2.2) HT.1.2.2.2.1 hi2 hq).2; omega) (by omega)
            by_cases cc : i ∈ tKi T p
            · rw [iff2.mpr ((HT.2.1.1.2.1 i p).mp cc)]
              exact q1 cc
            · exact q0 cc _ (fun q => cc ((HT.2.1.1.2.1 i p).mpr (iff2.mp q)))
          have HlF := bR_fr Hl f y1 (fun _ q => y3 q)
          -- the right side
          have right : ∀ (h' : tpH) (c' : Nat) (v0 : Int32), aFr h1 h' (oR r) c' (40 * c') → c' ≤ 2 * i + 1 → aFr h h' nT0 (c' - c) (40 * (c' - c)) → c ≤ c' → (i ∈ tKi rr p → (nO (nrA rr K p i) ≤ v0 → aV K (nrO l rr K p i) (nO (nrA rr K p i))) ∧ (¬ nO (nrA rr K p i) ≤ v0 → aV K (nrO l rr K p i) v0)) → (i ∉ tKi rr p → ((99 : Int32) ≤ v0 → aV K (nrO l rr K p i) (99 : Int32)) ∧ (¬ (99 : Int32) ≤ v0 → aV K (nrO l rr K p i) v0)) → w_Lw_orders_503 R (w_Lw_orders_445 R n) (some tl) (some tr) (some t) (some k) (nI p) (some r) (some sh) (nI (shL b s p).length) (lB v18) (nI i) v0 h' := fun h' c' v0 f' hc' fh hcc w1 w0 => by
            have Hr' := bR_fr Hr f' y2 (fun _ q => y4 q)
            have zz' := f'.1.1
            have er : hI h' r = hI h r := aFr_I fh (by omega) (fun _ q => q)
            have br' := aFr_iA fh (by omega) (aFr_iA f z5 ar)
            refine par h' tr rr Hr' _ (fun cc => ⟨fun q => absurd rfl q, fun _ => ?_⟩) (fun cc v hv => ⟨fun _ => ?_, fun q => absurd q hv⟩)
            · have hk' : hI h' k p ≤ 3 ↔ lo p = false := by rw [aFr_I f' z3 (fun _ q => d3 q)]; exact hkp
              refine p_ahead Hr' lr (aFr_iA f' z3 ak) br' ⟨by omega, by omega, by omega⟩ hp hk' (rwC_k rK er) (by omega) K40' cc (fun h3 f3 => ?_)
              have f4 : aFr h1 h3 (oR r) (c' + 1) (40 * (c' + 1)) := aFr_mono (aFr_tr f' (aFr_mono f3 (T' := oR r) (fun _ _ _ g => g.elim) (Nat.le_refl _) (Nat.le_refl _)) (fun _ _ _ g => g)) (fun _ _ _ g => g) (Nat.le_refl _) (by omega)
              have er3 : hI h3 r = hI h r := (aFr_I f3 (by omega) (fun _ q => q)).trans er
              have br3 := aFr_iA f3 (by omega) br'
              exact ⟨fun q => put h3 (c' + 1) _ f4 (by omega) er3 br3 ((w1 cc).1 q), fun q => put h3 (c' + 1) _ f4 (by omega) er3 br3 ((w1 cc).2 q)⟩
            · exact ⟨fun q => put h' c' _ f' (by omega) er br' ((w0 cc).1 q), fun q => put h' c' _ f' (by omega) er br' ((w0 cc).2 q)⟩
          have n1 : ∀ (T : mT) x, nrA T K p i = some x → x < 40 := fun T x hx => K40' x (nr_v x hx)
          have n99 : ∀ y ∈ K, nI y ≠ 99 := fun y hy q => by
            have h1 := K40' y hy
            have := nI_inj (b := 99) (by omega) (by decide) q
            omega
          refine par h tl l HlF _ (fun cl => ⟨fun q => absurd rfl q, fun _ => ?_⟩) (fun cl v hv => ⟨fun _ => ?_, fun q => absurd q hv⟩)
          · have hk' : hI h k p ≤ 3 ↔ lo p = false := by rw [aFr_I f z3 (fun _ q => d3 q)]; exact hkp
            refine p_ahead HlF ll (aFr_iA f z3 ak) (aFr_iA f z5 ar) ⟨by omega, by omega, by omega⟩ hp hk' rK (by omega) K40' cl (fun h3 f3 => ?_)
            refine right h3 (c + 1) _ (aFr_mono (aFr_tr f (aFr_mono f3 (T' := oR r) (fun _ _ _ g => g.elim) (Nat.le_refl _) (Nat.le_refl _)) (fun _ _ _ g => g)) (fun _ _ _ g => g) (Nat.le_refl _) (by omega)) (by omega) (by rw [show c + 1 - c = 1 by omega]; exact f3) (by omega) (fun cr => ?_) (fun cr => ?_)
            · have e : nrO l rr K p i = mnO (nrA l K p i) (nrA rr K p i) := by unfold nrO; rw [if_pos cl, if_pos cr]
              rw [e]
              exact mn_v K40' (fun x hx => nr_v x hx) (fun x hx => nr_v x hx)
            · have e : nrO l rr K p i = nrA l K p i := by unfold nrO; rw [if_pos cl, if_neg cr]
              rw [e]
              exact ⟨fun q => absurd q (n99_nO (n1 l)), fun _ => aV_1 K40'⟩
          · refine right h c _ f (by omega) (by rw [Nat.sub_self]; exact ⟨hFr_mono (hFr_w h (G := hI h) (T := nT0) (fun _ _ => False) (fun _ _ _ => rfl)) (fun _ _ _ g => g) (fun _ _ _ g => g), Nat.le_refl _, Nat.le_refl _⟩) (Nat.le_refl _) (fun cr => ?_) (fun cr => ?_)
            · have e : nrO l rr K p i = nrA rr K p i := by unfold nrO; rw [if_neg cl, if_pos cr]
              rw [e]
              exact ⟨fun _ => aV_1 K40', fun q => absurd (nO_99 (n1 rr)) q⟩
            · have e : nrO l rr K p i = none := by unfold nrO; rw [if_neg cl, if_neg cr]
              rw [e]
              exact ⟨fun _ => n99, fun _ => n99⟩
theorem bsF_mem {b : mT} {s : mgS} {p : Nat} : ∀ (L : List Nat) (st : List Nat × Option Nat) (x : Nat), x ∈ (L.foldl bsS st).1 ↔ x ∈ st.1 ∨ x ∈ L
  | [], st, x => by simp
  | m :: L, st, x => by
    rw [List.foldl_cons, bsF_mem (b := b) (s := s) (p := p) L]
    have e : x ∈ (bsS st m).1 ↔ x ∈ st.1 ∨ x = m := by
      show x ∈ (if m ∈ st.1 then st.1 else insK false st.1 m st.2) ↔ _
      by_cases c : m ∈ st.1
      · rw [if_pos c]
        exact ⟨Or.inl, fun q => q.elim id (fun q => by rw [q]; exact c)⟩
      · rw [if_neg c, insf_mem]
        exact ⟨fun q => q.elim Or.inr Or.inl, fun q => q.elim Or.inr Or.inl⟩
    rw [e, List.mem_cons]
    exact ⟨fun q => q.elim (fun q => q.elim Or.inl (fun q => Or.inr (Or.inl q))) (fun q => Or.inr (Or.inr q)), fun q => q.elim (fun q => Or.inl (Or.inl q)) (fun q => q.elim (fun q => Or.inl (Or.inr q)) Or.inr)⟩
theorem bsK_mem {po : Nat → Int32} {b l r : mT} {s : mgS} {p : Nat} {D : List Nat} {v : Bool} (e : ldP po b l r s p = (D, v)) (hD : ∀ x ∈ D, x ∈ shL b s p) (x : Nat) : x ∈ bsK po b l r s p ↔ x ∈ shL b s p := by
  unfold bsK
  rw [e, bsF_mem (b := b) (s := s) (p := p)]
  exact ⟨fun q => q.elim (hD x) id, Or.inr⟩
end ORD2
