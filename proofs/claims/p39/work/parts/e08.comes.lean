section COMES
def cP (F : Nat → Nat → Int32) (c : Nat) (cf : List (Nat × Nat)) : Prop := F c 0 = nI cf.length ∧ ∀ (j : Nat) (e : Nat × Nat), j < 63 → cf[j]? = some e → F c (1 + j) = nI (8 * e.2 + e.1)
theorem cP_k {F G : Nat → Nat → Int32} {c : Nat} {cf : List (Nat × Nat)} (H : cP F c cf) (e : G c = F c) : cP G c cf := ⟨by rw [e]; exact H.1, fun j x h1 h2 => by rw [e]; exact H.2 j x h1 h2⟩
def lB (b : Bool) : Int32 := if b = true then 1 else 0
theorem p_adds {h : tpH} {c : Nat} (a : iA h c 64) {F : Nat → Nat → Int32} {cf : List (Nat × Nat)} (C : cP F c cf) (hl : cf.length < 100000) {k m : Nat} {R : tpH → Prop} (kk : ∀ G, (∀ b, b ≠ c → G b = F b) → cP G c (cf ++ [(k, m)]) → R (wI h G)) : w_Lw_adds (some c) (nI (8 * m + k)) (wI h F) R := by
  have ec : ∀ F, hL (wI h F) c = 64 := fun _ => a.2
  have v0 : ∀ F, vp_in (0 : Int32) (hL (wI h F) c) := fun F => by rw [ec]; exact vp0 (by decide) (by decide)
  refine ⟨c, rfl, a.1, v0 F, v0 F, fun h6 e6 => ?_⟩
  rw [show (0 : Int32).toNatClampNeg = 0 from rfl, wI_I, C.1, nI_1, sI_wI, wI_wI, wI_I] at e6
  subst e6
  have e1 : (tpu F c 0 (nI (cf.length + 1))) c 0 = nI (cf.length + 1) := tpu_s _ _ _ _
  refine ⟨v0 _, ?_⟩
  rw [show (0 : Int32).toNatClampNeg = 0 from rfl, wI_I, e1, show (64 : Int32) = nI 64 from rfl, nI_le_iff (by decide) (by omega), nI_clamp (by omega)]
  have len : (cf ++ [(k, m)]).length = cf.length + 1 := by rw [List.length_append]; rfl
  refine ⟨fun g => kk _ (fun b hb => tpu_ne hb) ⟨by rw [len]; exact e1, fun j e hj he => ?_⟩, fun g => ⟨v0 _, by rw [ec]; exact vp_in_nI (by omega) (by decide), fun h12 e12 => ?_⟩⟩
  · rw [List.getElem?_append_left (by omega)] at he
    rw [tpu_o (by omega)]
    exact C.2 j e hj he
  · rw [sI_wI, wI_wI, wI_I] at e12
    subst e12
    refine kk _ (fun b hb => by rw [tpu_ne hb, tpu_ne hb]) ⟨by rw [tpu_o (by omega), len]; exact e1, fun j e hj he => ?_⟩
    by_cases c1 : j < cf.length
    · rw [List.getElem?_append_left c1] at he
      rw [tpu_o (by omega), tpu_o (by omega)]
      exact C.2 j e hj he
    · have c2 : j < (cf ++ [(k, m)]).length := (List.getElem?_eq_some_iff.mp he).1
      have c3 : j = cf.length := by omega
      subst c3
      rw [List.getElem?_append_right (Nat.le_refl _), Nat.sub_self] at he
      rw [← Option.some.inj he, Nat.add_comm 1]
      exact tpu_s _ _ _ _
theorem p_decided {h : tpH} {c g : Nat} (a : iA h c 64) (ag : iA h g 6) (hcg : g ≠ c) {F : Nat → Nat → Int32} {cf : List (Nat × Nat)} (C : cP F c cf) (hl : cf.length < 100000) {k m : Nat} (hk : k < 6) {pol : Int32} (hpol : F g k = pol) {hb e1 e2 e3 : Bool} {xb xl xr xn : Int32} (q0 : xb = xn ↔ hb = false) (q1 : xl = xr ↔ e1 = true) (q2 : hb = true → (xr = xb ↔ e2 = true)) (q3 : hb = true → (xl = xb ↔ e3 = true)) {R : Int32 → tpH → Prop}
    (kk : ∀ G, (∀ b, b ≠ c → G b = F b) → cP G c (cf ++ (if (chS pol hb e1 e2 e3).2 = true then [(k, m)] else [])) → R (pk3 (chS pol hb e1 e2 e3).1 xl xr xb) (wI h G)) : w_Lw_decided (some c) (some g) (nI k) (nI m) xb xl xr xn (wI h F) R := by
  have d41 : chS pol hb e1 e2 e3 = (if pol = 2 then 1 else if pol = 1 ∨ hb = false then 0 else 2, true) → w_Lw_decided_41 R (some c) (some g) (nI k) (nI m) xb xl xr xn (wI h F) := fun q => by
    rw [q] at kk
    have e8 : (8 : Int32) * nI m + nI k = nI (8 * m + k) := by rw [show (8 : Int32) = nI 8 from rfl, mI_mul, nI_add]
    unfold w_Lw_decided_41
    rw [e8]
    refine p_adds a C hl (fun G g1 g2 => ?_)
    have eg : hL (wI h G) g = 6 := ag.2
    have vg : vp_in (nI k) (hL (wI h G) g) := by rw [eg]; exact vp_in_nI hk (by decide)
    have er := kk G g1 (by rw [if_pos rfl]; exact g2)
    refine ⟨g, rfl, ag.1, vg, ?_⟩
    rw [nI_clamp (by omega), wI_I, g1 g hcg, hpol]
    refine ⟨fun n2 => ⟨vg, fun c1 => ?_, fun c1 => ⟨fun cb => ?_, fun cb => ?_⟩⟩, fun c2 => ?_⟩
    · rw [if_neg n2, if_pos (Or.inl c1)] at er
      exact er
    · have hb1 : ¬ hb = false := fun q => cb (q0.mpr q)
      rw [if_neg n2, if_neg (fun q => q.elim c1 hb1)] at er
      exact er
    · rw [if_neg n2, if_pos (Or.inr (q0.mp cb))] at er
      exact er
    · rw [if_pos c2] at er
      exact er
  have done : ∀ v n, chS pol hb e1 e2 e3 = (n, false) → pk3 n xl xr xb = v → R v (wI h F) := fun v n q q' => by
    rw [q] at kk
    have := kk F (fun _ _ => rfl) (by rw [if_neg (by simp), List.append_nil]; exact C)
    rw [q'] at this
    exact this
  have d24 : ¬ (e1 || (hb && e2)) = true → w_Lw_decided_24 R (some c) (some g) (nI k) (nI m) xb xl xr xn (wI h F) := fun n1 => by
    refine ⟨fun cb => d41 ?_, fun cb => ⟨fun c3 => d41 ?_, fun c3 => ?_⟩⟩
    · have := q0.mp cb
      unfold chS
      rw [if_neg n1, if_neg (by rw [this]; simp)]
    · have hb1 : hb = true := by
        cases q : hb with
        | true => rfl
        | false => exact absurd (q0.mpr q) cb
      unfold chS
      rw [if_neg n1, if_neg (by rw [hb1, Bool.true_and]; exact fun q => c3 ((q3 hb1).mpr q))]
    · have hb1 : hb = true := by
        cases q : hb with
        | true => rfl
        | false => exact absurd (q0.mpr q) cb
      refine done _ 1 ?_ rfl
      unfold chS
      rw [if_neg n1, if_pos (by rw [hb1, Bool.true_and]; exact (q3 hb1).mp c3)]
  refine ⟨fun c1 => done _ 0 ?_ rfl, fun c1 => ?_⟩
  · unfold chS
    rw [if_pos (by rw [q1.mp c1]; rfl)]
  · have n1 : e1 = false := by
      cases q : e1 with
      | false => rfl
      | true => exact absurd (q1.mpr q) c1
    refine ⟨fun cb => d24 ?_, fun cb => ?_⟩
    · rw [n1, q0.mp cb]; simp
    · have hb1 : hb = true := by
        cases q : hb with
        | true => rfl
        | false => exact absurd (q0.mpr q) cb
      refine ⟨fun c2 => d24 ?_, fun c2 => done _ 0 ?_ rfl⟩
      · rw [n1, hb1, Bool.false_or, Bool.true_and]
        exact fun q => c2 ((q2 hb1).mpr q)
      · unfold chS
        rw [if_pos (by rw [hb1, (q2 hb1).mp c2]; simp)]
theorem rPa_iff {I : Nat → Bool} {U : Nat → Option Nat} {x m : Nat} (qU : I x = true → ∀ p, U x = some p → p < 2 ^ 31) (hm : m < 2 ^ 31) : rPa I U x = nI m ↔ (I x = true ∧ U x = some m) := by
  unfold rPa
  by_cases c : I x = true
  · rw [if_pos c]
    constructor
    · intro q
      refine ⟨c, nO_inj (qU c) (fun k hk => by rw [← Option.some.inj hk]; exact hm) q⟩
    · rintro ⟨-, q⟩
      rw [q]
      rfl
  · rw [if_neg c]
    constructor
    · intro q
      have := congrArg Int32.toInt q
      rw [nI_toInt hm] at this
      have h2 : (-2 : Int32).toInt = -2 := rfl
      omega
    · rintro ⟨q, -⟩
      exact absurd q c
def bdK (b : mT) (m x : Nat) : Bool := !(tIn b x && decide (tUp b x = some m))
theorem p_it35 {h : tpH} {tb ts m : Nat} {b s : mT} (ab : iA h tb 41) (as : iA h ts 41) (Pb : rwP (hI h) tb (preL b)) (Ps : rwP (hI h) ts (preL s)) (wb : tWF 300 b) (ws : tWF 300 s) (vb : tVa b) (vs : tVa s) (hm : m < 40) {R : Int32 → tpH → Prop} {v0 : Bool}
    (kk : R (lB (v0 || (pO s).any (fun x => decide (tUp s x = some m) && bdK b m x))) h) : ∀ (n j : Nat) (A B : List Nat), pO s = A ++ B → A.length = j → B.length < n → w_Lw_isTouched_35 R n (some tb) (some ts) (nI m) (lB (v0 || A.any (fun x => decide (tUp s x = some m) && bdK b m x))) (nI j) h
  | 0, j, A, B, _, _, hn => absurd hn (Nat.not_lt_zero _)
  | n + 1, j, A, B, hAB, hj, hn => by
    have l40 := Ps.2.1
    rw [preL_len] at l40
    have hlen : (pO s).length = A.length + B.length := by rw [hAB, List.length_append]
    refine ⟨ts, rfl, as.1, by rw [as.2]; exact vp0 (by decide) (by decide), ?_⟩
    rw [show (0 : Int32).toNatClampNeg = 0 from rfl, Ps.1, preL_len, nI_le_iff (by omega) (by omega)]
    refine ⟨fun g => ?_, fun g => ?_⟩
    · have eB : B = [] := List.eq_nil_of_length_eq_zero (by omega)
      rw [eB, List.append_nil] at hAB
      rw [hAB] at kk
      refine ⟨?_, kk⟩
      unfold lB
      split
      · exact Or.inr rfl
      · exact Or.inl rfl
    · match B, hAB, hn, hlen with
      | [], _, _, hlen => simp at hlen; omega
      | x :: B, hAB, hn, hlen =>
        have hxm : x ∈ pO s := by rw [hAB]; simp
        have hxi : tIn s x = true := (pO_mem ws).mp hxm
        have he : (preL s)[j]? = some (preE s x) := by
          unfold preL
          rw [List.getElem?_map, hAB, ← hj, List.getElem?_append_right (Nat.le_refl _), Nat.sub_self]
          rfl
        have hx40 : x < 40 := (Ps.2.2.1 _ (List.mem_of_getElem? he)).1
        have ih := p_it35 ab as Pb Ps wb ws vb vs hm kk n (j + 1) (A ++ [x]) B (by rw [hAB, List.append_assoc]; rfl) (by rw [List.length_append, hj]; rfl) (by rw [List.length_cons] at hn; omega)
        rw [List.any_append, List.any_cons, List.any_nil, Bool.or_false, ← Bool.or_assoc] at ih
        rw [nI_1]
        generalize hv : (v0 || A.any (fun x => decide (tUp s x = some m) && bdK b m x)) = v at ih ⊢
        refine ⟨fun g1 => ?_, fun g1 => ?_⟩
        · have : v = true := by
            cases q : v with
            | true => rfl
            | false => rw [q] at g1; exact absurd rfl g1
          rw [this, Bool.true_or] at ih
          exact ih
        · have ev : v = false := by
            cases q : v with
            | false => rfl
            | true => rw [q] at g1; exact absurd g1 (by decide)
          rw [ev, Bool.false_or] at ih
          refine p_par as Ps he ⟨fun g2 => ?_, fun g2 => ?_⟩
          · have : ¬ tUp s x = some m := fun q => g2 (by show nO (tUp s x) = _; rw [q]; rfl)
            rw [decide_eq_false this, Bool.false_and] at ih
            exact ih
          · have hu : tUp s x = some m := by
              refine nO_inj (fun q hq => ?_) (fun q hq => ?_) (show nO (tUp s x) = nO (some m) from g2)
              · have := (Ps.2.2.1 _ (List.mem_of_getElem? he)).2.2 q hq; omega
              · rw [← Option.some.inj hq]; omega
            rw [decide_eq_true hu, Bool.true_and] at ih
            refine p_mark as Ps he (p_pOf ab Pb (preL_rwT wb vb) (show x < 2 ^ 31 by omega) ?_)
            have iff := rPa_iff (I := tIn b) (U := tUp b) (x := x) (m := m) (fun hbx q hq => by have := (rwT_par (preL_rwT wb vb) Pb.2.2.1 hbx hq).2; omega) (by omega)
            refine ⟨fun g3 => ?_, fun g3 => ?_⟩
            · obtain ⟨i1, i2⟩ := iff.mp g3
              have : bdK b m x = false := by unfold bdK; rw [i1, decide_eq_true i2]; rfl
              rw [this] at ih
              exact ih
            · have : bdK b m x = true := by
                unfold bdK
                cases q1 : tIn b x with
                | false => rfl
                | true =>
                  cases q2 : decide (tUp b x = some m) with
                  | false => rfl
                  | true => exact absurd (iff.mpr ⟨q1, of_decide_eq_true q2⟩) g3
              rw [this] at ih
              exact ih
end COMES
