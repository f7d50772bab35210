section ORD1
/-- the children that are shared: laid in a row -/
theorem p_or61 {h : tpH} {t al sh p mk R0 : Nat} {po : Nat → Int32} {b l r : mT} {s : mgS} (HH : mgH mk R0 b l r) (hmk : mk ≤ 39) (I : mgI mk R0 po b l r s) (a : iA h t 41) (ba : iA h al 40) (bs : iA h sh 40) (d : t ≠ sh ∧ al ≠ sh) (hp : p < 40) {C : List Nat} (hC : ∀ y ∈ C, y < 40) (lC : C.length ≤ 40) {F0 : Nat → Nat → Int32} (W : mRo F0 t s) (rC : rwKs F0 al 0 C) {R : Int32 → tpH → Prop} {x0 x1 x2 x4 x5 x7 x10 x11 x12 : Option Nat}
    (kk : ∀ G, (∀ c, c ≠ sh → G c = F0 c) → rwKs G sh 0 (C.filter (fun m => decide (sUp s m = some p))) → w_Lw_shares x1 x4 (nI p) (some sh) (nI (C.filter (fun m => decide (sUp s m = some p))).length) x10 (wI h G) (fun v3 h2 => w_Lw_shares x2 x4 (nI p) (some sh) (nI (C.filter (fun m => decide (sUp s m = some p))).length) x11 h2 (fun v5 h4 => ∃ n, w_Lw_orders_139 R n x0 x1 x2 (some t) x4 x5 (nI p) x7 (some sh) x10 x11 x12 (nI (C.filter (fun m => decide (sUp s m = some p))).length) v3 v5 (1 : Int32) (0 : Int32) h4))) :
    ∀ (n j : Nat) (A B : List Nat) (F : Nat → Nat → Int32), C = A ++ B → A.length = j → B.length < n → (∀ c, c ≠ sh → F c = F0 c) → rwKs F sh 0 (A.filter (fun m => decide (sUp s m = some p))) → w_Lw_orders_61 R n x0 x1 x2 (some t) x4 x5 (nI p) x7 (some al) (some sh) x10 x11 x12 (nI C.length) (nI (A.filter (fun m => decide (sUp s m = some p))).length) (nI j) (wI h F)
  | 0, j, A, B, F, _, _, hn, _, _ => absurd hn (Nat.not_lt_zero _)
  | n + 1, j, A, B, F, hAB, hj, hn, hF, rS => by
    have hlen : C.length = A.length + B.length := by rw [hAB, List.length_append]
    have fl : (A.filter (fun m => decide (sUp s m = some p))).length ≤ A.length := List.length_filter_le _ _
    have ea : hL (wI h F) al = 40 := ba.2
    refine ⟨fun g => ?_, fun g => ?_⟩
    · have gi : C.length ≤ j := (nI_le_iff (by omega) (by omega)).mp g
      have eB : B = [] := List.eq_nil_of_length_eq_zero (by omega)
      rw [eB, List.append_nil] at hAB
      rw [hAB] at kk
      exact kk F hF rS
    · have gi : ¬ C.length ≤ j := fun q => g ((nI_le_iff (by omega) (by omega)).mpr q)
      match B, hAB, hn, hlen with
      | [], _, _, hlen => simp at hlen; omega
      | x :: B, hAB, hn, hlen =>
        rw [List.length_cons] at hn
        have hx : C[j]? = some x := by rw [hAB, ← hj, List.getElem?_append_right (Nat.le_refl _), Nat.sub_self]; rfl
        have hx40 := hC x (List.mem_of_getElem? hx)
        have ex : F al j = nI x := by
          rw [hF al d.2]
          have := rC j x hx
          rw [Nat.zero_add] at this
          exact this
        have IH := p_or61 (po := po) HH hmk I a ba bs d hp hC lC W rC kk n (j + 1) (A ++ [x]) B
        have hAB2 : C = A ++ [x] ++ B := by rw [hAB, List.append_assoc]; rfl
        have el : (A ++ [x]).length = j + 1 := by rw [List.length_append, hj]; rfl
        refine ⟨al, rfl, ba.1, by rw [ea]; exact vp_in_nI (by omega) (by decide), ?_⟩
        rw [nI_clamp (by omega), wI_I, ex]
        obtain ⟨L, L1, L2, L3⟩ := mR_k W (hF t d.1)
        refine p_pOf (h := wI h F) a L1 L2 (by omega) ?_
        have iff := rPa_iff (I := sIn s) (U := sUp s) (x := x) (m := p) (fun _ q hq => by have := up_lt HH I hq; omega) (by omega)
        refine ⟨fun g2 => ?_, fun g2 => ⟨ba.1, by rw [ea]; exact vp_in_nI (by omega) (by decide), sh, rfl, bs.1, by rw [show hL (wI h F) sh = 40 from bs.2]; exact vp_in_nI (by omega) (by decide), fun h19 e19 => ?_⟩⟩
        · have nu : ¬ sUp s x = some p := fun q => by
            have hin : sIn s x = true := by
              cases c : sIn s x with
              | true => rfl
              | false => rw [I.2.1 x c] at q; cases q
            exact g2 (iff.mpr ⟨hin, q⟩)
          have ef : (A ++ [x]).filter (fun m => decide (sUp s m = some p)) = A.filter (fun m => decide (sUp s m = some p)) := by
            rw [List.filter_append, List.filter_cons_of_neg (by simp only [decide_eq_true_eq]; exact nu), List.filter_nil, List.append_nil]
          rw [ef] at IH
          rw [nI_1]
          exact IH F hAB2 el (by omega) hF rS
        · have hu := (iff.mp g2).2
          have ef : (A ++ [x]).filter (fun m => decide (sUp s m = some p)) = A.filter (fun m => decide (sUp s m = some p)) ++ [x] := by
            rw [List.filter_append, List.filter_cons_of_pos (by exact decide_eq_true hu), List.filter_nil]
          rw [ef] at IH
          rw [nI_clamp (by omega), wI_I, ex, sI_wI, wI_wI, wI_I] at e19
          subst e19
          rw [nI_1, nI_1]
          have q := IH (tpu F sh (A.filter (fun m => decide (sUp s m = some p))).length (nI x)) hAB2 el (by omega) (fun c hc => (tpu_ne hc).trans (hF c hc)) (rwG_app.mpr ⟨rwG_k rS (fun j _ hj => tpu_o (by omega)), rwG_cons.mpr ⟨by rw [Nat.zero_add]; exact tpu_s _ _ _ _, rwG_nil _ _ _ _⟩⟩)
          rw [List.length_append, List.length_singleton] at q
          exact q
/-- are two rows the same -/
theorem p_or139 {h : tpH} {o1 o2 : Nat} {D1 D2 : List Nat} (b1 : iA h o1 41) (b2 : iA h o2 41) (r1 : rwC (hI h) o1 D1) (r2 : rwC (hI h) o2 D2) (l1 : D1.length ≤ 39) (l2 : D2.length ≤ 39) (m1 : ∀ y ∈ D1, y < 40) (m2 : ∀ y ∈ D2, y < 40) {v3 v5 : Bool} {R : Int32 → tpH → Prop} {x0 x1 x2 x3 x4 x5 x7 x9 x12 : Option Nat} {x6 x14 : Int32}
    (k1 : (v3 && v5 && !decide (D1 = D2)) = true → w_Lw_orders_215 R x0 x1 x2 x3 x4 x5 x6 x7 x9 (some o1) (some o2) x12 x14 (lB v3) (1 : Int32) h)
    (k0 : (v3 && v5 && !decide (D1 = D2)) = false → w_Lw_orders_215 R x0 x1 x2 x3 x4 x5 x6 x7 x9 (some o1) (some o2) x12 x14 (lB v3) (0 : Int32) h) :
    ∀ (n j : Nat) (v : Bool), j ≤ 40 → 40 < n + j → (v = true → 0 < j → D1.length = D2.length ∧ ∀ i, i + 1 < j → D1[i]? = D2[i]?) → (v = false → D1 ≠ D2) → w_Lw_orders_139 R n x0 x1 x2 x3 x4 x5 x6 x7 x9 (some o1) (some o2) x12 x14 (lB v3) (lB v5) (lB v) (nI j) h
  | 0, j, v, h1, h2, _, _ => by omega
  | n + 1, j, v, h1, h2, ht, hf => by
    have e1 : hL h o1 = 41 := b1.2
    have e2 : hL h o2 = 41 := b2.2
    have IH := p_or139 b1 b2 r1 r2 l1 l2 m1 m2 k1 k0 n (j + 1)
    refine ⟨fun g => ?_, fun g => ?_⟩
    · have ej : j = 40 := by have := (nI_le_iff (a := 40) (by decide) (by omega)).mp g; omega
      cases hv3 : v3 with
      | false =>
        rw [hv3] at k0
        exact ⟨fun _ => k0 rfl, fun q => absurd rfl q⟩
      | true =>
        refine ⟨fun q => absurd q (by decide), fun _ => ?_⟩
        cases hv5 : v5 with
        | false =>
          rw [hv3, hv5] at k0
          exact ⟨fun _ => k0 rfl, fun q => absurd rfl q⟩
        | true =>
          refine ⟨fun q => absurd q (by decide), fun _ => ?_⟩
          rw [hv3, hv5] at k0 k1
          cases v with
          | true =>
            obtain ⟨q1, q2⟩ := ht rfl (by omega)
            have eD : D1 = D2 := by
              refine List.ext_getElem? (fun i => ?_)
              by_cases c : i < 39
              · exact q2 i (by omega)
              · rw [List.getElem?_eq_none (by omega), List.getElem?_eq_none (by omega)]
            exact ⟨fun _ => k0 (by rw [decide_eq_true eD]; rfl), fun q => absurd q (by decide)⟩
          | false =>
            exact ⟨fun q => absurd rfl q, fun _ => k1 (by rw [decide_eq_false (hf rfl)]; rfl)⟩
    · have hj : j < 40 := by
        have : ¬ 40 ≤ j := fun q => g ((nI_le_iff (a := 40) (by decide) (by omega)).mpr q)
        omega
      cases v with
      | false => exact ⟨fun _ => by rw [nI_1]; exact IH false (by omega) (by omega) (fun q => by cases q) hf, fun q => absurd rfl q⟩
      | true =>
        have r69 : w_Lw_orders_169 R (w_Lw_orders_139 R n) x0 x1 x2 x3 x4 x5 x6 x7 x9 (some o1) (some o2) x12 x14 (lB v3) (lB v5) (nI j) h ∨ ¬ (j ≤ D1.length ∨ j ≤ D2.length) := by
          by_cases cj : j ≤ D1.length ∨ j ≤ D2.length
          · refine Or.inl ⟨o1, rfl, b1.1, by rw [e1]; exact vp_in_nI (by omega) (by decide), o2, rfl, b2.1, by rw [e2]; exact vp_in_nI (by omega) (by decide), ?_⟩
            rw [nI_clamp (by omega), nI_1]
            by_cases c0 : j = 0
            · subst c0
              rw [r1.1, r2.1]
              refine ⟨fun q => IH false (by omega) (by omega) (fun q => by cases q) (fun _ q2 => q (by rw [q2])), fun q => IH true (by omega) (by omega) (fun _ _ => ⟨nI_inj (by omega) (by omega) q, fun i hi => by omega⟩) (fun q => by cases q)⟩
            · obtain ⟨q1, q2⟩ := ht rfl (by omega)
              obtain ⟨y1, g1⟩ := ex_at (L := D1) (i := j - 1) (by omega)
              obtain ⟨y2, g2⟩ := ex_at (L := D2) (i := j - 1) (by omega)
              have f1 : hI h o1 j = nI y1 := by
                have := r1.2 (j - 1) y1 g1
                rw [show 1 + (j - 1) = j by omega] at this
                exact this
              have f2 : hI h o2 j = nI y2 := by
                have := r2.2 (j - 1) y2 g2
                rw [show 1 + (j - 1) = j by omega] at this
                exact this
              have y14 := m1 y1 (List.mem_of_getElem? g1)
              have y24 := m2 y2 (List.mem_of_getElem? g2)
              rw [f1, f2]
              refine ⟨fun q => IH false (by omega) (by omega) (fun q => by cases q) (fun _ q3 => q ?_), fun q => IH true (by omega) (by omega) (fun _ _ => ⟨q1, fun i hi => ?_⟩) (fun q => by cases q)⟩
              · rw [q3, g2] at g1
                rw [Option.some.inj g1]
              · by_cases ci : i = j - 1
                · rw [ci, g1, g2, nI_inj (by omega) (by omega) q]
                · exact q2 i (by omega)
          · exact Or.inr cj
        refine ⟨fun q => absurd q (by decide), fun _ => ⟨o1, rfl, b1.1, by rw [e1]; exact vp0 (by decide) (by decide), ?_⟩⟩
        rw [show (0 : Int32).toNatClampNeg = 0 from rfl, r1.1, nI_le_iff (by omega) (by omega)]
        refine ⟨fun q => r69.resolve_right (fun x => x (Or.inl q)), fun q => ⟨o2, rfl, b2.1, by rw [e2]; exact vp0 (by decide) (by decide), ?_⟩⟩
        rw [r2.1, nI_lt_iff (by omega) (by omega)]
        refine ⟨fun q2 => ?_, fun q2 => r69.resolve_right (fun x => x (Or.inr (by omega)))⟩
        rw [nI_1]
        have h0 : 0 < j := by omega
        obtain ⟨u1, u2⟩ := ht rfl h0
        refine IH true (by omega) (by omega) (fun _ _ => ⟨u1, fun i hi => ?_⟩) (fun q => by cases q)
        by_cases ci : i + 1 < j
        · exact u2 i ci
        · rw [List.getElem?_eq_none (by omega), List.getElem?_eq_none (by omega)]
/-- a row is laid down -/
theorem p_or265 {h : tpH} {o1 o2 o3 sd r : Nat} {D : List Nat} {vs : Int32} (hvs : (vs = 0 ∧ sd = o3) ∨ (vs = 1 ∧ sd = o1) ∨ (vs = 2 ∧ sd = o2)) (bd : iA h sd 41) (br : iA h r 42) (d : sd ≠ r) (lD : D.length ≤ 39) {F0 : Nat → Nat → Int32} (rD : rwC F0 sd D) {R : Int32 → tpH → Prop} {x0 x1 x2 x3 x4 x9 : Option Nat} {x6 x14 x18 : Int32}
    (kk : ∀ G, (∀ c, c ≠ r → G c = F0 c) → rwC G r D → ∃ n, w_Lw_orders_353 R n x0 x1 x2 x3 x4 x6 (some r) x9 x14 x18 (0 : Int32) (wI h G)) :
    ∀ (n : Nat) (A B : List Nat) (F : Nat → Nat → Int32), D = A ++ B → B.length < n → (∀ c, c ≠ r → F c = F0 c) → rwC F r A → w_Lw_orders_265 R n x0 x1 x2 x3 x4 x6 (some r) x9 (some o1) (some o2) (some o3) x14 x18 vs (nI (A.length + 1)) (wI h F)
  | 0, A, B, F, _, hn, _, _ => absurd hn (Nat.not_lt_zero _)
  | n + 1, A, B, F, hAB, hn, hF, rA => by
    have hlen : D.length = A.length + B.length := by rw [hAB, List.length_append]
    have ed : hL (wI h F) sd = 41 := bd.2
    have er : ∀ F, hL (wI h F) r = 42 := fun _ => br.2
    have IH := p_or265 hvs bd br d lD rD kk n
    have r96 : w_Lw_orders_296 R (w_Lw_orders_265 R n) x0 x1 x2 x3 x4 x6 (some r) x9 (some o1) (some o2) (some o3) x14 x18 vs (nI (A.length + 1)) (nI D.length) (nI (A.length + 1)) (wI h F) := by
      unfold w_Lw_orders_296
      rw [nI_lt_iff (by omega) (by omega)]
      refine ⟨fun g => ?_, fun g => ?_⟩
      · have eB : B = [] := List.eq_nil_of_length_eq_zero (by omega)
        rw [eB, List.append_nil] at hAB
        rw [hAB] at kk
        exact kk F hF rA
      · match B, hAB, hn, hlen with
        | [], _, _, hlen => simp at hlen; omega
        | x :: B, hAB, hn, hlen =>
          rw [List.length_cons] at hn
          have hx : D[A.length]? = some x := by rw [hAB, List.getElem?_append_right (Nat.le_refl _), Nat.sub_self]; rfl
          have ex : F sd (A.length + 1) = nI x := by
            rw [hF sd d]
            have := rD.2 A.length x hx
            rw [Nat.add_comm] at this
            exact this
          refine ⟨r, rfl, br.1, by rw [er]; exact vp0 (by decide) (by decide), by rw [er]; exact vp0 (by decide) (by decide), fun h7 e7 => ?_⟩
          rw [show (0 : Int32).toNatClampNeg = 0 from rfl, wI_I, rA.1, nI_1, sI_wI, wI_wI, wI_I] at e7
          subst e7
          have r43 : w_Lw_orders_343 R (w_Lw_orders_265 R n) x0 x1 x2 x3 x4 x6 (some r) x9 (some o1) (some o2) (some o3) x14 x18 vs (nI (A.length + 1)) (hI (wI h (tpu F r 0 (nI (A.length + 1)))) sd (nI (A.length + 1)).toNatClampNeg) (nI (A.length + 1)) (some r) (wI h (tpu F r 0 (nI (A.length + 1)))) := by
            refine ⟨r, rfl, br.1, by rw [er]; exact vp_in_nI (by omega) (by decide), fun h5 e5 => ?_⟩
            rw [nI_clamp (by omega), wI_I, tpu_ne d, ex, sI_wI, wI_wI, wI_I] at e5
            subst e5
            rw [nI_1]
            have el : (A ++ [x]).length = A.length + 1 := by rw [List.length_append, List.length_singleton]
            have q := IH (A ++ [x]) B (tpu (tpu F r 0 (nI (A.length + 1))) r (A.length + 1) (nI x)) (by rw [hAB, List.append_assoc]; rfl) (by omega) (fun c hc => by rw [tpu_ne hc, tpu_ne hc]; exact hF c hc) ⟨by rw [tpu_o (by omega), tpu_s, el], rwG_app.mpr ⟨rwG_k rA.2 (fun j hj1 hj2 => by rw [tpu_o (by omega), tpu_o (by omega)]), rwG_cons.mpr ⟨by rw [Nat.add_comm 1]; exact tpu_s _ _ _ _, rwG_nil _ _ _ _⟩⟩⟩
            rw [el] at q
            exact q
          have vd : vp_in (nI (A.length + 1)) (hL (wI h (tpu F r 0 (nI (A.length + 1)))) sd) := by rw [show hL (wI h (tpu F r 0 (nI (A.length + 1)))) sd = 41 from bd.2]; exact vp_in_nI (by omega) (by decide)
          rcases hvs with ⟨rfl, rfl⟩ | ⟨rfl, rfl⟩ | ⟨rfl, rfl⟩
          · exact ⟨fun q => absurd rfl q, fun _ => ⟨sd, rfl, bd.1, vd, r43⟩⟩
          · exact ⟨fun _ => ⟨fun q => absurd rfl q, fun _ => ⟨sd, rfl, bd.1, vd, r43⟩⟩, fun q => absurd q (by decide)⟩
          · exact ⟨fun _ => ⟨fun _ => ⟨sd, rfl, bd.1, vd, r43⟩, fun q => absurd q (by decide)⟩, fun q => absurd q (by decide)⟩
    have v0 : vp_in (0 : Int32) (hL (wI h F) sd) := by rw [ed]; exact vp0 (by decide) (by decide)
    have e0 : hI (wI h F) sd (0 : Int32).toNatClampNeg = nI D.length := by
      rw [show (0 : Int32).toNatClampNeg = 0 from rfl, wI_I, hF sd d]
      exact rD.1
    rcases hvs with ⟨rfl, rfl⟩ | ⟨rfl, rfl⟩ | ⟨rfl, rfl⟩
    · exact ⟨fun q => absurd rfl q, fun _ => ⟨sd, rfl, bd.1, v0, by rw [e0]; exact r96⟩⟩
    · exact ⟨fun _ => ⟨fun q => absurd rfl q, fun _ => ⟨sd, rfl, bd.1, v0, by rw [e0]; exact r96⟩⟩, fun q => absurd q (by decide)⟩
    · exact ⟨fun _ => ⟨fun _ => ⟨sd, rfl, bd.1, v0, by rw [e0]; exact r96⟩, fun q => absurd q (by decide)⟩, fun q => absurd q (by decide)⟩
end ORD1
