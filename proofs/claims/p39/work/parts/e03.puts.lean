section PUTROWS
theorem p_puts4 {h : tpH} {t a : Nat} {L : List lE} {e : lE} (A : iA h t 41) (ha : a ≤ L.length) (hl : L.length < 40) (he : lOK e) (hOK : ∀ e ∈ L, lOK e) {R : tpH → Prop} {F0 : Nat → Nat → Int32}
    (kk : ∀ G, (∀ b, b ≠ t → G b = F0 b) → rwP G t (L.take a ++ e :: L.drop a) → R (wI h G)) :
    ∀ (n : Nat) (C S : List lE) (F : Nat → Nat → Int32), C.length < n → L = C ++ S → a ≤ C.length → (∀ b, b ≠ t → F b = F0 b) → F t 0 = nI L.length → rwG (fun e => nI (lcd e)) F t 1 C → rwG (fun e => nI (lcd e)) F t (2 + C.length) S → w_Lw_puts_4 R n (some t) (nI a) (nI (lcd e)) (nI C.length) (wI h F)
  | 0, C, S, F, hn, _, _, _, _, _, _ => absurd hn (Nat.not_lt_zero _)
  | n + 1, C, S, F, hn, hCS, haC, hF, h0, rC, rS => by
    have hlen : L.length = C.length + S.length := by rw [hCS, List.length_append]
    have et : hL (wI h F) t = 41 := A.2
    refine ⟨fun g => ?_, fun g => ?_⟩
    · have g1 : C.length ≤ a := (nI_le_iff (by omega) (by omega)).mp g
      have e1 : (1 : Int32) + nI a = nI (1 + a) := nI_add 1 a
      have eC : C.length = a := by omega
      refine ⟨t, rfl, A.1, ?_⟩
      rw [e1, et, nI_clamp (by omega)]
      refine ⟨vp_in_nI (by omega) (by decide), fun h6 e6 => ?_⟩
      rw [sI_wI, wI_wI, wI_I] at e6
      subst e6
      have et2 : hL (wI h (tpu F t (1 + a) (nI (lcd e)))) t = 41 := A.2
      rw [et2]
      refine ⟨vp0 (by decide) (by decide), vp0 (by decide) (by decide), fun h10 e10 => ?_⟩
      rw [show (0 : Int32).toNatClampNeg = 0 from rfl, wI_I, tpu_o (by omega), h0, nI_1, sI_wI, wI_wI, wI_I] at e10
      subst e10
      have k1 : L.take a = C := by rw [hCS, ← eC, List.take_left]
      have k2 : L.drop a = S := by rw [hCS, ← eC, List.drop_left]
      refine kk _ (fun b hb => by rw [tpu_ne hb, tpu_ne hb]; exact hF b hb) ⟨?_, ?_, ?_, ?_⟩
      · rw [tpu_s, k1, k2, List.length_append, List.length_cons]
        congr 1
        omega
      · rw [k1, k2, List.length_append, List.length_cons]
        omega
      · intro e' he'
        rw [k1, k2] at he'
        rcases List.mem_append.mp he' with q | q
        · exact hOK e' (by rw [hCS]; exact List.mem_append_left _ q)
        · rcases List.mem_cons.mp q with q | q
          · rw [q]; exact he
          · exact hOK e' (by rw [hCS]; exact List.mem_append_right _ q)
      · rw [k1, k2]
        refine rwG_app.mpr ⟨rwG_k rC (fun j h1 h2 => by rw [tpu_o (by omega), tpu_o (by omega)]), rwG_cons.mpr ⟨?_, ?_⟩⟩
        · rw [tpu_o (by omega), eC, tpu_s]
        · have e2 : 1 + C.length + 1 = 2 + C.length := by omega
          rw [e2]
          exact rwG_k rS (fun j h1 h2 => by rw [tpu_o (by omega), tpu_o (by omega)])
    · have g1 : ¬ C.length ≤ a := fun q => g ((nI_le_iff (by omega) (by omega)).mpr q)
      obtain ⟨C', d, rfl⟩ := ex_snoc (L := C) (fun q => g1 (by rw [q]; exact Nat.zero_le _))
      have el : (C' ++ [d]).length = C'.length + 1 := by rw [List.length_append, List.length_singleton]
      rw [el] at hlen rS hn haC g1 ⊢
      have e1 : (1 : Int32) + nI (C'.length + 1) = nI (1 + (C'.length + 1)) := nI_add 1 _
      refine ⟨t, rfl, A.1, ?_⟩
      rw [e1, et, nI_clamp (by omega), nI_clamp (by omega)]
      refine ⟨vp_in_nI (by omega) (by decide), vp_in_nI (by omega) (by decide), fun h17 e17 => ?_⟩
      obtain ⟨rC1, rC2⟩ := rwG_app.mp rC
      have ed : F t (C'.length + 1) = nI (lcd d) := by
        have := (rwG_cons.mp rC2).1
        rw [Nat.add_comm 1] at this
        exact this
      rw [wI_I, ed, sI_wI, wI_wI, wI_I] at e17
      subst e17
      have em : nI (C'.length + 1) + -1 = nI C'.length := nI_m1 _
      rw [em]
      refine p_puts4 A ha hl he hOK kk n C' (d :: S) _ (by omega) (by rw [hCS, List.append_assoc]; rfl) (by omega) (fun b hb => (tpu_ne hb).trans (hF b hb)) (by rw [tpu_o (by omega)]; exact h0) (rwG_k rC1 (fun j _ hj => tpu_o (by omega))) (rwG_cons.mpr ⟨?_, rwG_k (show rwG _ F t (2 + C'.length + 1) S from by rw [show 2 + C'.length + 1 = 2 + (C'.length + 1) by omega]; exact rS) (fun j hj _ => tpu_o (by omega))⟩)
      rw [show 2 + C'.length = 1 + (C'.length + 1) by omega]
      exact tpu_s _ _ _ _
theorem p_puts {h : tpH} {t a : Nat} {L : List lE} {e : lE} (A : iA h t 41) {F : Nat → Nat → Int32} (P : rwP F t L) (ha : a ≤ L.length) (hl : L.length < 40) (he : lOK e) {R : tpH → Prop}
    (kk : ∀ G, (∀ b, b ≠ t → G b = F b) → rwP G t (L.take a ++ e :: L.drop a) → R (wI h G)) : w_Lw_puts (some t) (nI a) (nI (lcd e)) (wI h F) R := by
  refine ⟨t, rfl, A.1, by rw [show hL (wI h F) t = 41 from A.2]; exact vp0 (by decide) (by decide), L.length + 1, ?_⟩
  rw [show (0 : Int32).toNatClampNeg = 0 from rfl, wI_I, P.1]
  exact p_puts4 A ha hl he P.2.2.1 kk (L.length + 1) L [] F (Nat.lt_succ_self _) (List.append_nil _).symm ha (fun _ _ => rfl) P.1 P.2.2.2 (rwG_nil _ _ _ _)
theorem p_takes2 {h : tpH} {t : Nat} {L : List lE} (A : iA h t 41) (hl : L.length ≤ 40) (hOK : ∀ e ∈ L, lOK e) {X Y : List lE} {d : lE} (qL : L = X ++ d :: Y) {R : tpH → Prop} {F0 : Nat → Nat → Int32}
    (kk : ∀ G, (∀ b, b ≠ t → G b = F0 b) → rwP G t (X ++ Y) → R (wI h G)) :
    ∀ (n : Nat) (C S : List lE) (F : Nat → Nat → Int32), S.length < n → X ++ Y = C ++ S → (∀ b, b ≠ t → F b = F0 b) → F t 0 = nI L.length → rwG (fun e => nI (lcd e)) F t 1 C → rwG (fun e => nI (lcd e)) F t (2 + C.length) S → w_Lw_takes_2 R n (some t) (nI C.length) (wI h F)
  | 0, C, S, F, hn, _, _, _, _, _ => absurd hn (Nat.not_lt_zero _)
  | n + 1, C, S, F, hn, hCS, hF, h0, rC, rS => by
    have hlen : L.length = C.length + S.length + 1 := by
      have := congrArg List.length hCS
      rw [List.length_append, List.length_append] at this
      rw [qL, List.length_append, List.length_cons]
      omega
    have et : hL (wI h F) t = 41 := A.2
    have ep : nI L.length - 1 = nI (C.length + S.length) := by rw [hlen]; exact nI_pred _
    refine ⟨t, rfl, A.1, by rw [et]; exact vp0 (by decide) (by decide), ?_⟩
    rw [show (0 : Int32).toNatClampNeg = 0 from rfl, wI_I, h0, ep, et, nI_le_iff (by omega) (by omega)]
    refine ⟨fun g => ⟨vp0 (by decide) (by decide), vp0 (by decide) (by decide), fun h8 e8 => ?_⟩, fun g => ?_⟩
    · rw [sI_wI, wI_wI, wI_I] at e8
      subst e8
      have eS : S = [] := List.eq_nil_of_length_eq_zero (by omega)
      rw [eS, List.append_nil] at hCS
      rw [hCS] at kk
      rw [eS, List.length_nil, Nat.add_zero]
      refine kk _ (fun b hb => (tpu_ne hb).trans (hF b hb)) ⟨tpu_s _ _ _ _, by omega, fun e he => hOK e ?_, rwG_k rC (fun j hj _ => tpu_o (by omega))⟩
      rw [← hCS] at he
      rw [qL]
      rcases List.mem_append.mp he with q | q
      · exact List.mem_append_left _ q
      · exact List.mem_append_right _ (List.mem_cons_of_mem _ q)
    · match S, hCS, hn, rS, hlen, g with
      | [], _, _, _, _, g => exact absurd (Nat.le_refl _) g
      | e :: S, hCS, hn, rS, hlen, g =>
        rw [List.length_cons] at hlen hn
        have e1 : (1 : Int32) + nI C.length = nI (1 + C.length) := nI_add 1 _
        have e2 : (2 : Int32) + nI C.length = nI (2 + C.length) := nI_add 2 _
        rw [e1, e2, nI_clamp (by omega), nI_clamp (by omega)]
        obtain ⟨r1, r2⟩ := rwG_cons.mp rS
        refine ⟨vp_in_nI (by omega) (by decide), vp_in_nI (by omega) (by decide), fun h12 e12 => ?_⟩
        rw [r1, sI_wI, wI_wI, wI_I] at e12
        subst e12
        rw [nI_1]
        have el : (C ++ [e]).length = C.length + 1 := by rw [List.length_append, List.length_singleton]
        rw [← el]
        refine p_takes2 A hl hOK qL kk n (C ++ [e]) S _ (by omega) (by rw [hCS, List.append_assoc]; rfl) (fun b hb => (tpu_ne hb).trans (hF b hb)) (by rw [tpu_o (by omega)]; exact h0) (rwG_app.mpr ⟨rwG_k rC (fun j _ hj => tpu_o (by omega)), rwG_cons.mpr ⟨tpu_s _ _ _ _, rwG_nil _ _ _ _⟩⟩) ?_
        rw [el, show 2 + (C.length + 1) = 2 + C.length + 1 by omega]
        exact rwG_k r2 (fun j hj _ => tpu_o (by omega))
theorem p_takes {h : tpH} {t : Nat} {X Y : List lE} {d : lE} (A : iA h t 41) {F : Nat → Nat → Int32} (P : rwP F t (X ++ d :: Y)) {R : tpH → Prop} (kk : ∀ G, (∀ b, b ≠ t → G b = F b) → rwP G t (X ++ Y) → R (wI h G)) : w_Lw_takes (some t) (nI X.length) (wI h F) R := by
  obtain ⟨r1, r2⟩ := rwG_app.mp P.2.2.2
  obtain ⟨r3, r4⟩ := rwG_cons.mp r2
  refine ⟨Y.length + 1, p_takes2 A P.2.1 P.2.2.1 rfl kk (Y.length + 1) X Y F (Nat.lt_succ_self _) rfl (fun _ _ => rfl) P.1 r1 ?_⟩
  rw [show 2 + X.length = 1 + X.length + 1 by omega]
  exact r4
end PUTROWS
