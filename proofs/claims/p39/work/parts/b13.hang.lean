section MHANG2
variable {x p D z0 mk e0 e1 a1 k1 a2 k2 a3 k3 : Nat} {kd idn po : Nat → Int32} {b l r : mT}
theorem mU_mU (K : Nat → List Nat) (q : Nat) (A B : List Nat) : mU (mU K q A) q B = mU K q B := by
  funext z
  by_cases c : z = q
  · rw [c, mU_s, mU_s]
  · rw [mU_n _ _ c, mU_n _ _ c, mU_n _ _ c]
theorem mU_id {K : Nat → List Nat} {q : Nat} {A : List Nat} (h : K q = A) : mU K q A = K := by
  funext z
  by_cases c : z = q
  · rw [c, mU_s, h]
  · rw [mU_n _ _ c]
theorem in_last {A : List Nat} (hn : A.Nodup) (m : Nat) : inKids false A m (aK A A.getLast?) = A ++ [m] := by
  have key : aK A A.getLast? = A.length := by
    rcases snoc A with e | ⟨A', y, e⟩
    · rw [e]; rfl
    · have hn' := hn
      rw [e] at hn' ⊢
      have : (A' ++ [y]).getLast? = some y := by rw [List.getLast?_append]; rfl
      rw [this]
      show (A' ++ [y]).idxOf y + 1 = _
      rw [idx_split hn' (A := A') (B := []) rfl, List.length_append]
      rfl
  rw [key]
  show A.take A.length ++ m :: A.drop A.length = A ++ [m]
  rw [List.take_length, List.drop_length]
theorem bn_X {h1 : tpH} {F : Nat → Nat → Int32} {R0 : Nat} {s : mgS} {K : Nat → List Nat} (Y : bnX h1 F x p D z0 mk e0 e1 a1 k1 a2 k2 a3 k3 kd idn po b l r R0 s K) : mX (wI h1 F) x p D z0 mk e0 e1 kd idn po := (MG_fr Y.1.1 (bn_fr Y.1.2)).1
theorem p_lastK {h1 : tpH} {F : Nat → Nat → Int32} {R0 q : Nat} {s : mgS} {K : Nat → List Nat} (Y : bnX h1 F x p D z0 mk e0 e1 a1 k1 a2 k2 a3 k3 kd idn po b l r R0 s K) (hq : sIn s q = true) {R : Int32 → tpH → Prop} (kk : R (nO (K q).getLast?) (wI h1 F)) : w_Bu_lastOf (p + 20) (nI q) (wI h1 F) R := by
  obtain ⟨_, _, ⟨_, lb⟩, _⟩ := mgRw Y.1.1.1.1.1
  have hw := FK_wf (R0 := R0) Y.2.1.1 Y.2.1.2.1 Y.2.1.2.2 Y.2.2.1
  have n := (Y.2.2.2.2.2 q hq).2.2.2.1
  have e := seg_heads n
  rw [e_Bu_lastOf lb, rAt_n (hw.1 q hq) (by decide), e, headO_rev]
  exact kk
theorem p_sh42 {h1 : tpH} {R0 q v8 : Nat} {w8 : Int32} {s : mgS} {K : Nat → List Nat} {L0 : List Nat} (hl : loK kd q = false) (q3 : q < 300) (w7 : rwL h1 (p + 80) (p + 81) 300) (K7 : rwK (hI h1) (p + 80) (shL b s q)) (hb : fWF 300 b) {R : tpH → Prop} (fin : ∀ F, bnX h1 F x p D z0 mk e0 e1 a1 k1 a2 k2 a3 k3 kd idn po b l r R0 s (mU K q ((shL b s q).foldl bsS (L0, none)).1) → F (p + 20) 8 = w8 → R (wI h1 F)) :
    ∀ (f : Nat) (A C : List Nat) (st : List Nat × Option Nat) (F : Nat → Nat → Int32), shL b s q = A ++ C → C.length < f → C.foldl bsS st = (shL b s q).foldl bsS (L0, none) → (∀ d, st.2 = some d → d ∈ st.1) → bnX h1 F x p D z0 mk e0 e1 a1 k1 a2 k2 a3 k3 kd idn po b l r R0 s (mU K q st.1) → F (p + 20) 8 = w8 → w_Mg_hangShared_42 R f (p + 69) (nI q) (nO st.2) (nI A.length) (wI h1 F)
  | 0, A, C, st, F, e, h1', h2, hs, Y, g8 => by omega
  | f + 1, A, [], st, F, e, h1', h2, hs, Y, g8 => by
    obtain ⟨g0, _, _, _, _, _, _, ⟨r7, _⟩, _⟩ := mgRw (bn_X Y).1.1
    have K7' := rwK_k (G := F) K7 (fun c hc => Y.1.2 c (by omega))
    refine ⟨g0, p + 80, r7, w7.1, ?_⟩
    rw [wI_I, K7'.1, e, List.append_nil]
    have h2 : st = (shL b s q).foldl bsS (L0, none) := h2
    rw [h2] at Y
    exact ⟨fun _ => fin F Y g8, fun g => absurd (Int32.le_refl _) g⟩
  | f + 1, A, m :: C, st, F, e, h1', h2, hs, Y, g8 => by
    obtain ⟨g0, _, ⟨rb, lb⟩, _, _, _, _, ⟨r7, _⟩, _⟩ := mgRw (bn_X Y).1.1
    have K7' := rwK_k (G := F) K7 (fun c hc => Y.1.2 c (by omega))
    simp only [List.length_cons] at h1'
    have hlen : (shL b s q).length = A.length + (C.length + 1) := by rw [e, List.length_append, List.length_cons]
    have l3 : (shL b s q).length ≤ 300 := by
      have h1 := ki_len hb q
      have h2 := tCn_le b
      have h3 := List.length_filter_le (fun m => decide (sUp s m = some q)) (tKi b q)
      show ((tKi b q).filter (fun m => decide (sUp s m = some q))).length ≤ 300
      omega
    have em : (shL b s q)[A.length]? = some m := by rw [e, List.getElem?_append_right (Nat.le_refl _), Nat.sub_self]; rfl
    have hm := (shL_iff hb).mp (List.mem_of_getElem? em)
    have m3 := hb.1 m hm.1.1
    have iq : sIn s q = true := Y.2.1.2.2.1 m q hm.2
    rw [List.foldl_cons] at h2
    refine ⟨g0, p + 80, r7, w7.1, ?_⟩
    rw [wI_I, K7'.1]
    refine ⟨fun g => absurd ((nI_le_iff (by omega) (by omega)).mp g) (by omega), fun _ => p_at (rwL_w w7) (by decide) ?_⟩
    rw [rAt_n (by omega) (by decide), show hI (wI h1 F) (p + 81) A.length = nI m from K7'.2 _ m em, nI_1]
    have el : (A ++ [m]).length = A.length + 1 := by rw [List.length_append]; rfl
    refine ⟨g0, p + 20, rb, lb.1, p_isCh Y m3 q3 ?_⟩
    rw [mU_s]
    by_cases c : m ∈ st.1
    · rw [if_pos c]
      have eb : bsS st m = (st.1, some m) := by
        show ((if m ∈ st.1 then st.1 else insK false st.1 m st.2), some m) = _
        rw [if_pos c]
      rw [eb] at h2
      have ih := p_sh42 (v8 := v8) hl q3 w7 K7 hb fin f (A ++ [m]) C (st.1, some m) F (by rw [e, List.append_assoc]; rfl) (by omega) h2 (fun d hd => by rw [← Option.some.inj hd]; exact c) Y g8
      rw [el] at ih
      exact ⟨fun _ => ih, fun g => absurd g (by decide)⟩
    · rw [if_neg c]
      have eb : bsS st m = (insK false st.1 m st.2, some m) := by
        show ((if m ∈ st.1 then st.1 else insK false st.1 m st.2), some m) = _
        rw [if_neg c]
      rw [eb] at h2
      refine ⟨fun g => absurd rfl g, fun _ => ⟨g0, p + 20, rb, lb.1, p_hgK Y hm.2 (by rw [mU_s]; exact c) (by rw [mU_s]; exact hs) (fun G g1 g2 => ?_)⟩⟩
      rw [mU_s, mU_mU, hl] at g1
      have ih := p_sh42 (v8 := v8) hl q3 w7 K7 hb fin f (A ++ [m]) C (insK false st.1 m st.2, some m) G (by rw [e, List.append_assoc]; rfl) (by omega) h2 (fun d hd => by rw [← Option.some.inj hd]; exact in_mem.mpr (Or.inl rfl)) g1 (g2.trans g8)
      rw [el] at ih
      exact ih
theorem p_sh2 {h1 : tpH} {R0 q rr : Nat} {w8 : Int32} {s : mgS} {K : Nat → List Nat} {L : List Nat} (hl : loK kd q = false) (q3 : q < 300) (hrr : rr = p + 80 ∨ rr = p + 82 ∨ rr = p + 84) (w : rwL h1 rr (rr + 1) 300) (KL : rwK (hI h1) rr L) (hL : kOK s q L) (l3 : L.length ≤ 300) {R : tpH → Prop} (fin : ∀ F, bnX h1 F x p D z0 mk e0 e1 a1 k1 a2 k2 a3 k3 kd idn po b l r R0 s (mU K q L) → F (p + 20) 8 = w8 → ∃ n, w_Mg_hangShared_42 R n (p + 69) (nI q) (-1 : Int32) (0 : Int32) (wI h1 F)) :
    ∀ (f : Nat) (A C : List Nat) (F : Nat → Nat → Int32), L = A ++ C → C.length < f → bnX h1 F x p D z0 mk e0 e1 a1 k1 a2 k2 a3 k3 kd idn po b l r R0 s (mU K q A) → F (p + 20) 8 = w8 → w_Mg_hangShared_2 R f (p + 69) (some rr) (nI q) (nI A.length) (wI h1 F)
  | 0, A, C, F, e, h1', Y, g8 => by omega
  | f + 1, A, [], F, e, h1', Y, g8 => by
    have KL' := rwK_k (G := F) KL (fun c hc => Y.1.2 c (by omega))
    refine ⟨rr, rfl, w.1, ?_⟩
    rw [List.append_nil] at e
    rw [wI_I, KL'.1, e]
    rw [← e] at Y
    rw [← e]
    exact ⟨fun _ => fin F Y g8, fun g => absurd (Int32.le_refl _) g⟩
  | f + 1, A, m :: C, F, e, h1', Y, g8 => by
    obtain ⟨g0, _, ⟨rb, lb⟩, _⟩ := mgRw (bn_X Y).1.1
    have KL' := rwK_k (G := F) KL (fun c hc => Y.1.2 c (by omega))
    simp only [List.length_cons] at h1'
    have hlen : L.length = A.length + (C.length + 1) := by rw [e, List.length_append, List.length_cons]
    have em : L[A.length]? = some m := by rw [e, List.getElem?_append_right (Nat.le_refl _), Nat.sub_self]; rfl
    have hu := hL.2 m (List.mem_of_getElem? em)
    have iq : sIn s q = true := Y.2.1.2.2.1 m q hu
    have nd : (A ++ m :: C).Nodup := by rw [← e]; exact hL.1
    obtain ⟨nA, _, nd2⟩ := List.nodup_append.mp nd
    have nm : m ∉ A := fun g => nd2 m g m List.mem_cons_self rfl
    refine ⟨rr, rfl, w.1, ?_⟩
    rw [wI_I, KL'.1]
    refine ⟨fun g => absurd ((nI_le_iff (by omega) (by omega)).mp g) (by omega), fun _ => ⟨g0, p_at (rwL_w w) (by decide) ?_⟩⟩
    rw [rAt_n (by omega) (by decide), show hI (wI h1 F) (rr + 1) A.length = nI m from KL'.2 _ m em, nI_1]
    refine ⟨g0, p + 20, rb, lb.1, p_lastK Y iq ⟨p + 20, rb, lb.1, ?_⟩⟩
    rw [mU_s]
    refine p_hgK Y hu (by rw [mU_s]; exact nm) (ao := A.getLast?) (by rw [mU_s]; exact fun d hd => List.mem_of_getLast? hd) (fun G g1 g2 => ?_)
    rw [mU_s, mU_mU, hl, in_last nA] at g1
    have ih := p_sh2 hl q3 hrr w KL hL l3 fin f (A ++ [m]) C G (by rw [e, List.append_assoc]; rfl) (by omega) g1 (g2.trans g8)
    rw [List.length_append] at ih
    exact ih
theorem p_ot64 {h1 : tpH} {R0 q : Nat} {w8 : Int32} {s : mgS} {K : Nat → List Nat} {L0 : List Nat} (q3 : q < mk) (W : rsP (hI h1) p mk s) (hsh : loK kd q = false → ∀ m ∈ shL b s q, m ∈ L0) {R : tpH → Prop} (fin : ∀ F, bnX h1 F x p D z0 mk e0 e1 a1 k1 a2 k2 a3 k3 kd idn po b l r R0 s (mU K q ((List.range mk).foldl (otS (loK kd q) l r s q) L0)) → F (p + 20) 8 = w8 → R (wI h1 F)) :
    ∀ (f i : Nat) (F : Nat → Nat → Int32), i ≤ mk → mk < f + i → bnX h1 F x p D z0 mk e0 e1 a1 k1 a2 k2 a3 k3 kd idn po b l r R0 s (mU K q ((List.range i).foldl (otS (loK kd q) l r s q) L0)) → F (p + 20) 8 = w8 → w_Mg_hangChildren_64 R f (p + 69) (some a2) (some a3) (nI q) (nI i) (wI h1 F)
  | 0, i, F, h1', h2, Y, g8 => by omega
  | f + 1, i, F, h1', h2, Y, g8 => by
    obtain ⟨g0, ⟨rm, lm⟩, ⟨rb, lb⟩, _, _, ⟨r5, w5⟩, _⟩ := mgRw (bn_X Y).1.1
    have hk := Y.1.1.1.2.2.1
    obtain ⟨HH, I, Eg⟩ := Y.2.1
    refine ⟨g0, p, rm, lm.1, ?_⟩
    rw [(bn_X Y).2.1.1]
    by_cases hi : i < mk
    · have rs : (List.range (i + 1)).foldl (otS (loK kd q) l r s q) L0 = otS (loK kd q) l r s q ((List.range i).foldl (otS (loK kd q) l r s q) L0) i := by
        rw [List.range_succ, List.foldl_append]
        rfl
      obtain ⟨_, old, _⟩ : True ∧ (∀ x ∈ L0, x ∈ (List.range i).foldl (otS (loK kd q) l r s q) L0) ∧ True := by
        refine ⟨trivial, ?_, trivial⟩
        have mono : ∀ (M : List Nat) (Q : List Nat) x, x ∈ Q → x ∈ M.foldl (otS (loK kd q) l r s q) Q := by
          intro M
          induction M with
          | nil => intro Q x hx; exact hx
          | cons m M ih =>
            intro Q x hx
            rw [List.foldl_cons]
            refine ih _ x ?_
            unfold otS
            by_cases c : sUp s m = some q ∧ m ∉ Q
            · rw [if_pos c]; exact in_mem.mpr (Or.inr hx)
            · rw [if_neg c]; exact hx
        exact fun x hx => mono _ _ x hx
      generalize (List.range i).foldl (otS (loK kd q) l r s q) L0 = L at Y rs old
      refine ⟨fun g => absurd ((nI_le_iff (by omega) (by omega)).mp g) (by omega), fun _ => ⟨p + 76, r5, w5.1, p_at w5 (by decide) ?_⟩⟩
      rw [rAt_n (by omega) (by decide), wI_I, Y.1.2 (p + 77) (by omega), (W i hi).2.2, nI_1]
      have eqv : nO (sUp s i) = nI q ↔ sUp s i = some q := by
        cases eu : sUp s i with
        | none => exact ⟨fun g => absurd g.symm (nI_ne_m (by omega)), fun g => by cases g⟩
        | some y =>
          have := up_lt HH I eu
          exact ⟨fun g => by rw [nI_inj (by omega) (by omega) g], fun g => by rw [Option.some.inj g]; rfl⟩
      have skip : ¬ (sUp s i = some q ∧ i ∉ L) → w_Mg_hangChildren_64 R f (p + 69) (some a2) (some a3) (nI q) (nI (i + 1)) (wI h1 F) := fun g => by
        refine p_ot64 q3 W hsh fin f (i + 1) F (by omega) (by omega) ?_ g8
        rw [rs]
        unfold otS
        rw [if_neg g]
        exact Y
      refine ⟨fun g => skip (fun z => g (eqv.mpr z.1)), fun g => ⟨g0, p + 20, rb, lb.1, p_isCh Y (by omega) (by omega) ?_⟩⟩
      have hu := eqv.mp g
      rw [mU_s]
      by_cases c : i ∈ L
      · rw [if_pos c]
        exact ⟨fun _ => skip (fun z => z.2 c), fun z => absurd z (by decide)⟩
      · rw [if_neg c]
        have st : otS (loK kd q) l r s q L i = insK (loK kd q) L i (nrO l r L q i) := by
          unfold otS
          rw [if_pos ⟨hu, c⟩]
        rw [st] at rs
        refine ⟨fun z => absurd rfl z, fun _ => ⟨g0, p_nearOf Y (by omega) (by omega) (fun o u v => ⟨p + 20, rb, lb.1, ?_⟩)⟩⟩
        rw [mU_s] at u v
        cases hl : loK kd q with
        | true =>
          refine p_hgL Y hu (by rw [mU_s]; exact c) hl (k := aK L (nrO l r L q i)) (fun G g1 g2 => ?_)
          rw [mU_s, mU_mU] at g1
          exact p_ot64 q3 W hsh fin f (i + 1) G (by omega) (by omega) (by rw [rs]; exact g1) (g2.trans g8)
        | false =>
          have src : i ∈ tKi l q ∨ i ∈ tKi r q := by
            rcases I.2.2.1 i q hu with ⟨s1, s2⟩ | ⟨s1, s2⟩ | ⟨s1, s2⟩
            · exact absurd (old i (hsh hl i ((shL_iff HH.1.1.1).mpr ⟨⟨s1, s2⟩, hu⟩))) c
            · exact Or.inl ((HH.1.2.1.1.2.1 i q).mpr ⟨s1, s2⟩)
            · exact Or.inr ((HH.1.2.2.1.2.1 i q).mpr ⟨s1, s2⟩)
          refine p_hgK Y hu (by rw [mU_s]; exact c) (ao := o) (by rw [mU_s]; exact v) (fun G g1 g2 => ?_)
          rw [mU_s, mU_mU, u src] at g1
          exact p_ot64 q3 W hsh fin f (i + 1) G (by omega) (by omega) (by rw [rs]; exact g1) (g2.trans g8)
    · have ei : i = mk := by omega
      subst ei
      exact ⟨fun _ => fin F Y g8, fun g => absurd ((nI_le_iff (by omega) (by omega)).mpr (by omega)) g⟩
theorem bs_all {s : mgS} {p : Nat} : ∀ (L : List Nat) (st : List Nat × Option Nat), (∀ x ∈ st.1, x ∈ (L.foldl bsS st).1) ∧ ∀ m ∈ L, m ∈ (L.foldl bsS st).1
  | [], st => ⟨fun x hx => hx, fun m hm => by cases hm⟩
  | m :: L, st => by
    rw [List.foldl_cons]
    have k : (∀ x ∈ st.1, x ∈ (bsS st m).1) ∧ m ∈ (bsS st m).1 := by
      show (∀ x ∈ st.1, x ∈ (if m ∈ st.1 then st.1 else insK false st.1 m st.2)) ∧ m ∈ (if m ∈ st.1 then st.1 else insK false st.1 m st.2)
      by_cases c : m ∈ st.1
      · rw [if_pos c]; exact ⟨fun x hx => hx, c⟩
      · rw [if_neg c]; exact ⟨fun x hx => in_mem.mpr (Or.inr hx), in_mem.mpr (Or.inl rfl)⟩
    obtain ⟨q1, q2⟩ := bs_all (s := s) (p := p) L (bsS st m)
    refine ⟨fun x hx => q1 x (k.1 x hx), fun y hy => ?_⟩
    rcases List.mem_cons.mp hy with g | g
    · rw [g]; exact q1 m k.2
    · exact q2 y g
end MHANG2
