section RKIDS
variable {h : tpH} {Q q mk s1 s2 s3 R0 : Nat} {kd idn po : Nat → Int32} {b l r : mT}
theorem p_w94 (X : RC h Q q mk s1 s2 s3 R0 b l r) {F0 : Nat → Nat → Int32} (H0 : RFm F0 Q q mk s1 s2 s3 kd idn po b l r) {s : mgS} (I : mgI mk R0 po b l r s) (Eg : mgE mk s) {K : Nat → List Nat} (hK : ∀ z, kOK s z (K z)) {p : Nat} (p3 : p < mk) (hlk : loK kd p = false) (K0 : rwM F0 (q + 41) (shL b s p)) (N0 : F0 Q 52 = nI (shL b s p).length) {L0 : List Nat} {t0 : Int32} {R : Int32 → tpH → Prop} {K159 : Nat → Int32 → Int32 → Int32 → Int32 → Int32 → tpH → Prop} (fin : ∀ F, hgFr q F0 F → WkP F q R0 s (mU K p ((shL b s p).foldl bsS (L0, none)).1) → K159 Q (nI s2) (nI s3) (nI p) t0 (0 : Int32) (wI h F)) :
    ∀ (n : Nat) (A C : List Nat) (st : List Nat × Option Nat) (F : Nat → Nat → Int32), shL b s p = A ++ C → C.length < n → C.foldl bsS st = (shL b s p).foldl bsS (L0, none) → st.2 = A.getLast? → (∀ x ∈ A, x ∈ st.1) → kOK s p st.1 → (∀ x ∈ st.1, x ∈ shL b s p) → hgFr q F0 F → WkP F q R0 s (mU K p st.1) → w_Md_hangChildren_94 R K159 n Q (nI s1) (nI s2) (nI s3) (nI p) t0 (nI A.length) (wI h F)
  | 0, A, C, st, F, e, hn, h2, hs, hA, ok, hS, f, V => by omega
  | n + 1, A, [], st, F, e, hn, h2, hs, hA, ok, hS, f, V => by
    obtain ⟨⟨M, hQ⟩, _⟩ := id X
    have eN : hI (wI h F) Q 52 = nI (shL b s p).length := (f _ _ (by omega)).trans N0
    have h2 : st = (shL b s p).foldl bsS (L0, none) := h2
    refine ⟨M.1, ?_⟩
    rw [eN, e, List.append_nil]
    rw [h2] at V
    exact ⟨fun _ => fin F f V, fun g => absurd (Int32.le_refl _) g⟩
  | n + 1, A, m :: C, st, F, e, hn, h2, hs, hA, ok, hS, f, V => by
    obtain ⟨⟨M, hQ⟩, ⟨i1, i2, i3⟩, HH⟩ := id X
    obtain ⟨⟨w1, w2, w3⟩, _, hk, b1, b2, b3⟩ := id HH
    obtain ⟨d1, d2, d3⟩ := md_f M (j := 41) (kd := 15) (n := 300) (f := 51) (by decide)
    have H := RFm_fr X H0 (hg_r f)
    have eN : hI (wI h F) Q 52 = nI (shL b s p).length := (f _ _ (by omega)).trans N0
    have l3 := shL_len w1.1 s p
    have hlen : (shL b s p).length = A.length + (C.length + 1) := by rw [e, List.length_append, List.length_cons]
    have hn : C.length < n := by simpa using hn
    have em : (shL b s p)[A.length]? = some m := by rw [e, List.getElem?_append_right (Nat.le_refl _), Nat.sub_self]; rfl
    have mm := List.mem_of_getElem? em
    have hm := (shL_iff w1.1).mp mm
    have m3 := b1 m hm.1.1
    have hlo : F q p < 4 ↔ loK kd p = false := by rw [(H.1.2 p p3).1]; exact loK_iff kd p
    have hK' := mU_OK hK ok
    have vi : vp_in (nI A.length) 300 := vp_in_nI (by omega) (by decide)
    have er : hI (wI h F) (q + 41) A.length = nI m := (f _ _ (by omega)).trans (K0 _ m em)
    have el : (A ++ [m]).length = A.length + 1 := by rw [List.length_append]; rfl
    have elast : (A ++ [m]).getLast? = some m := by rw [List.getLast?_append]; rfl
    rw [List.foldl_cons] at h2
    refine ⟨M.1, ?_⟩
    rw [eN]
    refine ⟨fun g => absurd ((nI_le_iff (by omega) (by omega)).mp g) (by omega), fun _ => ⟨q + 41, d3, d1, by rw [wI_L, d2]; exact vi, ?_⟩⟩
    rw [nI_clamp (by omega), er]
    show w_Md_isChildOf Q (nI 41) (nI m) (nI p) (wI h F) _
    refine p_isCW X H.1.1 I hK' V m3 (by omega) ?_
    rw [mU_s]
    by_cases c : m ∈ st.1
    · rw [if_pos c]
      have eb : bsS st m = (st.1, some m) := by
        show ((if m ∈ st.1 then st.1 else insK false st.1 m st.2), some m) = _
        rw [if_pos c]
      rw [eb] at h2
      refine ⟨fun _ => ?_, fun g => absurd (show (1 : Int32) = 0 from g) (by decide)⟩
      have ih := p_w94 X H0 I Eg hK p3 hlk K0 N0 (R := R) fin n (A ++ [m]) C (st.1, some m) F (by rw [e, List.append_assoc]; rfl) hn h2 elast.symm (fun x hx => (List.mem_append.mp hx).elim (hA x) (fun z => by rw [List.mem_singleton.mp z]; exact c)) ok hS f V
      rw [el] at ih
      rw [nI_1]
      exact ih
    · rw [if_neg c]
      have eb : bsS st m = (insK false st.1 m st.2, some m) := by
        show ((if m ∈ st.1 then st.1 else insK false st.1 m st.2), some m) = _
        rw [if_neg c]
      rw [eb] at h2
      refine ⟨fun g => absurd rfl g, fun _ => ⟨M.1, q + 41, d3, d1, by rw [wI_L, d2]; exact vi, by rw [wI_L, d2]; exact vi, ?_⟩⟩
      rw [er]
      have hmk : m ∈ tKi b p := (w1.1.2.1 m p).mpr hm.1
      refine p_stand X H.1.1 I hK' V (by omega) H.2.2.1 w1 b1 hmk ⟨M.1, ?_⟩
      rw [mU_s, nr_sh w1.1 e hA hS, ← hs]
      have ha : ∀ d, st.2 = some d → d ∈ st.1 := fun d hd => hA d (List.mem_of_getLast? (hs.symm.trans hd))
      show w_Md_hang Q (nI 41) (nI m) (nI p) (nO st.2) (wI h F) _
      refine p_hgW X I Eg hK' V hm.2 (by rw [mU_s]; exact c) hlo (ao := st.2) (by rw [mU_s]; exact ha) (fun G g1 g2 => ?_)
      rw [mU_s, mU_mU, hlk] at g1
      have ih := p_w94 X H0 I Eg hK p3 hlk K0 N0 (R := R) fin n (A ++ [m]) C (insK false st.1 m st.2, some m) G (by rw [e, List.append_assoc]; rfl) hn h2 elast.symm (fun x hx => (List.mem_append.mp hx).elim (fun z => in_mem.mpr (Or.inr (hA x z))) (fun z => in_mem.mpr (Or.inl (List.mem_singleton.mp z)))) (ins_OK ok hm.2 c) (fun x hx => (in_mem.mp hx).elim (fun z => by rw [z]; exact mm) (hS x)) (hg_tr f g2) g1
      rw [el] at ih
      rw [nI_1]
      exact ih
theorem p_w50 (X : RC h Q q mk s1 s2 s3 R0 b l r) {F0 : Nat → Nat → Int32} (H0 : RFm F0 Q q mk s1 s2 s3 kd idn po b l r) {s : mgS} (I : mgI mk R0 po b l r s) (Eg : mgE mk s) {K : Nat → List Nat} (hK : ∀ z, kOK s z (K z)) {p : Nat} (p3 : p < mk) (hlk : loK kd p = false) {L : List Nat} (hLk : kOK s p L) (l3 : L.length ≤ 300) (K0 : rwM F0 (q + 42) L) (N0 : F0 Q 54 = nI L.length) {t0 : Int32} {R : Int32 → tpH → Prop} {K159 : Nat → Int32 → Int32 → Int32 → Int32 → Int32 → tpH → Prop} (fin : ∀ F, hgFr q F0 F → WkP F q R0 s (mU K p L) → ∃ n, w_Md_hangChildren_94 R K159 n Q (nI s1) (nI s2) (nI s3) (nI p) t0 (0 : Int32) (wI h F)) :
    ∀ (n : Nat) (A C : List Nat) (F : Nat → Nat → Int32), L = A ++ C → C.length < n → hgFr q F0 F → WkP F q R0 s (mU K p A) → w_Md_hangChildren_50 R K159 n Q (nI s1) (nI s2) (nI s3) (nI p) t0 (nO A.getLast?) (nI A.length) (wI h F)
  | 0, A, C, F, e, hn, f, V => by omega
  | n + 1, A, [], F, e, hn, f, V => by
    obtain ⟨⟨M, hQ⟩, _⟩ := id X
    have eN : hI (wI h F) Q 54 = nI L.length := (f _ _ (by omega)).trans N0
    rw [List.append_nil] at e
    refine ⟨M.1, ?_⟩
    rw [eN, ← e]
    rw [← e] at V
    exact ⟨fun _ => fin F f V, fun g => absurd (Int32.le_refl _) g⟩
  | n + 1, A, m :: C, F, e, hn, f, V => by
    obtain ⟨⟨M, hQ⟩, ⟨i1, i2, i3⟩, HH⟩ := id X
    have hk := HH.2.2.1
    obtain ⟨d1, d2, d3⟩ := md_f M (j := 42) (kd := 15) (n := 300) (f := 53) (by decide)
    have H := RFm_fr X H0 (hg_r f)
    have eN : hI (wI h F) Q 54 = nI L.length := (f _ _ (by omega)).trans N0
    have hlen : L.length = A.length + (C.length + 1) := by rw [e, List.length_append, List.length_cons]
    have hn : C.length < n := by simpa using hn
    have em : L[A.length]? = some m := by rw [e, List.getElem?_append_right (Nat.le_refl _), Nat.sub_self]; rfl
    have hu := hLk.2 m (List.mem_of_getElem? em)
    have hlo : F q p < 4 ↔ loK kd p = false := by rw [(H.1.2 p p3).1]; exact loK_iff kd p
    have nd : (A ++ m :: C).Nodup := by rw [← e]; exact hLk.1
    obtain ⟨nA, _, nd2⟩ := List.nodup_append.mp nd
    have nm : m ∉ A := fun g => nd2 m g m List.mem_cons_self rfl
    have okA : kOK s p A := ⟨nA, fun x hx => hLk.2 x (by rw [e]; exact List.mem_append_left _ hx)⟩
    have hK' := mU_OK hK okA
    have vi : vp_in (nI A.length) 300 := vp_in_nI (by omega) (by decide)
    have er : hI (wI h F) (q + 42) A.length = nI m := (f _ _ (by omega)).trans (K0 _ m em)
    have elast : (A ++ [m]).getLast? = some m := by rw [List.getLast?_append]; rfl
    refine ⟨M.1, ?_⟩
    rw [eN]
    refine ⟨fun g => absurd ((nI_le_iff (by omega) (by omega)).mp g) (by omega), fun _ => ⟨q + 42, d3, d1, by rw [wI_L, d2]; exact vi, ?_⟩⟩
    rw [nI_clamp (by omega), er]
    show w_Md_hang Q (nI 41) (nI m) (nI p) (nO A.getLast?) (wI h F) _
    refine p_hgW X I Eg hK' V hu (by rw [mU_s]; exact nm) hlo (ao := A.getLast?) (by rw [mU_s]; exact fun d hd => List.mem_of_getLast? hd) (fun G g1 g2 => ⟨M.1, q + 42, d3, d1, by rw [wI_L, d2]; exact vi, ?_⟩)
    rw [mU_s, mU_mU, hlk, in_last nA] at g1
    rw [show hI (wI h G) (q + 42) A.length = nI m from (g2 _ _ (by omega)).trans er]
    have ih := p_w50 X H0 I Eg hK p3 hlk hLk l3 K0 N0 (R := R) fin n (A ++ [m]) C G (by rw [e, List.append_assoc]; rfl) hn (hg_tr f g2) g1
    rw [List.length_append, elast] at ih
    rw [nI_1]
    exact ih
def kdF (Q q : Nat) (F G : Nat → Nat → Int32) : Prop := ∀ c j, ¬ (c = q + 41 ∨ c = q + 42 ∨ c = q + 43 ∨ (c = Q ∧ (j = 52 ∨ j = 54)) ∨ ((c = q + 3 ∨ c = q + 5 ∨ c = q + 6) ∧ 12300 ≤ j ∧ j < 12600)) → G c j = F c j
theorem kd_r {F G : Nat → Nat → Int32} (f : kdF Q q F G) : rFr Q q F G := fun c j hc => f c j (fun g => hc (by unfold rfT; omega))
theorem p_Mkids (X : RC h Q q mk s1 s2 s3 R0 b l r) {F : Nat → Nat → Int32} (H : RFm F Q q mk s1 s2 s3 kd idn po b l r) (hpo : po 5 = 0 ∨ po 5 = 1 ∨ po 5 = 2) {s : mgS} (I : mgI mk R0 po b l r s) (Eg : mgE mk s) (W : rsR F q mk s) {K : Nat → List Nat} (hK : ∀ z, kOK s z (K z)) {p : Nat} (p3 : p < mk) (h0 : K p = []) (V : WkP F q R0 s K) {R : Int32 → tpH → Prop} (kk : ∀ G, kdF Q q F G → WkP G q R0 s (mU K p (KF po mk b l r s (loK kd) p)) → R (if orB po b l r s (loK kd) p = true then 1 else 0) (wI h G)) : w_Md_hangChildren Q (nI s1) (nI s2) (nI s3) (nI p) (wI h F) R := by
  obtain ⟨⟨M, hQ⟩, ⟨i1, i2, i3⟩, HH⟩ := id X
  obtain ⟨⟨w1, w2, w3⟩, _, hk, b1, b2, b3⟩ := id HH
  refine ⟨M.1, p_lsh X H I W p3 (fun G1 f1 K1 N1 => ⟨M.1, ?_⟩)⟩
  have g1 : kdF Q q F G1 := fun c j hc => f1 c j (by omega)
  have H1 := RFm_fr X H (kd_r g1)
  have V1 : WkP G1 q R0 s (mU K p []) := by rw [mU_id h0]; exact WkP_k V (fun c c1 c2 => funext fun j => f1 c j (by omega))
  have hlo : ∀ {G : Nat → Nat → Int32}, RFm G Q q mk s1 s2 s3 kd idn po b l r → (G q p < 4 ↔ loK kd p = false) := fun {G} HG => by rw [(HG.1.2 p p3).1]; exact loK_iff kd p
  rw [e_Md_isOrdered M (by omega)]
  cases hl : loK kd p with
  | true =>
    have n4 : ¬ G1 q p < 4 := fun z => by rw [(hlo H1).mp z] at hl; cases hl
    rw [if_neg n4]
    refine ⟨fun _ => ⟨M.1, ?_⟩, fun g => absurd rfl g⟩
    rw [e_Md_isOrdered M (by omega), if_neg n4]
    refine ⟨fun _ => ⟨mk + 1, ?_⟩, fun g => absurd rfl g⟩
    have W1 : rsR G1 q mk s := fun y hy => by rw [f1 _ _ (by omega), f1 _ _ (by omega), f1 _ _ (by omega)]; exact W y hy
    show w_Md_hangChildren_159 R (mk + 1) Q (nI s2) (nI s3) (nI p) 0 (nI 0) (wI h G1)
    refine p_w159 X H1 I Eg W1 hK p3 (L0 := []) ⟨List.nodup_nil, fun m hm => by cases hm⟩ (fun g => by rw [hl] at g; cases g) (Or.inl rfl) (fun G2 f2 V2 => ?_) (mk + 1) 0 G1 (Nat.zero_le _) (by omega) (fun _ _ _ => rfl) V1
    have eKF : (List.range mk).foldl (otS (loK kd p) l r s p) [] = KF po mk b l r s (loK kd) p := by
      unfold KF stK
      rw [hl, if_pos rfl]
    have eo : orB po b l r s (loK kd) p = false := by
      unfold orB
      rw [hl]
      rfl
    rw [eKF] at V2
    rw [eo, if_neg Bool.false_ne_true] at kk
    exact kk G2 (fun c j hc => by rw [f2 c j (by omega), f1 c j (by omega)]) V2
  | false =>
    have h4 : G1 q p < 4 := (hlo H1).mpr hl
    rw [if_pos h4]
    refine ⟨fun g => absurd (show (1 : Int32) = 0 from g) (by decide), fun _ => ⟨M.1, ?_⟩⟩
    refine p_lch X H1 hpo p3 K1 N1 (fun G2 f2 K2 N2 => ?_)
    have g2 : kdF Q q F G2 := fun c j hc => by rw [f2 c j (by omega), f1 c j (by omega)]
    have H2 := RFm_fr X H (kd_r g2)
    have V2 : WkP G2 q R0 s (mU K p []) := WkP_k V1 (fun c c1 c2 => funext fun j => f2 c j (by omega))
    have K12 : rwM G2 (q + 41) (shL b s p) := fun i x hi => by rw [f2 _ _ (by omega)]; exact K1 i x hi
    have N12 : G2 Q 52 = nI (shL b s p).length := by rw [f2 _ _ (by omega)]; exact N1
    have W2 : rsR G2 q mk s := fun y hy => by rw [f2 _ _ (by omega), f2 _ _ (by omega), f2 _ _ (by omega), f1 _ _ (by omega), f1 _ _ (by omega), f1 _ _ (by omega)]; exact W y hy
    have OKL := ldP_OK (po := po) w1.1 w2.1 w3.1 s p
    have lld : (ldP po b l r s p).1.length ≤ 300 := by
      rcases ldP_or po b l r s p with e | e | e
      · rw [e]; exact sdL_len w2.1 s p
      · rw [e]; exact sdL_len w3.1 s p
      · rw [e]; exact shL_len w1.1 s p
    have sub : ∀ x ∈ (ldP po b l r s p).1, x ∈ shL b s p := fun x hx => by
      rcases ldP_or po b l r s p with e | e | e
      · rw [e] at hx; exact of_decide_eq_true (List.mem_filter.mp hx).2
      · rw [e] at hx; exact of_decide_eq_true (List.mem_filter.mp hx).2
      · rw [e] at hx; exact hx
    have eo : orB po b l r s (loK kd) p = (ldP po b l r s p).2 := by
      unfold orB
      rw [hl]
      rfl
    have c33 : ∀ t0 : Int32, tpB t0 → (if orB po b l r s (loK kd) p = true then 1 else 0) = t0 → w_Md_hangChildren_33 R Q (nI s1) (nI s2) (nI s3) (nI p) t0 (wI h G2) := fun t0 ht0 et => by
      rw [et] at kk
      have h42 : G2 q p < 4 := (hlo H2).mpr hl
      refine ⟨M.1, ?_⟩
      rw [e_Md_isOrdered M (by omega), if_pos h42]
      refine ⟨fun g => absurd (show (1 : Int32) = 0 from g) (by decide), fun _ => ⟨(ldP po b l r s p).1.length + 1, ?_⟩⟩
      show w_Md_hangChildren_50 R _ _ Q (nI s1) (nI s2) (nI s3) (nI p) t0 (nO ([] : List Nat).getLast?) (nI ([] : List Nat).length) (wI h G2)
      refine p_w50 X H2 I Eg hK p3 hl OKL lld K2 N2 (fun G3 f3 V3 => ⟨(shL b s p).length + 1, ?_⟩) _ [] _ G2 rfl (Nat.lt_succ_self _) (fun _ _ _ => rfl) V2
      have H3 := RFm_fr X H2 (hg_r f3)
      have K3 : rwM G3 (q + 41) (shL b s p) := fun i x hi => by rw [f3 _ _ (by omega)]; exact K12 i x hi
      have N3 : G3 Q 52 = nI (shL b s p).length := by rw [f3 _ _ (by omega)]; exact N12
      show w_Md_hangChildren_94 R _ _ Q (nI s1) (nI s2) (nI s3) (nI p) t0 (nI ([] : List Nat).length) (wI h G3)
      refine p_w94 X H3 I Eg hK p3 hl K3 N3 (L0 := (ldP po b l r s p).1) (fun G4 f4 V4 => ⟨mk + 1, ?_⟩) _ [] _ ((ldP po b l r s p).1, none) G3 rfl (Nat.lt_succ_self _) rfl rfl (fun x hx => by cases hx) OKL sub (fun _ _ _ => rfl) V3
      have H4 := RFm_fr X H3 (hg_r f4)
      have W4 : rsR G4 q mk s := fun y hy => by rw [f4 _ _ (by omega), f4 _ _ (by omega), f4 _ _ (by omega), f3 _ _ (by omega), f3 _ _ (by omega), f3 _ _ (by omega)]; exact W2 y hy
      show w_Md_hangChildren_159 R (mk + 1) Q (nI s2) (nI s3) (nI p) t0 (nI 0) (wI h G4)
      refine p_w159 X H4 I Eg W4 hK p3 (L0 := bsK po b l r s p) (bsK_OK w1.1 w2.1 w3.1 s p) (fun _ m hm => (bs_all (s := s) (p := p) (shL b s p) _).2 m hm) ht0 (fun G5 f5 V5 => ?_) (mk + 1) 0 G4 (Nat.zero_le _) (by omega) (fun _ _ _ => rfl) V4
      have eKF : (List.range mk).foldl (otS (loK kd p) l r s p) (bsK po b l r s p) = KF po mk b l r s (loK kd) p := by
        unfold KF stK
        rw [hl, if_neg Bool.false_ne_true]
      rw [eKF] at V5
      exact kk G5 (fun c j hc => by rw [f5 c j (by omega), f4 c j (by omega), f3 c j (by omega), f2 c j (by omega), f1 c j (by omega)]) V5
    rw [eo] at c33
    cases eb : (ldP po b l r s p).2 with
    | true =>
      rw [eb] at c33
      exact ⟨fun g => absurd (show (1 : Int32) = 0 from g) (by decide), fun _ => c33 1 (Or.inr rfl) rfl⟩
    | false =>
      rw [eb] at c33
      exact ⟨fun _ => c33 0 (Or.inl rfl) rfl, fun g => absurd (show (0 : Int32) = 0 from rfl) g⟩
end RKIDS
