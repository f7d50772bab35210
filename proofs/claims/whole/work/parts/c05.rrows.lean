section RROWS
variable {h : tpH} {Q q mk s1 s2 s3 R0 : Nat} {kd idn po : Nat → Int32} {b l r : mT}
/-! the reference's rows of those that are shared -/
def rwM (F : Nat → Nat → Int32) (c : Nat) (L : List Nat) : Prop := ∀ (i x : Nat), L[i]? = some x → F c i = nI x
theorem rwM_put {F : Nat → Nat → Int32} {c : Nat} {L : List Nat} (H : rwM F c L) (x : Nat) : rwM (tpu F c L.length (nI x)) c (L ++ [x]) := fun i y hi => by
  by_cases ci : i < L.length
  · rw [List.getElem?_append_left ci] at hi
    rw [tpu_o (by omega)]
    exact H i y hi
  · rw [List.getElem?_append_right (by omega)] at hi
    have hi0 : i = L.length := by
      have h1 := (List.getElem?_eq_some_iff.mp hi).1
      have h2 : i - L.length < 1 := h1
      omega
    subst hi0
    rw [Nat.sub_self] at hi
    have he : x = y := Option.some.inj hi
    rw [tpu_s, he]
theorem ki_none {t : mT} (hw : tWF 300 t) {p : Nat} (e : tIn t p = false) : tKi t p = [] := by
  cases c : tKi t p with
  | nil => rfl
  | cons y L =>
    have hy := (hw.1.2.1 y p).mp (by rw [c]; exact List.mem_cons_self)
    rw [hw.1.2.2.2.2 y p hy.1 hy.2] at e
    cases e
def shR (Q q : Nat) (F G : Nat → Nat → Int32) : Prop := ∀ c j, ¬ (c = q + 41 ∨ (c = Q ∧ j = 52)) → G c j = F c j
theorem p_lsh25 (X : RC h Q q mk s1 s2 s3 R0 b l r) {F0 : Nat → Nat → Int32} (H : RFm F0 Q q mk s1 s2 s3 kd idn po b l r) {s : mgS} (I : mgI mk R0 po b l r s) (W : rsR F0 q mk s) {p : Nat} (p3 : p < 300) {R : tpH → Prop} (fin : ∀ G, shR Q q F0 G → rwM G (q + 41) (shL b s p) → G Q 52 = nI (shL b s p).length → R (wI h G)) : ∀ (n : Nat) (A C : List Nat) (v : Int32) (F : Nat → Nat → Int32), tKi b p = A ++ C → C.length < n → seg (fun y => F0 (q + 6) (300 * s1 + y)) v C (-1) → shR Q q F0 F → rwM F (q + 41) (A.filter (fun m => decide (sUp s m = some p))) → F Q 52 = nI (A.filter (fun m => decide (sUp s m = some p))).length → w_Md_layShared_25 R n Q (nI s1) (nI p) v (wI h F)
  | 0, A, C, v, F, e, hn, hv, f, K, N => by omega
  | n + 1, A, [], v, F, e, hn, hv, f, K, N => by
    have hv : v = -1 := hv
    subst hv
    rw [List.append_nil] at e
    have es : shL b s p = A.filter (fun m => decide (sUp s m = some p)) := by unfold shL; rw [e]
    exact ⟨fun _ => fin F f (by rw [es]; exact K) (by rw [es]; exact N), fun g => absurd rfl g⟩
  | n + 1, A, x :: C, v, F, e, hn, hv, f, K, N => by
    obtain ⟨⟨M, hQ⟩, ⟨i1, i2, i3⟩, HH⟩ := id X
    obtain ⟨⟨w1, w2, w3⟩, _, hk, b1, b2, b3⟩ := id HH
    obtain ⟨c1, c2, c3⟩ := md_f M (j := 37) (kd := 16) (n := 300) (f := 47) (by decide)
    obtain ⟨e1, e2, e3⟩ := md_f M (j := 39) (kd := 15) (n := 300) (f := 49) (by decide)
    obtain ⟨d1, d2, d3⟩ := md_f M (j := 41) (kd := 15) (n := 300) (f := 51) (by decide)
    obtain ⟨ev, hC⟩ := hv
    subst ev
    have hx : x ∈ tKi b p := by rw [e]; exact List.mem_append_right _ List.mem_cons_self
    have hxi := ((w1.1.2.1 x p).mp hx).1
    have x3 := b1 x hxi
    have hn : C.length < n := by simpa using hn
    have vx : vp_in (nI x) 300 := vp_in_nI (by omega) (by decide)
    have lK := ki_len w1.1 p
    have lC := tCn_le b
    have lA : (A.filter (fun m => decide (sUp s m = some p))).length ≤ A.length := List.length_filter_le _ _
    have lAC : (tKi b p).length = A.length + (C.length + 1) := by rw [e, List.length_append, List.length_cons]
    obtain ⟨g1, g2⟩ := W x x3
    have next : ∀ G, shR Q q F0 G → rwM G (q + 41) ((A ++ [x]).filter (fun m => decide (sUp s m = some p))) → G Q 52 = nI ((A ++ [x]).filter (fun m => decide (sUp s m = some p))).length → w_Md_layShared_69 R (w_Md_layShared_25 R n) Q (nI s1) (nI p) (nI x) (wI h G) := fun G fG KG NG => by
      refine ⟨M.1, ?_⟩
      rw [e_Md_nextIn M (by omega) (by omega), fG _ _ (by omega)]
      exact p_lsh25 X H I W p3 fin n (A ++ [x]) C _ G (by rw [e, List.append_assoc]; rfl) hn hC fG KG NG
    have skip : ¬ sUp s x = some p → w_Md_layShared_69 R (w_Md_layShared_25 R n) Q (nI s1) (nI p) (nI x) (wI h F) := fun g => by
      have ef : (A ++ [x]).filter (fun m => decide (sUp s m = some p)) = A.filter (fun m => decide (sUp s m = some p)) := by
        rw [List.filter_append, List.filter_cons, if_neg (fun z => g (of_decide_eq_true z))]
        exact List.append_nil _
      exact next F f (by rw [ef]; exact K) (by rw [ef]; exact N)
    refine ⟨fun g => absurd g (nI_ne_m (by omega)), fun _ => ⟨M.1, q + 37, c3, c1, by rw [wI_L, c2]; exact vx, ?_⟩⟩
    rw [nI_clamp (by omega), show hI (wI h F) (q + 37) x = _ from (f _ _ (by omega)).trans g1]
    cases ei : sIn s x with
    | false =>
      rw [if_neg Bool.false_ne_true]
      refine ⟨fun _ => skip (fun z => ?_), fun g => absurd rfl g⟩
      rw [I.2.1 x ei] at z
      cases z
    | true =>
      rw [if_pos rfl]
      refine ⟨fun g => absurd g (by decide), fun _ => ⟨q + 39, e3, e1, by rw [wI_L, e2]; exact vx, ?_⟩⟩
      rw [show hI (wI h F) (q + 39) x = _ from (f _ _ (by omega)).trans (g2 ei).2]
      have iff : nO (sUp s x) = nI p ↔ sUp s x = some p := by
        cases eu : sUp s x with
        | none => exact ⟨fun g => absurd g.symm (nI_ne_m (by omega)), fun g => by cases g⟩
        | some y =>
          have := up_lt HH I eu
          exact ⟨fun g => by rw [nI_inj (by omega) (by omega) g], fun g => by rw [Option.some.inj g]; rfl⟩
      refine ⟨fun g => skip (fun z => g (iff.mpr z)), fun g => ?_⟩
      have hu := iff.mp g
      have eN : hI (wI h F) Q 52 = nI (A.filter (fun m => decide (sUp s m = some p))).length := N
      refine ⟨q + 41, d3, d1, by rw [wI_L, d2, eN]; exact vp_in_nI (by omega) (by decide), fun h17 e17 => ?_⟩
      rw [eN, nI_clamp (by omega), sI_wI, wI_wI, wI_I] at e17
      subst e17
      intro h19 e19
      have eN2 : hI (wI h (tpu F (q + 41) (A.filter (fun m => decide (sUp s m = some p))).length (nI x))) Q 52 + 1 = nI ((A.filter (fun m => decide (sUp s m = some p))).length + 1) := by
        rw [wI_I, tpu_o (by omega), N, nI_1]
      rw [eN2, sI_wI, wI_wI, wI_I] at e19
      subst e19
      have ef : (A ++ [x]).filter (fun m => decide (sUp s m = some p)) = A.filter (fun m => decide (sUp s m = some p)) ++ [x] := by
        rw [List.filter_append, List.filter_cons, if_pos (decide_eq_true hu)]
        rfl
      refine next _ (fun c j hc => by rw [tpu_o (by omega), tpu_o (by omega)]; exact f c j hc) ?_ ?_
      · rw [ef]
        intro i y hi
        rw [tpu_o (by omega)]
        exact rwM_put K x i y hi
      · rw [ef, tpu_s, List.length_append]
        rfl
theorem p_lsh (X : RC h Q q mk s1 s2 s3 R0 b l r) {F0 : Nat → Nat → Int32} (H : RFm F0 Q q mk s1 s2 s3 kd idn po b l r) {s : mgS} (I : mgI mk R0 po b l r s) (W : rsR F0 q mk s) {p : Nat} (p3 : p < mk) {R : tpH → Prop} (fin : ∀ G, shR Q q F0 G → rwM G (q + 41) (shL b s p) → G Q 52 = nI (shL b s p).length → R (wI h G)) : w_Md_layShared Q (nI s1) (nI p) (wI h F0) R := by
  obtain ⟨⟨M, hQ⟩, ⟨i1, i2, i3⟩, HH⟩ := id X
  obtain ⟨⟨w1, w2, w3⟩, _, hk, b1, b2, b3⟩ := id HH
  refine ⟨M.1, fun h2 e2 => ?_⟩
  rw [sI_wI, wI_wI, wI_I] at e2
  subst e2
  have f0 : shR Q q F0 (tpu F0 Q 52 0) := fun c j hc => tpu_o (by omega)
  have H1 := RFm_fr X H (fun c j hc => f0 c j (fun g => hc (by unfold rfT; omega)))
  have K0 : rwM (tpu F0 Q 52 0) (q + 41) [] := fun i x hi => by simp at hi
  refine rc_has M (by omega) hk H1.1 H1.2.2.1 w1 b1 p3 ?_
  cases e : tIn b p with
  | false =>
    rw [if_neg Bool.false_ne_true]
    refine ⟨fun _ => ⟨1, p_lsh25 X H I W (by omega) fin 1 [] [] _ _ (ki_none w1 e) (by decide) rfl f0 K0 (tpu_s _ _ _ _)⟩, fun g => absurd rfl g⟩
  | true =>
    rw [if_pos rfl]
    refine ⟨fun g => absurd g (by decide), fun _ => ⟨M.1, ?_⟩⟩
    rw [e_Md_firstIn M (by omega) (by omega), tpu_o (by omega)]
    exact ⟨(tKi b p).length + 1, p_lsh25 X H I W (by omega) fin _ [] (tKi b p) _ _ rfl (Nat.lt_succ_self _) (H.2.2.1.1 p e).2.2 f0 K0 (tpu_s _ _ _ _)⟩
/-- where it is among those shared -/
theorem p_shP2 (M : lMd h Q q) {F : Nat → Nat → Int32} {L : List Nat} (K : rwM F (q + 41) L) (N : F Q 52 = nI L.length) (l3 : L.length ≤ 300) (hLs : ∀ m ∈ L, m < 300) {x : Nat} (x3 : x < 300) {R : Int32 → tpH → Prop} (kk : R (if x ∈ L then nI (L.idxOf x) else -1) (wI h F)) : ∀ (n : Nat) (A C : List Nat), L = A ++ C → x ∉ A → C.length < n → w_Md_sharedPlace_2 R n Q (nI x) (nI A.length) (wI h F)
  | 0, A, C, e, hA, hn => by omega
  | n + 1, A, [], e, hA, hn => by
    have eN : hI (wI h F) Q 52 = nI L.length := N
    rw [List.append_nil] at e
    subst e
    rw [if_neg hA] at kk
    refine ⟨M.1, ?_⟩
    rw [eN]
    exact ⟨fun _ => kk, fun g => absurd (Int32.le_refl _) g⟩
  | n + 1, A, y :: C, e, hA, hn => by
    obtain ⟨d1, d2, d3⟩ := md_f M (j := 41) (kd := 15) (n := 300) (f := 51) (by decide)
    have eN : hI (wI h F) Q 52 = nI L.length := N
    have hlen : L.length = A.length + (C.length + 1) := by rw [e, List.length_append, List.length_cons]
    have hn : C.length < n := by simpa using hn
    have ey : L[A.length]? = some y := by rw [e, List.getElem?_append_right (Nat.le_refl _), Nat.sub_self]; rfl
    have y3 := hLs y (List.mem_of_getElem? ey)
    refine ⟨M.1, ?_⟩
    rw [eN]
    refine ⟨fun g => absurd ((nI_le_iff (by omega) (by omega)).mp g) (by omega), fun _ => ⟨q + 41, d3, d1, by rw [wI_L, d2]; exact vp_in_nI (by omega) (by decide), ?_⟩⟩
    rw [nI_clamp (by omega), show hI (wI h F) (q + 41) A.length = nI y from K _ y ey]
    refine ⟨fun g => ?_, fun g => ?_⟩
    · have := p_shP2 M K N l3 hLs x3 kk n (A ++ [y]) C (by rw [e, List.append_assoc]; rfl) (fun z => (List.mem_append.mp z).elim hA (fun z => g (by rw [List.mem_singleton.mp z]))) hn
      rw [List.length_append] at this
      rw [nI_1]
      exact this
    · have ex : y = x := nI_inj (by omega) (by omega) g
      subst ex
      have hi : L.idxOf y = A.length := by
        rw [e, List.idxOf_append, if_neg hA, List.idxOf_cons_self]
        omega
      rw [if_pos (List.mem_of_getElem? ey), hi] at kk
      exact kk
theorem p_shP (M : lMd h Q q) {F : Nat → Nat → Int32} {L : List Nat} (K : rwM F (q + 41) L) (N : F Q 52 = nI L.length) (l3 : L.length ≤ 300) (hLs : ∀ m ∈ L, m < 300) {x : Nat} (x3 : x < 300) {R : Int32 → tpH → Prop} (kk : R (if x ∈ L then nI (L.idxOf x) else -1) (wI h F)) : w_Md_sharedPlace Q (nI x) (wI h F) R :=
  ⟨L.length + 1, p_shP2 M K N l3 hLs x3 kk _ [] L rfl (by simp) (Nat.lt_succ_self _)⟩
/-- a side's order of them -/
def sdR (rr : Nat) (F G : Nat → Nat → Int32) : Prop := ∀ c, c ≠ rr → G c = F c
theorem p_lsd24 (X : RC h Q q mk s1 s2 s3 R0 b l r) {F0 : Nat → Nat → Int32} {L : List Nat} (K0 : rwM F0 (q + 41) L) (N0 : F0 Q 52 = nI L.length) (l3 : L.length ≤ 300) (hLs : ∀ m ∈ L, m < 300) {s' rr : Nat} {t : mT} (hs : s' < 42) (hr : (rr = q + 42 ∨ rr = q + 43) ∧ hT h rr = 15 ∧ hL h rr = 300) (hw : tWF 300 t) {p : Nat} {R : Int32 → tpH → Prop} (fin : ∀ G, sdR rr F0 G → rwM G rr ((tKi t p).filter (fun m => decide (m ∈ L))) → R (nI ((tKi t p).filter (fun m => decide (m ∈ L))).length) (wI h G)) : ∀ (n : Nat) (A C : List Nat) (v : Int32) (F : Nat → Nat → Int32), tKi t p = A ++ C → C.length < n → seg (fun y => F0 (q + 6) (300 * s' + y)) v C (-1) → sdR rr F0 F → rwM F rr (A.filter (fun m => decide (m ∈ L))) → w_Md_laySide_24 R n Q (nI s') (some rr) (nI (A.filter (fun m => decide (m ∈ L))).length) v (wI h F)
  | 0, A, C, v, F, e, hn, hv, f, K => by omega
  | n + 1, A, [], v, F, e, hn, hv, f, K => by
    have hv : v = -1 := hv
    subst hv
    rw [List.append_nil] at e
    subst e
    exact ⟨fun _ => fin F f K, fun g => absurd rfl g⟩
  | n + 1, A, x :: C, v, F, e, hn, hv, f, K => by
    obtain ⟨⟨M, hQ⟩, _, HH⟩ := id X
    obtain ⟨ev, hC⟩ := hv
    subst ev
    have hx : x ∈ tKi t p := by rw [e]; exact List.mem_append_right _ List.mem_cons_self
    have x3 := hw.1.1 x ((hw.1.2.1 x p).mp hx).1
    have hn : C.length < n := by simpa using hn
    have lK := ki_len hw.1 p
    have lC := tCn_le t
    have lA : (A.filter (fun m => decide (m ∈ L))).length ≤ A.length := List.length_filter_le _ _
    have lAC : (tKi t p).length = A.length + (C.length + 1) := by rw [e, List.length_append, List.length_cons]
    refine ⟨fun g => absurd g (nI_ne_m (by omega)), fun _ => ⟨M.1, p_shP M (L := L) (fun i y hi => by rw [f _ (by omega)]; exact K0 i y hi) (by rw [f _ (by omega)]; exact N0) l3 hLs x3 ?_⟩⟩
    have next : ∀ G, sdR rr F0 G → rwM G rr ((A ++ [x]).filter (fun m => decide (m ∈ L))) → w_Md_laySide_49 R (w_Md_laySide_24 R n) Q (nI s') (some rr) (nI ((A ++ [x]).filter (fun m => decide (m ∈ L))).length) (nI x) (wI h G) := fun G fG KG => by
      refine ⟨M.1, ?_⟩
      rw [e_Md_nextIn M hs x3, fG _ (by omega)]
      exact p_lsd24 X K0 N0 l3 hLs hs hr hw fin n (A ++ [x]) C _ G (by rw [e, List.append_assoc]; rfl) hn hC fG KG
    by_cases c : x ∈ L
    · rw [if_pos c]
      have hi : L.idxOf x < L.length := List.idxOf_lt_length_iff.mpr c
      refine ⟨fun g => absurd g (nI_ne_m (by omega)), fun _ => ⟨rr, rfl, hr.2.1, by rw [wI_L, hr.2.2]; exact vp_in_nI (by omega) (by decide), fun h10 e10 => ?_⟩⟩
      rw [nI_clamp (by omega), sI_wI, wI_wI, wI_I] at e10
      subst e10
      have ef : (A ++ [x]).filter (fun m => decide (m ∈ L)) = A.filter (fun m => decide (m ∈ L)) ++ [x] := by
        rw [List.filter_append, List.filter_cons, if_pos (decide_eq_true c)]
        rfl
      have nx := next (tpu F rr (A.filter (fun m => decide (m ∈ L))).length (nI x)) (fun c hc => by rw [tpu_fa _ _ _ _ _ hc]; exact f c hc) (by rw [ef]; exact rwM_put K x)
      rw [ef, List.length_append] at nx
      rw [nI_1]
      exact nx
    · rw [if_neg c]
      have ef : (A ++ [x]).filter (fun m => decide (m ∈ L)) = A.filter (fun m => decide (m ∈ L)) := by
        rw [List.filter_append, List.filter_cons, if_neg (fun z => c (of_decide_eq_true z))]
        exact List.append_nil _
      have nx := next F f (by rw [ef]; exact K)
      rw [ef] at nx
      exact ⟨fun _ => nx, fun g => absurd rfl g⟩
theorem p_lsd (X : RC h Q q mk s1 s2 s3 R0 b l r) {F0 : Nat → Nat → Int32} (hM : MaM F0 Q q mk kd idn) {L : List Nat} (K0 : rwM F0 (q + 41) L) (N0 : F0 Q 52 = nI L.length) (l3 : L.length ≤ 300) (hLs : ∀ m ∈ L, m < 300) {s' rr : Nat} {t : mT} (hs : s' < 42) (T : MtP F0 q s' t) (hr : (rr = q + 42 ∨ rr = q + 43) ∧ hT h rr = 15 ∧ hL h rr = 300) (hw : tWF 300 t) (ht : ∀ m, tIn t m = true → m < mk) {p : Nat} (p3 : p < mk) {R : Int32 → tpH → Prop} (fin : ∀ G, sdR rr F0 G → rwM G rr ((tKi t p).filter (fun m => decide (m ∈ L))) → R (nI ((tKi t p).filter (fun m => decide (m ∈ L))).length) (wI h G)) : w_Md_laySide Q (nI s') (nI p) (some rr) (wI h F0) R := by
  obtain ⟨⟨M, hQ⟩, _, HH⟩ := id X
  have hk := HH.2.2.1
  have Kn : rwM F0 rr [] := fun i x hi => by simp at hi
  refine ⟨M.1, rc_has M hs hk hM T hw ht p3 ?_⟩
  cases e : tIn t p with
  | false =>
    rw [if_neg Bool.false_ne_true]
    exact ⟨fun _ => ⟨1, p_lsd24 X K0 N0 l3 hLs hs hr hw fin 1 [] [] _ F0 (ki_none hw e) (by decide) rfl (fun _ _ => rfl) Kn⟩, fun g => absurd rfl g⟩
  | true =>
    rw [if_pos rfl]
    refine ⟨fun g => absurd g (by decide), fun _ => ⟨M.1, ?_⟩⟩
    rw [e_Md_firstIn M hs (by omega)]
    exact ⟨(tKi t p).length + 1, p_lsd24 X K0 N0 l3 hLs hs hr hw fin _ [] (tKi t p) _ F0 rfl (Nat.lt_succ_self _) (T.1 p e).2.2 (fun _ _ => rfl) Kn⟩
/-- are they turned -/
theorem p_mtn5 (M : lMd h Q q) {F : Nat → Nat → Int32} {L : List Nat} (K0 : rwM F (q + 41) L) (N0 : F Q 52 = nI L.length) (l3 : L.length ≤ 300) (hLs : ∀ m ∈ L, m < 300) {rr : Nat} (hr : hT h rr = 15 ∧ hL h rr = 300) {S : List Nat} (KS : rwM F rr S) (hS : ∀ m ∈ S, m ∈ L) (lS : S.length ≤ 300) {R : Int32 → tpH → Prop} (kk : R (if trnB (fun x => L.idxOf x) S = true then 1 else 0) (wI h F)) : ∀ (f : Nat) (A C : List Nat) (y : Nat) (d : Bool), S = A ++ y :: C → C.length < f → trnB (fun x => L.idxOf x) S = (d || trnB (fun x => L.idxOf x) (y :: C)) → w_Md_isTurned_5 R f Q (some rr) (nI S.length) (if d = true then 1 else 0) (nI (A.length + 1)) (wI h F)
  | 0, A, C, y, d, e, h1, h2 => by omega
  | f + 1, A, [], y, d, e, h1, h2 => by
    have hlen : S.length = A.length + 1 := by rw [e, List.length_append]; rfl
    rw [h2, show trnB (fun x => L.idxOf x) [y] = false from rfl, Bool.or_false] at kk
    rw [hlen]
    refine ⟨fun _ => ⟨?_, kk⟩, fun g => absurd (Int32.le_refl _) g⟩
    cases d
    · exact Or.inl rfl
    · exact Or.inr rfl
  | f + 1, A, z' :: C, y, d, e, h1, h2 => by
    have hlen : S.length = A.length + (C.length + 2) := by rw [e, List.length_append]; rfl
    have h1 : C.length + 1 < f + 1 := h1
    have ey : S[A.length]? = some y := by rw [e, List.getElem?_append_right (Nat.le_refl _), Nat.sub_self]; rfl
    have ez : S[A.length + 1]? = some z' := by rw [e, List.getElem?_append_right (by omega), show A.length + 1 - A.length = 1 by omega]; rfl
    have my := hS y (List.mem_of_getElem? ey)
    have mz := hS z' (List.mem_of_getElem? ez)
    have iy : L.idxOf y < L.length := List.idxOf_lt_length_iff.mpr my
    have iz : L.idxOf z' < L.length := List.idxOf_lt_length_iff.mpr mz
    have et : trnB (fun x => L.idxOf x) (y :: z' :: C) = (decide (L.idxOf z' < L.idxOf y) || trnB (fun x => L.idxOf x) (z' :: C)) := rfl
    rw [et] at h2
    have next : ∀ d' : Bool, (d || decide (L.idxOf z' < L.idxOf y)) = d' → w_Md_isTurned_5 R f Q (some rr) (nI S.length) (if d' = true then 1 else 0) (nI (A.length + 1) + 1) (wI h F) := fun d' ed => by
      have := p_mtn5 M K0 N0 l3 hLs hr KS hS lS kk f (A ++ [y]) C z' d' (by rw [e, List.append_assoc]; rfl) (by omega) (by rw [h2, ← ed, Bool.or_assoc])
      rw [List.length_append] at this
      rw [nI_1]
      exact this
    refine ⟨fun g => absurd ((nI_le_iff (by omega) (by omega)).mp g) (by omega), fun _ => ?_⟩
    cases d with
    | true =>
      rw [if_pos rfl]
      exact ⟨fun _ => next true rfl, fun g => absurd (show (1 : Int32) = 0 from g) (by decide)⟩
    | false =>
      rw [if_neg Bool.false_ne_true]
      refine ⟨fun g => absurd rfl g, fun _ => ⟨rr, rfl, hr.1, by rw [wI_L, hr.2]; exact vp_in_nI (by omega) (by decide), M.1, ?_⟩⟩
      rw [nI_clamp (by omega), show hI (wI h F) rr (A.length + 1) = nI z' from KS _ z' ez]
      refine p_shP M K0 N0 l3 hLs (hLs z' mz) ?_
      rw [if_pos mz]
      have em : nI (A.length + 1) - 1 = nI A.length := nI_pred _
      rw [em]
      refine ⟨hr.1, by rw [wI_L, hr.2]; exact vp_in_nI (by omega) (by decide), M.1, ?_⟩
      rw [nI_clamp (by omega), show hI (wI h F) rr A.length = nI y from KS _ y ey]
      refine p_shP M K0 N0 l3 hLs (hLs y my) ?_
      rw [if_pos my]
      refine ⟨fun g => ?_, fun g => ?_⟩
      · have g' := (nI_le_iff (by omega) (by omega)).mp g
        exact next false (by rw [decide_eq_false (show ¬ L.idxOf z' < L.idxOf y by omega)]; rfl)
      · exact next true (by rw [decide_eq_true (show L.idxOf z' < L.idxOf y from Classical.byContradiction (fun z => g ((nI_le_iff (by omega) (by omega)).mpr (by omega))))]; rfl)
theorem p_mtn (M : lMd h Q q) {F : Nat → Nat → Int32} {L : List Nat} (K0 : rwM F (q + 41) L) (N0 : F Q 52 = nI L.length) (l3 : L.length ≤ 300) (hLs : ∀ m ∈ L, m < 300) {rr : Nat} (hr : hT h rr = 15 ∧ hL h rr = 300) {S : List Nat} (KS : rwM F rr S) (hS : ∀ m ∈ S, m ∈ L) (lS : S.length ≤ 300) {R : Int32 → tpH → Prop} (kk : R (if trnB (fun x => L.idxOf x) S = true then 1 else 0) (wI h F)) : w_Md_isTurned Q (some rr) (nI S.length) (wI h F) R := by
  refine ⟨S.length + 1, ?_⟩
  cases S with
  | nil =>
    exact ⟨fun _ => ⟨Or.inl rfl, kk⟩, fun g => absurd (show nI 0 ≤ (1 : Int32) by decide) g⟩
  | cons y C => exact p_mtn5 M K0 N0 l3 hLs hr KS hS lS kk _ [] C y false rfl (by rw [List.length_cons]; omega) rfl
/-- their places among those shared are in the order of their places in the base -/
theorem trn_ix {t : mT} (hw : tWF 300 t) {p : Nat} (P : Nat → Bool) {x y : Nat} (hx : x ∈ (tKi t p).filter P) (hy : y ∈ (tKi t p).filter P) : ((tKi t p).filter P).idxOf y < ((tKi t p).filter P).idxOf x ↔ pl t y < pl t x := by
  have key : ∀ {x y : Nat}, x ∈ (tKi t p).filter P → y ∈ (tKi t p).filter P → ((tKi t p).filter P).idxOf y < ((tKi t p).filter P).idxOf x → pl t y < pl t x := fun {x y} hx hy g => by
    obtain ⟨A, B, e⟩ := List.append_of_mem (List.mem_filter.mp hy).1
    have hxk := (List.mem_filter.mp hx).1
    have nd := hw.1.2.2.1 p
    have ndF : ((tKi t p).filter P).Nodup := nd.filter _
    have eF : (tKi t p).filter P = A.filter P ++ y :: B.filter P := by
      rw [e, List.filter_append, List.filter_cons, if_pos (List.mem_filter.mp hy).2]
    have iy := idx_split ndF eF
    rw [e] at hxk
    rcases List.mem_append.mp hxk with h1 | h1
    · exfalso
      have hxA : x ∈ A.filter P := List.mem_filter.mpr ⟨h1, (List.mem_filter.mp hx).2⟩
      have : ((tKi t p).filter P).idxOf x < (A.filter P).length := by
        rw [eF, List.idxOf_append, if_pos hxA]
        exact List.idxOf_lt_length_iff.mpr hxA
      omega
    · rcases List.mem_cons.mp h1 with h2 | h2
      · rw [h2] at g; omega
      · exact pl_kid_ord hw e h2
  refine ⟨key hx hy, fun g => Classical.byContradiction (fun n => ?_)⟩
  by_cases c : ((tKi t p).filter P).idxOf x < ((tKi t p).filter P).idxOf y
  · have := key hy hx c
    omega
  · have e : ((tKi t p).filter P).idxOf x = ((tKi t p).filter P).idxOf y := by omega
    have ix : ((tKi t p).filter P).idxOf x < ((tKi t p).filter P).length := List.idxOf_lt_length_iff.mpr hx
    have iy : ((tKi t p).filter P).idxOf y < ((tKi t p).filter P).length := List.idxOf_lt_length_iff.mpr hy
    have h1 := List.getElem_idxOf ix
    have h2 := List.getElem_idxOf iy
    have : x = y := by
      rw [← h1, ← h2]
      congr 1
    rw [this] at g
    omega
theorem trn_cg {f g : Nat → Nat} : ∀ (S : List Nat), (∀ x ∈ S, ∀ y ∈ S, f y < f x ↔ g y < g x) → trnB f S = trnB g S
  | [], _ => rfl
  | [_], _ => rfl
  | x :: y :: S, k => by
    show (decide (f y < f x) || trnB f (y :: S)) = (decide (g y < g x) || trnB g (y :: S))
    rw [trn_cg (y :: S) (fun a ha c hc => k a (List.mem_cons_of_mem _ ha) c (List.mem_cons_of_mem _ hc))]
    congr 1
    exact decide_eq_decide.mpr (k x List.mem_cons_self y (List.mem_cons_of_mem _ List.mem_cons_self))
end RROWS
