section RMERGED
variable {h : tpH} {Q q mk s1 s2 s3 R0 : Nat} {kd idn po : Nat → Int32} {b l r : mT}
/-- the children hung so far -/
noncomputable def KI (po : Nat → Int32) (mk : Nat) (b l r : mT) (s : mgS) (lo : Nat → Bool) (i z : Nat) : List Nat := if z < i then KF po mk b l r s lo z else []
theorem KI_OK (HH : mgH mk R0 b l r) {s : mgS} (I : mgI mk R0 po b l r s) (lo : Nat → Bool) (i : Nat) : ∀ z, kOK s z (KI po mk b l r s lo i z) := fun z => by
  unfold KI
  by_cases c : z < i
  · rw [if_pos c]
    exact ⟨(KF_OK HH I lo z).1, fun m hm => ((KF_OK HH I lo z).2 m).mp hm⟩
  · rw [if_neg c]
    exact ⟨List.nodup_nil, fun m hm => by cases hm⟩
theorem KI_s {s : mgS} {lo : Nat → Bool} {i : Nat} : mU (KI po mk b l r s lo i) i (KF po mk b l r s lo i) = KI po mk b l r s lo (i + 1) := by
  funext z
  unfold KI
  by_cases c : z = i
  · rw [c, mU_s, if_pos (Nat.lt_succ_self i)]
  · rw [mU_n _ _ c]
    by_cases c2 : z < i
    · rw [if_pos c2, if_pos (by omega)]
    · rw [if_neg c2, if_neg (by omega)]
theorem KF_no (HH : mgH mk R0 b l r) {s : mgS} (I : mgI mk R0 po b l r s) (Eg : mgE mk s) (lo : Nat → Bool) {z : Nat} (hz : sIn s z = false) : KF po mk b l r s lo z = [] := by
  cases e : KF po mk b l r s lo z with
  | nil => rfl
  | cons x L =>
    have := ((KF_OK HH I lo z).2 x).mp (by rw [e]; exact List.mem_cons_self)
    rw [Eg.1 x z this] at hz
    cases hz
theorem KI_mk (HH : mgH mk R0 b l r) {s : mgS} (I : mgI mk R0 po b l r s) (Eg : mgE mk s) (lo : Nat → Bool) : KI po mk b l r s lo mk = KF po mk b l r s lo := by
  funext z
  unfold KI
  by_cases c : z < mk
  · rw [if_pos c]
  · rw [if_neg c]
    refine (KF_no HH I Eg lo ?_).symm
    cases e : sIn s z with
    | false => rfl
    | true => exact absurd (I.1 z e).1 c
theorem FK_full (HH : mgH mk R0 b l r) {s : mgS} (I : mgI mk R0 po b l r s) (lo : Nat → Bool) : tUp (FK R0 s (KF po mk b l r s lo)) = sUp s := by
  funext m
  show (match sUp s m with
    | some q => if m ∈ KF po mk b l r s lo q then some q else none
    | none => none) = sUp s m
  cases e : sUp s m with
  | none => rfl
  | some w =>
    show (if m ∈ KF po mk b l r s lo w then some w else none) = some w
    rw [if_pos (((KF_OK HH I lo w).2 m).mpr e)]
/-- the slot when all is hung -/
theorem Wk_full (HH : mgH mk R0 b l r) {s : mgS} (I : mgI mk R0 po b l r s) (Eg : mgE mk s) (lo : Nat → Bool) {F : Nat → Nat → Int32} (V : WkP F q R0 s (KI po mk b l r s lo mk)) (vals : ∀ m, m < mk → sIn s m = true → F (q + 4) (300 * 41 + m) = sWo s m) : MtP F q 41 (mgTr po mk R0 b l r s lo) := by
  rw [KI_mk HH I Eg lo] at V
  obtain ⟨V1, V2, V3, V4⟩ := V
  have eu := FK_full HH I lo
  refine ⟨fun x hx => ?_, V2, fun m m3 hm => ?_, V4⟩
  · have hx' : sIn s x = true := hx
    obtain ⟨n1, n2, n3⟩ := V1 x hx
    refine ⟨vals x (I.1 x hx').1 hx', fun w hw => n2 w ?_, n3⟩
    show tUp (FK R0 s (KF po mk b l r s lo)) x = some w
    rw [eu]
    exact hw
  · have hm' : sIn s m = false := hm
    refine V3 m m3 (fun e => ?_) ?_
    · rw [e, I.2.2.2.2.1.1] at hm'
      cases hm'
    · rw [eu]
      exact I.2.1 m hm'
def mgW (Q q : Nat) (F G : Nat → Nat → Int32) : Prop := ∀ c j, ¬ ((c = q + 41 ∨ c = q + 42 ∨ c = q + 43 ∨ c = q + 44) ∨ (c = Q ∧ (j = 52 ∨ j = 54)) ∨ (q + 3 ≤ c ∧ c ≤ q + 6 ∧ 12300 ≤ j ∧ j < 12600)) → G c j = F c j
theorem mw_r {F G : Nat → Nat → Int32} (f : mgW Q q F G) : rFr Q q F G := fun c j hc => f c j (fun g => hc (by unfold rfT; omega))
theorem mw_tr {F G K : Nat → Nat → Int32} (a : mgW Q q F G) (c : mgW Q q G K) : mgW Q q F K := fun x j e => (c x j e).trans (a x j e)
theorem p_m75 (X : RC h Q q mk s1 s2 s3 R0 b l r) {F0 : Nat → Nat → Int32} (H0 : RFm F0 Q q mk s1 s2 s3 kd idn po b l r) (hpo : po 5 = 0 ∨ po 5 = 1 ∨ po 5 = 2) {s : mgS} (I : mgI mk R0 po b l r s) (Eg : mgE mk s) (W : rsR F0 q mk s) {R : Int32 → tpH → Prop} (fin : ∀ G, mgW Q q F0 G → MtP G q 41 (mgTr po mk R0 b l r s (loK kd)) → (∀ m, m < mk → sIn s m = true → G (q + 44) m = if orB po b l r s (loK kd) m = true then 1 else 0) → w_Md_layOrder Q (nI 41) (some (q + 24)) (wI h G) (fun v4 h3 => ∃ n, w_Md_merged_157 R n Q v4 (0 : Int32) h3)) :
    ∀ (n i : Nat) (F : Nat → Nat → Int32), i ≤ mk → mk < n + i → mgW Q q F0 F → WkP F q R0 s (KI po mk b l r s (loK kd) i) → (∀ m, m < i → sIn s m = true → F (q + 4) (300 * 41 + m) = sWo s m) → (∀ m, m < i → sIn s m = true → F (q + 44) m = if orB po b l r s (loK kd) m = true then 1 else 0) → w_Md_merged_75 R n Q (nI s1) (nI s2) (nI s3) (nI i) (wI h F)
  | 0, i, F, h1, h2, f, V, va, co => by omega
  | n + 1, i, F, h1, h2, f, V, va, co => by
    obtain ⟨⟨M, hQ⟩, ⟨i1, i2, i3⟩, HH⟩ := id X
    have hk := HH.2.2.1
    obtain ⟨c1, c2, c3⟩ := md_f M (j := 37) (kd := 16) (n := 300) (f := 47) (by decide)
    obtain ⟨d1, d2, d3⟩ := md_f M (j := 38) (kd := 15) (n := 300) (f := 48) (by decide)
    obtain ⟨e1, e2, e3⟩ := md_f M (j := 4) (kd := 15) (n := 12600) (f := 7) (by decide)
    obtain ⟨g1, g2, g3⟩ := md_f M (j := 44) (kd := 16) (n := 300) (f := 56) (by decide)
    obtain ⟨o1, o2, o3⟩ := md_f M (j := 24) (kd := 15) (n := 300) (f := 32) (by decide)
    have H := RFm_fr X H0 (mw_r f)
    have e0 : hI (wI h F) Q 0 = nI mk := H.1.1
    refine ⟨M.1, ?_⟩
    rw [e0]
    by_cases hi : i < mk
    · have vi : vp_in (nI i) 300 := vp_in_nI (by omega) (by decide)
      obtain ⟨w1, w2⟩ := W i hi
      have ei : (12300 : Int32) + nI i = nI (300 * 41 + i) := by rw [show (12300 : Int32) = nI (300 * 41) from rfl, nI_add]
      refine ⟨fun g => absurd ((nI_le_iff (by omega) (by omega)).mp g) (by omega), fun _ => ⟨q + 38, d3, d1, by rw [wI_L, d2]; exact vi, q + 4, e3, e1, by rw [wI_L, e2, ei]; exact ix_v (by decide) (by omega), fun h13 e13 => ?_⟩⟩
      rw [ei, ix_c (by decide) (by omega), nI_clamp (by omega), sI_wI, wI_wI, wI_I] at e13
      subst e13
      have fF : ∀ c j, ¬ (c = q + 4 ∧ j = 300 * 41 + i) → tpu F (q + 4) (300 * 41 + i) (F (q + 38) i) c j = F c j := fun c j hc => tpu_o hc
      have s4 : tpu F (q + 4) (300 * 41 + i) (F (q + 38) i) (q + 4) (300 * 41 + i) = F (q + 38) i := tpu_s _ _ _ _
      generalize tpu F (q + 4) (300 * 41 + i) (F (q + 38) i) = F1 at fF s4
      have f1 : mgW Q q F F1 := fun c j hc => fF c j (by omega)
      have V1 : WkP F1 q R0 s (KI po mk b l r s (loK kd) i) := by
        obtain ⟨v1, v2, v3, v4⟩ := V
        have o : ∀ c, c ≠ q + 4 → F1 c = F c := fun c hc => funext fun j => fF c j (by omega)
        refine ⟨fun x hx => ?_, by rw [o _ (by omega), o _ (by omega)]; exact v2, by rw [o _ (by omega)]; exact v3, by rw [o _ (by omega)]; exact v4⟩
        obtain ⟨n1, n2, n3⟩ := v1 x hx
        unfold nodeM
        rw [o (q + 3) (by omega), o (q + 5) (by omega), o (q + 6) (by omega)]
        exact ⟨rfl, n2, n3⟩
      have va1 : ∀ m, m < i + 1 → sIn s m = true → F1 (q + 4) (300 * 41 + m) = sWo s m := fun m hm hs => by
        by_cases c : m = i
        · rw [c, s4, f _ _ (by omega)]
          rw [c] at hs
          exact (w2 hs).1
        · rw [fF _ _ (by omega)]
          exact va m (by omega) hs
      have h44 : hR (wI h F1) Q 56 = some (q + 44) := g3
      refine ⟨q + 37, c3, c1, by rw [wI_L, c2]; exact vi, ?_⟩
      rw [h44, nI_clamp (by omega), show hI (wI h F1) (q + 37) i = _ from ((fF _ _ (by omega)).trans (f _ _ (by omega))).trans w1]
      -- the deed after
      have nxt : ∀ (G : Nat → Nat → Int32) (t0 : Int32), tpB t0 → (sIn s i = true → t0 = if orB po b l r s (loK kd) i = true then 1 else 0) → mgW Q q F G → WkP G q R0 s (KI po mk b l r s (loK kd) (i + 1)) → (∀ m, m < 300 → G (q + 4) (300 * 41 + m) = F1 (q + 4) (300 * 41 + m)) → (∀ m, G (q + 44) m = F (q + 44) m) → w_Md_merged_135 R (w_Md_merged_75 R n) Q (nI s1) (nI s2) (nI s3) (nI i) t0 (nI i) (some (q + 44)) (wI h G) := fun G t0 ht0 et fG VG vG cG => by
        refine ⟨q + 44, rfl, g1, by rw [wI_L, g2]; exact vi, ht0, fun h6 e6 => ?_⟩
        rw [nI_clamp (by omega), sI_wI, wI_wI, wI_I] at e6
        subst e6
        rw [nI_1]
        refine p_m75 X H0 hpo I Eg W fin n (i + 1) _ (by omega) (by omega) (mw_tr f (mw_tr fG (fun c j hc => tpu_o (by omega)))) (WkP_k VG (fun c c1 c2 => tpu_fa _ _ _ _ _ (by omega))) (fun m hm hs => by rw [tpu_o (by omega), vG m (by omega)]; exact va1 m hm hs) (fun m hm hs => ?_)
        by_cases c : m = i
        · rw [c, tpu_s]
          rw [c] at hs
          exact et hs
        · rw [tpu_o (by omega), cG]
          exact co m (by omega) hs
      cases eI : sIn s i with
      | false =>
        rw [if_neg Bool.false_ne_true]
        refine ⟨fun _ => nxt F1 0 (Or.inl rfl) (fun z => by rw [eI] at z; cases z) f1 ?_ (fun _ _ => rfl) (fun m => fF _ _ (by omega)), fun g => absurd rfl g⟩
        have : KI po mk b l r s (loK kd) (i + 1) = KI po mk b l r s (loK kd) i := by
          rw [← KI_s]
          refine mU_id ?_
          rw [KF_no HH I Eg _ eI]
          unfold KI
          rw [if_neg (by omega)]
        rw [this]
        exact V1
      | true =>
        rw [if_pos rfl]
        refine ⟨fun g => absurd g (by decide), fun _ => ?_⟩
        have H1 := RFm_fr X H (mw_r f1)
        have W1 : rsR F1 q mk s := fun y hy => by
          rw [fF _ _ (by omega), fF _ _ (by omega), fF _ _ (by omega), f _ _ (by omega), f _ _ (by omega), f _ _ (by omega)]
          exact W y hy
        refine p_Mkids X H1 hpo I Eg W1 (KI_OK HH I (loK kd) i) hi (by unfold KI; rw [if_neg (by omega)]) V1 (fun G fG VG => ?_)
        rw [KI_s] at VG
        have fG' : mgW Q q F G := fun c j hc => by rw [fG c j (by omega), fF c j (by omega)]
        have k := fun t0 ht0 et => nxt G t0 ht0 et fG' VG (fun m hm => fG _ _ (by omega)) (fun m => by rw [fG _ _ (by omega), fF _ _ (by omega)])
        cases eo : orB po b l r s (loK kd) i with
        | true =>
          rw [if_pos rfl]
          exact ⟨fun g => absurd (show (1 : Int32) = 0 from g) (by decide), fun _ => k 1 (Or.inr rfl) (fun _ => by rw [eo]; rfl)⟩
        | false =>
          rw [if_neg Bool.false_ne_true]
          exact ⟨fun _ => k 0 (Or.inl rfl) (fun _ => by rw [eo]; rfl), fun g => absurd rfl g⟩
    · have ei : i = mk := by omega
      subst ei
      refine ⟨fun _ => ?_, fun g => absurd ((nI_le_iff (by omega) (by omega)).mpr (by omega)) g⟩
      rw [wI_R, o3]
      exact fin F f (Wk_full HH I Eg (loK kd) V va) co
theorem p_m157 (M : lMd h Q q) (hQ : Q < q) {T : mT} (hT' : tWF 300 T) {F0 : Nat → Nat → Int32} {P : Nat → Bool} (hM : MtP F0 q 41 T) (ol : ∀ (i x : Nat), (pO T)[i]? = some x → F0 (q + 24) i = nI x) (co : ∀ m, tIn T m = true → F0 (q + 44) m = if P m = true then 1 else 0) {cf : List (Nat × Nat)} (hc : cf.length + 300 < 92000) {R : Int32 → tpH → Prop} (fin : ∀ G, CfM G Q q (cf ++ ((pO T).filter P).map (fun x => (5, x))) → lcFr Q q F0 G → w_Md_sealed Q (nI 41) (wI h G) R) :
    ∀ (n i : Nat) (F : Nat → Nat → Int32), i ≤ (pO T).length → (pO T).length < n + i → CfM F Q q (cf ++ (((pO T).take i).filter P).map (fun x => (5, x))) → lcFr Q q F0 F → w_Md_merged_157 R n Q (nI (pO T).length) (nI i) (wI h F)
  | 0, i, F, h1, h2, C, f => by omega
  | n + 1, i, F, h1, h2, C, f => by
    obtain ⟨o1, o2, o3⟩ := md_f M (j := 24) (kd := 15) (n := 300) (f := 32) (by decide)
    obtain ⟨g1, g2, g3⟩ := md_f M (j := 44) (kd := 16) (n := 300) (f := 56) (by decide)
    have l5 := pO_le hT'
    by_cases hi : i < (pO T).length
    · obtain ⟨m, hm, pm⟩ := pl_of hT' hi
      have em : (pO T)[i]? = some m := by rw [← pm]; exact pO_at hT' hm
      have m3 := hT'.1.1 m hm
      have vi : vp_in (nI i) 300 := vp_in_nI (by omega) (by decide)
      have et : (pO T).take (i + 1) = (pO T).take i ++ [m] := by rw [List.take_add_one, em]; rfl
      have lf : (((pO T).take i).filter P).length ≤ 300 := by
        have h1' := List.length_filter_le P ((pO T).take i)
        rw [List.length_take] at h1'
        omega
      have eo : hI (wI h F) (q + 24) i = nI m := (f _ _ (by omega)).trans (ol i m em)
      have ec : hI (wI h F) (q + 44) m = if P m = true then 1 else 0 := (f _ _ (by omega)).trans (co m hm)
      refine ⟨fun g => absurd ((nI_le_iff (by omega) (by omega)).mp g) (by omega), fun _ => ⟨M.1, q + 24, o3, o1, by rw [wI_L, o2]; exact vi, ?_⟩⟩
      rw [nI_clamp (by omega), eo]
      refine ⟨q + 44, g3, g1, by rw [wI_L, g2]; exact vp_in_nI m3 (by decide), ?_⟩
      rw [nI_clamp (by omega), ec]
      cases eP : P m with
      | false =>
        rw [if_neg Bool.false_ne_true]
        refine ⟨fun _ => ?_, fun g => absurd rfl g⟩
        rw [nI_1]
        refine p_m157 M hQ hT' hM ol co hc fin n (i + 1) F (by omega) (by omega) ?_ f
        rw [et, List.filter_append, List.filter_cons, if_neg (by rw [eP]; exact Bool.false_ne_true)]
        rw [show ([] : List Nat).filter P = [] from rfl, List.append_nil]
        exact C
      | true =>
        rw [if_pos rfl]
        refine ⟨fun g => absurd g (by decide), fun _ => ⟨by rw [wI_L, o2]; exact vi, ?_⟩⟩
        show w_Md_list Q (nI 5) (nI m) (wI h F) _
        refine p_Mlist M hQ C (by rw [List.length_append, List.length_map]; omega) (fun G CG fG => ?_)
        rw [nI_1]
        refine p_m157 M hQ hT' hM ol co hc fin n (i + 1) G (by omega) (by omega) ?_ (fun c j hc' => (fG c j hc').trans (f c j hc'))
        rw [et, List.filter_append, List.filter_cons, if_pos eP, List.map_append, ← List.append_assoc]
        exact CG
    · have ei : i = (pO T).length := by omega
      subst ei
      rw [List.take_length] at C
      exact ⟨fun _ => ⟨M.1, fin F C f⟩, fun g => absurd (Int32.le_refl _) g⟩
/-- what merging may touch of the reference -/
def meF (Q q n : Nat) (F G : Nat → Nat → Int32) : Prop := ∀ c j, ¬ ((c = Q ∧ (j = 3 ∨ j = 24 ∨ j = 31 ∨ j = 52 ∨ j = 54)) ∨ (c = q + 2 ∧ (j = n ∨ j = 41)) ∨ (q + 3 ≤ c ∧ c ≤ q + 6 ∧ ((300 * n ≤ j ∧ j < 300 * n + 300) ∨ 12300 ≤ j)) ∨ c = q + 19 ∨ (q + 24 ≤ c ∧ c < q + 46)) → G c j = F c j
theorem p_Md_merged (X : RC h Q q mk s1 s2 s3 R0 b l r) {F : Nat → Nat → Int32} (H : RFm F Q q mk s1 s2 s3 kd idn po b l r) (hpo : ∀ k, po k = 0 ∨ po k = 1 ∨ po k = 2) {fr : List mT} (hF : FoM F Q q fr) (hwf : ∀ (i : Nat) (t : mT), fr[i]? = some t → tWF 300 t) (hlt : fr.length < 40) {R : Int32 → tpH → Prop} (kk : ∀ G, FoM G Q q (fr ++ [mgRes po mk R0 b l r (loK kd)]) → CfM G Q q (mgCfl po mk R0 b l r (loK kd)) → meF Q q fr.length F G → G Q 31 = F Q 31 → R (nI fr.length) (wI h G)) : w_Md_merged Q (nI s1) (nI s2) (nI s3) (wI h F) R := by
  obtain ⟨⟨M, hQ⟩, ⟨i1, i2, i3⟩, HH⟩ := id X
  have hk := HH.2.2.1
  obtain ⟨I, Eg, hl, hLb, hMb⟩ := mgF_I (po := po) HH
  have I0 := mg0_I (po := po) HH
  have hTw : tWF 300 (mgRes po mk R0 b l r (loK kd)) := mgTr_wf HH I Eg (loK kd)
  obtain ⟨r1, r2, r3⟩ := md_f M (j := 2) (kd := 15) (n := 42) (f := 5) (by decide)
  obtain ⟨u1, u2, u3⟩ := md_f M (j := 3) (kd := 15) (n := 12600) (f := 6) (by decide)
  obtain ⟨o1, o2, o3⟩ := md_f M (j := 24) (kd := 15) (n := 300) (f := 32) (by decide)
  refine ⟨M.1, fun h2 e2 => ?_⟩
  rw [sI_wI, wI_wI, wI_I] at e2
  subst e2
  have f0 : rFr Q q F (tpu F Q 24 0) := fun c j hc => by unfold rfT at hc; exact tpu_o (by omega)
  have H0 := RFm_fr X H f0
  have C0 : CfM (tpu F Q 24 0) Q q (cfI po b l r 0) := ⟨tpu_s _ _ _ _, fun i e hi => by simp [cfI] at hi⟩
  refine ⟨mk + 1, ?_⟩
  show w_Md_merged_8 R (mk + 1) Q (nI s1) (nI s2) (nI s3) (nI 0) (wI h (tpu F Q 24 0))
  refine p_mrg8 X (hpo 0) H0 (fun G1 H1 C1 f1 W1 => ?_) (mk + 1) 0 _ (Nat.zero_le _) (by omega) H0 C0 (fun _ _ _ => rfl) (fun m hm => absurd hm (Nat.not_lt_zero _))
  have e0 : hI (wI h G1) Q 0 = nI mk := H1.1.1
  refine ⟨M.1, ?_⟩
  rw [e0]
  refine ⟨fun _ => ⟨602, ?_⟩, fun g => absurd (Int32.le_refl _) g⟩
  show w_Md_mend_2 _ (601 + 1) Q (nI s1) 1 (wI h G1)
  refine p_Mmend (s0 := mg0 po b l r mk) (F0 := G1) X (fun G2 H2 C2 f2 W2 => ⟨M.1, ?_⟩) 601 (mg0 po b l r mk) G1 hMb rfl I0 hLb H1 C1 (fun _ _ _ => rfl) W1
  have W2 : rsR G2 q mk (mgF po mk b l r) := W2
  have C2 : CfM G2 Q q (sCf (mgF po mk b l r)) := C2
  show w_Md_clear Q (nI 41) (wI h G2) _
  refine p_Md_clear M (by decide) ⟨M.1, q + 2, r3, r1, by rw [wI_L, r2]; exact vp_in_nI (by omega) (by decide), by rw [wI_L, r2]; exact vp_in_nI (n := 41) (by decide) (by decide), fun h12 e12 => ?_⟩
  have cl : ∀ c j, ¬ ((c = q + 3 ∨ c = q + 5 ∨ c = q + 6) ∧ 12300 ≤ j ∧ j < 12600) → uClr G2 q 41 300 c j = G2 c j := fun c j hc => by
    simp only [uClr]
    by_cases z : 300 * 41 ≤ j ∧ j < 300 * 41 + 300
    · rw [if_pos z, if_neg (by omega), if_neg (by omega), if_neg (by omega)]
    · rw [if_neg z]
  have c3 : ∀ x, x < 300 → uClr G2 q 41 300 (q + 3) (300 * 41 + x) = -2 := fun x hx => by
    simp only [uClr]
    rw [if_pos (by omega), if_pos trivial]
  have c5 : ∀ x, x < 300 → uClr G2 q 41 300 (q + 5) (300 * 41 + x) = -1 := fun x hx => by
    simp only [uClr]
    rw [if_pos (by omega), if_neg (by omega), if_pos trivial]
  have c6 : ∀ x, x < 300 → uClr G2 q 41 300 (q + 6) (300 * 41 + x) = -1 := fun x hx => by
    simp only [uClr]
    rw [if_pos (by omega), if_neg (by omega), if_neg (by omega), if_pos trivial]
  generalize uClr G2 q 41 300 = G3 at cl c3 c5 c6 e12
  have rt : G3 (q + 2) s1 = nI R0 := by
    rw [cl _ _ (by omega), H2.2.2.1.2.2.2, HH.2.1.1]
  have R3 : R0 < mk := (I.1 R0 I.2.2.2.2.1.1).1
  have e41 : (41 : Int32).toNatClampNeg = 41 := by decide
  rw [nI_clamp (by omega), show hI (wI h G3) (q + 2) s1 = nI R0 from rt, e41, sI_wI, wI_wI, wI_I] at e12
  subst e12
  refine ⟨q + 2, r3, r1, by rw [wI_L, r2]; exact vp_in_nI (by omega) (by decide), ?_⟩
  have rt2 : hI (wI h (tpu G3 (q + 2) 41 (nI R0))) (q + 2) (nI s1).toNatClampNeg = nI R0 := by
    rw [nI_clamp (by omega), wI_I, tpu_o (by omega)]
    exact rt
  rw [rt2]
  have ei : (12300 : Int32) + nI R0 = nI (300 * 41 + R0) := by rw [show (12300 : Int32) = nI (300 * 41) from rfl, nI_add]
  refine ⟨q + 3, u3, u1, by rw [wI_L, u2, ei]; exact ix_v (by decide) (by omega), fun h22 e22 => ?_⟩
  rw [ei, ix_c (by decide) (by omega), sI_wI, wI_wI, wI_I] at e22
  subst e22
  have fF : ∀ c j, ¬ ((c = q + 2 ∧ j = 41) ∨ ((c = q + 3 ∨ c = q + 5 ∨ c = q + 6) ∧ 12300 ≤ j ∧ j < 12600)) → tpu (tpu G3 (q + 2) 41 (nI R0)) (q + 3) (300 * 41 + R0) (-1) c j = G2 c j := fun c j hc => by
    rw [tpu_o (by omega), tpu_o (by omega), cl c j (by omega)]
  have V0 : WkP (tpu (tpu G3 (q + 2) 41 (nI R0)) (q + 3) (300 * 41 + R0) (-1)) q R0 (mgF po mk b l r) (KI po mk b l r (mgF po mk b l r) (loK kd) 0) := by
    have k0 : ∀ z, KI po mk b l r (mgF po mk b l r) (loK kd) 0 z = [] := fun z => by unfold KI; rw [if_neg (Nat.not_lt_zero _)]
    refine ⟨fun x hx => ⟨rfl, fun w hw => ?_, ?_⟩, ⟨tpu_s _ _ _ _, by rw [tpu_o (by omega), tpu_o (by omega)]; exact c6 R0 (by omega)⟩, fun x x3 xR _ => by rw [tpu_o (by omega), tpu_o (by omega)]; exact c3 x x3, by rw [tpu_o (by omega), tpu_s]⟩
    · have := (FK_up (R0 := R0) (KI_OK HH I (loK kd) 0)).mp hw
      rw [k0] at this
      cases this
    · have hx' : sIn (mgF po mk b l r) x = true := hx
      have x3 := (I.1 x hx').1
      show seg _ _ (KI po mk b l r (mgF po mk b l r) (loK kd) 0 x) (-1)
      rw [k0]
      show tpu (tpu G3 (q + 2) 41 (nI R0)) (q + 3) (300 * 41 + R0) (-1) (q + 5) (300 * 41 + x) = -1
      rw [tpu_o (by omega), tpu_o (by omega)]
      exact c5 x (by omega)
  generalize tpu (tpu G3 (q + 2) 41 (nI R0)) (q + 3) (300 * 41 + R0) (-1) = G4 at fF V0
  have f4 : rFr Q q G2 G4 := fun c j hc => by unfold rfT at hc; exact fF c j (by omega)
  have H4 := RFm_fr X H2 f4
  have C4 : CfM G4 Q q (sCf (mgF po mk b l r)) := CfM_fr C2 (fF _ _ (by omega)) (funext fun j => fF _ _ (by omega))
  have W4 : rsR G4 q mk (mgF po mk b l r) := fun y hy => by rw [fF _ _ (by omega), fF _ _ (by omega), fF _ _ (by omega)]; exact W2 y hy
  refine ⟨mk + 1, ?_⟩
  show w_Md_merged_75 R (mk + 1) Q (nI s1) (nI s2) (nI s3) (nI 0) (wI h G4)
  refine p_m75 X H4 (hpo 5) I Eg W4 (fun G5 f5 M5 co5 => ?_) (mk + 1) 0 G4 (Nat.zero_le _) (by omega) (fun _ _ _ => rfl) V0 (fun m hm => absurd hm (Nat.not_lt_zero _)) (fun m hm => absurd hm (Nat.not_lt_zero _))
  have M5 : MtP G5 q 41 (mgRes po mk R0 b l r (loK kd)) := M5
  refine p_Md_layOrder M (by decide) M5 hTw (Or.inr (by omega)) o1 o2 ⟨(pO (mgRes po mk R0 b l r (loK kd))).length + 1, ?_⟩
  have fl : ∀ c, c ≠ q + 24 → lay G5 (q + 24) (pO (mgRes po mk R0 b l r (loK kd))) c = G5 c := fun c hc => lay_ne G5 _ hc
  have la : ∀ (i x : Nat), (pO (mgRes po mk R0 b l r (loK kd)))[i]? = some x → lay G5 (q + 24) (pO (mgRes po mk R0 b l r (loK kd))) (q + 24) i = nI x := fun i x hi => lay_at G5 _ hi
  generalize lay G5 (q + 24) (pO (mgRes po mk R0 b l r (loK kd))) = G6 at fl la
  have M6 : MtP G6 q 41 (mgRes po mk R0 b l r (loK kd)) := MtP_fr M5 (fun c c1 c2 => fl c (by omega))
  have C6 : CfM G6 Q q (sCf (mgF po mk b l r)) := CfM_fr C4 (by rw [fl _ (by omega), f5 _ _ (by omega)]) (by rw [fl _ (by omega)]; exact funext fun j => f5 _ _ (by omega))
  have b6 : rFr Q q F G6 := rFr_tr f0 (rFr_tr f1 (rFr_tr f2 (rFr_tr f4 (rFr_tr (mw_r f5) (fun c j hc => by unfold rfT at hc; rw [fl c (by omega)])))))
  show w_Md_merged_157 R _ Q _ (nI 0) (wI h G6)
  refine p_m157 (F0 := G6) (P := orB po b l r (mgF po mk b l r) (loK kd)) (cf := sCf (mgF po mk b l r)) M hQ hTw M6 la (fun m hm => ?_) (by omega) (fun G7 C7 f7 => ?_) _ 0 G6 (Nat.zero_le _) (by omega) (by rw [List.take_zero]; rw [show (([] : List Nat).filter (orB po b l r (mgF po mk b l r) (loK kd))).map (fun x => (5, x)) = ([] : List (Nat × Nat)) from rfl, List.append_nil]; exact C6) (fun _ _ _ => rfl)
  · rw [fl _ (by omega)]
    have hm' : sIn (mgF po mk b l r) m = true := hm
    exact co5 m (I.1 m hm').1 hm'
  have b7 : rFr Q q F G7 := rFr_tr b6 (li_r f7)
  have M7 : MtP G7 q 41 (mgRes po mk R0 b l r (loK kd)) := MtP_fr M6 (fun c c1 c2 => funext fun j => f7 _ _ (by omega))
  have F7 : FoM G7 Q q fr := FoM_fr hF hwf (b7 _ _ (by unfold rfT; omega)) (fun j hj => b7 _ _ (by unfold rfT; omega)) (fun c c1 c2 j hj => b7 _ _ (by unfold rfT; omega))
  refine p_Md_sealed M hQ (Or.inr rfl) F7 hwf M7 hTw hlt (fun G8 F8 f8 => kk G8 F8 ?_ (fun c j hc => ?_) (by rw [f8 _ _ (by omega), b7 _ _ (by unfold rfT; omega)]))
  · exact CfM_fr C7 (f8 _ _ (by omega)) (funext fun j => f8 _ _ (by omega))
  · rw [f8 c j (by omega), b7 c j (by unfold rfT; omega)]
end RMERGED
