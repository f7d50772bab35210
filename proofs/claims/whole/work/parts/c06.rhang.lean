section RHANG
variable {h : tpH} {Q q mk s1 s2 s3 R0 : Nat} {kd idn po : Nat → Int32} {b l r : mT}
theorem sdL_b {b : mT} (hb : fWF 300 b) (s : mgS) (p : Nat) : (tKi b p).filter (fun m => decide (m ∈ shL b s p)) = shL b s p := by
  unfold shL
  refine List.filter_congr (fun x hx => decide_eq_decide.mpr ?_)
  rw [List.mem_filter]
  exact ⟨fun g => of_decide_eq_true g.2, fun g => ⟨hx, decide_eq_true g⟩⟩
theorem shL_len {b : mT} (hb : fWF 300 b) (s : mgS) (p : Nat) : (shL b s p).length ≤ 300 := by
  have h1 := ki_len hb p
  have h2 := tCn_le b
  have h3 := List.length_filter_le (fun m => decide (sUp s m = some p)) (tKi b p)
  show ((tKi b p).filter (fun m => decide (sUp s m = some p))).length ≤ 300
  omega
theorem sdL_len {t b : mT} (ht : fWF 300 t) (s : mgS) (p : Nat) : (sdL t b s p).length ≤ 300 := by
  have h1 := ki_len ht p
  have h2 := tCn_le t
  have h3 := List.length_filter_le (fun m => decide (m ∈ shL b s p)) (tKi t p)
  show ((tKi t p).filter (fun m => decide (m ∈ shL b s p))).length ≤ 300
  omega
def chF (Q q : Nat) (F G : Nat → Nat → Int32) : Prop := ∀ c j, ¬ (c = q + 42 ∨ c = q + 43 ∨ (c = Q ∧ j = 54)) → G c j = F c j
theorem chF_tr {F G K : Nat → Nat → Int32} (a : chF Q q F G) (c : chF Q q G K) : chF Q q F K := fun x j e => (c x j e).trans (a x j e)
theorem p_ch182 (X : RC h Q q mk s1 s2 s3 R0 b l r) {F : Nat → Nat → Int32} (H : RFm F Q q mk s1 s2 s3 kd idn po b l r) {L : List Nat} (K0 : rwM F (q + 41) L) (N0 : F Q 52 = nI L.length) (l3 : L.length ≤ 300) (hLs : ∀ m ∈ L, m < 300) {s' : Nat} {t : mT} (hs : s' < 42) (T : MtP F q s' t) (hw : tWF 300 t) (ht : ∀ m, tIn t m = true → m < mk) {p : Nat} (p3 : p < mk) {c : Int32} (hc : tpB c) {R : Int32 → tpH → Prop} (kk : ∀ G, chF Q q F G → rwM G (q + 42) ((tKi t p).filter (fun m => decide (m ∈ L))) → G Q 54 = nI ((tKi t p).filter (fun m => decide (m ∈ L))).length → R c (wI h G)) : w_Md_layChosen_182 R Q (nI p) c (nI s') (wI h F) := by
  obtain ⟨⟨M, hQ⟩, _, HH⟩ := id X
  obtain ⟨d1, d2, d3⟩ := md_f M (j := 42) (kd := 15) (n := 300) (f := 53) (by decide)
  refine ⟨M.1, ?_⟩
  rw [wI_R, d3]
  refine p_lsd X H.1 K0 N0 l3 hLs hs T ⟨Or.inl rfl, d1, d2⟩ hw ht p3 (fun G f K => ⟨M.1, fun h5 e5 => ⟨hc, ?_⟩⟩)
  rw [sI_wI, wI_wI, wI_I] at e5
  subst e5
  exact kk _ (fun c j g => by rw [tpu_o (by omega), f c (by omega)]) (fun i x hi => by rw [tpu_o (by omega)]; exact K i x hi) (tpu_s _ _ _ _)
theorem p_same73 (M : lMd h Q q) {F : Nat → Nat → Int32} {S O : List Nat} (KS : rwM F (q + 42) S) (KO : rwM F (q + 43) O) (N : F Q 54 = nI S.length) (lS : S.length ≤ 300) (hS : ∀ m ∈ S, m < 300) (hO : ∀ m ∈ O, m < 300) {x1 x2 x3 x4 x6 x7 : Int32} {R : Int32 → tpH → Prop} (kk : ∀ d : Bool, (d = true ↔ S = O) → w_Md_layChosen_117 R Q x1 x2 x3 x4 x6 x7 (if d = true then 1 else 0) (wI h F)) : ∀ (n : Nat) (A C E : List Nat), S = A ++ C → O = A ++ E → C.length = E.length → C.length < n → w_Md_layChosen_73 R n Q x1 x2 x3 x4 x6 x7 1 (nI A.length) (wI h F)
  | 0, A, C, E, e1, e2, h1, h2 => by omega
  | n + 1, A, [], E, e1, e2, h1, h2 => by
    have eE : E = [] := by
      cases E with
      | nil => rfl
      | cons _ _ => cases h1
    subst eE
    have eN : hI (wI h F) Q 54 = nI S.length := N
    refine ⟨M.1, ?_⟩
    rw [eN]
    rw [List.append_nil] at e1 e2
    rw [← e1]
    exact ⟨fun _ => kk true ⟨fun _ => e1.trans e2.symm, fun _ => rfl⟩, fun g => absurd (Int32.le_refl _) g⟩
  | n + 1, A, y :: C, E, e1, e2, h1, h2 => by
    obtain ⟨d1, d2, d3⟩ := md_f M (j := 42) (kd := 15) (n := 300) (f := 53) (by decide)
    obtain ⟨c1, c2, c3⟩ := md_f M (j := 43) (kd := 15) (n := 300) (f := 55) (by decide)
    cases E with
    | nil => cases h1
    | cons z E =>
      have h1' : C.length = E.length := by simpa using h1
      have h2' : C.length < n := by simpa using h2
      have hlen : S.length = A.length + (C.length + 1) := by rw [e1, List.length_append, List.length_cons]
      have eN : hI (wI h F) Q 54 = nI S.length := N
      have ey : S[A.length]? = some y := by rw [e1, List.getElem?_append_right (Nat.le_refl _), Nat.sub_self]; rfl
      have ez : O[A.length]? = some z := by rw [e2, List.getElem?_append_right (Nat.le_refl _), Nat.sub_self]; rfl
      have y3 := hS y (List.mem_of_getElem? ey)
      have z3 := hO z (List.mem_of_getElem? ez)
      have vi : vp_in (nI A.length) 300 := vp_in_nI (by omega) (by decide)
      refine ⟨M.1, ?_⟩
      rw [eN]
      refine ⟨fun g => absurd ((nI_le_iff (by omega) (by omega)).mp g) (by omega), fun _ => ⟨fun g => absurd g (by decide), fun _ => ⟨q + 42, d3, d1, by rw [wI_L, d2]; exact vi, q + 43, c3, c1, by rw [wI_L, c2]; exact vi, ?_⟩⟩⟩
      rw [nI_clamp (by omega), show hI (wI h F) (q + 42) A.length = nI y from KS _ y ey, show hI (wI h F) (q + 43) A.length = nI z from KO _ z ez]
      refine ⟨fun g => ?_, fun g => ?_⟩
      · have ne : S ≠ O := fun e => g (by rw [e] at ey; rw [Option.some.inj (ey.symm.trans ez)])
        have k0 := kk false ⟨fun q => (by cases q), fun q => absurd q ne⟩
        obtain ⟨n', rfl⟩ : ∃ n', n = n' + 1 := ⟨n - 1, by omega⟩
        exact ⟨M.1, fun _ => k0, fun _ => ⟨fun _ => k0, fun q => absurd rfl q⟩⟩
      · have eyz : y = z := nI_inj (by omega) (by omega) g
        subst eyz
        have := p_same73 M KS KO N lS hS hO kk n (A ++ [y]) C E (by rw [e1, List.append_assoc]; rfl) (by rw [e2, List.append_assoc]; rfl) h1' h2'
        rw [List.length_append] at this
        rw [nI_1]
        exact this
theorem p_lch (X : RC h Q q mk s1 s2 s3 R0 b l r) {F : Nat → Nat → Int32} (H : RFm F Q q mk s1 s2 s3 kd idn po b l r) (hpo : po 5 = 0 ∨ po 5 = 1 ∨ po 5 = 2) {s : mgS} {p : Nat} (p3 : p < mk) (K0 : rwM F (q + 41) (shL b s p)) (N0 : F Q 52 = nI (shL b s p).length) {R : Int32 → tpH → Prop} (kk : ∀ G, chF Q q F G → rwM G (q + 42) (ldP po b l r s p).1 → G Q 54 = nI (ldP po b l r s p).1.length → R (if (ldP po b l r s p).2 = true then 1 else 0) (wI h G)) : w_Md_layChosen Q (nI s1) (nI s2) (nI s3) (nI p) (wI h F) R := by
  obtain ⟨⟨M, hQ⟩, ⟨i1, i2, i3⟩, HH⟩ := id X
  obtain ⟨⟨w1, w2, w3⟩, _, hk, b1, b2, b3⟩ := id HH
  obtain ⟨d1, d2, d3⟩ := md_f M (j := 42) (kd := 15) (n := 300) (f := 53) (by decide)
  obtain ⟨c1, c2, c3⟩ := md_f M (j := 43) (kd := 15) (n := 300) (f := 55) (by decide)
  obtain ⟨a1, a2, a3⟩ := md_f M (j := 18) (kd := 15) (n := 6) (f := 23) (by decide)
  have l3 := shL_len w1.1 s p
  have hLs : ∀ m ∈ shL b s p, m < 300 := fun m hm => w1.1.1 m ((shL_iff w1.1).mp hm).1.1
  have sub : ∀ {t : mT}, ∀ m ∈ sdL t b s p, m ∈ shL b s p := fun {t} m hm => of_decide_eq_true (List.mem_filter.mp hm).2
  have tn : ∀ {t : mT}, trnB (fun x => (shL b s p).idxOf x) (sdL t b s p) = trnB (pl b) (sdL t b s p) := fun {t} => trn_cg _ (fun x hx y hy => trn_ix w1 _ (sub x hx) (sub y hy))
  have fr : ∀ {G : Nat → Nat → Int32}, chF Q q F G → rFr Q q F G := fun f c j hc => f c j (fun g => hc (by unfold rfT; omega))
  refine ⟨M.1, ?_⟩
  rw [wI_R, d3]
  refine p_lsd X H.1 K0 N0 l3 hLs (by omega) H.2.2.2.1 ⟨Or.inl rfl, d1, d2⟩ w2 b2 p3 (fun G1 f1 S1 => ⟨M.1, fun h5 e5 => ?_⟩)
  have S1 : rwM G1 (q + 42) (sdL l b s p) := S1
  rw [show ((tKi l p).filter (fun m => decide (m ∈ shL b s p))) = sdL l b s p from rfl, sI_wI, wI_wI, wI_I] at e5
  subst e5
  have f2 : chF Q q F (tpu G1 Q 54 (nI (sdL l b s p).length)) := fun c j g => by rw [tpu_o (by omega), f1 c (by omega)]
  have S2 : rwM (tpu G1 Q 54 (nI (sdL l b s p).length)) (q + 42) (sdL l b s p) := fun i x hi => by rw [tpu_o (by omega)]; exact S1 i x hi
  have N2 : tpu G1 Q 54 (nI (sdL l b s p).length) Q 54 = nI (sdL l b s p).length := tpu_s _ _ _ _
  generalize tpu G1 Q 54 (nI (sdL l b s p).length) = G2 at f2 S2 N2
  have H2 := RFm_fr X H (fr f2)
  have K2 : rwM G2 (q + 41) (shL b s p) := fun i x hi => by rw [f2 _ _ (by omega)]; exact K0 i x hi
  have M2 : G2 Q 52 = nI (shL b s p).length := by rw [f2 _ _ (by omega)]; exact N0
  rw [wI_R, c3]
  refine p_lsd X H2.1 K2 M2 l3 hLs (by omega) H2.2.2.2.2 ⟨Or.inr rfl, c1, c2⟩ w3 b3 p3 (fun G3 f3 O3 => ?_)
  have O3 : rwM G3 (q + 43) (sdL r b s p) := O3
  rw [show ((tKi r p).filter (fun m => decide (m ∈ shL b s p))) = sdL r b s p from rfl]
  have f3' : chF Q q F G3 := fun c j g => by rw [f3 c (by omega), f2 c j g]
  have S3 : rwM G3 (q + 42) (sdL l b s p) := fun i x hi => by rw [f3 _ (by omega)]; exact S2 i x hi
  have K3 : rwM G3 (q + 41) (shL b s p) := fun i x hi => by rw [f3 _ (by omega)]; exact K2 i x hi
  have M3 : G3 Q 52 = nI (shL b s p).length := by rw [f3 _ (by omega)]; exact M2
  have N3 : G3 Q 54 = nI (sdL l b s p).length := by rw [f3 _ (by omega)]; exact N2
  have H3 := RFm_fr X H (fr f3')
  have lSl := sdL_len (b := b) w2.1 s p
  have lSr := sdL_len (b := b) w3.1 s p
  have e54 : hI (wI h G3) Q 54 = nI (sdL l b s p).length := N3
  refine ⟨M.1, ?_⟩
  rw [wI_R, d3, e54]
  refine p_mtn M K3 M3 l3 hLs ⟨d1, d2⟩ S3 sub lSl ⟨M.1, ?_⟩
  rw [wI_R, c3]
  refine p_mtn M K3 M3 l3 hLs ⟨c1, c2⟩ O3 sub lSr ⟨M.1, ?_⟩
  rw [e54, tn, tn]
  have v5 : vp_in (5 : Int32) (hL (wI h G3) (q + 18)) := by rw [wI_L, a2]; exact vp_in_nI (n := 5) (by decide) (by decide)
  have e5 : hI (wI h G3) (q + 18) (5 : Int32).toNatClampNeg = po 5 := H3.2.1 5 (by decide)
  have fl : (ldP po b l r s p).1 = sdL l b s p → ∀ c : Int32, tpB c → (if (ldP po b l r s p).2 = true then 1 else 0) = c → w_Md_layChosen_182 R Q (nI p) c (nI s2) (wI h G3) := fun e c hc e2 => by
    refine p_ch182 X H3 K3 M3 l3 hLs (by omega) H3.2.2.2.1 w2 b2 p3 hc (fun G f K N => ?_)
    rw [e, e2] at kk
    exact kk G (chF_tr f3' f) K N
  have frr : (ldP po b l r s p).1 = sdL r b s p → ∀ c : Int32, tpB c → (if (ldP po b l r s p).2 = true then 1 else 0) = c → w_Md_layChosen_182 R Q (nI p) c (nI s3) (wI h G3) := fun e c hc e2 => by
    refine p_ch182 X H3 K3 M3 l3 hLs (by omega) H3.2.2.2.2 w3 b3 p3 hc (fun G f K N => ?_)
    rw [e, e2] at kk
    exact kk G (chF_tr f3' f) K N
  have fb : (ldP po b l r s p).1 = shL b s p → ∀ c : Int32, tpB c → (if (ldP po b l r s p).2 = true then 1 else 0) = c → w_Md_layChosen_182 R Q (nI p) c (nI s1) (wI h G3) := fun e c hc e2 => by
    refine p_ch182 X H3 K3 M3 l3 hLs (by omega) H3.2.2.1 w1 b1 p3 hc (fun G f K N => ?_)
    rw [sdL_b w1.1] at K N
    rw [e, e2] at kk
    exact kk G (chF_tr f3' f) K N
  have c117 : ∀ d : Bool, (d = true ↔ sdL l b s p = sdL r b s p) → w_Md_layChosen_117 R Q (nI s1) (nI s2) (nI s3) (nI p) (if trnB (pl b) (sdL l b s p) = true then 1 else 0) (if trnB (pl b) (sdL r b s p) = true then 1 else 0) (if d = true then 1 else 0) (wI h G3) := fun d hd => by
    cases eL : trnB (pl b) (sdL l b s p) with
    | false =>
      rw [if_neg Bool.false_ne_true]
      have e : ldP po b l r s p = (sdL r b s p, false) := by unfold ldP; rw [if_pos eL]
      refine ⟨fun _ => ⟨fun _ => frr (by rw [e]) 0 (Or.inl rfl) (by rw [e]; rfl), fun g => absurd rfl g⟩, fun g => absurd rfl g⟩
    | true =>
      rw [if_pos rfl]
      have calm : (trnB (pl b) (sdL r b s p) = false ∨ sdL l b s p = sdL r b s p) → w_Md_layChosen_137 R Q (nI s1) (nI s2) (nI s3) (nI p) 1 0 (wI h G3) := fun g => by
        have e : ldP po b l r s p = (sdL l b s p, false) := by unfold ldP; rw [if_neg (by rw [eL]; decide), if_pos g]
        refine ⟨fun g => absurd g (by decide), fun _ => ⟨fun _ => ⟨fun _ => fl (by rw [e]) 0 (Or.inl rfl) (by rw [e]; rfl), fun g => absurd rfl g⟩, fun g => absurd rfl g⟩⟩
      cases eR : trnB (pl b) (sdL r b s p) with
      | false =>
        rw [if_neg Bool.false_ne_true]
        exact ⟨fun g => absurd (show (1 : Int32) = 0 from g) (by decide), fun _ => ⟨fun _ => calm (Or.inl eR), fun g => absurd rfl g⟩⟩
      | true =>
        rw [if_pos rfl]
        cases d with
        | true =>
          rw [if_pos rfl]
          exact ⟨fun g => absurd (show (1 : Int32) = 0 from g) (by decide), fun _ => ⟨fun g => absurd (show (1 : Int32) = 0 from g) (by decide), fun _ => ⟨fun _ => calm (Or.inr (hd.mp rfl)), fun g => absurd (show (1 : Int32) = 0 from g) (by decide)⟩⟩⟩
        | false =>
          rw [if_neg Bool.false_ne_true]
          have ne : ¬ (trnB (pl b) (sdL r b s p) = false ∨ sdL l b s p = sdL r b s p) := fun g => by
            rcases g with g | g
            · rw [eR] at g; cases g
            · have := hd.mpr g; cases this
          have e : ldP po b l r s p = (if po 5 = 1 then sdL l b s p else if po 5 = 2 then sdL r b s p else shL b s p, true) := by unfold ldP; rw [if_neg (by rw [eL]; decide), if_neg ne]
          refine ⟨fun g => absurd (show (1 : Int32) = 0 from g) (by decide), fun _ => ⟨fun g => absurd (show (1 : Int32) = 0 from g) (by decide), fun _ => ⟨fun g => absurd rfl g, fun _ => ?_⟩⟩⟩
          refine ⟨fun g => absurd g (by decide), fun _ => ⟨fun g => absurd g (by decide), fun _ => ⟨M.1, q + 18, a3, a1, v5, ?_⟩⟩⟩
          rw [e5]
          have e1 : (if (ldP po b l r s p).2 = true then (1 : Int32) else 0) = 1 := by rw [e]; rfl
          refine ⟨fun n2 => ⟨fun g => absurd g (by decide), fun _ => ⟨M.1, q + 18, a3, a1, v5, ?_⟩⟩, fun g2 => frr (by rw [e, g2]; rfl) 1 (Or.inr rfl) e1⟩
          rw [e5]
          refine ⟨fun n0 => fl ?_ 1 (Or.inr rfl) e1, fun g0 => fb ?_ 1 (Or.inr rfl) e1⟩
          · have g1 : po 5 = 1 := by
              rcases hpo with g | g | g
              · exact absurd g n0
              · exact g
              · exact absurd g n2
            rw [e, g1]
            rfl
          · rw [e, g0]
            rfl
  refine ⟨fun g => ⟨1, ?_⟩, fun g => ⟨(sdL l b s p).length + 1, ?_⟩⟩
  · have ne : sdL l b s p ≠ sdL r b s p := fun z => g (by rw [z])
    have k0 := c117 false ⟨fun z => (by cases z), fun z => absurd z ne⟩
    exact ⟨M.1, fun _ => k0, fun _ => ⟨fun _ => k0, fun z => absurd rfl z⟩⟩
  · have el : (sdL l b s p).length = (sdL r b s p).length := nI_inj (by omega) (by omega) g
    exact p_same73 M S3 O3 N3 lSl (fun m hm => hLs m (sub m hm)) (fun m hm => hLs m (sub m hm)) c117 _ [] _ _ rfl rfl el (Nat.lt_succ_self _)
/-! the reference hangs the children -/
theorem p_w159 (X : RC h Q q mk s1 s2 s3 R0 b l r) {F0 : Nat → Nat → Int32} (H0 : RFm F0 Q q mk s1 s2 s3 kd idn po b l r) {s : mgS} (I : mgI mk R0 po b l r s) (Eg : mgE mk s) (W : rsR F0 q mk s) {K : Nat → List Nat} (hK : ∀ z, kOK s z (K z)) {p : Nat} (p3 : p < mk) {L0 : List Nat} (hL0 : kOK s p L0) (hsh : loK kd p = false → ∀ m ∈ shL b s p, m ∈ L0) {t0 : Int32} (ht0 : tpB t0) {R : Int32 → tpH → Prop} (fin : ∀ F, hgFr q F0 F → WkP F q R0 s (mU K p ((List.range mk).foldl (otS (loK kd p) l r s p) L0)) → R t0 (wI h F)) :
    ∀ (n i : Nat) (F : Nat → Nat → Int32), i ≤ mk → mk < n + i → hgFr q F0 F → WkP F q R0 s (mU K p ((List.range i).foldl (otS (loK kd p) l r s p) L0)) → w_Md_hangChildren_159 R n Q (nI s2) (nI s3) (nI p) t0 (nI i) (wI h F)
  | 0, i, F, h1', h2, f, V => by omega
  | n + 1, i, F, h1', h2, f, V => by
    obtain ⟨⟨M, hQ⟩, ⟨i1, i2, i3⟩, HH⟩ := id X
    have hk := HH.2.2.1
    obtain ⟨c1, c2, c3⟩ := md_f M (j := 37) (kd := 16) (n := 300) (f := 47) (by decide)
    obtain ⟨e1, e2, e3⟩ := md_f M (j := 39) (kd := 15) (n := 300) (f := 49) (by decide)
    have H := RFm_fr X H0 (hg_r f)
    have e0 : hI (wI h F) Q 0 = nI mk := H.1.1
    have hlo : F q p < 4 ↔ loK kd p = false := by rw [(H.1.2 p p3).1]; exact loK_iff kd p
    refine ⟨M.1, ?_⟩
    rw [e0]
    by_cases hi : i < mk
    · have rs : (List.range (i + 1)).foldl (otS (loK kd p) l r s p) L0 = otS (loK kd p) l r s p ((List.range i).foldl (otS (loK kd p) l r s p) L0) i := by
        rw [List.range_succ, List.foldl_append]
        rfl
      obtain ⟨okL, old, _⟩ := ot_OK (lo := loK kd p) (l := l) (r := r) (List.range i) L0 hL0
      generalize (List.range i).foldl (otS (loK kd p) l r s p) L0 = L at V rs old okL
      have vi : vp_in (nI i) 300 := vp_in_nI (by omega) (by decide)
      obtain ⟨w1, w2⟩ := W i hi
      have skip : ¬ (sUp s i = some p ∧ i ∉ L) → w_Md_hangChildren_159 R n Q (nI s2) (nI s3) (nI p) t0 (nI i + 1) (wI h F) := fun g => by
        rw [nI_1]
        refine p_w159 X H0 I Eg W hK p3 hL0 hsh ht0 fin n (i + 1) F (by omega) (by omega) f ?_
        rw [rs]
        unfold otS
        rw [if_neg g]
        exact V
      refine ⟨fun g => absurd ((nI_le_iff (by omega) (by omega)).mp g) (by omega), fun _ => ⟨q + 37, c3, c1, by rw [wI_L, c2]; exact vi, ?_⟩⟩
      rw [nI_clamp (by omega), show hI (wI h F) (q + 37) i = _ from (f _ _ (by omega)).trans w1]
      cases ei : sIn s i with
      | false =>
        rw [if_neg Bool.false_ne_true]
        refine ⟨fun _ => skip (fun z => ?_), fun g => absurd rfl g⟩
        have := z.1
        rw [I.2.1 i ei] at this
        cases this
      | true =>
        rw [if_pos rfl]
        refine ⟨fun g => absurd g (by decide), fun _ => ⟨q + 39, e3, e1, by rw [wI_L, e2]; exact vi, ?_⟩⟩
        rw [show hI (wI h F) (q + 39) i = _ from (f _ _ (by omega)).trans (w2 ei).2]
        have eqv : nO (sUp s i) = nI p ↔ sUp s i = some p := by
          cases eu : sUp s i with
          | none => exact ⟨fun g => absurd g.symm (nI_ne_m (by omega)), fun g => by cases g⟩
          | some y =>
            have := up_lt HH I eu
            exact ⟨fun g => by rw [nI_inj (by omega) (by omega) g], fun g => by rw [Option.some.inj g]; rfl⟩
        refine ⟨fun g => skip (fun z => g (eqv.mpr z.1)), fun g => ?_⟩
        have hu := eqv.mp g
        have hK' := mU_OK hK okL
        show w_Md_isChildOf Q (nI 41) (nI i) (nI p) (wI h F) _
        refine p_isCW X H.1.1 I hK' V hi (by omega) ?_
        rw [mU_s]
        by_cases c : i ∈ L
        · rw [if_pos c]
          exact ⟨fun _ => skip (fun z => z.2 c), fun z => absurd (show (1 : Int32) = 0 from z) (by decide)⟩
        · rw [if_neg c]
          have st : otS (loK kd p) l r s p L i = insK (loK kd p) L i (nrO l r L p i) := by
            unfold otS
            rw [if_pos ⟨hu, c⟩]
          rw [st] at rs
          refine ⟨fun z => absurd rfl z, fun _ => ⟨M.1, ?_⟩⟩
          rw [e_Md_isOrdered M (by omega)]
          cases hl : loK kd p with
          | true =>
            have n4 : ¬ F q p < 4 := fun z => by rw [hlo.mp z] at hl; cases hl
            rw [if_neg n4]
            refine ⟨fun _ => ⟨M.1, ?_⟩, fun z => absurd rfl z⟩
            show w_Md_hang Q (nI 41) (nI i) (nI p) (nO none) (wI h F) _
            refine p_hgW X I Eg hK' V hu (by rw [mU_s]; exact c) hlo (ao := none) (fun d hd => by cases hd) (fun G g1 g2 => ?_)
            rw [mU_s, mU_mU] at g1
            rw [nI_1]
            refine p_w159 X H0 I Eg W hK p3 hL0 hsh ht0 fin n (i + 1) G (by omega) (by omega) (hg_tr f g2) ?_
            rw [rs]
            rw [hl] at g1 ⊢
            exact g1
          | false =>
            have src : i ∈ tKi l p ∨ i ∈ tKi r p := by
              rcases I.2.2.1 i p hu with ⟨s1, s2⟩ | ⟨s1, s2⟩ | ⟨s1, s2⟩
              · exact absurd (old i (hsh hl i ((shL_iff HH.1.1.1).mpr ⟨⟨s1, s2⟩, hu⟩))) c
              · exact Or.inl ((HH.1.2.1.1.2.1 i p).mpr ⟨s1, s2⟩)
              · exact Or.inr ((HH.1.2.2.1.2.1 i p).mpr ⟨s1, s2⟩)
            rw [if_pos (hlo.mpr hl)]
            refine ⟨fun z => absurd (show (1 : Int32) = 0 from z) (by decide), fun _ => ⟨M.1, ?_⟩⟩
            refine p_hgO X H I Eg hK' V hu (by rw [mU_s]; exact c) hlo src (fun G g1 g2 => ?_)
            rw [mU_s, mU_mU] at g1
            rw [nI_1]
            refine p_w159 X H0 I Eg W hK p3 hL0 hsh ht0 fin n (i + 1) G (by omega) (by omega) (hg_tr f g2) ?_
            rw [rs]
            exact g1
    · have ei : i = mk := by omega
      subst ei
      exact ⟨fun _ => ⟨ht0, fin F f V⟩, fun g => absurd ((nI_le_iff (by omega) (by omega)).mpr (by omega)) g⟩
theorem nr_sh {b : mT} (hb : fWF 300 b) {s : mgS} {p m : Nat} {K A C : List Nat} (e : shL b s p = A ++ m :: C) (hA : ∀ x ∈ A, x ∈ K) (hKs : ∀ x ∈ K, x ∈ shL b s p) : nrA b K p m = A.getLast? := by
  have mm : m ∈ shL b s p := by rw [e]; exact List.mem_append_right _ List.mem_cons_self
  have mk' := List.mem_filter.mp mm
  obtain ⟨U, V, eU⟩ := List.append_of_mem mk'.1
  have nd := hb.2.2.1 p
  have nF : (shL b s p).Nodup := nd.filter _
  have eF : shL b s p = U.filter (fun m => decide (sUp s m = some p)) ++ m :: V.filter (fun m => decide (sUp s m = some p)) := by
    unfold shL
    rw [eU, List.filter_append, List.filter_cons, if_pos mk'.2]
  have eA : A = U.filter (fun m => decide (sUp s m = some p)) := by
    have i1 := idx_split nF e
    have i2 := idx_split nF eF
    have hl : A.length = (U.filter (fun m => decide (sUp s m = some p))).length := i1.symm.trans i2
    have e3 : A ++ m :: C = U.filter (fun m => decide (sUp s m = some p)) ++ m :: V.filter (fun m => decide (sUp s m = some p)) := e.symm.trans eF
    exact (List.append_inj e3 hl).1
  unfold nrA
  rw [idx_split nd eU, eU, List.take_left' rfl]
  have : U.filter (fun x => decide (x ∈ K)) = A := by
    rw [eA]
    refine List.filter_congr (fun x hx => decide_eq_decide.mpr ⟨fun g => ((shL_iff hb).mp (hKs x g)).2, fun g => hA x ?_⟩)
    rw [eA]
    exact List.mem_filter.mpr ⟨hx, decide_eq_true g⟩
  rw [this]
end RHANG
