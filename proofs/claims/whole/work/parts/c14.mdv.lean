section MDVERS
def vmFr (Q q n l : Nat) (F G : Nat → Nat → Int32) : Prop := ∀ c j, ¬ ((c = Q ∧ (j = 3 ∨ j = 24 ∨ j = 26 ∨ j = 31 ∨ j = 52 ∨ j = 54)) ∨ (c = q + 2 ∧ (j = n ∨ j = 41)) ∨ (q + 3 ≤ c ∧ c ≤ q + 6 ∧ ((300 * n ≤ j ∧ j < 300 * n + 300) ∨ 12300 ≤ j)) ∨ c = q + 19 ∨ (q + 20 ≤ c ∧ c ≤ q + 23 ∧ j = l) ∨ (q + 24 ≤ c ∧ c < q + 46)) → G c j = F c j
theorem p_vmM {h : tpH} {Q q mk : Nat} {kd idn : Nat → Int32} {rt : Nat → Bool} (M : lMd h Q q) (hQ : Q < q) {F : Nat → Nat → Int32} (hM : MaM F Q q mk kd idn) (hk : mk ≤ 300) {fr : List mT} (hF : FoM F Q q fr) (htr : ∀ t ∈ fr, trI mk kd rt t) {po : Nat → Int32} (hP : PoM F q po) (hpo : ∀ k, po k = 0 ∨ po k = 1 ∨ po k = 2) {vs : List mV} (hV : VsM F Q q vs) (hv : vsO vs) {i1 i2 i3 : Nat} {t u v : mT} (e1 : fr[i1]? = some t) (e2 : fr[i2]? = some u) (e3 : fr[i3]? = some v) (cm : cmK fr vs t u v) {f s : Option Nat} (hf : ∀ a, f = some a → a < vs.length) (hs : ∀ a, s = some a → a < vs.length) {R : Int32 → tpH → Prop} (kk : ∀ G, FoM G Q q (fr ++ [mgRes po mk (tRt t) t u v (loK kd)]) → CfM G Q q (mgCfl po mk (tRt t) t u v (loK kd)) → VsM G Q q (vs ++ [(fr.length, f, s)]) → vmFr Q q fr.length vs.length F G → G Q 31 = F Q 31 → R (nI vs.length) (wI h G)) : w_Md_merged Q (nI i1) (nI i2) (nI i3) (wI h F) (fun v15 h14 => hT h14 Q = 14 ∧ (w_Md_newVersion Q v15 (nO f) (nO s) h14 (fun v18 h17 => R v18 h17))) := by
  have I1 := htr t (List.mem_of_getElem? e1)
  have I2 := htr u (List.mem_of_getElem? e2)
  have I3 := htr v (List.mem_of_getElem? e3)
  have n1 : i1 < fr.length := (List.getElem?_eq_some_iff.mp e1).1
  have n2 : i2 < fr.length := (List.getElem?_eq_some_iff.mp e2).1
  have n3 : i3 < fr.length := (List.getElem?_eq_some_iff.mp e3).1
  obtain ⟨er, hlt, h30⟩ := cm
  have HH : mgH mk (tRt t) t u v := ⟨⟨I1.1, I2.1, I3.1⟩, ⟨rfl, er.1, er.2⟩, hk, fun m g => (I1.2.1 m g).1, fun m g => (I2.2.1 m g).1, fun m g => (I3.2.1 m g).1⟩
  have X : RC h Q q mk i1 i2 i3 (tRt t) t u v := ⟨⟨M, hQ⟩, ⟨by omega, by omega, by omega⟩, HH⟩
  have hwf : ∀ (i : Nat) (t : mT), fr[i]? = some t → tWF 300 t := fun i t hi => (htr t (List.mem_of_getElem? hi)).1
  have H1 : RFm F Q q mk i1 i2 i3 kd idn po t u v := ⟨hM, hP, hF.2.2 _ t e1, hF.2.2 _ u e2, hF.2.2 _ v e3⟩
  refine p_Md_merged X H1 hpo hF hwf hlt (fun G K1 K2 K3 K4 => ⟨M.1, ?_⟩)
  have hV' : VsM G Q q vs := VsM_fr hV (K3 _ _ (by omega)) (fun b b1 b2 i _ => K3 _ _ (by omega))
  refine p_Md_newVersion M hQ hV' h30 hv hf hs (fun G' V' f' => kk G' ?_ ?_ V' (fun c j hc => ?_) (by rw [f' _ _ (by omega)]; exact K4))
  · have hwf' : ∀ (i : Nat) (t' : mT), (fr ++ [mgRes po mk (tRt t) t u v (loK kd)])[i]? = some t' → tWF 300 t' := fun i t' hi => by
      have := List.mem_of_getElem? hi
      rcases List.mem_append.mp this with g | g
      · exact (htr t' g).1
      · rw [List.mem_singleton.mp g]
        exact (mgRes_I HH po I1 I2 I3).1
    exact FoM_fr K1 hwf' (f' _ _ (by omega)) (fun j _ => f' _ _ (by omega)) (fun b b1 b2 j _ => f' _ _ (by omega))
  · exact CfM_fr K2 (f' _ _ (by omega)) (funext fun j => f' _ _ (by omega))
  · rw [f' c j (by omega), K3 c j (by omega)]
theorem oFr_tr {Q q : Nat} {F G K : Nat → Nat → Int32} (a : oFr Q q F G) (b : oFr Q q G K) : oFr Q q F K := fun x j e => (b x j e).trans (a x j e)
theorem p_Md_mergeV {h : tpH} {Q q mk : Nat} {kd idn : Nat → Int32} {rt : Nat → Bool} (M : lMd h Q q) (hQ : Q < q) {F : Nat → Nat → Int32} (hM : MaM F Q q mk kd idn) (hk : mk ≤ 300) {fr : List mT} (hF : FoM F Q q fr) (htr : ∀ t ∈ fr, trI mk kd rt t) {po : Nat → Int32} (hP : PoM F q po) (hpo : ∀ k, po k = 0 ∨ po k = 1 ∨ po k = 2) {vs : List mV} (hV : VsM F Q q vs) (hT : vsT fr vs) {A B : Int32} {R : Int32 → tpH → Prop} (x1 : (lstAt vs A = none ∨ lstAt vs B = none) → ∀ G, G Q 31 = 1 → oFr Q q F G → R 0 (wI h G)) (x2 : ∀ i, A = nI i → B = nI i → i < vs.length → ∀ G, G Q 31 = 2 → oFr Q q F G → R 0 (wI h G)) (x3 : ∀ i j, A = nI i → B = nI j → i < vs.length → j < vs.length → i ≠ j → ¬ mvOK fr vs i j → ∀ G, G Q 31 = 3 → oFr Q q F G → R 0 (wI h G)) (kk : ∀ i j k t u v, A = nI i → B = nI j → i < vs.length → j < vs.length → i ≠ j → bsN (baP vs i j) vs.length = some k → vT fr vs k = some t → vT fr vs i = some u → vT fr vs j = some v → cmK fr vs t u v → ∀ G, G Q 31 = 0 → FoM G Q q (fr ++ [mgRes po mk (tRt t) t u v (loK kd)]) → CfM G Q q (mgCfl po mk (tRt t) t u v (loK kd)) → VsM G Q q (vs ++ [(fr.length, some i, some j)]) → vmFr Q q fr.length vs.length F G → R (nI vs.length) (wI h G)) : w_Md_mergeVersions Q A B (wI h F) R := by
  obtain ⟨h3, hv, hTt⟩ := id hT
  have hwf : ∀ (i : Nat) (t : mT), fr[i]? = some t → tWF 300 t := fun i t hi => (htr t (List.mem_of_getElem? hi)).1
  obtain ⟨a1, a2, a3⟩ := md_f M (j := 20) (kd := 15) (n := 30) (f := 27) (by decide)
  have stop : ∀ c : Int32, ¬ c ≤ 0 → (∀ G, G Q 31 = c → oFr Q q F G → R 0 (wI h G)) → w_Md_mergeVersions_31 R Q A B c (some Q) (wI h F) := fun c hc hr => by
    refine ⟨Q, rfl, M.1, fun h4 e4 => ?_⟩
    rw [sI_wI, wI_wI, wI_I] at e4
    subst e4
    exact ⟨M.1, fun e => absurd (show tpu F Q 31 c Q 31 ≤ 0 from e) (by rw [tpu_s]; exact hc), fun _ => hr _ (tpu_s _ _ _ _) (oFr_t F c)⟩
  refine ⟨M.1, ?_⟩
  rw [e_Md_isVersion M (by omega) hV.1]
  cases eA : lstAt vs A with
  | none =>
    rw [if_neg (lst_none eA)]
    exact ⟨fun _ => stop 1 (by decide) (x1 (Or.inl eA)), fun g => absurd rfl g⟩
  | some va =>
    obtain ⟨c1, c2, c3⟩ := lst_some eA
    rw [if_pos c1]
    refine ⟨fun g => absurd (show (1 : Int32) = 0 from g) (by decide), fun _ => ⟨M.1, ?_⟩⟩
    rw [e_Md_isVersion M (by omega) hV.1]
    cases eB : lstAt vs B with
    | none =>
      rw [if_neg (lst_none eB)]
      exact ⟨fun g => absurd rfl g, fun _ => stop 1 (by decide) (x1 (Or.inr eB))⟩
    | some vb =>
      obtain ⟨d1, d2, d3⟩ := lst_some eB
      rw [if_pos d1]
      generalize A.toInt.toNat = i at c1 c2 c3
      generalize B.toInt.toNat = j at d1 d2 d3
      have il := (List.getElem?_eq_some_iff.mp c2).1
      have jl := (List.getElem?_eq_some_iff.mp d2).1
      refine ⟨fun _ => ⟨fun ne => ?_, fun e => stop 2 (by decide) (x2 i c3 (e.symm.trans c3) il)⟩, fun g => absurd (show (1 : Int32) = 0 from g) (by decide)⟩
      have nij : i ≠ j := fun e => ne (by rw [c3, d3, e])
      have X3 := x3 i j c3 d3 il jl nij
      have K := fun k t u v => kk i j k t u v c3 d3 il jl nij
      refine ⟨Q, rfl, M.1, fun h4 e4 => ?_⟩
      rw [sI_wI, wI_wI, wI_I] at e4
      subst e4
      have o1 := oFr_t (Q := Q) (q := q) F 0
      have o31 : ∀ c j, ¬ (c = Q ∧ j = 31) → tpu F Q 31 0 c j = F c j := fun c j hc => tpu_o hc
      have s31 : tpu F Q 31 0 Q 31 = 0 := tpu_s _ _ _ _
      generalize tpu F Q 31 0 = F1 at o1 o31 s31
      refine ⟨M.1, fun _ => ?_, fun g => absurd (by rw [wI_I, s31]; exact Int32.le_refl 0) g⟩
      have hV1 : VsM F1 Q q vs := VsM_fr hV (o31 _ _ (by omega)) (fun b b1 b2 i _ => o31 _ _ (by omega))
      have hF1 : FoM F1 Q q fr := FoM_fr hF hwf (o31 _ _ (by omega)) (fun j _ => o31 _ _ (by omega)) (fun b b1 b2 j _ => o31 _ _ (by omega))
      have stop2 : ∀ v9 : Int32, ¬ mvOK fr vs i j → w_Md_mergeVersions_86 R Q A B v9 3 (some Q) (wI h F1) := fun v9 nc => by
        refine ⟨Q, rfl, M.1, fun h4 e4 => ?_⟩
        rw [sI_wI, wI_wI, wI_I] at e4
        subst e4
        exact ⟨M.1, fun e => absurd (show tpu F1 Q 31 3 Q 31 ≤ 0 from e) (by rw [tpu_s]; decide), fun _ => X3 nc _ (tpu_s _ _ _ _) (oFr_tr o1 (oFr_t F1 3))⟩
      rw [c3, d3]
      rw [c3, d3] at stop2
      refine p_MbaseOf M hV1 h3 il jl ?_
      cases eb : bsN (baP vs i j) vs.length with
      | none =>
        refine ⟨fun _ => stop2 _ (fun ⟨k, t, u, v, z, _⟩ => ?_), fun g => absurd rfl g⟩
        rw [eb] at z
        cases z
      | some k =>
        have kl := (bsN_lt _ eb).1
        have ek := List.getElem?_eq_getElem kl
        generalize vs[k] = ee at ek
        obtain ⟨t, t1⟩ : ∃ y, fr[ee.1]? = some y := ⟨_, List.getElem?_eq_getElem (hTt k ee ek)⟩
        obtain ⟨u, t2⟩ : ∃ y, fr[va.1]? = some y := ⟨_, List.getElem?_eq_getElem (hTt i va c2)⟩
        obtain ⟨v, t3⟩ : ∃ y, fr[vb.1]? = some y := ⟨_, List.getElem?_eq_getElem (hTt j vb d2)⟩
        have ok : mvOK fr vs i j → cmK fr vs t u v := fun ⟨k', t', u', v', z0, z1, z2, z3, z4⟩ => by
          rw [eb] at z0
          rw [← Option.some.inj z0, vT_of ek t1] at z1
          rw [vT_of c2 t2] at z2
          rw [vT_of d2 t3] at z3
          rw [Option.some.inj z1, Option.some.inj z2, Option.some.inj z3]
          exact z4
        have vp : ∀ (G : Nat → Nat → Int32) (y : Nat), y < vs.length → vp_in (nI y) (hL (wI h G) (q + 20)) := fun G y hy => by rw [wI_L, a2]; exact vp_in_nI (by omega) (by decide)
        refine ⟨fun g => absurd g (nI_ne_m (by omega)), fun _ => ⟨M.1, q + 20, a3, a1, vp F1 k kl, vp F1 i il, vp F1 j jl, ?_⟩⟩
        have rd : ∀ {G : Nat → Nat → Int32}, VsM G Q q vs → ∀ {y : Nat} {e : mV}, vs[y]? = some e → hI (wI h G) (q + 20) (nI y).toNatClampNeg = nI e.1 := fun {G} HG {y} {e} he => by
          have := (List.getElem?_eq_some_iff.mp he).1
          rw [nI_clamp (by omega)]
          exact (HG.2 y e he).1
        show w_Md_canMerge Q (hI (wI h F1) (q + 20) (nI k).toNatClampNeg) (hI (wI h F1) (q + 20) (nI i).toNatClampNeg) (hI (wI h F1) (q + 20) (nI j).toNatClampNeg) (wI h F1) _
        rw [rd hV1 ek, rd hV1 c2, rd hV1 d2]
        refine p_Mcan M hF1 hwf hV1.1 h3 t1 t2 t3 (fun cm => ⟨fun g => absurd (show (1 : Int32) = 0 from g) (by decide), fun _ => ?_⟩) (fun nc => ⟨fun _ => stop2 _ (fun z => nc (ok z)), fun g => absurd rfl g⟩)
        refine ⟨Q, rfl, M.1, fun h4 e4 => ?_⟩
        rw [sI_wI, wI_wI, wI_I] at e4
        subst e4
        have p1 : ∀ c j, ¬ (c = Q ∧ j = 31) → tpu F1 Q 31 0 c j = F c j := fun c j hc => by rw [tpu_o hc, o31 c j hc]
        have r31 : tpu F1 Q 31 0 Q 31 = 0 := tpu_s _ _ _ _
        generalize tpu F1 Q 31 0 = F2 at p1 r31
        have hV2 : VsM F2 Q q vs := VsM_fr hV (p1 _ _ (by omega)) (fun b b1 b2 i _ => p1 _ _ (by omega))
        have hF2 : FoM F2 Q q fr := FoM_fr hF hwf (p1 _ _ (by omega)) (fun j _ => p1 _ _ (by omega)) (fun b b1 b2 j _ => p1 _ _ (by omega))
        refine ⟨M.1, fun _ => ⟨q + 20, a3, a1, vp F2 k kl, vp F2 i il, vp F2 j jl, ?_⟩, fun g => absurd (by rw [wI_I, r31]; exact Int32.le_refl 0) g⟩
        show w_Md_merged Q (hI (wI h F2) (q + 20) (nI k).toNatClampNeg) (hI (wI h F2) (q + 20) (nI i).toNatClampNeg) (hI (wI h F2) (q + 20) (nI j).toNatClampNeg) (wI h F2) _
        rw [rd hV2 ek, rd hV2 c2, rd hV2 d2]
        exact p_vmM M hQ (MaM_fr hM (p1 _ _ (by omega)) (fun c hc => funext fun j => p1 c j (by omega))) hk hF2 htr (fun k hk => (p1 _ _ (by omega)).trans (hP k hk)) hpo hV2 hv t1 t2 t3 cm (f := some i) (s := some j) (fun a z => by rw [← Option.some.inj z]; exact il) (fun a z => by rw [← Option.some.inj z]; exact jl) (fun G g1 g2 g3 g4 g5 => K k t u v eb (vT_of ek t1) (vT_of c2 t2) (vT_of d2 t3) cm G (g5.trans r31) g1 g2 g3 (fun c j hc => by rw [g4 c j hc, p1 c j (by omega)]))
theorem p_Md_takeBack {h : tpH} {Q q mk : Nat} {kd idn : Nat → Int32} {rt : Nat → Bool} (M : lMd h Q q) (hQ : Q < q) {F : Nat → Nat → Int32} (hM : MaM F Q q mk kd idn) (hk : mk ≤ 300) {fr : List mT} (hF : FoM F Q q fr) (htr : ∀ t ∈ fr, trI mk kd rt t) {po : Nat → Int32} (hP : PoM F q po) (hpo : ∀ k, po k = 0 ∨ po k = 1 ∨ po k = 2) {vs : List mV} (hV : VsM F Q q vs) (hT : vsT fr vs) {A B : Int32} {R : Int32 → tpH → Prop} (x1 : (lstAt vs A = none ∨ lstAt vs B = none) → ∀ G, G Q 31 = 1 → oFr Q q F G → R 0 (wI h G)) (x3 : ∀ i j, A = nI i → B = nI j → i < vs.length → j < vs.length → ¬ tbOK fr vs i j → ∀ G, G Q 31 = 2 → oFr Q q F G → R 0 (wI h G)) (kk : ∀ i j e f t u v, A = nI i → B = nI j → i < vs.length → j < vs.length → vs[i]? = some e → e.2.1 = some f → rcB vs 30 j i = true → vT fr vs i = some t → vT fr vs j = some u → vT fr vs f = some v → cmK fr vs t u v → ∀ G, G Q 31 = 0 → FoM G Q q (fr ++ [mgRes po mk (tRt t) t u v (loK kd)]) → CfM G Q q (mgCfl po mk (tRt t) t u v (loK kd)) → VsM G Q q (vs ++ [(fr.length, some j, none)]) → vmFr Q q fr.length vs.length F G → R (nI vs.length) (wI h G)) : w_Md_takeBack Q A B (wI h F) R := by
  obtain ⟨h3, hv, hTt⟩ := id hT
  have hwf : ∀ (i : Nat) (t : mT), fr[i]? = some t → tWF 300 t := fun i t hi => (htr t (List.mem_of_getElem? hi)).1
  obtain ⟨a1, a2, a3⟩ := md_f M (j := 20) (kd := 15) (n := 30) (f := 27) (by decide)
  obtain ⟨b1, b2, b3⟩ := md_f M (j := 21) (kd := 15) (n := 30) (f := 28) (by decide)
  obtain ⟨c1', c2', c3'⟩ := md_f M (j := 23) (kd := 15) (n := 30) (f := 30) (by decide)
  have stop : ∀ c : Int32, ¬ c ≤ 0 → (∀ G, G Q 31 = c → oFr Q q F G → R 0 (wI h G)) → w_Md_takeBack_22 R Q A B c (some Q) (wI h F) := fun c hc hr => by
    refine ⟨Q, rfl, M.1, fun h4 e4 => ?_⟩
    rw [sI_wI, wI_wI, wI_I] at e4
    subst e4
    exact ⟨M.1, fun e => absurd (show tpu F Q 31 c Q 31 ≤ 0 from e) (by rw [tpu_s]; exact hc), fun _ => hr _ (tpu_s _ _ _ _) (oFr_t F c)⟩
  refine ⟨M.1, ?_⟩
  rw [e_Md_isVersion M (by omega) hV.1]
  cases eA : lstAt vs A with
  | none =>
    rw [if_neg (lst_none eA)]
    exact ⟨fun _ => stop 1 (by decide) (x1 (Or.inl eA)), fun g => absurd rfl g⟩
  | some va =>
    obtain ⟨c1, c2, c3⟩ := lst_some eA
    rw [if_pos c1]
    refine ⟨fun g => absurd (show (1 : Int32) = 0 from g) (by decide), fun _ => ⟨M.1, ?_⟩⟩
    rw [e_Md_isVersion M (by omega) hV.1]
    cases eB : lstAt vs B with
    | none =>
      rw [if_neg (lst_none eB)]
      exact ⟨fun _ => stop 1 (by decide) (x1 (Or.inr eB)), fun g => absurd rfl g⟩
    | some vb =>
      obtain ⟨d1, d2, d3⟩ := lst_some eB
      rw [if_pos d1]
      generalize A.toInt.toNat = i at c1 c2 c3
      generalize B.toInt.toNat = j at d1 d2 d3
      have il := (List.getElem?_eq_some_iff.mp c2).1
      have jl := (List.getElem?_eq_some_iff.mp d2).1
      have X3 := x3 i j c3 d3 il jl
      have K := fun e f t u v => kk i j e f t u v c3 d3 il jl
      refine ⟨fun g => absurd (show (1 : Int32) = 0 from g) (by decide), fun _ => ⟨Q, rfl, M.1, fun h4 e4 => ?_⟩⟩
      rw [sI_wI, wI_wI, wI_I] at e4
      subst e4
      have o1 := oFr_t (Q := Q) (q := q) F 0
      have o31 : ∀ c j, ¬ (c = Q ∧ j = 31) → tpu F Q 31 0 c j = F c j := fun c j hc => tpu_o hc
      have s31 : tpu F Q 31 0 Q 31 = 0 := tpu_s _ _ _ _
      generalize tpu F Q 31 0 = F1 at o1 o31 s31
      refine ⟨M.1, fun _ => ?_, fun g => absurd (by rw [wI_I, s31]; exact Int32.le_refl 0) g⟩
      have hV1 : VsM F1 Q q vs := VsM_fr hV (o31 _ _ (by omega)) (fun b b1 b2 i _ => o31 _ _ (by omega))
      have hF1 : FoM F1 Q q fr := FoM_fr hF hwf (o31 _ _ (by omega)) (fun j _ => o31 _ _ (by omega)) (fun b b1 b2 j _ => o31 _ _ (by omega))
      have stop2 : ∀ v9 : Int32, ¬ tbOK fr vs i j → w_Md_takeBack_90 R Q A B v9 0 (wI h F1) := fun v9 nc => by
        refine ⟨fun _ => ⟨Q, rfl, M.1, fun h4 e4 => ?_⟩, fun g => absurd rfl g⟩
        rw [sI_wI, wI_wI, wI_I] at e4
        subst e4
        exact ⟨M.1, fun e => absurd (show tpu F1 Q 31 2 Q 31 ≤ 0 from e) (by rw [tpu_s]; decide), fun _ => X3 nc _ (tpu_s _ _ _ _) (oFr_tr o1 (oFr_t F1 2))⟩
      rw [c3, d3]
      rw [c3, d3] at stop2
      have vpb : ∀ y : Nat, y < vs.length → vp_in (nI y) 30 := fun y hy => vp_in_nI (by omega) (by decide)
      refine ⟨q + 21, b3, b1, by rw [wI_L, b2]; exact vpb i il, ?_⟩
      rw [nI_clamp (by omega), show hI (wI h F1) (q + 21) i = nO va.2.1 from (hV1.2 i va c2).2.1]
      cases ef : va.2.1 with
      | none =>
        refine ⟨fun _ => stop2 _ (fun ⟨e, f, t, u, v, z0, z1, _⟩ => ?_), fun g => absurd rfl g⟩
        rw [c2] at z0
        rw [← Option.some.inj z0, ef] at z1
        cases z1
      | some f =>
        have fi := (hv i va c2).1 f ef
        have fl : f < vs.length := by omega
        have ek := List.getElem?_eq_getElem fl
        generalize vs[f] = ee at ek
        obtain ⟨_, _, _, w, w1, w2, w3⟩ := hV1.2 j vb d2
        refine ⟨fun g => absurd g (nI_ne_m (by omega)), fun _ => ⟨q + 23, c3', c1', by rw [wI_L, c2']; exact vpb j jl, ?_⟩⟩
        rw [nI_clamp (show j < 2 ^ 31 by omega), show hI (wI h F1) (q + 23) j = nI w from w1]
        refine ⟨fun g => stop2 _ (fun ⟨e, f, t, u, v, z0, z1, z2, _⟩ => g ((nI_bit (by omega)).mpr ((w3 i).trans z2))), fun g => ?_⟩
        have rb : rcB vs 30 j i = true := (w3 i).symm.trans ((nI_bit (by omega)).mp g)
        obtain ⟨t, t1⟩ : ∃ y, fr[va.1]? = some y := ⟨_, List.getElem?_eq_getElem (hTt i va c2)⟩
        obtain ⟨u, t2⟩ : ∃ y, fr[vb.1]? = some y := ⟨_, List.getElem?_eq_getElem (hTt j vb d2)⟩
        obtain ⟨v, t3⟩ : ∃ y, fr[ee.1]? = some y := ⟨_, List.getElem?_eq_getElem (hTt f ee ek)⟩
        have ok : tbOK fr vs i j → cmK fr vs t u v := fun ⟨e', f', t', u', v', z0, z1, z2, z3, z4, z5, z6⟩ => by
          rw [c2] at z0
          rw [← Option.some.inj z0, ef] at z1
          rw [vT_of c2 t1] at z3
          rw [vT_of d2 t2] at z4
          rw [← Option.some.inj z1, vT_of ek t3] at z5
          rw [Option.some.inj z3, Option.some.inj z4, Option.some.inj z5]
          exact z6
        have vp : ∀ (G : Nat → Nat → Int32) (y : Nat), y < vs.length → vp_in (nI y) (hL (wI h G) (q + 20)) := fun G y hy => by rw [wI_L, a2]; exact vpb y hy
        have rd : ∀ {G : Nat → Nat → Int32}, VsM G Q q vs → ∀ {y : Nat} {e : mV}, vs[y]? = some e → hI (wI h G) (q + 20) (nI y).toNatClampNeg = nI e.1 := fun {G} HG {y} {e} he => by
          have := (List.getElem?_eq_some_iff.mp he).1
          rw [nI_clamp (by omega)]
          exact (HG.2 y e he).1
        refine ⟨q + 20, a3, a1, vp F1 i il, vp F1 j jl, vp F1 f fl, ?_⟩
        have ri : hI (wI h F1) (q + 20) i = nI va.1 := (hV1.2 i va c2).1
        rw [ri, show hI (wI h F1) (q + 20) j = nI vb.1 from (hV1.2 j vb d2).1, show hI (wI h F1) (q + 20) (nO (some f)).toNatClampNeg = nI ee.1 from rd hV1 ek]
        refine p_Mcan M hF1 hwf hV1.1 h3 t1 t2 t3 (fun cm => ⟨fun g => absurd (show (1 : Int32) = 0 from g) (by decide), fun _ => ?_⟩) (fun nc => ⟨fun _ => stop2 _ (fun z => nc (ok z)), fun g => absurd rfl g⟩)
        refine ⟨fun g => absurd (show (1 : Int32) = 0 from g) (by decide), fun _ => ⟨Q, rfl, M.1, fun h4 e4 => ?_⟩⟩
        rw [sI_wI, wI_wI, wI_I] at e4
        subst e4
        have p1 : ∀ c j, ¬ (c = Q ∧ j = 31) → tpu F1 Q 31 0 c j = F c j := fun c j hc => by rw [tpu_o hc, o31 c j hc]
        have r31 : tpu F1 Q 31 0 Q 31 = 0 := tpu_s _ _ _ _
        generalize tpu F1 Q 31 0 = F2 at p1 r31
        have hV2 : VsM F2 Q q vs := VsM_fr hV (p1 _ _ (by omega)) (fun b b1 b2 i _ => p1 _ _ (by omega))
        have hF2 : FoM F2 Q q fr := FoM_fr hF hwf (p1 _ _ (by omega)) (fun j _ => p1 _ _ (by omega)) (fun b b1 b2 j _ => p1 _ _ (by omega))
        refine ⟨M.1, fun _ => ⟨q + 20, a3, a1, vp F2 i il, vp F2 j jl, vp F2 f fl, ?_⟩, fun g => absurd (by rw [wI_I, r31]; exact Int32.le_refl 0) g⟩
        show w_Md_merged Q (hI (wI h F2) (q + 20) (nI i).toNatClampNeg) (hI (wI h F2) (q + 20) (nI j).toNatClampNeg) (hI (wI h F2) (q + 20) (nI f).toNatClampNeg) (wI h F2) _
        rw [rd hV2 c2, rd hV2 d2, rd hV2 ek]
        exact p_vmM M hQ (MaM_fr hM (p1 _ _ (by omega)) (fun c hc => funext fun j => p1 c j (by omega))) hk hF2 htr (fun k hk => (p1 _ _ (by omega)).trans (hP k hk)) hpo hV2 hv t1 t2 t3 cm (f := some j) (s := none) (fun a z => by rw [← Option.some.inj z]; exact jl) (fun a z => by cases z) (fun G g1 g2 g3 g4 g5 => K va f t u v c2 ef rb (vT_of c2 t1) (vT_of d2 t2) (vT_of ek t3) cm G (g5.trans r31) g1 g2 g3 (fun c j hc => by rw [g4 c j hc, p1 c j (by omega)]))
end MDVERS
