section LOOKM
theorem p_hn14 {h : tpH} {Q q mk s : Nat} (M : lMd h Q q) (hs : s < 42) {F : Nat → Nat → Int32} {kd idn : Nat → Int32} (hM : MaM F Q q mk kd idn) (hk : mk ≤ 300) {t : mT} (H : MtP F q s t) (hw : tWF 300 t) (hmk : ∀ m, tIn t m = true → m < mk) {k w : Int32} {R : Int32 → tpH → Prop} (k1 : shT kd k w t → R 1 (wI h F)) (k0 : ¬ shT kd k w t → R 0 (wI h F)) :
    ∀ (n i : Nat) (v : Int32), i ≤ mk → mk < n + i → (v = 1 ∧ shT kd k w t ∨ v = 0 ∧ ∀ m, m < i → ¬ (tIn t m = true ∧ kd m = k ∧ tWo t m = w)) → w_Md_hasNode_14 R n Q k w (nI s) v (nI i) (wI h F)
  | 0, i, v, h1, h2, h3 => by omega
  | n + 1, i, v, h1, h2, h3 => by
    obtain ⟨a1, a2, a3⟩ := md_f M (j := 0) (kd := 15) (n := 300) (f := 1) (by decide)
    refine ⟨M.1, fun e => ?_, fun e => ?_⟩
    · rw [wI_I, hM.1] at e
      have := (nI_le_iff (by omega) (by omega)).mp e
      rcases h3 with ⟨ev, g⟩ | ⟨ev, g⟩
      · rw [ev]; exact ⟨Or.inr rfl, k1 g⟩
      · rw [ev]; exact ⟨Or.inl rfl, k0 (fun ⟨m, g1, g2, g3⟩ => g m (by have := hmk m g1; omega) ⟨g1, g2, g3⟩)⟩
    · rw [wI_I, hM.1] at e
      have hi : i < mk := by
        refine Classical.byContradiction fun g => e ((nI_le_iff (by omega) (by omega)).mpr (by omega))
      rcases h3 with ⟨ev, g⟩ | ⟨ev, g⟩
      · refine ⟨fun _ => ?_, fun e => absurd (ev.symm.trans e) (by decide)⟩
        rw [nI_1]
        exact p_hn14 M hs hM hk H hw hmk k1 k0 n (i + 1) 1 (by omega) (by omega) (Or.inl ⟨rfl, g⟩)
      · have no : ¬ (tIn t i = true ∧ kd i = k ∧ tWo t i = w) → w_Md_hasNode_14 R n Q k w (nI s) 0 (nI i + 1) (wI h F) := fun c => by
          rw [nI_1]
          refine p_hn14 M hs hM hk H hw hmk k1 k0 n (i + 1) 0 (by omega) (by omega) (Or.inr ⟨rfl, fun m hm => ?_⟩)
          by_cases em : m = i
          · rw [em]; exact c
          · exact g m (by omega)
        refine ⟨fun e => absurd ev e, fun _ => ?_⟩
        refine p_Md_has M hs hk hM.1 (inn := tIn t) (fun m hm' => mt_in H hw m (by omega)) hmk (fun m em hm3 hin => ?_) (fun g2 => ?_)
        · have e3 : i = m := nI_inj (by omega) (by omega) em
          subst e3
          refine ⟨fun e => absurd e (by decide), fun _ => ⟨M.1, q + 0, a3, a1, by rw [wI_L, a2]; exact vp_in_nI (by omega) (by decide), ?_⟩⟩
          have ek : hI (wI h F) (q + 0) (nI i).toNatClampNeg = kd i := by rw [nI_clamp (by omega)]; exact (hM.2 i hi).1
          rw [ek]
          refine ⟨fun e => no (fun c => e c.2.1), fun ek => ?_⟩
          rw [e_Md_valueIn M hs hm3, (H.1 i hin).1]
          refine ⟨fun e => no (fun c => e c.2.2), fun ew => ?_⟩
          rw [nI_1]
          exact p_hn14 M hs hM hk H hw hmk k1 k0 n (i + 1) 1 (by omega) (by omega) (Or.inl ⟨rfl, i, hin, ek, ew⟩)
        · have g3 := g2 i (by omega) rfl
          exact ⟨fun _ => no (fun c => by rw [c.1] at g3; simp at g3), fun e => absurd rfl e⟩
theorem p_Md_hasNode {h : tpH} {Q q mk : Nat} (M : lMd h Q q) {F : Nat → Nat → Int32} {kd idn : Nat → Int32} (hM : MaM F Q q mk kd idn) (hk : mk ≤ 300) {fr : List mT} (hF : FoM F Q q fr) (hw : ∀ (i : Nat) (t : mT), fr[i]? = some t → tWF 300 t) (hmk : ∀ (i : Nat) (t : mT), fr[i]? = some t → ∀ m, tIn t m = true → m < mk) {vs : List mV} (hV : VsM F Q q vs) (hT : vsT fr vs) {v : Nat} (hv : v < vs.length) {k w : Int32} {R : Int32 → tpH → Prop} (k1 : shB fr vs kd k w v → R 1 (wI h F)) (k0 : ¬ shB fr vs kd k w v → R 0 (wI h F)) : w_Md_hasNode Q (nI v) k w (wI h F) R := by
  obtain ⟨a1, a2, a3⟩ := md_f M (j := 20) (kd := 15) (n := 30) (f := 27) (by decide)
  have h3 := hT.1
  have h40 := hF.2.1
  have ei := List.getElem?_eq_getElem hv
  have hl := hT.2.2 v _ ei
  have ht := List.getElem?_eq_getElem hl
  generalize fr[(vs[v]).1] = t at ht
  have hvt : vT fr vs v = some t := by unfold vT; rw [ei]; exact ht
  refine ⟨M.1, q + 20, a3, a1, by rw [wI_L, a2]; exact vp_in_nI (by omega) (by decide), mk + 1, ?_⟩
  have es : hI (wI h F) (q + 20) (nI v).toNatClampNeg = nI (vs[v]).1 := by rw [wI_I, nI_clamp (by omega), (hV.2 v _ ei).1]
  rw [es]
  exact p_hn14 M (by omega) hM hk (hF.2.2 _ t ht) (hw _ t ht) (hmk _ t ht) (fun g => k1 ⟨t, hvt, g⟩) (fun g => k0 (fun ⟨t', e, g'⟩ => g (by rw [hvt] at e; rw [Option.some.inj e]; exact g'))) (mk + 1) 0 0 (by omega) (by omega) (Or.inr ⟨rfl, fun m hm => by omega⟩)
theorem p_mlk139 {h : tpH} {Q q mk : Nat} (M : lMd h Q q) {F : Nat → Nat → Int32} {kd idn : Nat → Int32} (hM : MaM F Q q mk kd idn) (hk : mk ≤ 300) {fr : List mT} (hF : FoM F Q q fr) (hw : ∀ (i : Nat) (t : mT), fr[i]? = some t → tWF 300 t) (hmk : ∀ (i : Nat) (t : mT), fr[i]? = some t → ∀ m, tIn t m = true → m < mk) {vs : List mV} (hV : VsM F Q q vs) (hT : vsT fr vs) {l : List Nat} (hl : l.length ≤ 30) (hlv : ∀ v ∈ l, v < vs.length) (hch : ∀ j v, l[j]? = some v → F (q + 45) j = nI v) {k w : Int32} {R : Int32 → tpH → Prop} :
    ∀ (n lo hi : Nat), lo ≤ hi → hi < l.length → hi - lo < n → (∀ lo', lo' < l.length → lo' = bsr (fun i => shB fr vs kd k w (lnC l i)) 30 lo hi → (shB fr vs kd k w (lnC l lo') → R (nI (lnC l lo')) (wI h F)) ∧ (¬ shB fr vs kd k w (lnC l lo') → R (-1) (wI h F))) → w_Md_look_139 R n Q k w (nI (l.length - 1 - lo)) (nI (l.length - 1 - hi)) (wI h F)
  | 0, lo, hi, h1, h2, h3, kk => by omega
  | n + 1, lo, hi, h1, h2, h3, kk => by
    obtain ⟨a1, a2, a3⟩ := md_f M (j := 45) (kd := 15) (n := 30) (f := 57) (by decide)
    have vp : ∀ i, i < 30 → vp_in (nI i) (hL (wI h F) (q + 45)) := fun i hi => by rw [wI_L, a2]; exact vp_in_nI hi (by decide)
    have rd : ∀ i, i < l.length → hI (wI h F) (q + 45) (nI (l.length - 1 - i)).toNatClampNeg = nI (lnC l i) := fun i hi => by
      rw [wI_I, nI_clamp (by omega)]
      exact hch _ _ (lnC_at hi)
    have mem : ∀ i, i < l.length → lnC l i < vs.length := fun i hi => hlv _ (List.mem_of_getElem? (lnC_at hi))
    refine ⟨fun e => ⟨M.1, q + 45, a3, a1, vp _ (by omega), ?_⟩, fun e => ⟨M.1, q + 45, a3, a1, ?_⟩⟩
    · have := (nI_le_iff (by omega) (by omega)).mp e
      have kv := kk lo (by omega) (bsr_0 _ _ _ _ (by omega)).symm
      rw [rd lo (by omega)]
      refine p_Md_hasNode M hM hk hF hw hmk hV hT (mem lo (by omega)) (fun g => ⟨fun e => absurd e (by decide), fun _ => ⟨M.1, q + 45, a3, a1, vp _ (by omega), ?_⟩⟩) (fun g => ⟨fun _ => kv.2 g, fun e => absurd rfl e⟩)
      rw [rd lo (by omega)]
      exact kv.1 g
    · have hlt : lo < hi := by
        refine Classical.byContradiction fun g => e ((nI_le_iff (by omega) (by omega)).mpr (by omega))
      have em : nI (l.length - 1 - lo) - (nI (l.length - 1 - lo) - nI (l.length - 1 - hi)) / 2 = nI (l.length - 1 - (lo + hi) / 2) := by
        rw [nI_sub2 (by omega), nI_half _ (by omega), nI_sub2 (by omega)]
        congr 1
        omega
      rw [em]
      have hmid : (lo + hi) / 2 < l.length := by omega
      refine ⟨vp _ (by omega), ?_⟩
      rw [rd _ hmid]
      refine p_Md_hasNode M hM hk hF hw hmk hV hT (mem _ hmid) (fun g => ⟨fun e => absurd e (by decide), fun _ => ?_⟩) (fun g => ⟨fun _ => ?_, fun e => absurd rfl e⟩)
      · refine p_mlk139 M hM hk hF hw hmk hV hT hl hlv hch n lo ((lo + hi) / 2) (by omega) hmid (by omega) (fun lo' g1 g2 => kk lo' g1 ?_)
        rw [g2, bsr_f _ 30 31 lo hi (by omega) (by omega), bsr_y (P := fun i => shB fr vs kd k w (lnC l i)) hlt g]
      · have e1 : nI (l.length - 1 - (lo + hi) / 2) - 1 = nI (l.length - 1 - ((lo + hi) / 2 + 1)) := by
          have := nI_sub2 (a := l.length - 1 - (lo + hi) / 2) (b := 1) (by omega)
          rw [show l.length - 1 - ((lo + hi) / 2 + 1) = l.length - 1 - (lo + hi) / 2 - 1 by omega]
          exact this
        rw [e1]
        refine p_mlk139 M hM hk hF hw hmk hV hT hl hlv hch n ((lo + hi) / 2 + 1) hi (by omega) h2 (by omega) (fun lo' g1 g2 => kk lo' g1 ?_)
        rw [g2, bsr_f _ 30 31 lo hi (by omega) (by omega), bsr_n (P := fun i => shB fr vs kd k w (lnC l i)) hlt g]
theorem p_mlk64 {h : tpH} {Q q : Nat} (M : lMd h Q q) {F : Nat → Nat → Int32} {vs : List mV} (hV : ∀ (i : Nat) (e : mV), vs[i]? = some e → F (q + 21) i = nO e.2.1) (hv : vsO vs) (h3 : vs.length ≤ 30) {a : Nat} (ha : a < vs.length) {k w : Int32} {R : Int32 → tpH → Prop} :
    ∀ (n v : Nat) (A : List Nat), v < vs.length → A.length + v < 30 → v + 1 < n → (∀ l0, lnO vs a (v + 1) v = some (l0 ++ [a]) → w_Md_look_112 R Q (nI a) k w (nI (A ++ l0).length) 0 (some Q) (wI h (lay F (q + 45) (A ++ l0)))) → (lnO vs a (v + 1) v = none → ∀ B x5, w_Md_look_112 R Q (nI a) k w x5 3 (some Q) (wI h (lay F (q + 45) B))) → w_Md_look_64 R n Q (nI a) k w (nI A.length) (nI v) (wI h (lay F (q + 45) A))
  | 0, v, A, h1, h2, h4, k1, k0 => by omega
  | n + 1, v, A, h1, h2, h4, k1, k0 => by
    obtain ⟨a1, a2, a3⟩ := md_f M (j := 45) (kd := 15) (n := 30) (f := 57) (by decide)
    obtain ⟨b1, b2, b3⟩ := md_f M (j := 21) (kd := 15) (n := 30) (f := 28) (by decide)
    have kl : lnO vs a (v + 1) v = if v = a then some [v] else match fsO vs v with
      | none => none
      | some f => (lnO vs a v f).map (fun l => v :: l) := rfl
    refine ⟨fun e => ?_, fun e => ⟨fun e2 => absurd e2 (nI_ne_m (by omega)), fun _ => ⟨M.1, q + 45, a3, a1, by rw [wI_L, a2]; exact vp_in_nI (by omega) (by decide), fun h8 e8 => ?_⟩⟩⟩
    · have hne : v = a := nI_inj (by omega) (by omega) e
      rw [if_pos hne] at kl
      have := k1 [] (by rw [kl, hne]; rfl)
      rw [List.append_nil] at this
      exact ⟨fun _ => this, fun e => absurd e (nI_ne_m (by omega))⟩
    · rw [nI_clamp (by omega), sI_wI, wI_wI, wI_I, lay_put] at e8
      subst e8
      have hne : v ≠ a := fun g => e (by rw [g])
      rw [if_neg hne] at kl
      have hvv := List.getElem?_eq_getElem h1
      have ev : hI (wI h (lay F (q + 45) (A ++ [v]))) (q + 21) (nI v).toNatClampNeg = nO (fsO vs v) := by
        rw [nI_clamp (by omega), wI_I, lay_ne _ _ (by omega), hV v _ hvv]
        unfold fsO
        rw [hvv]
        rfl
      refine ⟨q + 21, b3, b1, by rw [wI_L, b2]; exact vp_in_nI (by omega) (by decide), ?_⟩
      rw [ev]
      cases ef : fsO vs v with
      | none =>
        rw [ef] at kl
        obtain ⟨n', rfl⟩ : ∃ n', n = n' + 1 := ⟨n - 1, by omega⟩
        have k := k0 kl (A ++ [v]) (nI A.length + 1)
        have bad : ¬ (nO none = nI a) := fun g => nI_ne_m (by omega) g.symm
        exact ⟨fun e => absurd e bad, fun _ => ⟨fun _ => ⟨fun e => absurd rfl e, fun _ => k⟩, fun e => absurd rfl e⟩⟩
      | some f =>
        have hf := fsO_lt hv ef
        rw [ef] at kl
        have kl : lnO vs a (v + 1) v = (lnO vs a v f).map (fun l => v :: l) := kl
        rw [lnO_f hv v (f + 1) f (by omega) (by omega)] at kl
        have ih := p_mlk64 M hV hv h3 ha (R := R) (k := k) (w := w) n f (A ++ [v]) (by omega) (by rw [List.length_append]; show A.length + 1 + f < 30; omega) (by omega) (fun l0 hl => ?_) (fun hl B x5 => k0 (by rw [kl, hl]; rfl) B x5)
        · rw [List.length_append] at ih
          show w_Md_look_64 R n Q (nI a) k w (nI A.length + 1) (nI f) _
          rw [nI_1]
          exact ih
        · rw [List.append_assoc]
          exact k1 (v :: l0) (by rw [kl, hl]; rfl)
theorem lnO_last {vs : List mV} {a : Nat} : ∀ (n v : Nat) (l : List Nat), lnO vs a n v = some l → ∃ l0, l = l0 ++ [a]
  | 0, v, l, h => by simp [lnO] at h
  | n + 1, v, l, h => by
    have h : (if v = a then some [v] else match fsO vs v with
      | none => none
      | some f => (lnO vs a n f).map (fun l => v :: l)) = some l := h
    by_cases c : v = a
    · rw [if_pos c] at h
      have := Option.some.inj h
      exact ⟨[], by rw [← this, c]; rfl⟩
    · rw [if_neg c] at h
      cases e : fsO vs v with
      | none => rw [e] at h; simp at h
      | some f =>
        rw [e] at h
        have h : (lnO vs a n f).map (fun l => v :: l) = some l := h
        cases e2 : lnO vs a n f with
        | none => rw [e2] at h; simp at h
        | some l' =>
          rw [e2] at h
          obtain ⟨l0, e3⟩ := lnO_last n f l' e2
          have := Option.some.inj h
          exact ⟨v :: l0, by rw [← this, e3]; rfl⟩
theorem p_Md_look {h : tpH} {Q q mk : Nat} (M : lMd h Q q) (hQ : Q < q) {F : Nat → Nat → Int32} {kd idn : Nat → Int32} (hM : MaM F Q q mk kd idn) (hk : mk ≤ 300) {fr : List mT} (hF : FoM F Q q fr) (hw : ∀ (i : Nat) (t : mT), fr[i]? = some t → tWF 300 t) (hmk : ∀ (i : Nat) (t : mT), fr[i]? = some t → ∀ m, tIn t m = true → m < mk) {vs : List mV} (hV : VsM F Q q vs) (hT : vsT fr vs) {x y k w : Int32} {R : Int32 → tpH → Prop}
    (x1 : ¬ lkA vs x y → ∀ G, G Q 31 = 1 → oFr Q q F G → R 0 (wI h G)) (x2 : lkA vs x y → ¬ lkB k w → ∀ G, G Q 31 = 2 → oFr Q q F G → R 0 (wI h G)) (x3 : lkA vs x y → lkB k w → lkL vs x y = none → ∀ G, G Q 31 = 3 → oFr Q q F G → R 0 (wI h G))
    (kk : lkA vs x y → lkB k w → ∀ ln, lkL vs x y = some ln → ∀ G, G Q 31 = 0 → oFr Q q F G → R (gLook fr vs kd k w ln) (wI h G)) : w_Md_look Q x y k w (wI h F) R := by
  obtain ⟨a1, a2, a3⟩ := md_f M (j := 45) (kd := 15) (n := 30) (f := 57) (by decide)
  have h3 := hT.1
  have stop : ∀ c : Int32, ¬ c ≤ 0 → (∀ G, G Q 31 = c → oFr Q q F G → R 0 (wI h G)) → w_Md_look_46 R Q x y k w c (some Q) (wI h F) := fun c hc hr => by
    refine ⟨Q, rfl, M.1, fun h4 e4 => ?_⟩
    rw [sI_wI, wI_wI, wI_I] at e4
    subst e4
    exact ⟨M.1, fun e => absurd (show tpu F Q 31 c Q 31 ≤ 0 from e) (by rw [tpu_s]; exact hc), fun _ => hr _ (tpu_s _ _ _ _) (oFr_t F c)⟩
  refine ⟨M.1, ?_⟩
  rw [e_Md_isVersion M (by omega) hV.1]
  cases e : lstAt vs x with
  | none =>
    rw [if_neg (lst_none e)]
    exact ⟨fun _ => stop 1 (by decide) (x1 (fun ⟨⟨e1, g⟩, _⟩ => by rw [e] at g; simp at g)), fun g => absurd rfl g⟩
  | some ex =>
    obtain ⟨c1, c2, c3⟩ := lst_some e
    rw [if_pos c1]
    refine ⟨fun g => absurd g (by decide), fun _ => ⟨M.1, ?_⟩⟩
    rw [e_Md_isVersion M (by omega) hV.1]
    cases e' : lstAt vs y with
    | none =>
      rw [if_neg (lst_none e')]
      exact ⟨fun g => absurd rfl g, fun _ => stop 1 (by decide) (x1 (fun ⟨_, e1, g⟩ => by rw [e'] at g; simp at g))⟩
    | some ey =>
      obtain ⟨d1, d2, d3⟩ := lst_some e'
      have A : lkA vs x y := ⟨⟨ex, e⟩, ey, e'⟩
      rw [if_pos d1]
      refine ⟨fun _ => ?_, fun g => absurd g (by decide)⟩
      have e0 : (0 : Int32).toInt = 0 := rfl
      have e5 : (5 : Int32).toInt = 5 := rfl
      have e99 : (99 : Int32).toInt = 99 := rfl
      rw [e_Md_in, e0, e5]
      by_cases gk : 0 ≤ k.toInt ∧ k.toInt ≤ 5
      · rw [if_pos gk]
        refine ⟨fun g => absurd g (by decide), fun _ => ?_⟩
        rw [e_Md_in, e0, e99]
        by_cases gw : 0 ≤ w.toInt ∧ w.toInt ≤ 99
        · rw [if_pos gw]
          refine ⟨fun _ => ⟨Q, rfl, M.1, fun h4 e4 => ?_⟩, fun g => absurd g (by decide)⟩
          rw [sI_wI, wI_wI, wI_I] at e4
          subst e4
          have B : lkB k w := ⟨gk, gw⟩
          have hxl := (List.getElem?_eq_some_iff.mp c2).1
          have hyl := (List.getElem?_eq_some_iff.mp d2).1
          refine ⟨M.1, fun _ => ⟨y.toInt.toNat + 2, ?_⟩, fun e => absurd (show tpu F Q 31 0 Q 31 ≤ 0 by rw [tpu_s]; decide) e⟩
          have key := p_mlk64 (h := h) (R := R) (k := k) (w := w) M (F := tpu F Q 31 0) (vs := vs) (fun i e hi => by rw [tpu_a _ _ _ _ _ _ (by omega)]; exact (hV.2 i e hi).2.1) hT.2.1 h3 hxl (y.toInt.toNat + 2) y.toInt.toNat [] hyl (by show 0 + y.toInt.toNat < 30; omega) (by omega) (fun l0 hl => ?_) (fun hn B' x5 => ?_)
          · rw [lay_nil, ← c3, ← d3] at key
            exact key
          · rw [List.nil_append]
            obtain ⟨i1, i2, i3⟩ := lnO_in hT.2.1 _ _ _ hyl hl
            rw [List.length_append] at i3
            have i3 : l0.length + 1 ≤ y.toInt.toNat + 1 := i3
            refine ⟨Q, rfl, M.1, fun h4 e4 => ?_⟩
            rw [sI_wI, wI_wI, wI_I] at e4
            subst e4
            refine ⟨M.1, fun _ => ⟨q + 45, a3, a1, by rw [wI_L, a2]; exact vp_in_nI (by omega) (by decide), fun h12 e12 => ⟨l0.length + 2, ?_⟩⟩, fun e => absurd (show tpu (lay (tpu F Q 31 0) (q + 45) l0) Q 31 0 Q 31 ≤ 0 by rw [tpu_s]; decide) e⟩
            rw [nI_clamp (by omega), sI_wI, wI_wI, wI_I] at e12
            generalize hG : tpu (tpu (lay (tpu F Q 31 0) (q + 45) l0) Q 31 0) (q + 45) l0.length (nI x.toInt.toNat) = G at e12
            subst e12
            have fG : oFr Q q F G := fun b j hb => by
              rw [← hG, tpu_a _ _ _ _ _ _ (by omega)]
              exact ((oFr_t (Q := Q) (q := q) _ 0 b j hb).trans (oFr_lay (oFr_t F 0) (by omega) l0 b j hb))
            have g31 : G Q 31 = 0 := by rw [← hG, tpu_a _ _ _ _ _ _ (by omega), tpu_s]
            have hch : ∀ j v, (l0 ++ [x.toInt.toNat])[j]? = some v → G (q + 45) j = nI v := fun j v hj => by
              have e1 : G (q + 45) = lay (tpu F Q 31 0) (q + 45) (l0 ++ [x.toInt.toNat]) (q + 45) := by
                rw [← hG, ← lay_put]
                funext j
                simp only [tpu]
                by_cases c : j = l0.length
                · rw [if_pos ⟨trivial, c⟩, if_pos ⟨trivial, c⟩]
                · rw [if_neg (fun g => c g.2), if_neg (fun g => by omega), if_neg (fun g => c g.2)]
              rw [e1]
              exact lay_at _ _ hj
            have hV1 : VsM G Q q vs := VsM_fr hV (fG _ _ (by omega)) (fun b b1 b2 i _ => fG _ _ (by omega))
            have hF1 : FoM G Q q fr := FoM_fr hF hw (fG _ _ (by omega)) (fun j _ => fG _ _ (by omega)) (fun b b1 b2 j _ => fG _ _ (by omega))
            have hM1 : MaM G Q q mk kd idn := MaM_fr hM (fG _ _ (by omega)) (fun b hb => funext fun j => fG _ _ (by omega))
            have kv := kk A B _ hl G g31 fG
            have hlen : (l0 ++ [x.toInt.toNat]).length = l0.length + 1 := by rw [List.length_append]; rfl
            have key2 := p_mlk139 (k := k) (w := w) (R := R) M hM1 hk hF1 hw hmk hV1 hT (l := l0 ++ [x.toInt.toNat]) (by omega) i1 hch (l0.length + 2) 0 l0.length (by omega) (by omega) (by omega) (fun lo' g1 g2 => ?_)
            · rw [hlen, show l0.length + 1 - 1 - 0 = l0.length by omega, show l0.length + 1 - 1 - l0.length = 0 by omega] at key2
              exact key2
            · have ew : lnC (l0 ++ [x.toInt.toNat]) lo' = lnW fr vs kd k w (l0 ++ [x.toInt.toNat]) := by
                unfold lnW
                rw [hlen, g2]
                rfl
              rw [ew]
              refine ⟨fun g => ?_, fun g => ?_⟩
              · rw [gLook_y g] at kv; exact kv
              · rw [gLook_n g] at kv; exact kv
          · refine ⟨Q, rfl, M.1, fun h4 e4 => ?_⟩
            rw [sI_wI, wI_wI, wI_I] at e4
            subst e4
            exact ⟨M.1, fun e => absurd (show tpu (lay (tpu F Q 31 0) (q + 45) B') Q 31 3 Q 31 ≤ 0 from e) (by rw [tpu_s]; decide), fun _ => x3 A B hn _ (tpu_s _ _ _ _) (fun b j hb => (oFr_t (Q := Q) (q := q) _ 3 b j hb).trans (oFr_lay (oFr_t F 0) (by omega) B' b j hb))⟩
        · rw [if_neg gw]
          exact ⟨fun g => absurd rfl g, fun _ => stop 2 (by decide) (x2 A (fun b => gw b.2))⟩
      · rw [if_neg gk]
        exact ⟨fun _ => stop 2 (by decide) (x2 A (fun b => gk b.1)), fun g => absurd rfl g⟩

theorem lw_look {b L z : Nat} {xs : Nat → Int32} (hL0 : L ≤ 3072) : lwOK (lwI b L z xs) b z (z + 102) (z + 149) (z + 150) L w_Lw_law_2428 := by
  intro R K k h I h6 kk
  obtain ⟨hb, hC, mk, kd, idn, rt, dr, r, n, hm, hP, hM, hB⟩ := I
  have vp : ∀ j, j < 6 → ∀ h', lwC b L z xs h' → vp_in (nI (6 * k) + nI j) (hL h' b) := fun j hj h' hC => lw_vp hL0 hC.2.2.2.1 h6 hj
  have hz := hB.2.1
  have hwf := mIn_wf hm
  obtain ⟨hdw, hdm⟩ := mIn_dw hm
  refine ⟨b, rfl, hC.2.2.1, vp 1 (by decide) h hC, vp 2 (by decide) h hC, vp 3 (by decide) h hC, vp 4 (by decide) h hC, z, rfl, hP.1.1, ?_⟩
  rw [hC.2.2.2.2]
  generalize e1 : xs (nI (6 * k) + 1).toNatClampNeg = A1
  generalize e2 : xs (nI (6 * k) + 2).toNatClampNeg = A2
  generalize e3 : xs (nI (6 * k) + 3).toNatClampNeg = A3
  generalize e4 : xs (nI (6 * k) + 4).toNatClampNeg = A4
  have deed : ∀ G, lkF (z + 1) (hI h) G → stP (wI h G) z (z + 1) (z + 151) mk kd idn dr r n ∧ hFr h (wI h G) (fun b j => (b = z + 1 + 90 ∧ j = 6) ∨ b = z + 1 + 100) (fun _ _ => False) := fun G fG => by
    unfold lkF at fG
    have f7 : hFr h (wI h G) (fun b j => (b = z + 1 + 90 ∧ j = 6) ∨ b = z + 1 + 100) (fun _ _ => False) := hFr_w h _ (fun b j hb => fG b j hb)
    obtain ⟨q1, q2, q3, q4, q5, q6⟩ := reP_parts hP.2.2.2.2 (by omega) (by omega) hz f7 (fun c j g => by unfold fSc; omega) (fun c j g => g.elim)
    have eI : ∀ c, c ≠ z + 1 + 90 → c ≠ z + 1 + 100 → hI (wI h G) c = hI h c := fun c h1 h2 => funext fun j => fG c j (by omega)
    exact ⟨⟨hP.1, MaP_k hP.2.1 (fun c c1 c2 => eI c (by omega) (by omega)), DrP_k hP.2.2.1 (fun c c1 c2 => eI c (by omega) (by omega)), fun j hj => by rw [eI (z + 1 + 68) (by omega) (by omega)]; exact hP.2.2.2.1 j hj, q1, q2, q3, by rw [eI z (by omega) (by omega)]; exact hP.2.2.2.2.2.2.2.1, fun j hj => by rw [eI _ (by omega) (by omega)]; exact hP.2.2.2.2.2.2.2.2.1 j hj, q4, q5, q6⟩, f7⟩
  have hD := fun G fG => lw_cls (k := k) hb hC hm hM hB (deed G fG).2 (fun c j g => by omega) (fun c j g => g.elim) hm (deed G fG).1 ⟨Nat.le_refl _, hB.1⟩ (by rw [wI_Z]; omega) (by rw [wI_U]; omega)
  refine p_TP_look hP.1 (by omega) (by omega) hz hP.2.2.2.2.1 hP.2.1 hm.1 hwf (mIn_mm hm) hP.2.2.2.2.2.2.2.2.2.2.1 (mIn_vt hm) (fun na => Or.inl ⟨rfl, ?_⟩) (fun A nb => Or.inr (Or.inl ⟨rfl, ?_⟩)) (fun A B hn G fG => Or.inr (Or.inr ⟨rfl, ?_⟩)) (fun A B ln hln G fG => lw_put hC.1 ?_)
  · have H := lw_exc (k := k) hb hC hm hP hM hB
    obtain ⟨-, hC7, hM7, -⟩ := id H
    refine ⟨hC7.2.2.1, vp 1 (by decide) _ hC7, vp 2 (by decide) _ hC7, vp 3 (by decide) _ hC7, vp 4 (by decide) _ hC7, z + 102, rfl, hM7.1.1, ?_⟩
    rw [hC7.2.2.2.2, e1, e2, e3, e4]
    exact p_Md_look hM7.1 (by omega) hM7.2.1 hm.1 hM7.2.2.2.1 hwf (mIn_mm hm) hM7.2.2.2.2.2.2.2.2 (mIn_vt hm) (fun _ G k1 k2 => lw_xt H hwf (by decide) k1 k2 kk) (fun A => absurd A na) (fun A => absurd A na) (fun A => absurd A na)
  · have H := lw_exc (k := k) hb hC hm hP hM hB
    obtain ⟨-, hC7, hM7, -⟩ := id H
    refine ⟨hC7.2.2.1, vp 1 (by decide) _ hC7, vp 2 (by decide) _ hC7, vp 3 (by decide) _ hC7, vp 4 (by decide) _ hC7, z + 102, rfl, hM7.1.1, ?_⟩
    rw [hC7.2.2.2.2, e1, e2, e3, e4]
    exact p_Md_look hM7.1 (by omega) hM7.2.1 hm.1 hM7.2.2.2.1 hwf (mIn_mm hm) hM7.2.2.2.2.2.2.2.2 (mIn_vt hm) (fun na => absurd A na) (fun _ _ G k1 k2 => lw_xt H hwf (by decide) k1 k2 kk) (fun _ B => absurd B nb) (fun _ B => absurd B nb)
  · obtain ⟨hP7, f7⟩ := deed G fG
    have f8 : hFr h (nC (wI h G) 0 0 6) (fun b j => (b = z + 1 + 90 ∧ j = 6) ∨ b = z + 1 + 100) (fun _ _ => False) := hFr_mono (hFr_tr f7 (hFr_nC (wI h G) 0 0 6 (fun _ _ => False) (fun _ _ => False))) (fun c j _ g => g.elim id (fun q => q.elim)) (fun c j _ g => g.elim id id)
    have hP8 := stP_oth hP7 (by omega) (by omega) hz (hFr_nC (wI h G) 0 0 6 (fun _ _ => False) (fun _ _ => False)) (fun _ _ g => g.elim) (fun _ _ g => g.elim)
    have H := lw_cls (k := k) hb hC hm hM hB f8 (fun c j g => by omega) (fun c j g => g.elim) hm hP8 ⟨Nat.le_refl _, hB.1⟩ (show hZ h + 1 ≤ _ by omega) (show hU h + 6 ≤ _ by omega)
    obtain ⟨-, hC7, hM7, -⟩ := id H
    refine ⟨hC7.2.2.1, vp 1 (by decide) _ hC7, vp 2 (by decide) _ hC7, vp 3 (by decide) _ hC7, vp 4 (by decide) _ hC7, z + 102, rfl, hM7.1.1, ?_⟩
    rw [hC7.2.2.2.2, e1, e2, e3, e4]
    exact p_Md_look hM7.1 (by omega) hM7.2.1 hm.1 hM7.2.2.2.1 hwf (mIn_mm hm) hM7.2.2.2.2.2.2.2.2 (mIn_vt hm) (fun na => absurd A na) (fun _ nb => absurd B nb) (fun _ _ _ G k1 k2 => lw_xt H hwf (by decide) k1 k2 kk) (fun _ _ l hl => by rw [hn] at hl; simp at hl)
  · have H := lw_sJ (hD G fG) (z + 149) 0 (gLook r.1 r.2.2.2.2.2 kd A3 A4 ln).toInt64
    obtain ⟨-, hC7, hM7, -⟩ := id H
    refine ⟨hC7.2.2.1, vp 1 (by decide) _ hC7, vp 2 (by decide) _ hC7, vp 3 (by decide) _ hC7, vp 4 (by decide) _ hC7, z + 102, rfl, hM7.1.1, ?_⟩
    rw [hC7.2.2.2.2, e1, e2, e3, e4]
    refine p_Md_look hM7.1 (by omega) hM7.2.1 hm.1 hM7.2.2.2.1 hwf (mIn_mm hm) hM7.2.2.2.2.2.2.2.2 (mIn_vt hm) (fun na => absurd A na) (fun _ nb => absurd B nb) (fun _ _ hn => by rw [hn] at hln; simp at hln) (fun _ _ l hl G' k1 k2 => ?_)
    have el : l = ln := by rw [hln] at hl; exact (Option.some.inj hl).symm
    subst el
    exact lw_tail hM7.1.1 k1 hC7.1 (fun _ => tpu_s _ _ _ _) (kk _ (lw_fin H (fun c j hc => k2 c j (by omega)) (stM_31 hM7 (by omega) hwf k2)))

end LOOKM
