section LIKEC
theorem rr_n2 (s : Bool) (a b : Nat) (e : Int) : Jvm.FP.Core.roundRatio Jvm.FP.Core.b64 s a b e ≠ Jvm.FP.Core.Datum.nan := by
  unfold Jvm.FP.Core.roundRatio Jvm.FP.Core.roundAt Jvm.FP.Core.settle Jvm.FP.Core.bound
  repeat' split
  all_goals (intro g; cases g)
theorem rd_nn {d : Jvm.FP.Core.Datum} (h : d ≠ Jvm.FP.Core.Datum.nan) : Jvm.FP.Core.round Jvm.FP.Core.b64 d ≠ Jvm.FP.Core.Datum.nan := by
  cases d with
  | nan => exact absurd rfl h
  | inf s => intro g; cases g
  | fin s c q =>
    exact rr_n2 s c 1 q
theorem f2_nn {r : UInt32} (h : Jvm.FP.Core.val32 r ≠ Jvm.FP.Core.Datum.nan) : Jvm.FP.Core.val64 (FP.f2d r) ≠ Jvm.FP.Core.Datum.nan := by
  have e : FP.f2d r = Jvm.FP.Core.f2d r := by
    unfold FP.f2d
    rw [if_neg (fun g => h ((Jvm.FP.Core.fIsNaN_iff r).mp g))]
  rw [e, Jvm.FP.Core.val64_f2d]
  exact rd_nn h
theorem vd_ok {r : UInt64} (h : Jvm.FP.Core.val64 r ≠ Jvm.FP.Core.Datum.nan) : vf_n64 r := by
  unfold vf_n64
  rw [UInt64.le_iff_toNat_le, UInt64.toNat_and]
  have e1 : (0x7fffffffffffffff : UInt64).toNat = 2 ^ 63 - 1 := by decide
  have e2 : (0x7ff0000000000000 : UInt64).toNat = 2047 * 2 ^ 52 := by decide
  rw [e1, e2, Nat.and_two_pow_sub_one_eq_mod]
  refine Nat.le_of_not_lt fun g => h ?_
  have q1 : Jvm.FP.Core.b64.tails = 2 ^ 52 := by decide
  have q2 : Jvm.FP.Core.b64.exps = 2 ^ 11 := by decide
  unfold Jvm.FP.Core.val64 Jvm.FP.Core.decode Jvm.FP.Core.fieldE Jvm.FP.Core.fieldT
  rw [q1, q2]
  generalize r.toNat = n at g
  rw [if_pos (by omega), if_neg (by omega)]
theorem fq_nn {n m : Nat} (hn : n < 2 ^ 31) (hm : m < 600) (h0 : m ≠ 0) : Jvm.FP.Core.val32 (FP.fdiv (fI n) (fI m)) ≠ Jvm.FP.Core.Datum.nan := by
  show Jvm.FP.Core.val32 (Jvm.FP.Core.fdiv (fI n) (fI m)) ≠ _
  obtain ⟨c, q, e, hc⟩ := fI_pos hm h0
  obtain ⟨_, _, e2, _⟩ := fI_ok hn
  rw [Jvm.FP.Core.val32_fdiv, e, e2]
  cases r : Jvm.FP.Core.roundRatio Jvm.FP.Core.b32 false n 1 0 with
  | nan => exact absurd r (rr_nn _ _ _ _)
  | inf s => intro g; cases g
  | fin s c' q' =>
    rw [q_ff _ _ _ _ _ _ hc]
    exact rr_nn _ _ _ _
theorem lk_nn {t u : mT} (hw : tWF 300 t) (hu : tWF 300 u) {P : mP} {x y : Nat} (hx : tIn t x = true) (hy : tIn u y = true) : Jvm.FP.Core.val32 (lkM t u P x y) ≠ Jvm.FP.Core.Datum.nan := by
  have b1 := blw_le hw hx
  have b2 := blw_le hu hy
  have c1 := cC_le hw P x y (u := u)
  unfold lkM
  by_cases c : blw t x + blw u y = 0
  · rw [if_pos c]
    show Jvm.FP.Core.val32 0 ≠ _
    decide
  · rw [if_neg c]
    exact fq_nn (by omega) (by omega) c
noncomputable def gLv (kd idn : Nat → Int32) (fr : List mT) (A B C E : Int32) : UInt32 := match lstAt fr A, lstAt fr B with
  | some t, some u => lkM t u (MTd kd idn t u) C.toInt.toNat E.toInt.toNat
  | some _, none => 0
  | none, _ => 0
theorem stP_60 {h : tpH} {x p D mk n : Nat} {kd idn : Nat → Int32} {dr : Option mT} {r : mRe} (hP : stP h x p D mk kd idn dr r n) (hxp : x < p) (hpD : p + 101 ≤ D) (hDz : D ≤ hZ h) {G : Nat → Nat → Int32} (f : htFr p (hI h) G) : stP (wI h G) x p D mk kd idn dr r n := by
  obtain ⟨l, hMa, hDr, hno, F1, F2, F3, F4, F5, F6, F7, F8⟩ := hP
  have f1 : hFr h (wI h G) (fun c _ => c = p + 60) (fun _ _ => False) := hFr_w h _ (fun c j hc => f c j hc)
  have eI : ∀ c, c ≠ p + 60 → G c = hI h c := fun c hc => funext fun k => f c k hc
  refine ⟨l, MaP_k hMa (fun c c1 c2 => eI c (by omega)), DrP_k hDr (fun c c1 c2 => eI c (by omega)), fun k hk => by rw [wI_I, eI (p + 68) (by omega)]; exact hno k hk, FoP_fr F1 (by omega) hpD hDz f1 (fun g => by omega) (fun c k hc g => by omega) (fun c k hc g => g.elim) (fun k _ g => g.elim), F2, ScP_fr F3 hxp (by omega) f1 (fun c k hc => ⟨fun g => by omega, fun g => g.elim⟩) (fun g => by omega) (fun k _ g => g.elim), by rw [wI_I, eI x (by omega)]; exact F4, fun k hk => by rw [wI_I, eI (p + 71) (by omega)]; exact F5 k hk, CfP_fr F6 (by omega) f1 (fun c k hc => ⟨fun g => by omega, fun g => g.elim⟩) (fun _ _ e => Or.inl e), HiP_fr F7 (by rw [wI_I, eI (p + 90) (by omega)]) (fun c c1 c2 => eI c (by omega)), ?_⟩
  rcases F8 with g | ⟨i', j', t', u', a', b', g, q, m⟩
  · exact Or.inl g
  · exact Or.inr ⟨i', j', t', u', a', b', g, q, McP_ht f m⟩
theorem p_TP_like {h : tpH} {x p D mk n : Nat} {kd idn : Nat → Int32} {dr : Option mT} {r : mRe} {rt : Nat → Bool} (hP : stP h x p D mk kd idn dr r n) (hxp : x < p) (hpD : p + 101 ≤ D) (hDz : D ≤ hZ h) (hm : mIn mk kd rt dr r) {A B C E : Int32} {X : String → tpH → Prop} {R : UInt32 → tpH → Prop} (x1 : gC kd idn r.1 A B (fun t u => nIn t C && nIn u E) = 1 → X "java/lang/IndexOutOfBoundsException" (nC h 0 0 6)) (x2 : gC kd idn r.1 A B (fun t u => nIn t C && nIn u E) = 2 → X "java/lang/IllegalStateException" (nC h 0 0 6)) (kk : gC kd idn r.1 A B (fun t u => nIn t C && nIn u E) = 0 → Jvm.FP.Core.val32 (gLv kd idn r.1 A B C E) ≠ Jvm.FP.Core.Datum.nan → ∀ h', stP h' x p D mk kd idn dr r n → hFr h h' (seT p) (seU p) → hZ h' = hZ h → hU h' = hU h → R (gLv kd idn r.1 A B C E) h') : w_TP_likeness x A B C E h X R := by
  have hwf := mIn_wf hm
  have hmm := mIn_mm hm
  refine ⟨hP.1.1, p_tree hP.1 hP.2.2.2.2.1 (fun e => x1 (gC_2 e)) (fun i t a mk1 e hi hl ha b1 b2 b3 b4 b5 => ⟨hP.1.1, p_tree hP.1 hP.2.2.2.2.1 (fun e' => x1 (gC_3 e')) (fun j u b mk2 e' hj hl' hb d1 d2 d3 d4 d5 => ⟨hP.1.1, ?_⟩)⟩)⟩
  have hwt := hwf i t hi
  have hwu := hwf j u hj
  have l3 := pO_le hwt
  have l4 := pO_le hwu
  have ec := gC_1 (kd := kd) (idn := idn) (f := fun t u => nIn t C && nIn u E) hl hl'
  have ev : gLv kd idn r.1 A B C E = lkM t u (MTd kd idn t u) C.toInt.toNat E.toInt.toNat := by
    unfold gLv
    rw [hl, hl']
  rw [ec] at x1 x2 kk
  rw [ev] at kk
  refine p_held (o := x) b1 l3 b3 hwt b2 b4 (fun g1 => ⟨hP.1.1, p_held (o := x) d1 l4 d3 hwu d2 d4 (fun g1' => ⟨hP.1.1, ?_⟩) (fun g1' => x1 (if_neg (by show ¬ (nIn t C && nIn u E) = true; rw [g1', Bool.and_false]; exact Bool.false_ne_true)))⟩) (fun g1 => x1 (if_neg (by show ¬ (nIn t C && nIn u E) = true; rw [g1]; exact Bool.false_ne_true)))
  have gg : (fun (t : mT) (u : mT) => nIn t C && nIn u E) t u = true := by show (nIn t C && nIn u E) = true; rw [g1, g1']; rfl
  rw [if_pos gg] at x2 kk
  refine p_lkr (D := D) hP.1 hP.2.1 hm.1 b1 b3 d1 d3 hwt hwu b2 d2 (hmm i t hi) (hmm j u hj) (fun g2 => ⟨hP.1.1, ?_⟩) (fun g2 => x2 (if_neg (by rw [g2]; exact Bool.false_ne_true)))
  have kk := kk (if_pos g2)
  have v0 : hR h x 8 = some (p + 50) ∧ hT h (p + 50) = 6 := by
    obtain ⟨t0, m0, m1, c0, c1, c2, c3, c4, c5, c6, c7, l0, l1, v0, v1, _⟩ := id hP.1
    exact ⟨v0, v1.1⟩
  refine ⟨p + 50, v0.1, v0.2, p_setS hP hxp hpD hDz hm hi hj ha hb b1 b3 b5.1 b4 d1 d3 d5.1 d4 b2 d2 (fun h' P' f' z' u' X' C' M' => ⟨P'.1.1, a, rfl, X'.2.1.1.1, ?_⟩)⟩
  rcases nIn_c hwt (C := C) with ⟨m, em, m3, hmi, hb', em2⟩ | ⟨hb', _⟩
  · rcases nIn_c hwu (C := E) with ⟨m', em', m3', hmi', hb'', em2'⟩ | ⟨hb'', _⟩
    · have b4m := b4 m hmi
      have d4m := d4 m' hmi'
      show w_Tr_placeOf a C (wI h' (hI h')) _
      rw [e_Tr_placeOf X'.2.1.1 l3 b3, em, rAt_n b4m (by omega), C'.2.1.2.2 m b4m, if_pos hmi]
      refine ⟨b, rfl, X'.2.2.1.1.1, ?_⟩
      rw [e_Tr_placeOf X'.2.2.1.1 l4 d3, em', rAt_n d4m (by omega), C'.2.2.2.2 m' d4m, if_pos hmi']
      have v0' : hR h' x 8 = some (p + 50) ∧ hT h' (p + 50) = 6 := by
        obtain ⟨t0, m0, m1, c0, c1, c2, c3, c4, c5, c6, c7, l0, l1, v0, v1, _⟩ := id P'.1
        exact ⟨v0, v1.1⟩
      have ok := MTd_ok (kd := kd) (idn := idn) hwt hwu
      rw [em2, em2'] at kk
      refine ⟨p + 50, v0'.1, v0'.2, v0'.2, p_hits X' C' M' ok hmi (fun G g1 g2 => ⟨a, rfl, X'.2.1.1.1, ?_⟩)⟩
      rw [e_belo X'.2.1.1 b3 hwt (MXF_fr X' C' (htFr_s g1)).2.1 hmi]
      refine ⟨v0'.2, p_lkh X' (MXF_fr X' C' (htFr_s g1)) ok hmi hmi' g2 ?_⟩
      refine kk (lk_nn hwt hwu hmi hmi') _ (stP_60 P' hxp hpD (by rw [z']; exact hDz) g1) ⟨f'.1, fun c hc => ?_⟩ z' u'
      obtain ⟨q1, q2, q3, q4, q5, q6⟩ := f'.2 c hc
      exact ⟨q1, q2, q3, q4, fun k hk => (g1 c k (by unfold seT at hk; omega)).trans (q5 k hk), q6⟩
    · rw [g1'] at hb''
      cases hb''
  · rw [g1] at hb'
    cases hb'
theorem p_Md_like {h : tpH} {Q q mk : Nat} {kd idn : Nat → Int32} (M : lMd h Q q) (hQ : Q < q) {F : Nat → Nat → Int32} (hM : MaM F Q q mk kd idn) (hk : mk ≤ 300) {fr : List mT} (hF : FoM F Q q fr) (hw : ∀ (i : Nat) (t : mT), fr[i]? = some t → tWF 300 t) (hmk : ∀ (i : Nat) (t : mT), fr[i]? = some t → ∀ m, tIn t m = true → m < mk) {A B C E : Int32} {R : UInt32 → tpH → Prop} (x1 : gC kd idn fr A B (fun t u => nIn t C && nIn u E) = 1 → ∀ v G, G Q 31 = 1 → oFr Q q F G → R v (wI h G)) (x2 : gC kd idn fr A B (fun t u => nIn t C && nIn u E) = 2 → ∀ v G, G Q 31 = 2 → oFr Q q F G → R v (wI h G)) (kk : gC kd idn fr A B (fun t u => nIn t C && nIn u E) = 0 → ∀ G, G Q 31 = 0 → mt2 Q q F G → R (gLv kd idn fr A B C E) (wI h G)) : w_Md_likeness Q A B C E (wI h F) R := by
  have h40 := hF.2.1
  have go : ∀ t0 : Int32, (t0 = 0 ∨ t0 = 1) → (∀ t u, lstAt fr A = some t → lstAt fr B = some u → ((nIn t C && nIn u E) = true ↔ t0 = 1)) → w_Md_likeness_43 R Q A B C E t0 B A (some Q) (wI h F) := fun t0 ht0 hf => by
    refine ⟨Q, rfl, M.1, p_Mms M hQ hM hk hF hw hmk ht0 (f := fun t u => nIn t C && nIn u E) hf (fun g G g1 g2 => ⟨fun _ => x1 g _ G g1 g2, fun q => absurd rfl q⟩) (fun g G g1 g2 => ⟨fun _ => x2 g _ G g1 g2, fun q => absurd rfl q⟩) (fun g G t u s s' e1 e2 eA eB g1 g2 X C' M' => ⟨fun q => absurd q (by decide), fun _ => ⟨M.1, ?_⟩⟩)⟩
    have ec := gC_1 (kd := kd) (idn := idn) (f := fun t u => nIn t C && nIn u E) e1 e2
    rw [g] at ec
    have hb : (nIn t C && nIn u E) = true := Classical.byContradiction (fun q => by
      rw [if_neg (show ¬ (fun (t : mT) (u : mT) => nIn t C && nIn u E) t u = true from q)] at ec
      omega)
    rw [Bool.and_eq_true] at hb
    have hwt := hw _ t (lst_some e1).2.1
    have hwu := hw _ u (lst_some e2).2.1
    rcases nIn_c hwt (C := C) with ⟨m, em, m3, hmi, _, em2⟩ | ⟨hb', _⟩
    · rcases nIn_c hwu (C := E) with ⟨m', em', m3', hmi', _, em2'⟩ | ⟨hb', _⟩
      · have kv := kk g G g1 g2
        have ev : gLv kd idn fr A B C E = lkM t u (MTd kd idn t u) m m' := by
          unfold gLv
          rw [e1, e2, em2, em2']
        rw [ev] at kv
        rw [eA, eB, em, em']
        exact p_Mlike X C' M' (MTd_ok hwt hwu) hmi hmi' kv
      · rw [hb.2] at hb'
        cases hb'
    · rw [hb.1] at hb'
      cases hb'
  have nIs : ∀ {t : mT} {D : Int32} {m' : Nat}, tWF 300 t → D = nI m' → m' < 300 → tIn t m' = true → nIn t D = true := fun {t D m'} hwt em hm3 hi => by
    rcases nIn_c hwt (C := D) with ⟨m, _, _, _, hb, _⟩ | ⟨_, hno⟩
    · exact hb
    · rw [hno m' (by omega) em] at hi
      cases hi
  have nIs0 : ∀ {t : mT} {D : Int32}, tWF 300 t → (∀ m, m < 300 → D = nI m → tIn t m = false) → nIn t D = false := fun {t D} hwt g => by
    rcases nIn_c hwt (C := D) with ⟨m, em, m3, hi, _, _⟩ | ⟨hb', _⟩
    · rw [g m m3 em] at hi
      cases hi
    · exact hb'
  refine ⟨M.1, ?_⟩
  rw [e_Md_isTree M hF.2.1 hF.1]
  cases e : lstAt fr A with
  | none =>
    rw [if_neg (lst_none e)]
    exact ⟨fun _ => go 0 (Or.inl rfl) (fun t u e1 _ => by rw [e] at e1; cases e1), fun g => absurd rfl g⟩
  | some t =>
    obtain ⟨c1, c2, c3⟩ := lst_some e
    rw [if_pos c1]
    have hwt := hw _ t c2
    refine ⟨fun g => absurd g (by decide), fun _ => ⟨M.1, ?_⟩⟩
    have hP := hF.2.2 _ t c2
    have no0 : nIn t C = false → w_Md_likeness_43 R Q A B C E 0 B A (some Q) (wI h F) := fun nc => go 0 (Or.inl rfl) (fun t' u e1 _ => by
      rw [e] at e1
      rw [← Option.some.inj e1, nc, Bool.false_and]
      exact ⟨fun q => (by cases q), fun q => absurd q (by decide)⟩)
    have inner : nIn t C = true → w_Md_isTree Q B (wI h F) (fun v11 h10 => (v11 = 0 → (w_Md_likeness_43 R Q A B C E (0 : Int32) B A (some Q) h10)) ∧ (¬ v11 = 0 → (hT h10 Q = 14 ∧ (w_Md_has Q B E h10 (fun v15 h14 => (v15 = 0 → (w_Md_likeness_43 R Q A B C E (0 : Int32) B A (some Q) h14)) ∧ (¬ v15 = 0 → (w_Md_likeness_43 R Q A B C E (1 : Int32) B A (some Q) h14))))))) := fun cI => by
      rw [e_Md_isTree M hF.2.1 hF.1]
      cases e2 : lstAt fr B with
      | none =>
        rw [if_neg (lst_none e2)]
        exact ⟨fun _ => go 0 (Or.inl rfl) (fun t u _ e1 => by rw [e2] at e1; cases e1), fun g => absurd rfl g⟩
      | some u =>
        obtain ⟨d1, d2, d3⟩ := lst_some e2
        rw [if_pos d1]
        have hwu := hw _ u d2
        refine ⟨fun g => absurd g (by decide), fun _ => ⟨M.1, ?_⟩⟩
        have hP2 := hF.2.2 _ u d2
        have hasB := p_Md_has (s := B.toInt.toNat) (x := E) M (by omega) hk (mk := mk) hM.1 (inn := tIn u) (fun m' hm' => mt_in hP2 hwu m' (by omega)) (hmk _ u d2) (R := fun v15 h14 => (v15 = 0 → (w_Md_likeness_43 R Q A B C E (0 : Int32) B A (some Q) h14)) ∧ (¬ v15 = 0 → (w_Md_likeness_43 R Q A B C E (1 : Int32) B A (some Q) h14))) (fun m2 em2 hm32 hi2 => ⟨fun g => absurd g (by decide), fun _ => go 1 (Or.inr rfl) (fun t' u' q1 q2 => by
          rw [e] at q1
          rw [e2] at q2
          rw [← Option.some.inj q1, ← Option.some.inj q2, cI, nIs hwu em2 hm32 hi2]
          exact ⟨fun _ => rfl, fun _ => rfl⟩)⟩) (fun g => ⟨fun _ => go 0 (Or.inl rfl) (fun t' u' q1 q2 => by
          rw [e] at q1
          rw [e2] at q2
          rw [← Option.some.inj q1, ← Option.some.inj q2, nIs0 hwu g, Bool.and_false]
          exact ⟨fun q => (by cases q), fun q => absurd q (by decide)⟩), fun q => absurd rfl q⟩)
        rw [← d3] at hasB
        exact hasB
    have key : ∀ s : Nat, A = nI s → s < 42 → MtP F q s t → w_Md_has Q A C (wI h F) (fun v7 h6 => (v7 = 0 → (w_Md_likeness_43 R Q A B C E (0 : Int32) B A (some Q) h6)) ∧ (¬ v7 = 0 → (hT h6 Q = 14 ∧ (w_Md_isTree Q B h6 (fun v11 h10 => (v11 = 0 → (w_Md_likeness_43 R Q A B C E (0 : Int32) B A (some Q) h10)) ∧ (¬ v11 = 0 → (hT h10 Q = 14 ∧ (w_Md_has Q B E h10 (fun v15 h14 => (v15 = 0 → (w_Md_likeness_43 R Q A B C E (0 : Int32) B A (some Q) h14)) ∧ (¬ v15 = 0 → (w_Md_likeness_43 R Q A B C E (1 : Int32) B A (some Q) h14))))))))))) := fun s eA hs hPs => by
      have q := p_Md_has (s := s) (x := C) M hs hk (mk := mk) hM.1 (inn := tIn t) (fun m' hm' => mt_in hPs hwt m' (by omega)) (hmk _ t c2) (R := fun v7 h6 => (v7 = 0 → (w_Md_likeness_43 R Q A B C E (0 : Int32) B A (some Q) h6)) ∧ (¬ v7 = 0 → (hT h6 Q = 14 ∧ (w_Md_isTree Q B h6 (fun v11 h10 => (v11 = 0 → (w_Md_likeness_43 R Q A B C E (0 : Int32) B A (some Q) h10)) ∧ (¬ v11 = 0 → (hT h10 Q = 14 ∧ (w_Md_has Q B E h10 (fun v15 h14 => (v15 = 0 → (w_Md_likeness_43 R Q A B C E (0 : Int32) B A (some Q) h14)) ∧ (¬ v15 = 0 → (w_Md_likeness_43 R Q A B C E (1 : Int32) B A (some Q) h14)))))))))))
        (fun m' em hm3 hi => ⟨fun g => absurd g (by decide), fun _ => ⟨M.1, inner (nIs hwt em hm3 hi)⟩⟩) (fun g => ⟨fun _ => no0 (nIs0 hwt g), fun q => absurd rfl q⟩)
      rw [← eA] at q
      exact q
    exact key _ c3 (by omega) hP
/-! the law's call -/
theorem lw_sF {b L z k : Nat} {xs : Nat → Int32} {h : tpH} {mk : Nat} {kd idn : Nat → Int32} {dr : Option mT} {r : mRe} {mk' : Nat} {kd' idn' : Nat → Int32} {dr' : Option mT} {r' : mRe} (H : lwM b L z xs k h mk kd idn dr r mk' kd' idn' dr' r') (a j : Nat) (v : UInt64) : lwM b L z xs k (sF h a j v) mk kd idn dr r mk' kd' idn' dr' r' := H
theorem lw_like {b L z : Nat} {xs : Nat → Int32} (hL0 : L ≤ 3072) : lwOK (lwI b L z xs) b z (z + 102) (z + 149) (z + 150) L w_Lw_law_1764 := by
  intro R K k h I h6 kk
  obtain ⟨hb, hC, mk, kd, idn, rt, dr, r, n, hm, hP, hM, hB⟩ := I
  have vp : ∀ j, j < 6 → ∀ h', lwC b L z xs h' → vp_in (nI (6 * k) + nI j) (hL h' b) := fun j hj h' hC => lw_vp hL0 hC.2.2.2.1 h6 hj
  have hz := hB.2.1
  have hwf := mIn_wf hm
  refine ⟨b, rfl, hC.2.2.1, vp 1 (by decide) h hC, vp 2 (by decide) h hC, vp 3 (by decide) h hC, vp 4 (by decide) h hC, z, rfl, hP.1.1, ?_⟩
  rw [hC.2.2.2.2]
  generalize e1 : xs (nI (6 * k) + 1).toNatClampNeg = A1
  generalize e2 : xs (nI (6 * k) + 2).toNatClampNeg = A2
  generalize e3 : xs (nI (6 * k) + 3).toNatClampNeg = A3
  generalize e4 : xs (nI (6 * k) + 4).toNatClampNeg = A4
  refine p_TP_like hP (by omega) (by omega) hz hm (fun e => Or.inl ⟨rfl, ?_⟩) (fun e => Or.inr ⟨rfl, ?_⟩) (fun e nn h' P' f zz uu => ?_)
  · have H := lw_exc (k := k) hb hC hm hP hM hB
    obtain ⟨-, hC7, hM7, -⟩ := id H
    refine ⟨hC7.2.2.1, vp 1 (by decide) _ hC7, vp 2 (by decide) _ hC7, vp 3 (by decide) _ hC7, vp 4 (by decide) _ hC7, z + 102, rfl, hM7.1.1, ?_⟩
    rw [hC7.2.2.2.2, e1, e2, e3, e4]
    refine p_Md_like hM7.1 (by omega) hM7.2.1 hm.1 hM7.2.2.2.1 hwf (mIn_mm hm) (fun _ v G k1 k2 => ?_) (fun e' => absurd (e.symm.trans e') (by decide)) (fun e' => absurd (e.symm.trans e') (by decide))
    exact ⟨hM7.1.1, hM7.1.1, fun _ => ⟨fun _ => kk _ (lw_fin H (fun c j hj => k2 c j (by omega)) (stM_31 hM7 (by omega) hwf k2)), fun g => absurd g (by decide)⟩, fun g => absurd k1 g⟩
  · have H := lw_exc (k := k) hb hC hm hP hM hB
    obtain ⟨-, hC7, hM7, -⟩ := id H
    refine ⟨hC7.2.2.1, vp 1 (by decide) _ hC7, vp 2 (by decide) _ hC7, vp 3 (by decide) _ hC7, vp 4 (by decide) _ hC7, z + 102, rfl, hM7.1.1, ?_⟩
    rw [hC7.2.2.2.2, e1, e2, e3, e4]
    refine p_Md_like hM7.1 (by omega) hM7.2.1 hm.1 hM7.2.2.2.1 hwf (mIn_mm hm) (fun e' => absurd (e.symm.trans e') (by decide)) (fun _ v G k1 k2 => ?_) (fun e' => absurd (e.symm.trans e') (by decide))
    exact ⟨hM7.1.1, hM7.1.1, fun _ => ⟨fun _ => kk _ (lw_fin H (fun c j hj => k2 c j (by omega)) (stM_31 hM7 (by omega) hwf k2)), fun g => absurd g (by decide)⟩, fun g => absurd k1 g⟩
  · have hC' := lwC_fr hC hb hz f (fun j g => by unfold seT at g; omega)
    have n64 := f2_nn nn
    have ok64 := vd_ok n64
    have v0 : vp_in (0 : Int32) 1 := vp_in_nI (n := 0) (by decide) (by decide)
    refine ⟨ok64, z + 150, rfl, hC'.2.1.1, by rw [hC'.2.1.2]; exact v0, fun h12 e12 => ?_⟩
    rw [e12]
    have H := lw_sF (lw_cls (k := k) hb hC hm hM hB f (fun c j g => by unfold seT at g; omega) (fun c j g => by unfold seU at g; omega) hm P' ⟨Nat.le_refl _, hB.1⟩ (by omega) (by omega)) (z + 150) (0 : Int32).toNatClampNeg (FP.f2d (gLv kd idn r.1 A1 A2 A3 A4))
    obtain ⟨-, hC7, hM7, -⟩ := id H
    refine ⟨hC7.2.2.1, vp 1 (by decide) _ hC7, vp 2 (by decide) _ hC7, vp 3 (by decide) _ hC7, vp 4 (by decide) _ hC7, z + 102, rfl, hM7.1.1, ?_⟩
    rw [hC7.2.2.2.2, e1, e2, e3, e4]
    refine p_Md_like hM7.1 (by omega) hM7.2.1 hm.1 hM7.2.2.2.1 hwf (mIn_mm hm) (fun e' => absurd (e.symm.trans e') (by decide)) (fun e' => absurd (e.symm.trans e') (by decide)) (fun _ G k1 k2 => ?_)
    have fin := kk _ (lw_fin H (fun c j hc => k2 c j (by omega)) (stM_al hM7 (by omega) hwf k2))
    refine ⟨hM7.1.1, hM7.1.1, fun _ => ⟨fun g => absurd rfl g, fun _ => ⟨z + 150, rfl, hC7.2.1.1, by rw [wI_L, hC7.2.1.2]; exact v0, ok64, fun _ => fin, fun g => absurd ?_ g⟩⟩, fun g => absurd k1 g⟩
    show Op.cmpValue (FP.dcmp (tpu (hF h') (z + 150) _ (FP.f2d (gLv kd idn r.1 A1 A2 A3 A4)) (z + 150) (0 : Int32).toNatClampNeg) _) .l = 0
    rw [tpu_s]
    show Op.cmpValue (Jvm.FP.Core.dcmp _ _) .l = 0
    rw [Jvm.FP.Core.dcmp_self n64]
    rfl
end LIKEC
