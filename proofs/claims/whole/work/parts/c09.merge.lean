section MERGECASE
def mgK (fr : List mT) (A B C : Int32) : Nat := match lstAt fr A with
  | none => 1
  | some t => match lstAt fr B with
    | none => 1
    | some u => match lstAt fr C with
      | none => 1
      | some v => if tRt u = tRt t ∧ tRt v = tRt t then (if fr.length = 40 then 2 else 0) else 2
theorem mgK_1 {fr : List mT} {A B C : Int32} (h : lstAt fr A = none) : mgK fr A B C = 1 := by
  unfold mgK
  rw [h]
theorem mgK_2 {fr : List mT} {A B C : Int32} {t : mT} (h1 : lstAt fr A = some t) (h : lstAt fr B = none) : mgK fr A B C = 1 := by
  unfold mgK
  rw [h1, h]
theorem mgK_3 {fr : List mT} {A B C : Int32} {t u : mT} (h1 : lstAt fr A = some t) (h2 : lstAt fr B = some u) (h : lstAt fr C = none) : mgK fr A B C = 1 := by
  unfold mgK
  rw [h1, h2, h]
theorem mgK_s {fr : List mT} {A B C : Int32} {t u v : mT} (h1 : lstAt fr A = some t) (h2 : lstAt fr B = some u) (h3 : lstAt fr C = some v) : mgK fr A B C = if tRt u = tRt t ∧ tRt v = tRt t then (if fr.length = 40 then 2 else 0) else 2 := by
  unfold mgK
  rw [h1, h2, h3]
theorem md_cf {mk R : Nat} {po : Nat → Int32} {b l r : mT} (H : mgH mk R b l r) {P : Nat × Nat → Prop} (p3 : ∀ m, m < mk → P (3, m)) (p4 : ∀ m, m < mk → P (4, m)) : ∀ (n : Nat) (s : mgS), mgI mk R po b l r s → (∀ e ∈ sCf s, P e) → ∀ e ∈ sCf (mdR mk b n s), P e
  | 0, s, I, hs => hs
  | n + 1, s, I, hs => by
    show ∀ e ∈ sCf (match mdS mk b s with
      | none => s
      | some s' => mdR mk b n s'), P e
    cases st : mdS mk b s with
    | none => exact hs
    | some s' =>
      refine md_cf H p3 p4 n s' (mdS_s H I st).1 ?_
      unfold mdS at st
      cases ho : orpO mk s with
      | some m =>
        rw [ho] at st
        have st : some (lostS b s ((sUp s m).getD 0)) = some s' := st
        rw [← Option.some.inj st]
        obtain ⟨y, g1, g2, g3, g4⟩ := orp_s ho
        intro e he
        have he : e ∈ sCf s ++ [(3, (sUp s m).getD 0)] := he
        rcases List.mem_append.mp he with g | g
        · exact hs e g
        · rw [List.mem_singleton.mp g, g3]
          exact p3 y (up_lt H I g3)
      | none =>
        rw [ho] at st
        cases hr : rngO mk s with
        | none => rw [hr] at st; cases st
        | some m =>
          rw [hr] at st
          have st : some (ringS mk b s m) = some s' := st
          rw [← Option.some.inj st]
          intro e he
          have he : e ∈ sCf s ++ ((List.range mk).filter (fun k => rgC (sUp s) m k && tIn b k)).map (fun k => (4, k)) := he
          rcases List.mem_append.mp he with g | g
          · exact hs e g
          · obtain ⟨k, k1, k2⟩ := List.mem_map.mp g
            rw [← k2]
            exact p4 k (List.mem_range.mp (List.mem_filter.mp k1).1)
theorem mgCfl_I {mk R : Nat} {po : Nat → Int32} {b l r : mT} (H : mgH mk R b l r) (lo : Nat → Bool) : (mgCfl po mk R b l r lo).length ≤ 92000 ∧ ∀ e ∈ mgCfl po mk R b l r lo, e.1 < 6 ∧ e.2 < 300 := by
  obtain ⟨I, Eg, hl, _⟩ := mgF_I (po := po) H
  have hk := H.2.2.1
  have hT : tWF 300 (mgRes po mk R b l r lo) := mgTr_wf H I Eg lo
  refine ⟨?_, fun e he => ?_⟩
  · unfold mgCfl
    rw [List.length_append, List.length_map]
    have h1 := List.length_filter_le (orB po b l r (mgF po mk b l r) lo) (pO (mgRes po mk R b l r lo))
    have h2 := pO_le hT
    omega
  · unfold mgCfl at he
    rcases List.mem_append.mp he with g | g
    · refine md_cf (P := fun e => e.1 < 6 ∧ e.2 < 300) H (fun m hm => ⟨Nat.le_of_ble_eq_true rfl, by show m < 300; omega⟩) (fun m hm => ⟨Nat.le_of_ble_eq_true rfl, by show m < 300; omega⟩) 601 (mg0 po b l r mk) (mg0_I H) (fun e he => ?_) e g
      obtain ⟨m, m1, m2⟩ := List.mem_flatMap.mp (show e ∈ (List.range mk).flatMap (fun m => (mgD po b l r m).2) from he)
      have m1 := List.mem_range.mp m1
      have one : ∀ (s : mT) (w : Int32), e ∈ (mg1 po b s w m).2 → e.1 < 6 ∧ e.2 < 300 := fun s w g => by
        unfold mg1 at g
        by_cases cb : tIn b m = true
        · rw [if_pos cb] at g
          by_cases ct : mgTch b s m = true
          · rw [if_pos ct] at g
            rw [List.mem_singleton.mp g]
            exact ⟨Nat.le_of_ble_eq_true rfl, by show m < 300; omega⟩
          · rw [if_neg ct] at g; cases g
        · rw [if_neg cb] at g; cases g
      unfold mgD at m2
      by_cases cl : tIn l m = true
      · rw [if_pos cl] at m2
        by_cases cr : tIn r m = true
        · rw [if_pos cr] at m2
          have m2 : e ∈ (if (mgV po b l r m).2 = true then [(1, m)] else []) ++ (if (mgU po b l r m).2 = true then [(2, m)] else []) := m2
          rcases List.mem_append.mp m2 with g | g
          · by_cases c : (mgV po b l r m).2 = true
            · rw [if_pos c] at g
              rw [List.mem_singleton.mp g]
              exact ⟨Nat.le_of_ble_eq_true rfl, by show m < 300; omega⟩
            · rw [if_neg c] at g; cases g
          · by_cases c : (mgU po b l r m).2 = true
            · rw [if_pos c] at g
              rw [List.mem_singleton.mp g]
              exact ⟨Nat.le_of_ble_eq_true rfl, by show m < 300; omega⟩
            · rw [if_neg c] at g; cases g
        · rw [if_neg cr] at m2; exact one l 1 m2
      · rw [if_neg cl] at m2
        by_cases cr : tIn r m = true
        · rw [if_pos cr] at m2; exact one r 2 m2
        · rw [if_neg cr] at m2; cases m2
    · obtain ⟨m, m1, m2⟩ := List.mem_map.mp g
      rw [← m2]
      exact ⟨(by decide : (5 : Nat) < 6), hT.1.1 m ((pO_mem hT).mp (List.mem_filter.mp m1).1)⟩
theorem mIn_mg {mk : Nat} {kd : Nat → Int32} {rt : Nat → Bool} {dr : Option mT} {r : mRe} (H : mIn mk kd rt dr r) {t : mT} (ht : trI mk kd rt t) {cf : List (Nat × Nat)} (hc : cf.length ≤ 92000 ∧ ∀ e ∈ cf, e.1 < 6 ∧ e.2 < 300) : mIn mk kd rt dr (r.1 ++ [t], r.2.1, r.2.2.1, r.2.2.2.1, cf, r.2.2.2.2.2) := by
  obtain ⟨H1, H2, H3, H4, H5, H6, H7, H8⟩ := mIn_keep H ht
  exact ⟨H1, H2, H3, H4, H5, hc, H7, H8⟩
theorem p_root {h : tpH} {a k : Nat} {t : mT} (l1 : lTr h a (pO t).length k) (l2 : k ≤ 300) (l3 : TrP (hI h) a t k) (l4 : tWF 300 t) {R : Int32 → tpH → Prop} (kk : R (nI (tRt t)) h) : w_Tr_markOf a (0 : Int32) h R := by
  have p0 := pl_lt l4 l4.2.1
  rw [pl_rt l4] at p0
  have m0 := (l3.2.1 _ l4.2.1).1
  rw [pl_rt l4] at m0
  have pq := pO_le l4
  show w_Tr_markOf a (nI 0) (wI h (hI h)) R
  rw [e_Tr_markOf l1 pq l2, rAt_n p0 (by omega), m0]
  exact kk
/-- are their roots the same -/
theorem p_sameR {h : tpH} {o a1 a2 a3 k1 k2 k3 : Nat} {t1 t2 t3 : mT} (l1 : lTr h a1 (pO t1).length k1 ∧ TrP (hI h) a1 t1 k1 ∧ k1 ≤ 300) (l2 : lTr h a2 (pO t2).length k2 ∧ TrP (hI h) a2 t2 k2 ∧ k2 ≤ 300) (l3 : lTr h a3 (pO t3).length k3 ∧ TrP (hI h) a3 t3 k3 ∧ k3 ≤ 300) (w1 : tWF 300 t1) (w2 : tWF 300 t2) (w3 : tWF 300 t3) {X : String → tpH → Prop} {R : tpH → Prop} (k1' : tRt t2 = tRt t1 ∧ tRt t3 = tRt t1 → R h) (k0 : ¬ (tRt t2 = tRt t1 ∧ tRt t3 = tRt t1) → X "java/lang/IllegalStateException" (nC h 0 0 6)) : w_TP_needSameRoots o (some a1) (some a2) (some a3) h X R := by
  have r1 := w1.1.1 _ w1.2.1
  have r2 := w2.1.1 _ w2.2.1
  have r3 := w3.1.1 _ w3.2.1
  refine ⟨a1, rfl, l1.1.1, p_root l1.1 l1.2.2 l1.2.1 w1 ⟨a2, rfl, l2.1.1, p_root l2.1 l2.2.2 l2.2.1 w2 ⟨fun g => k0 (fun z => g (by rw [z.1])), fun g => ⟨a3, rfl, l3.1.1, p_root l3.1 l3.2.2 l3.2.1 w3 ⟨fun g2 => k1' ⟨nI_inj (by omega) (by omega) g, nI_inj (by omega) (by omega) g2⟩, fun g2 => k0 (fun z => g2 (by rw [z.2]))⟩⟩⟩⟩⟩
theorem p_TP_merge {h : tpH} {x p D mk n : Nat} {kd idn : Nat → Int32} {dr : Option mT} {r : mRe} {rt : Nat → Bool} (hP : stP h x p D mk kd idn dr r n) (hxp : x < p) (hpD : p + 101 ≤ D) (hDz : D ≤ hZ h) (hm : mIn mk kd rt dr r) (hn : n ≤ 184001) {A B C : Int32} {X : String → tpH → Prop} {R : Int32 → tpH → Prop} (x1 : mgK r.1 A B C = 1 → X "java/lang/IndexOutOfBoundsException" (nC h 0 0 6)) (x2 : mgK r.1 A B C = 2 → X "java/lang/IllegalStateException" (nC h 0 0 6)) (kk : mgK r.1 A B C = 0 → ∀ t u v, lstAt r.1 A = some t → lstAt r.1 B = some u → lstAt r.1 C = some v → mgH mk (tRt t) t u v → ∀ h' n' e0 e1, mIn mk kd rt dr (r.1 ++ [mgRes r.2.2.2.1 mk (tRt t) t u v (loK kd)], r.2.1, r.2.2.1, r.2.2.2.1, mgCfl r.2.2.2.1 mk (tRt t) t u v (loK kd), r.2.2.2.2.2) → stP h' x p D mk kd idn dr (r.1 ++ [mgRes r.2.2.2.1 mk (tRt t) t u v (loK kd)], r.2.1, r.2.2.1, r.2.2.2.1, mgCfl r.2.2.2.1 mk (tRt t) t u v (loK kd), r.2.2.2.2.2) n' → n ≤ n' ∧ n' ≤ 184001 → cfE p D (hZ h) e0 e1 → hFr h h' (mkT x p (hZ h) e0 e1) (mkU p r.1.length) → hZ h' ≤ hZ h + 19 + (n' - n) → hU h' ≤ hU h + 2728 + 4 * (n' - n) → R (nI r.1.length) h') : w_TP_merge x A B C h X R := by
  have hwf := mIn_wf hm
  have F := hP.2.2.2.2.1
  refine ⟨hP.1.1, p_tree hP.1 F (fun e => x1 (mgK_1 e)) (fun i t a k1 e hi hl ha b1 b2 b3 b4 b5 => ⟨hP.1.1, p_tree hP.1 F (fun e' => x1 (mgK_2 hl e')) (fun j u c k2 e' hj hl' hc d1 d2 d3 d4 d5 => ⟨hP.1.1, p_tree hP.1 F (fun e'' => x1 (mgK_3 hl hl' e'')) (fun y v f k3 e'' hy hl'' hf g1 g2 g3 g4 g5 => ⟨hP.1.1, ?_⟩)⟩)⟩)⟩
  have w1 := hwf i t hi
  have w2 := hwf j u hj
  have w3 := hwf y v hy
  have I1 := hm.2.2.1 t (List.mem_of_getElem? hi)
  have I2 := hm.2.2.1 u (List.mem_of_getElem? hj)
  have I3 := hm.2.2.1 v (List.mem_of_getElem? hy)
  refine p_sameR ⟨b1, b2, b3⟩ ⟨d1, d2, d3⟩ ⟨g1, g2, g3⟩ w1 w2 w3 (fun er => ⟨hP.1.1, p_TP_needRoomForTree hP.1 F.1 F.2.1 (fun hlt => ?_) (fun e40 => x2 ?_)⟩) (fun er => x2 ?_)
  · have HH : mgH mk (tRt t) t u v := ⟨⟨I1.1, I2.1, I3.1⟩, ⟨rfl, er.1, er.2⟩, hm.1, fun m g => (I1.2.1 m g).1, fun m g => (I2.2.1 m g).1, fun m g => (I3.2.1 m g).1⟩
    have k0 : mgK r.1 A B C = 0 := by
      rw [mgK_s hl hl' hl'', if_pos er, if_neg (by omega)]
    have l11 : hR h x 11 = some (p + 69) ∧ hT h (p + 69) = 7 := by
      obtain ⟨t0, r0, o0, r1, o1, r2, o2, r3, o3, r5, o5, r7, o7, r8, o8, r9, o9, r11, o11, r12, o12⟩ := id hP.1
      exact ⟨r11, o11.1⟩
    refine ⟨hP.1.1, p + 69, l11.1, l11.2, ?_⟩
    exact p_mgKeep (R := fun _ => R) hP hxp hpD hDz hm hn hlt hi hj hy ha hc hf ⟨b1, b2, b3, b4, b5⟩ ⟨d1, d2, d3, d4, d5⟩ ⟨g1, g2, g3, g4, g5⟩ ⟨rfl, er.1, er.2⟩ (fun h1 h' n' e0 e1 q1 q2 q3 q4 q5 q6 q7 => kk k0 t u v hl hl' hl'' HH h' n' e0 e1 (mIn_mg hm (mgRes_I HH r.2.2.2.1 I1 I2 I3) (mgCfl_I HH (loK kd))) q2 q3 q4 q5 q6 q7)
  · rw [mgK_s hl hl' hl'', if_pos er, if_pos e40]
  · rw [mgK_s hl hl' hl'', if_neg er]
/-! the reference -/
theorem p_Md_merge {h : tpH} {Q q mk : Nat} {kd idn : Nat → Int32} {rt : Nat → Bool} (M : lMd h Q q) (hQ : Q < q) {F : Nat → Nat → Int32} (hM : MaM F Q q mk kd idn) (hk : mk ≤ 300) {fr : List mT} (hF : FoM F Q q fr) (htr : ∀ t ∈ fr, trI mk kd rt t) {po : Nat → Int32} (hP : PoM F q po) (hpo : ∀ k, po k = 0 ∨ po k = 1 ∨ po k = 2) {A B C : Int32} {R : Int32 → tpH → Prop} (x1 : mgK fr A B C = 1 → ∀ G, G Q 31 = 1 → oFr Q q F G → R 0 (wI h G)) (x2 : mgK fr A B C = 2 → ∀ G, G Q 31 = 2 → oFr Q q F G → R 0 (wI h G)) (kk : mgK fr A B C = 0 → ∀ t u v, lstAt fr A = some t → lstAt fr B = some u → lstAt fr C = some v → ∀ G, G Q 31 = 0 → FoM G Q q (fr ++ [mgRes po mk (tRt t) t u v (loK kd)]) → CfM G Q q (mgCfl po mk (tRt t) t u v (loK kd)) → meF Q q fr.length F G → R (nI fr.length) (wI h G)) : w_Md_merge Q A B C (wI h F) R := by
  have f40 := hF.2.1
  have stop : ∀ c : Int32, ¬ c = 0 → R 0 (wI h (tpu F Q 31 c)) → w_Md_merge_53 R Q A B C c (some Q) (wI h F) := fun c hc hr => by
    refine ⟨Q, rfl, M.1, fun h4 e4 => ?_⟩
    rw [sI_wI, wI_wI, wI_I] at e4
    subst e4
    exact ⟨M.1, fun _ => hr, fun e => absurd (show tpu F Q 31 c Q 31 = 0 from e) (by rw [tpu_s]; exact hc)⟩
  obtain ⟨r1, r2, r3⟩ := md_f M (j := 2) (kd := 15) (n := 42) (f := 5) (by decide)
  refine ⟨M.1, ?_⟩
  rw [e_Md_isTree M hF.2.1 hF.1]
  cases e : lstAt fr A with
  | none =>
    rw [if_neg (lst_none e)]
    exact ⟨fun _ => stop 1 (by decide) (x1 (mgK_1 e) _ (tpu_s _ _ _ _) (oFr_t F 1)), fun g => absurd rfl g⟩
  | some t =>
    obtain ⟨c1, c2, c3⟩ := lst_some e
    rw [if_pos c1]
    refine ⟨fun g => absurd (show (1 : Int32) = 0 from g) (by decide), fun _ => ⟨M.1, ?_⟩⟩
    rw [e_Md_isTree M hF.2.1 hF.1]
    cases e2 : lstAt fr B with
    | none =>
      rw [if_neg (lst_none e2)]
      exact ⟨fun _ => stop 1 (by decide) (x1 (mgK_2 e e2) _ (tpu_s _ _ _ _) (oFr_t F 1)), fun g => absurd rfl g⟩
    | some u =>
      obtain ⟨d1, d2, d3⟩ := lst_some e2
      rw [if_pos d1]
      refine ⟨fun g => absurd (show (1 : Int32) = 0 from g) (by decide), fun _ => ⟨M.1, ?_⟩⟩
      rw [e_Md_isTree M hF.2.1 hF.1]
      cases e3 : lstAt fr C with
      | none =>
        rw [if_neg (lst_none e3)]
        exact ⟨fun g => absurd rfl g, fun _ => stop 1 (by decide) (x1 (mgK_3 e e2 e3) _ (tpu_s _ _ _ _) (oFr_t F 1))⟩
      | some v =>
        obtain ⟨g1, g2, g3⟩ := lst_some e3
        rw [if_pos g1]
        have I1 := htr t (List.mem_of_getElem? c2)
        have I2 := htr u (List.mem_of_getElem? d2)
        have I3 := htr v (List.mem_of_getElem? g2)
        have P1 := hF.2.2 _ t c2
        have P2 := hF.2.2 _ u d2
        have P3 := hF.2.2 _ v g2
        have m1 := (I1.2.1 _ I1.1.2.1).1
        have m2 := (I2.2.1 _ I2.1.2.1).1
        have m3 := (I3.2.1 _ I3.1.2.1).1
        refine ⟨fun _ => ⟨M.1, M.1, q + 2, r3, r1, ?_⟩, fun g => absurd (show (1 : Int32) = 0 from g) (by decide)⟩
        generalize A.toInt.toNat = i1 at c1 c2 c3 P1
        generalize B.toInt.toNat = i2 at d1 d2 d3 P2
        generalize C.toInt.toNat = i3 at g1 g2 g3 P3
        have n1 : i1 < fr.length := (List.getElem?_eq_some_iff.mp c2).1
        have n2 : i2 < fr.length := (List.getElem?_eq_some_iff.mp d2).1
        have n3 : i3 < fr.length := (List.getElem?_eq_some_iff.mp g2).1
        have v1 : vp_in A (hL (wI h F) (q + 2)) := by rw [wI_L, r2, c3]; exact vp_in_nI (by omega) (by decide)
        have v2 : vp_in B (hL (wI h F) (q + 2)) := by rw [wI_L, r2, d3]; exact vp_in_nI (by omega) (by decide)
        have v3 : vp_in C (hL (wI h F) (q + 2)) := by rw [wI_L, r2, g3]; exact vp_in_nI (by omega) (by decide)
        have q1 : hI (wI h F) (q + 2) A.toNatClampNeg = nI (tRt t) := by rw [c3, nI_clamp (by omega)]; exact P1.2.2.2
        have q2 : hI (wI h F) (q + 2) B.toNatClampNeg = nI (tRt u) := by rw [d3, nI_clamp (by omega)]; exact P2.2.2.2
        have q3 : hI (wI h F) (q + 2) C.toNatClampNeg = nI (tRt v) := by rw [g3, nI_clamp (by omega)]; exact P3.2.2.2
        refine ⟨v1, v2, ?_⟩
        rw [q1, q2, q3]
        have no : ¬ (tRt u = tRt t ∧ tRt v = tRt t) → w_Md_merge_53 R Q A B C 2 (some Q) (wI h F) := fun g => stop 2 (by decide) (x2 (by rw [mgK_s e e2 e3, if_neg g]) _ (tpu_s _ _ _ _) (oFr_t F 2))
        refine ⟨fun g => ⟨fun _ => no (fun z => g (by rw [z.1])), fun z => absurd rfl z⟩, fun g => ⟨v1, v3, fun g' => ⟨fun _ => no (fun z => g' (by rw [z.2])), fun z => absurd rfl z⟩, fun g' => ⟨fun z => absurd (show (1 : Int32) = 0 from z) (by decide), fun _ => ⟨M.1, fun n40 => ?_, fun g40 => ?_⟩⟩⟩⟩
        · have er : tRt u = tRt t ∧ tRt v = tRt t := ⟨(nI_inj (by omega) (by omega) g).symm, (nI_inj (by omega) (by omega) g').symm⟩
          have hlt : fr.length < 40 := Nat.lt_of_le_of_ne f40 (fun z => n40 (by rw [wI_I, hF.1, z]; rfl))
          have HH : mgH mk (tRt t) t u v := ⟨⟨I1.1, I2.1, I3.1⟩, ⟨rfl, er.1, er.2⟩, hk, fun m g => (I1.2.1 m g).1, fun m g => (I2.2.1 m g).1, fun m g => (I3.2.1 m g).1⟩
          have X : RC h Q q mk i1 i2 i3 (tRt t) t u v := ⟨⟨M, hQ⟩, ⟨by omega, by omega, by omega⟩, HH⟩
          have k0 : mgK fr A B C = 0 := by rw [mgK_s e e2 e3, if_pos er, if_neg (by omega)]
          refine ⟨Q, rfl, M.1, fun h4 e4 => ?_⟩
          rw [sI_wI, wI_wI, wI_I] at e4
          subst e4
          refine ⟨M.1, fun z => absurd (show tpu F Q 31 0 Q 31 = 0 from tpu_s _ _ _ _) z, fun _ => ?_⟩
          have o31 : ∀ c j, ¬ (c = Q ∧ j = 31) → tpu F Q 31 0 c j = F c j := fun c j hc => tpu_o hc
          have s31 : tpu F Q 31 0 Q 31 = 0 := tpu_s _ _ _ _
          generalize tpu F Q 31 0 = F1 at o31 s31
          have hwf : ∀ (i : Nat) (t : mT), fr[i]? = some t → tWF 300 t := fun i t hi => (htr t (List.mem_of_getElem? hi)).1
          have eP : ∀ {s : Nat} {t : mT}, MtP F q s t → MtP F1 q s t := fun H => MtP_fr H (fun c c1 c2 => funext fun j => o31 c j (by omega))
          have H1 : RFm F1 Q q mk i1 i2 i3 kd idn po t u v := ⟨MaM_fr hM (o31 _ _ (by omega)) (fun c hc => funext fun j => o31 c j (by omega)), fun k hk => (o31 _ _ (by omega)).trans (hP k hk), eP P1, eP P2, eP P3⟩
          have F1' : FoM F1 Q q fr := ⟨(o31 _ _ (by omega)).trans hF.1, hF.2.1, fun i t hi => eP (hF.2.2 i t hi)⟩
          rw [c3, d3, g3]
          refine p_Md_merged X H1 hpo F1' hwf hlt (fun G K1 K2 K3 K4 => ?_)
          exact kk k0 t u v e e2 e3 G (K4.trans s31) K1 K2 (fun c j hc => by rw [K3 c j hc, o31 c j (fun z => hc (Or.inl ⟨z.1, Or.inr (Or.inr (Or.inl z.2))⟩))])
        · have e40 : fr.length = 40 := nI_inj (b := 40) (by omega) (by decide) (by rw [wI_I, hF.1] at g40; exact g40)
          have er : tRt u = tRt t ∧ tRt v = tRt t := ⟨(nI_inj (by omega) (by omega) g).symm, (nI_inj (by omega) (by omega) g').symm⟩
          exact stop 2 (by decide) (x2 (by rw [mgK_s e e2 e3, if_pos er, if_pos e40]) _ (tpu_s _ _ _ _) (oFr_t F 2))
theorem stM_mg {h : tpH} {Q q mk : Nat} {kd idn : Nat → Int32} {dr : Option mT} {r : mRe} (H : stM h Q q mk kd idn dr r) (hQ : Q < q) (hw2 : ∀ t, dr = some t → tWF 300 t) (hlt : r.1.length < 40) (h100 : ∀ s ∈ r.2.1, s.length ≤ 100) {G : Nat → Nat → Int32} {t : mT} {cf : List (Nat × Nat)} (hF : FoM G Q q (r.1 ++ [t])) (hC : CfM G Q q cf) (fr : meF Q q r.1.length (hI h) G) : stM (wI h G) Q q mk kd idn dr (r.1 ++ [t], r.2.1, r.2.2.1, r.2.2.2.1, cf, r.2.2.2.2.2) := by
  obtain ⟨m1, m2, m3, m4, m5, m6, m7, m8, m9⟩ := H
  have f0 : ∀ b j, (b < q + 2 ∨ (q + 7 ≤ b ∧ b ≤ q + 18) ∨ (q + 20 ≤ b ∧ b ≤ q + 23)) → ¬ (b = Q ∧ (j = 3 ∨ j = 24 ∨ j = 31 ∨ j = 52 ∨ j = 54)) → G b j = hI h b j := fun b j hb hc => fr _ _ (fun g => by omega)
  refine ⟨m1, MaM_fr m2 (f0 _ _ (by omega) (by omega)) (fun b hb => funext fun j => f0 _ _ (by omega) (by omega)), ?_, hF, ⟨(f0 _ _ (by omega) (by omega)).trans m5.1, fun i s hi => ⟨(f0 _ _ (by omega) (by omega)).trans (m5.2 i s hi).1, fun j e hj => StM_fr ((m5.2 i s hi).2 j e hj) (fun b b1 b2 => f0 _ _ (by omega) (by omega))⟩⟩, (f0 _ _ (by omega) (by omega)).trans m6, fun j hj => (f0 _ _ (by omega) (by omega)).trans (m7 j hj), hC, VsM_fr m9 (f0 _ _ (by omega) (by omega)) (fun b b1 b2 i _ => f0 _ _ (by omega) (by omega))⟩
  cases dr with
  | none => exact ⟨(f0 _ _ (by omega) (by omega)).trans m3.1, fun m hm => (fr _ _ (by omega)).trans (m3.2 m hm)⟩
  | some u => exact ⟨(f0 _ _ (by omega) (by omega)).trans m3.1, MtP_k (hw2 u rfl) m3.2 (fr _ _ (by omega)) (fun b b1 b2 j j1 j2 => fr _ _ (by omega))⟩
theorem lw_merge {b L z : Nat} {xs : Nat → Int32} (hL0 : L ≤ 3072) : lwOK (lwI b L z xs) b z (z + 102) (z + 149) (z + 150) L w_Lw_law_965 := by
  intro R K k h I h6 kk
  obtain ⟨hb, hC, mk, kd, idn, rt, dr, r, n, hm, hP, hM, hB⟩ := I
  have vp : ∀ j, j < 6 → ∀ h', lwC b L z xs h' → vp_in (nI (6 * k) + nI j) (hL h' b) := fun j hj h' hC => lw_vp hL0 hC.2.2.2.1 h6 hj
  have hz := hB.2.1
  have hwf := mIn_wf hm
  obtain ⟨hdw, hdm⟩ := mIn_dw hm
  have h100 : ∀ s ∈ r.2.1, s.length ≤ 100 := fun s hs => (hm.2.2.2.1 s hs).1
  refine ⟨b, rfl, hC.2.2.1, vp 1 (by decide) h hC, vp 2 (by decide) h hC, vp 3 (by decide) h hC, z, rfl, hP.1.1, ?_⟩
  rw [hC.2.2.2.2]
  generalize e1 : xs (nI (6 * k) + 1).toNatClampNeg = A1
  generalize e2 : xs (nI (6 * k) + 2).toNatClampNeg = A2
  generalize e3 : xs (nI (6 * k) + 3).toNatClampNeg = A3
  refine p_TP_merge hP (by omega) (by omega) hz hm hB.1 (fun e => Or.inl ⟨rfl, ?_⟩) (fun e => Or.inr ⟨rfl, ?_⟩) (fun e t u v l1 l2 l3 HH h' n' c0 c1 hm' P' hn' E f zz uu => ?_)
  · have H := lw_exc (k := k) hb hC hm hP hM hB
    obtain ⟨-, hC7, hM7, -⟩ := id H
    refine ⟨hC7.2.2.1, vp 1 (by decide) _ hC7, vp 2 (by decide) _ hC7, vp 3 (by decide) _ hC7, z + 102, rfl, hM7.1.1, ?_⟩
    rw [hC7.2.2.2.2, e1, e2, e3]
    exact p_Md_merge hM7.1 (by omega) hM7.2.1 hm.1 hM7.2.2.2.1 hm.2.2.1 hM7.2.2.2.2.2.2.1 hm.2.2.2.2.1 (fun _ G k1 k2 => lw_xt H hwf (by decide) k1 k2 kk) (fun e' => absurd (e.symm.trans e') (by decide)) (fun e' => absurd (e.symm.trans e') (by decide))
  · have H := lw_exc (k := k) hb hC hm hP hM hB
    obtain ⟨-, hC7, hM7, -⟩ := id H
    refine ⟨hC7.2.2.1, vp 1 (by decide) _ hC7, vp 2 (by decide) _ hC7, vp 3 (by decide) _ hC7, z + 102, rfl, hM7.1.1, ?_⟩
    rw [hC7.2.2.2.2, e1, e2, e3]
    exact p_Md_merge hM7.1 (by omega) hM7.2.1 hm.1 hM7.2.2.2.1 hm.2.2.1 hM7.2.2.2.2.2.2.1 hm.2.2.2.2.1 (fun e' => absurd (e.symm.trans e') (by decide)) (fun _ G k1 k2 => lw_xt H hwf (by decide) k1 k2 kk) (fun e' => absurd (e.symm.trans e') (by decide))
  · have E' := E
    unfold cfE at E'
    have nT : ∀ c j, mkT z (z + 1) (hZ h) c0 c1 c j → z ≤ c ∧ (c < z + 102 ∨ z + 151 ≤ c) := fun c j g => by unfold mkT mtT at g; omega
    have nU : ∀ c j, mkU (z + 1) r.1.length c j → z ≤ c ∧ (c < z + 102 ∨ z + 151 ≤ c) := fun c j g => by unfold mkU cfU at g; omega
    have hC' := lwC_fr hC hb hz f (fun j g => by have := nT _ _ g; omega)
    refine lw_put hC'.1 ?_
    have H := lw_sJ (lw_cls (k := k) hb hC hm hM hB f nT nU hm' P' hn' (by omega) (by omega)) (z + 149) 0 (nI r.1.length).toInt64
    obtain ⟨-, hC7, hM7, -⟩ := id H
    have hlt : r.1.length < 40 := by
      have := P'.2.2.2.2.1.2.1
      have e40 : (r.1 ++ [mgRes r.2.2.2.1 mk (tRt t) t u v (loK kd)]).length ≤ 40 := this
      rw [List.length_append] at e40
      exact e40
    refine ⟨hC7.2.2.1, vp 1 (by decide) _ hC7, vp 2 (by decide) _ hC7, vp 3 (by decide) _ hC7, z + 102, rfl, hM7.1.1, ?_⟩
    rw [hC7.2.2.2.2, e1, e2, e3]
    exact p_Md_merge hM7.1 (by omega) hM7.2.1 hm.1 hM7.2.2.2.1 hm.2.2.1 hM7.2.2.2.2.2.2.1 hm.2.2.2.2.1 (fun e' => absurd (e.symm.trans e') (by decide)) (fun e' => absurd (e.symm.trans e') (by decide)) (fun _ t' u' v' l1' l2' l3' G k1 k2 k3 k4 => by
      rw [l1] at l1'
      rw [l2] at l2'
      rw [l3] at l3'
      rw [← Option.some.inj l1', ← Option.some.inj l2', ← Option.some.inj l3'] at k2 k3
      exact lw_tail hM7.1.1 k1 hC7.1 (fun _ => tpu_s _ _ _ _) (kk _ (lw_fin H (fun c j hc => k4 c j (by omega)) (stM_mg hM7 (by omega) hdw hlt h100 k2 k3 k4))))
end MERGECASE
