section MERGECASE
def mgK (fr : List mT) (A B C : Int32) : Nat := match lstAt fr A with
  | none => 1
  | some t => match lstAt fr B with
    | none => 1
    | some u => match lstAt fr C with
      | none => 1
      | some v => if tRt u = tRt t ∧ tRt v = tRt t then (if fr.length = 40 then 2 else 0) else 2
theorem mgK_1 {fr : List mT} {A B C : Int32} (h : lstAt fr A = none) : mgK fr A B C = 1 := by
  unfold mgK
  rw [h]
theorem mgK_2 {fr : List mT} {A B C : Int32} {t : mT} (h1 : lstAt fr A = some t) (h : lstAt fr B = none) : mgK fr A B C = 1 := by
  unfold mgK
  rw [h1, h]
theorem mgK_3 {fr : List mT} {A B C : Int32} {t u : mT} (h1 : lstAt fr A = some t) (h2 : lstAt fr B = some u) (h : lstAt fr C = none) : mgK fr A B C = 1 := by
  unfold mgK
  rw [h1, h2, h]
theorem mgK_s {fr : List mT} {A B C : Int32} {t u v : mT} (h1 : lstAt fr A = some t) (h2 : lstAt fr B = some u) (h3 : lstAt fr C = some v) : mgK fr A B C = if tRt u = tRt t ∧ tRt v = tRt t then (if fr.length = 40 then 2 else 0) else 2 := by
  unfold mgK
  rw [h1, h2, h3]
theorem md_cf {mk R : Nat} {po : Nat → Int32} {b l r : mT} (H : mgH mk R b l r) {P : Nat × Nat → Prop} (p3 : ∀ m, m < mk → P (3, m)) (p4 : ∀ m, m < mk → P (4, m)) : ∀ (n : Nat) (s : mgS), mgI mk R po b l r s → (∀ e ∈ sCf s, P e) → ∀ e ∈ sCf (mdR mk b n s), P e
  | 0, s, I, hs => hs
  | n + 1, s, I, hs => by
    show ∀ e ∈ sCf (match mdS mk b s with
      | none => s
      | some s' => mdR mk b n s'), P e
    cases st : mdS mk b s with
    | none => exact hs
    | some s' =>
      refine md_cf H p3 p4 n s' (mdS_s H I st).1 ?_
      unfold mdS at st
      cases ho : orpO mk s with
      | some m =>
        rw [ho] at st
        have st : some (lostS b s ((sUp s m).getD 0)) = some s' := st
        rw [← Option.some.inj st]
        obtain ⟨y, g1, g2, g3, g4⟩ := orp_s ho
        intro e he
        have he : e ∈ sCf s ++ [(3, (sUp s m).getD 0)] := he
        rcases List.mem_append.mp he with g | g
        · exact hs e g
        · rw [List.mem_singleton.mp g, g3]
          exact p3 y (up_lt H I g3)
      | none =>
        rw [ho] at st
        cases hr : rngO mk s with
        | none => rw [hr] at st; cases st
        | some m =>
          rw [hr] at st
          have st : some (ringS mk b s m) = some s' := st
          rw [← Option.some.inj st]
          intro e he
          have he : e ∈ sCf s ++ ((List.range mk).filter (fun k => rgC (sUp s) m k && tIn b k)).map (fun k => (4, k)) := he
          rcases List.mem_append.mp he with g | g
          · exact hs e g
          · obtain ⟨k, k1, k2⟩ := List.mem_map.mp g
            rw [← k2]
            exact p4 k (List.mem_range.mp (List.mem_filter.mp k1).1)
theorem mgCfl_I {mk R : Nat} {po : Nat → Int32} {b l r : mT} (H : mgH mk R b l r) (lo : Nat → Bool) : (mgCfl po mk R b l r lo).length ≤ 92000 ∧ ∀ e ∈ mgCfl po mk R b l r lo, e.1 < 6 ∧ e.2 < 300 := by
  obtain ⟨I, Eg, hl, _⟩ := mgF_I (po := po) H
  have hk := H.2.2.1
  have hT : tWF 300 (mgRes po mk R b l r lo) := mgTr_wf H I Eg lo
  refine ⟨?_, fun e he => ?_⟩
  · unfold mgCfl
    rw [List.length_append, List.length_map]
    have h1 := List.length_filter_le (orB po b l r (mgF po mk b l r) lo) (pO (mgRes po mk R b l r lo))
    have h2 := pO_le hT
    omega
  · unfold mgCfl at he
    rcases List.mem_append.mp he with g | g
    · refine md_cf (P := fun e => e.1 < 6 ∧ e.2 < 300) H (fun m hm => ⟨Nat.le_of_ble_eq_true rfl, by show m < 300; omega⟩) (fun m hm => ⟨Nat.le_of_ble_eq_true rfl, by show m < 300; omega⟩) 601 (mg0 po b l r mk) (mg0_I H) (fun e he => ?_) e g
      obtain ⟨m, m1, m2⟩ := List.mem_flatMap.mp (show e ∈ (List.range mk).flatMap (fun m => (mgD po b l r m).2) from he)
      have m1 := List.mem_range.mp m1
      have one : ∀ (s : mT) (w : Int32), e ∈ (mg1 po b s w m).2 → e.1 < 6 ∧ e.2 < 300 := fun s w g => by
        unfold mg1 at g
        by_cases cb : tIn b m = true
        · rw [if_pos cb] at g
          by_cases ct : mgTch b s m = true
          · rw [if_pos ct] at g
            rw [List.mem_singleton.mp g]
            exact ⟨Nat.le_of_ble_eq_true rfl, by show m < 300; omega⟩
          · rw [if_neg ct] at g; cases g
        · rw [if_neg cb] at g; cases g
      unfold mgD at m2
      by_cases cl : tIn l m = true
      · rw [if_pos cl] at m2
        by_cases cr : tIn r m = true
        · rw [if_pos cr] at m2
          have m2 : e ∈ (if (mgV po b l r m).2 = true then [(1, m)] else []) ++ (if (mgU po b l r m).2 = true then [(2, m)] else []) := m2
          rcases List.mem_append.mp m2 with g | g
          · by_cases c : (mgV po b l r m).2 = true
            · rw [if_pos c] at g
              rw [List.mem_singleton.mp g]
              exact ⟨Nat.le_of_ble_eq_true rfl, by show m < 300; omega⟩
            · rw [if_neg c] at g; cases g
          · by_cases c : (mgU po b l r m).2 = true
            · rw [if_pos c] at g
              rw [List.mem_singleton.mp g]
              exact ⟨Nat.le_of_ble_eq_true rfl, by show m < 300; omega⟩
            · rw [if_neg c] at g; cases g
        · rw [if_neg cr] at m2; exact one l 1 m2
      · rw [if_neg cl] at m2
        by_cases cr : tIn r m = true
        · rw [if_pos cr] at m2; exact one r 2 m2
        · rw [if_neg cr] at m2; cases m2
    · obtain ⟨m, m1, m2⟩ := List.mem_map.mp g
      rw [← m2]
      exact ⟨(by decide : (5 : Nat) < 6), hT.1.1 m ((pO_mem hT).mp (List.mem_filter.mp m1).1)⟩
theorem mIn_mg {mk : Nat} {kd : Nat → Int32} {rt : Nat → Bool} {dr : Option mT} {r : mRe} (H : mIn mk kd rt dr r) {t : mT} (ht : trI mk kd rt t) {cf : List (Nat × Nat)} (hc : cf.length ≤ 92000 ∧ ∀ e ∈ cf, e.1 < 6 ∧ e.2 < 300) : mIn mk kd rt dr (r.1 ++ [t], r.2.1, r.2.2.1, r.2.2.2.1, cf, r.2.2.2.2.2) := by
  obtain ⟨H1, H2, H3, H4, H5, H6, H7, H8⟩ := mIn_keep H ht
  exact ⟨H1, H2, H3, H4, H5, hc, H7, H8⟩
theorem p_root {h : tpH} {a k : Nat} {t : mT} (l1 : lTr h a (pO t).length k) (l2 : k ≤ 300) (l3 : TrP (hI h) a t k) (l4 : tWF 300 t) {R : Int32 → tpH → Prop} (kk : R (nI (tRt t)) h) : w_Tr_markOf a (0 : Int32) h R := by
  have p0 := pl_lt l4 l4.2.1
  rw [pl_rt l4] at p0
  have m0 := (l3.2.1 _ l4.2.1).1
  rw [pl_rt l4] at m0
  have pq := pO_le l4
  show w_Tr_markOf a (nI 0) (wI h (hI h)) R
  rw [e_Tr_markOf l1 pq l2, rAt_n p0 (by omega), m0]
  exact kk
/-- are their roots the same -/
theorem p_sameR {h : tpH} {o a1 a2 a3 k1 k2 k3 : Nat} {t1 t2 t3 : mT} (l1 : lTr h a1 (pO t1).length k1 ∧ TrP (hI h) a1 t1 k1 ∧ k1 ≤ 300) (l2 : lTr h a2 (pO t2).length k2 ∧ TrP (hI h) a2 t2 k2 ∧ k2 ≤ 300) (l3 : lTr h a3 (pO t3).length k3 ∧ TrP (hI h) a3 t3 k3 ∧ k3 ≤ 300) (w1 : tWF 300 t1) (w2 : tWF 300 t2) (w3 : tWF 300 t3) {X : String → tpH → Prop} {R : tpH → Prop} (k1' : tRt t2 = tRt t1 ∧ tRt t3 = tRt t1 → R h) (k0 : ¬ (tRt t2 = tRt t1 ∧ tRt t3 = tRt t1) → X "java/lang/IllegalStateException" (nC h 0 0 6)) : w_TP_needSameRoots o (some a1) (some a2) (some a3) h X R := by
  have r1 := w1.1.1 _ w1.2.1
  have r2 := w2.1.1 _ w2.2.1
  have r3 := w3.1.1 _ w3.2.1
  refine ⟨a1, rfl, l1.1.1, p_root l1.1 l1.2.2 l1.2.1 w1 ⟨a2, rfl, l2.1.1, p_root l2.1 l2.2.2 l2.2.1 w2 ⟨fun g => k0 (fun z => g (by rw [z.1])), fun g => ⟨a3, rfl, l3.1.1, p_root l3.1 l3.2.2 l3.2.1 w3 ⟨fun g2 => k1' ⟨nI_inj (by omega) (by omega) g, nI_inj (by omega) (by omega) g2⟩, fun g2 => k0 (fun z => g2 (by rw [z.2]))⟩⟩⟩⟩⟩
theorem p_TP_merge {h : tpH} {x p D mk n : Nat} {kd idn : Nat → Int32} {dr : Option mT} {r : mRe} {rt : Nat → Bool} (hP : stP h x p D mk kd idn dr r n) (hxp : x < p) (hpD : p + 101 ≤ D) (hDz : D ≤ hZ h) (hm : mIn mk kd rt dr r) (hn : n ≤ 184001) {A B C : Int32} {X : String → tpH → Prop} {R : Int32 → tpH → Prop} (x1 : mgK r.1 A B C = 1 → X "java/lang/IndexOutOfBoundsException" (nC h 0 0 6)) (x2 : mgK r.1 A B C = 2 → X "java/lang/IllegalStateException" (nC h 0 0 6)) (kk : mgK r.1 A B C = 0 → ∀ t u v, lstAt r.1 A = some t → lstAt r.1 B = some u → lstAt r.1 C = some v → mgH mk (tRt t) t u v → ∀ h' n' e0 e1, mIn mk kd rt dr (r.1 ++ [mgRes r.2.2.2.1 mk (tRt t) t u v (loK kd)], r.2.1, r.2.2.1, r.2.2.2.1, mgCfl r.2.2.2.1 mk (tRt t) t u v (loK kd), r.2.2.2.2.2) → stP h' x p D mk kd idn dr (r.1 ++ [mgRes r.2.2.2.1 mk (tRt t) t u v (loK kd)], r.2.1, r.2.2.1, r.2.2.2.1, mgCfl r.2.2.2.1 mk (tRt t) t u v (loK kd), r.2.2.2.2.2) n' → n ≤ n' ∧ n' ≤ 184001 → cfE p D (hZ h) e0 e1 → hFr h h' (mkT x p (hZ h) e0 e1) (mkU p r.1.length) → hZ h' ≤ hZ h + 19 + (n' - n) → hU h' ≤ hU h + 2728 + 4 * (n' - n) → R (nI r.1.length) h') : w_TP_merge x A B C h X R := by
  have hwf := mIn_wf hm
  have F := hP.2.2.2.2.1
  refine ⟨hP.1.1, p_tree hP.1 F (fun e => x1 (mgK_1 e)) (fun i t a k1 e hi hl ha b1 b2 b3 b4 b5 => ⟨hP.1.1, p_tree hP.1 F (fun e' => x1 (mgK_2 hl e')) (fun j u c k2 e' hj hl' hc d1 d2 d3 d4 d5 => ⟨hP.1.1, p_tree hP.1 F (fun e'' => x1 (mgK_3 hl hl' e'')) (fun y v f k3 e'' hy hl'' hf g1 g2 g3 g4 g5 => ⟨hP.1.1, ?_⟩)⟩)⟩)⟩
  have w1 := hwf i t hi
  have w2 := hwf j u hj
  have w3 := hwf y v hy
  have I1 := hm.2.2.1 t (List.mem_of_getElem? hi)
  have I2 := hm.2.2.1 u (List.mem_of_getElem? hj)
  have I3 := hm.2.2.1 v (List.mem_of_getElem? hy)
  refine p_sameR ⟨b1, b2, b3⟩ ⟨d1, d2, d3⟩ ⟨g1, g2, g3⟩ w1 w2 w3 (fun er => ⟨hP.1.1, p_TP_needRoomForTree hP.1 F.1 F.2.1 (fun hlt => ?_) (fun e40 => x2 ?_)⟩) (fun er => x2 ?_)
  · have HH : mgH mk (tRt t) t u v := ⟨⟨I1.1, I2.1, I3.1⟩, ⟨rfl, er.1, er.2⟩, hm.1, fun m g => (I1.2.1 m g).1, fun m g => (I2.2.1 m g).1, fun m g => (I3.2.1 m g).1⟩
    have k0 : mgK r.1 A B C = 0 := by
      rw [mgK_s hl hl' hl'', if_pos er, if_neg (by omega)]
    have l11 : hR h x 11 = some (p + 69) ∧ hT h (p + 69) = 7 := by
      obtain ⟨t0, r0, o0, r1, o1, r2, o2, r3, o3, r5, o5, r7, o7, r8, o8, r9, o9, r11, o11, r12, o12⟩ := id hP.1
      exact ⟨r11, o11.1⟩
    refine ⟨hP.1.1, p + 69, l11.1, l11.2, ?_⟩
    exact p_mgKeep (R := fun _ => R) hP hxp hpD hDz hm hn hlt hi hj hy ha hc hf ⟨b1, b2, b3, b4, b5⟩ ⟨d1, d2, d3, d4, d5⟩ ⟨g1, g2, g3, g4, g5⟩ ⟨rfl, er.1, er.2⟩ (fun h1 h' n' e0 e1 q1 q2 q3 q4 q5 q6 q7 => kk k0 t u v hl hl' hl'' HH h' n' e0 e1 (mIn_mg hm (mgRes_I HH r.2.2.2.1 I1 I2 I3) (mgCfl_I HH (loK kd))) q2 q3 q4 q5 q6 q7)
  · rw [mgK_s hl hl' hl'', if_pos er, if_pos e40]
  · rw [mgK_s hl hl' hl'', if_neg er]
end MERGECASE
