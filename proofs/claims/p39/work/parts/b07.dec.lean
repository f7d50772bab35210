section MDEC
theorem mgRw {h : tpH} {x p : Nat} (l : lTP h x p) : hT h (p + 69) = 7 ∧ (hR h (p + 69) 0 = some p ∧ lMa h p) ∧ (hR h (p + 69) 1 = some (p + 20) ∧ lBu h (p + 20) (some p)) ∧ (hR h (p + 69) 3 = some (p + 72) ∧ rwL h (p + 72) (p + 73) 300) ∧ (hR h (p + 69) 4 = some (p + 74) ∧ rwL h (p + 74) (p + 75) 300) ∧ (hR h (p + 69) 5 = some (p + 76) ∧ rwL h (p + 76) (p + 77) 300) ∧ (hR h (p + 69) 6 = some (p + 78) ∧ rwL h (p + 78) (p + 79) 300) ∧ (hR h (p + 69) 7 = some (p + 80) ∧ rwL h (p + 80) (p + 81) 300) ∧ (hR h (p + 69) 8 = some (p + 82) ∧ rwL h (p + 82) (p + 83) 300) ∧ (hR h (p + 69) 9 = some (p + 84) ∧ rwL h (p + 84) (p + 85) 300) := by
  obtain ⟨t0, m0, m1, c0, c1, c2, c3, _⟩ := id l
  obtain ⟨g0, g1, g2, v1, v2, v3, v4, v5, v6, v7, v8, v9, v10⟩ := lTP_mgF l
  exact ⟨g0, ⟨g1, m1⟩, ⟨g2, c3⟩, v2, v3, v4, v5, v6, v7, v8⟩
variable {x p D z0 mk e0 e1 a1 k1 a2 k2 a3 k3 : Nat} {kd idn po : Nat → Int32} {b l r : mT}
theorem p_t21 {h : tpH} {a k : Nat} {s : mT} (B : trX h D z0 e0 e1 mk a1 k1 b) (T : trX h D z0 e0 e1 mk a k s) {m : Nat} (hs : tIn s m = true) {A : Bool} {R : Int32 → tpH → Prop} (kk : R (if A = true then 0 else 1) h) : ∀ (n j : Nat), j ≤ (tKi s m).length → (tKi s m).length < n + j → ((tKi s m).drop j).all (fun k => tIn b k && decide (tUp b k = some m)) = A → w_Mg_isTouched_21 R n (some a1) (some a) (nI m) (nI (pl s m)) (nI j) h
  | 0, j, h1, h2, e => by omega
  | n + 1, j, h1, h2, e => by
    obtain ⟨l1, ⟨l2, _⟩, l3, l4, l5, _⟩ := id T
    have ps := pl_lt l4 hs
    have pq := pO_le l4
    have m3 := l4.1.1 m hs
    have lk := ki_len l4.1 m
    have lc := tCn_le s
    refine ⟨a, rfl, l1.1, ?_⟩
    show w_Tr_kidsOf a (nI (pl s m)) (wI h (hI h)) _
    rw [e_Tr_kidsOf l1 pq l2, rAt_n ps (by omega), (l3.2.1 m hs).2.2.2.2.2.2.1]
    by_cases hj : j < (tKi s m).length
    · have ek := List.getElem?_eq_getElem hj
      generalize (tKi s m)[j] = c at ek
      have hc := (l4.1.2.1 c m).mp (List.mem_of_getElem? ek)
      have c3 := l4.1.1 c hc.1
      have pc := pl_lt l4 hc.1
      refine ⟨fun g => absurd ((nI_le_iff (by omega) (by omega)).mp g) (by omega), fun _ => ⟨l1.1, ?_⟩⟩
      rw [e_kid l1 l2 l4 l3 hs ek]
      refine ⟨l1.1, ?_⟩
      rw [e_Tr_markOf l1 pq l2, rAt_n pc (by omega), (l3.2.1 c hc.1).1]
      refine ⟨a1, rfl, B.1.1, tx_under B c3 m3 ?_⟩
      have ed : (tKi s m).drop j = c :: (tKi s m).drop (j + 1) := by
        rw [List.drop_eq_getElem_cons hj]
        rw [List.getElem?_eq_getElem hj] at ek
        rw [Option.some.inj ek]
      rw [ed, List.all_cons] at e
      cases q : (tIn b c && decide (tUp b c = some m)) with
      | true =>
        rw [if_pos rfl, nI_1]
        rw [q, Bool.true_and] at e
        exact ⟨fun _ => p_t21 B T hs kk n (j + 1) (by omega) (by omega) e, fun g => absurd g (by decide)⟩
      | false =>
        rw [if_neg Bool.false_ne_true]
        rw [q, Bool.false_and] at e
        rw [← e, if_neg Bool.false_ne_true] at kk
        exact ⟨fun g => absurd rfl g, fun _ => kk⟩
    · rw [List.drop_eq_nil_of_le (by omega)] at e
      rw [← e] at kk
      exact ⟨fun _ => kk, fun g => absurd ((nI_le_iff (by omega) (by omega)).mpr (by omega)) g⟩
theorem p_touch {h : tpH} {a k : Nat} {s : mT} (B : trX h D z0 e0 e1 mk a1 k1 b) (T : trX h D z0 e0 e1 mk a k s) {m : Nat} (hb : tIn b m = true) (hs : tIn s m = true) {R : Int32 → tpH → Prop} (kk : R (if mgTch b s m = true then 1 else 0) h) : w_Mg_isTouched (p + 69) (some a1) (some a) (nI m) h R := by
  obtain ⟨l1, ⟨l2, _⟩, l3, l4, l5, _⟩ := id T
  obtain ⟨b1, ⟨b2, _⟩, b3, b4, b5, _⟩ := id B
  have m3 := l4.1.1 m hs
  refine ⟨a1, rfl, b1.1, ?_⟩
  show w_Tr_hasSame a1 (some a) (nI m) (wI h (hI h)) _
  rw [p_Tr_hasSame b1 b2 l1 l2 b3 l3 b4 l4 (fun m hm => (b5 m hm).2) (fun m hm => (l5 m hm).2) m3]
  cases e : hsB b s m with
  | false =>
    have ht : mgTch b s m = true := by
      unfold mgTch
      unfold hsB at e
      rw [hb, hs, Bool.true_and, Bool.true_and] at e
      by_cases c1 : tWo s m = tWo b m
      · by_cases c2 : tUp s m = tUp b m
        · rw [decide_eq_true c1.symm, decide_eq_true c2.symm] at e
          cases e
        · rw [decide_eq_false c2, Bool.and_false, Bool.false_and]
          rfl
      · rw [decide_eq_false c1, Bool.false_and, Bool.false_and]
        rfl
    rw [ht, if_pos rfl] at kk
    rw [if_neg Bool.false_ne_true]
    exact ⟨fun g => absurd rfl g, fun _ => kk⟩
  | true =>
    obtain ⟨_, _, w1, u1⟩ := hsB_iff.mp e
    have ht : mgTch b s m = !((tKi s m).all (fun k => tIn b k && decide (tUp b k = some m))) := by
      unfold mgTch
      rw [decide_eq_true w1.symm, decide_eq_true u1.symm, Bool.true_and, Bool.true_and]
    rw [if_pos rfl]
    refine ⟨fun _ => ⟨a, rfl, l1.1, ?_⟩, fun g => absurd g (by decide)⟩
    rw [e_Tr_placeOf l1 (pO_le l4) l2, tr_pl l3 l2 (fun m hm => (l5 m hm).2) m3, if_pos hs]
    refine ⟨(tKi s m).length + 1, p_t21 B T hs (A := (tKi s m).all (fun k => tIn b k && decide (tUp b k = some m))) ?_ _ 0 (Nat.zero_le _) (by omega) (by rw [List.drop_zero])⟩
    rw [ht] at kk
    cases q : (tKi s m).all (fun k => tIn b k && decide (tUp b k = some m)) with
    | true => rw [q] at kk; exact kk
    | false => rw [q] at kk; exact kk
theorem p_stays {h : tpH} {cf : List (Nat × Nat)} {n m a k : Nat} {s : mT} {w : Int32} (H : MG h x p D z0 mk e0 e1 a1 k1 a2 k2 a3 k3 kd idn po b l r) (T : trX h D z0 e0 e1 mk a k s) (C : cfL h p z0 e0 e1 cf n) (hn : 1 ≤ n ∧ n ≤ 184001) (hc : cf.length < 92000) (hs : tIn s m = true) {R : Int32 → tpH → Prop} (kk : ∀ h' n', MG h' x p D z0 mk e0 e1 a1 k1 a2 k2 a3 k3 kd idn po b l r → cfL h' p z0 e0 e1 (cf ++ (mg1 po b s w m).2) n' → n ≤ n' ∧ n' ≤ 184001 → hFr h h' (cfT p z0 e0 e1) (cfU p) → hZ h' ≤ hZ h + (n' - n) → hU h' ≤ hU h + 4 * (n' - n) → R (if (mg1 po b s w m).1.isSome = true then 1 else 0) h') : w_Mg_staysWithOne (p + 69) (some a1) (some a) (nI m) w h R := by
  obtain ⟨X, B, _⟩ := id H
  have m3 := T.2.2.2.1.1.1 m hs
  obtain ⟨g0, _⟩ := mgRw X.1.1
  have same : (mg1 po b s w m).2 = [] → R (if (mg1 po b s w m).1.isSome = true then 1 else 0) h := fun e => by
    have q := kk h n H
    rw [e, List.append_nil] at q
    exact q C ⟨Nat.le_refl _, hn.2⟩ ⟨Nat.le_refl _, fun _ _ => ⟨rfl, rfl, rfl, rfl, fun _ _ => rfl, fun _ _ => rfl⟩⟩ (by omega) (by omega)
  refine ⟨a1, rfl, B.1.1, tx_holds B m3 ?_⟩
  cases eb : tIn b m with
  | false =>
    have e : mg1 po b s w m = (some (tWo s m, tUp s m), []) := by
      unfold mg1
      rw [eb, if_neg Bool.false_ne_true]
    rw [e] at same
    rw [if_neg Bool.false_ne_true]
    exact ⟨fun g => absurd rfl g, fun _ => same rfl⟩
  | true =>
    rw [if_pos rfl]
    refine ⟨fun _ => ⟨g0, p_touch B T eb hs ?_⟩, fun g => absurd g (by decide)⟩
    cases et : mgTch b s m with
    | false =>
      have e : mg1 po b s w m = (none, []) := by
        unfold mg1
        rw [eb, if_pos rfl, et, if_neg Bool.false_ne_true]
      rw [e] at same
      rw [if_neg Bool.false_ne_true]
      exact ⟨fun g => absurd rfl g, fun _ => same rfl⟩
    | true =>
      have e : mg1 po b s w m = (if po 0 = 0 ∨ po 0 = w then some (tWo s m, tUp s m) else none, [(0, m)]) := by
        unfold mg1
        rw [eb, if_pos rfl, et, if_pos rfl]
      rw [e] at kk
      rw [if_pos rfl]
      refine ⟨fun _ => ⟨g0, ?_⟩, fun g => absurd g (by decide)⟩
      show w_Mg_list (p + 69) (nI 0) (nI m) h _
      refine p_mgL H C hn hc (fun h' n' v1 v2 v3 v4 v5 v6 => ?_)
      have kv := kk h' n' v1 v2 v3 v4 v5 v6
      obtain ⟨g0', _, _, _, _, r2', w2'⟩ := lTP_mgL v1.1.1.1
      refine ⟨g0', p + 70, r2', w2'.1, ?_⟩
      show w_Ro_at (p + 70) (nI 0) h' _
      refine p_at w2' (by decide) ?_
      rw [rAt_n (by decide) (by decide), v1.1.2.2.2 0 (by decide)]
      have kv : R (if (if po 0 = 0 ∨ po 0 = w then some (tWo s m, tUp s m) else none).isSome = true then 1 else 0) h' := kv
      refine ⟨fun g => ?_, fun g => ⟨fun q => ?_, fun q => ?_⟩⟩
      · rw [if_pos (Or.inl g)] at kv
        exact kv
      · rw [if_neg (fun (z : po 0 = 0 ∨ po 0 = w) => z.elim g q)] at kv
        exact kv
      · rw [if_pos (Or.inr q)] at kv
        exact kv
/-- what is told of a mark -/
def rs1 (F : Nat → Nat → Int32) (p m : Nat) (o : Option (Int32 × Option Nat)) : Prop := F (p + 73) m = (if o.isSome = true then 1 else 0) ∧ (∀ e, o = some e → F (p + 75) m = e.1) ∧ F (p + 77) m = nO ((o.getD (0, none)).2)
theorem p_letIn {h : tpH} {m : Nat} {v u : Int32} (l0 : lTP h x p) (m3 : m < 300) {R : tpH → Prop} (kk : R (wI h (tpu (tpu (tpu (hI h) (p + 73) m 1) (p + 75) m v) (p + 77) m u))) : w_Mg_letIn (p + 69) (nI m) v u h R := by
  obtain ⟨g0, _, _, ⟨r3, w3⟩, ⟨r4, w4⟩, ⟨r5, w5⟩, _⟩ := mgRw l0
  refine ⟨g0, p + 72, r3, w3.1, p_put w3 (by decide) ?_⟩
  rw [rPut_n m3 (by decide)]
  refine ⟨g0, p + 74, r4, w4.1, p_put (rwL_w w4) (by decide) ?_⟩
  rw [wI_wI, wI_I, rPut_n m3 (by decide)]
  refine ⟨g0, p + 76, r5, w5.1, p_put (rwL_w w5) (by decide) ?_⟩
  rw [wI_wI, wI_I, rPut_n m3 (by decide)]
  exact kk
theorem p_decide {h : tpH} {cf : List (Nat × Nat)} {n m : Nat} (H : MG h x p D z0 mk e0 e1 a1 k1 a2 k2 a3 k3 kd idn po b l r) (C : cfL h p z0 e0 e1 cf n) (hn : 1 ≤ n ∧ n ≤ 184001) (hc : cf.length + 2 < 92000) (m3 : m < 300) {R : tpH → Prop} (kk : ∀ h' n', MG h' x p D z0 mk e0 e1 a1 k1 a2 k2 a3 k3 kd idn po b l r → cfL h' p z0 e0 e1 (cf ++ (mgD po b l r m).2) n' → n ≤ n' ∧ n' ≤ 184001 → hFr h h' (mtT p z0 e0 e1) (cfU p) → rs1 (hI h') p m (mgD po b l r m).1 → (∀ j, j ≠ m → hI h' (p + 73) j = hI h (p + 73) j ∧ hI h' (p + 75) j = hI h (p + 75) j ∧ hI h' (p + 77) j = hI h (p + 77) j) → hZ h' ≤ hZ h + (n' - n) → hU h' ≤ hU h + 4 * (n' - n) → R h') : w_Mg_decide (p + 69) (some a1) (some a2) (some a3) (nI m) h R := by
  obtain ⟨X, B, L, Rr⟩ := id H
  have E := X.1.2.2.1
  unfold cfE at E
  have z1 := X.1.2.2.2
  have keep : ∀ {h' : tpH}, hFr h h' (cfT p z0 e0 e1) (cfU p) → ∀ c j, (c = p + 73 ∨ c = p + 75 ∨ c = p + 77) → hI h' c j = hI h c j := fun {h'} f c j hc => (f.2 c (by omega)).2.2.2.2.1 j (fun g => by unfold cfT at g; omega)
  -- the marks' rows are written, behind the conflicts
  have fin : ∀ (h' : tpH) (n' : Nat) (F : Nat → Nat → Int32), MG h' x p D z0 mk e0 e1 a1 k1 a2 k2 a3 k3 kd idn po b l r → cfL h' p z0 e0 e1 (cf ++ (mgD po b l r m).2) n' → n ≤ n' ∧ n' ≤ 184001 → hFr h h' (cfT p z0 e0 e1) (cfU p) → (∀ c j, ¬ ((c = p + 73 ∨ c = p + 75 ∨ c = p + 77) ∧ j = m) → F c j = hI h' c j) → rs1 F p m (mgD po b l r m).1 → hZ h' ≤ hZ h + (n' - n) → hU h' ≤ hU h + 4 * (n' - n) → R (wI h' F) := fun h' n' F v1 v2 v3 v4 v5 v6 v7 v8 => by
    have f : hFr h' (wI h' F) (mtT p z0 e0 e1) (cfU p) := mt_w F (fun c j hc => v5 c j (by omega))
    have fb : hFr h' (wI h' F) (fun c _ => c = p + 73 ∨ c = p + 75 ∨ c = p + 77) no2 := hFr_w h' _ (fun c j hc => v5 c j (fun g => hc g.1))
    have f1 := v4.1
    refine kk (wI h' F) n' (MG_fr v1 f) (cfL_fr v2 v1.1.1.2.2.1 (by omega) fb (fun c j hc _ g => by omega) (fun c j _ _ g => g)) v3 (hFr_mono (hFr_tr (cfT_mt v4) f) (fun _ _ _ g => g.elim id id) (fun _ _ _ g => g.elim id id)) v6 (fun j hj => ?_) v7 v8
    exact ⟨by rw [wI_I, v5 _ _ (by omega)]; exact keep v4 _ j (by omega), by rw [wI_I, v5 _ _ (by omega)]; exact keep v4 _ j (by omega), by rw [wI_I, v5 _ _ (by omega)]; exact keep v4 _ j (by omega)⟩
  -- it is out
  have out : ∀ (h' : tpH) (n' : Nat), MG h' x p D z0 mk e0 e1 a1 k1 a2 k2 a3 k3 kd idn po b l r → cfL h' p z0 e0 e1 (cf ++ (mgD po b l r m).2) n' → n ≤ n' ∧ n' ≤ 184001 → hFr h h' (cfT p z0 e0 e1) (cfU p) → (mgD po b l r m).1 = none → hZ h' ≤ hZ h + (n' - n) → hU h' ≤ hU h + 4 * (n' - n) → w_Mg_decide_181 R (p + 69) (nI m) h' := fun h' n' v1 v2 v3 v4 v5 v7 v8 => by
    obtain ⟨g0, _, _, ⟨r3, w3⟩, _, ⟨r5, w5⟩, _⟩ := mgRw v1.1.1.1
    refine ⟨g0, p + 72, r3, w3.1, p_put w3 (by decide) ?_⟩
    rw [rPut_n m3 (by decide)]
    refine ⟨g0, p + 76, r5, w5.1, p_put (rwL_w w5) (by decide) ?_⟩
    rw [wI_wI, wI_I, rPut_n m3 (by decide)]
    refine fin h' n' _ v1 v2 v3 v4 (fun c j hc => by rw [tpu_o (by omega), tpu_o (by omega)]) ?_ v7 v8
    rw [v5]
    exact ⟨by rw [tpu_o (by omega), tpu_s]; rfl, fun e he => (by cases he), by rw [tpu_s]; rfl⟩
  -- it comes in
  have let1 : ∀ (h' : tpH) (n' : Nat) (v : Int32) (u : Option Nat), MG h' x p D z0 mk e0 e1 a1 k1 a2 k2 a3 k3 kd idn po b l r → cfL h' p z0 e0 e1 (cf ++ (mgD po b l r m).2) n' → n ≤ n' ∧ n' ≤ 184001 → hFr h h' (cfT p z0 e0 e1) (cfU p) → (mgD po b l r m).1 = some (v, u) → hZ h' ≤ hZ h + (n' - n) → hU h' ≤ hU h + 4 * (n' - n) → w_Mg_letIn (p + 69) (nI m) v (nO u) h' R := fun h' n' v u v1 v2 v3 v4 v5 v7 v8 => by
    refine p_letIn v1.1.1.1 m3 (fin h' n' _ v1 v2 v3 v4 (fun c j hc => by rw [tpu_o (by omega), tpu_o (by omega), tpu_o (by omega)]) ?_ v7 v8)
    rw [v5]
    exact ⟨by rw [tpu_o (by omega), tpu_o (by omega), tpu_s]; rfl, fun e he => by rw [tpu_o (by omega), tpu_s, ← Option.some.inj he], by rw [tpu_s]; rfl⟩
  -- one side alone
  have one : ∀ (a k : Nat) (s : mT) (w : Int32) (K : tpH → Prop), trX h D z0 e0 e1 mk a k s → (∀ h', MG h' x p D z0 mk e0 e1 a1 k1 a2 k2 a3 k3 kd idn po b l r → trX h' D z0 e0 e1 mk a k s) → tIn s m = true → mgD po b l r m = mg1 po b s w m → (∀ h' n', MG h' x p D z0 mk e0 e1 a1 k1 a2 k2 a3 k3 kd idn po b l r → cfL h' p z0 e0 e1 (cf ++ (mgD po b l r m).2) n' → n ≤ n' ∧ n' ≤ 184001 → hFr h h' (cfT p z0 e0 e1) (cfU p) → (mgD po b l r m).1 = none → hZ h' ≤ hZ h + (n' - n) → hU h' ≤ hU h + 4 * (n' - n) → K h') → hT h (p + 69) = 7 ∧ w_Mg_staysWithOne (p + 69) (some a1) (some a) (nI m) w h (fun v4 h3 => (v4 = 0 → K h3) ∧ (¬ v4 = 0 → (∃ a6, some a = some a6 ∧ hT h3 a6 = 12 ∧ (w_Tr_worthOfMark a6 (nI m) h3 (fun v10 h9 => hT h9 a6 = 12 ∧ (w_Tr_parentOfMark a6 (nI m) h9 (fun v13 h12 => hT h12 (p + 69) = 7 ∧ (w_Mg_letIn (p + 69) (nI m) v10 v13 h12 (fun h15 => R h15))))))))) := fun a k s w K T T' hs e kO => by
    refine ⟨(mgRw X.1.1).1, p_stays H T C hn (by omega) hs (fun h' n' v1 v2 v3 v4 v5 v6 => ?_)⟩
    rw [← e] at v2 ⊢
    cases eo : (mgD po b l r m).1 with
    | none =>
      rw [if_neg (by simp)]
      exact ⟨fun _ => kO h' n' v1 v2 v3 v4 eo v5 v6, fun g => absurd rfl g⟩
    | some q =>
      have T1 := T' h' v1
      have eq : q = (tWo s m, tUp s m) := by
        rw [e] at eo
        unfold mg1 at eo
        by_cases cb : tIn b m = true
        · rw [if_pos cb] at eo
          by_cases ct : mgTch b s m = true
          · rw [if_pos ct] at eo
            have eo : (if po 0 = 0 ∨ po 0 = w then some (tWo s m, tUp s m) else none) = some q := eo
            by_cases cp : po 0 = 0 ∨ po 0 = w
            · rw [if_pos cp] at eo
              exact (Option.some.inj eo).symm
            · rw [if_neg cp] at eo
              cases eo
          · rw [if_neg ct] at eo
            cases eo
        · rw [if_neg cb] at eo
          exact (Option.some.inj eo).symm
      rw [if_pos (show (some q).isSome = true from rfl)]
      refine ⟨fun g => absurd g (by decide), fun _ => ⟨a, rfl, T1.1.1, tx_worth T1 m3 (fun v hv => ⟨T1.1.1, tx_par T1 m3 (fun u hu => ⟨(mgRw v1.1.1.1).1, ?_⟩)⟩)⟩⟩
      rw [hv hs, hu hs]
      exact let1 h' n' _ _ v1 v2 v3 v4 (by rw [eo, eq]) v5 v6
  have hrf : hFr h h (cfT p z0 e0 e1) (cfU p) := ⟨Nat.le_refl _, fun _ _ => ⟨rfl, rfl, rfl, rfl, fun _ _ => rfl, fun _ _ => rfl⟩⟩
  refine ⟨a2, rfl, L.1.1, tx_holds L m3 ⟨a3, rfl, Rr.1.1, tx_holds Rr m3 ?_⟩⟩
  cases cl : tIn l m with
  | false =>
    rw [if_neg Bool.false_ne_true]
    cases cr : tIn r m with
    | false =>
      rw [if_neg Bool.false_ne_true]
      have e : mgD po b l r m = (none, []) := by
        unfold mgD
        rw [cl, cr]
        rfl
      refine ⟨fun _ => ⟨fun _ => ⟨fun _ => ?_, fun g => absurd rfl g⟩, fun g => absurd rfl g⟩, fun g => absurd rfl g⟩
      exact out h n H (by rw [e, List.append_nil]; exact C) ⟨Nat.le_refl _, hn.2⟩ hrf (by rw [e]) (by omega) (by omega)
    | true =>
      rw [if_pos rfl]
      have e : mgD po b l r m = mg1 po b r 2 m := by
        unfold mgD
        rw [cl, cr]
        rfl
      exact ⟨fun _ => ⟨fun _ => ⟨fun g => absurd g (by decide), fun _ => one a3 k3 r 2 (w_Mg_decide_181 R (p + 69) (nI m)) Rr (fun h' v => v.2.2.2) cr e out⟩, fun g => absurd rfl g⟩, fun g => absurd rfl g⟩
  | true =>
    rw [if_pos rfl]
    cases cr : tIn r m with
    | false =>
      rw [if_neg Bool.false_ne_true]
      have e : mgD po b l r m = mg1 po b l 1 m := by
        unfold mgD
        rw [cl, cr]
        rfl
      exact ⟨fun g => absurd g (by decide), fun _ => ⟨fun _ => ⟨fun g => absurd g (by decide), fun _ => one a2 k2 l 1 (w_Mg_decide_143 R (p + 69) (some a1) (some a3) (nI m) 0) L (fun h' v => v.2.2.1) cl e (fun h' n' v1 v2 v3 v4 v5 v6 v7 => ⟨fun _ => out h' n' v1 v2 v3 v4 v5 v6 v7, fun g => absurd rfl g⟩)⟩, fun g => absurd rfl g⟩⟩
    | true =>
      rw [if_pos rfl]
      have e : mgD po b l r m = mg2 po b l r m := by
        unfold mgD
        rw [cl, cr]
        rfl
      refine ⟨fun g => absurd g (by decide), fun _ => ⟨fun g => absurd g (by decide), fun _ => ⟨a1, rfl, B.1.1, tx_holds B m3 ⟨B.1.1, tx_worth B m3 (fun vb hvb => ⟨L.1.1, tx_worth L m3 (fun vl hvl => ⟨Rr.1.1, tx_worth Rr m3 (fun vr hvr => ⟨(mgRw X.1.1).1, ?_⟩)⟩)⟩)⟩⟩⟩⟩
      have hvl := hvl cl
      have hvr := hvr cr
      show w_Mg_choose (p + 69) (nI 1) (nI m) _ vb vl vr h _
      refine p_choose H C hn (by omega) (by decide) (hb := tIn b m) (q1 := decide (tWo l m = tWo r m)) (q2 := decide (tWo r m = tWo b m)) (q3 := decide (tWo l m = tWo b m)) rfl (by rw [hvl, hvr, decide_eq_true_iff]) (fun g => by rw [hvr, hvb g, decide_eq_true_iff]) (fun g => by rw [hvl, hvb g, decide_eq_true_iff]) (fun h' n' v1 v2 v3 v4 v5 v6 => ?_)
      obtain ⟨X', B', L', R'⟩ := id v1
      have ev : pk3 (chS (po 1) (tIn b m) (decide (tWo l m = tWo r m)) (decide (tWo r m = tWo b m)) (decide (tWo l m = tWo b m))).1 vl vr vb = pk3 (mgV po b l r m).1 (tWo l m) (tWo r m) (tWo b m) := by
        unfold mgV
        rw [hvl, hvr]
        cases eb : tIn b m with
        | true => rw [hvb eb]
        | false =>
          rcases pk3_or (chS (po 1) false (decide (tWo l m = tWo r m)) (decide (tWo r m = tWo b m)) (decide (tWo l m = tWo b m))).1 (tWo l m) (tWo r m) vb with q | q | ⟨_, q⟩
          · rw [chS_n]
            cases decide (tWo l m = tWo r m) with
            | true => rfl
            | false =>
              by_cases c2 : po 1 = 2
              · simp [c2, pk3]
              · simp [c2, pk3]
          · rw [chS_n]
            cases decide (tWo l m = tWo r m) with
            | true => rfl
            | false =>
              by_cases c2 : po 1 = 2
              · simp [c2, pk3]
              · simp [c2, pk3]
          · have := chS_b q
            cases this
      rw [ev]
      have C' : cfL h' p z0 e0 e1 (cf ++ (if (mgV po b l r m).2 = true then [(1, m)] else [])) n' := v2
      have lcf : (cf ++ (if (mgV po b l r m).2 = true then [(1, m)] else [])).length ≤ cf.length + 1 := by
        rw [List.length_append]
        by_cases c2 : (mgV po b l r m).2 = true
        · rw [if_pos c2]; exact Nat.le_refl _
        · rw [if_neg c2]; exact Nat.le_succ _
      refine ⟨B'.1.1, tx_holds B' m3 ⟨B'.1.1, tx_par B' m3 (fun ub hub => ⟨L'.1.1, tx_par L' m3 (fun ul hul => ⟨R'.1.1, tx_par R' m3 (fun ur hur => ⟨(mgRw X'.1.1).1, ?_⟩)⟩)⟩)⟩⟩
      have hul := hul cl
      have hur := hur cr
      have u3 : ∀ {t : mT}, tWF 300 t → tIn t m = true → ∀ q, tUp t m = some q → q < 2 ^ 31 := fun {t} w i => up3 w i
      have wl := L.2.2.2.1
      have wr := Rr.2.2.2.1
      have wb := B.2.2.2.1
      show w_Mg_choose (p + 69) (nI 2) (nI m) _ ub ul ur h' _
      refine p_choose v1 C' ⟨by omega, v3.2⟩ (by omega) (by decide) (hb := tIn b m) (q1 := decide (tUp l m = tUp r m)) (q2 := decide (tUp r m = tUp b m)) (q3 := decide (tUp l m = tUp b m)) rfl (by rw [hul, hur, decide_eq_true_iff]; exact ⟨fun g => nO_inj (u3 wl cl) (u3 wr cr) g, fun g => by rw [g]⟩) (fun g => by rw [hur, hub g, decide_eq_true_iff]; exact ⟨fun q => nO_inj (u3 wr cr) (u3 wb g) q, fun q => by rw [q]⟩) (fun g => by rw [hul, hub g, decide_eq_true_iff]; exact ⟨fun q => nO_inj (u3 wl cl) (u3 wb g) q, fun q => by rw [q]⟩) (fun h2 n2 y1 y2 y3 y4 y5 y6 => ⟨(mgRw y1.1.1.1).1, ?_⟩)
      have eu : pk3 (chS (po 2) (tIn b m) (decide (tUp l m = tUp r m)) (decide (tUp r m = tUp b m)) (decide (tUp l m = tUp b m))).1 ul ur ub = nO (pk3 (mgU po b l r m).1 (tUp l m) (tUp r m) (tUp b m)) := by
        unfold mgU
        rw [hul, hur]
        cases eb : tIn b m with
        | true =>
          rw [hub eb]
          generalize (chS (po 2) true (decide (tUp l m = tUp r m)) (decide (tUp r m = tUp b m)) (decide (tUp l m = tUp b m))).1 = q
          match q with
          | 0 => rfl
          | 1 => rfl
          | q + 2 => rfl
        | false =>
          rw [chS_n]
          cases decide (tUp l m = tUp r m) with
          | true => rfl
          | false =>
            by_cases c2 : po 2 = 2
            · simp [c2, pk3]
            · simp [c2, pk3]
      rw [eu]
      have e1' : (mgD po b l r m).1 = some (pk3 (mgV po b l r m).1 (tWo l m) (tWo r m) (tWo b m), pk3 (mgU po b l r m).1 (tUp l m) (tUp r m) (tUp b m)) := by rw [e]; rfl
      have e2' : (mgD po b l r m).2 = (if (mgV po b l r m).2 = true then [(1, m)] else []) ++ (if (mgU po b l r m).2 = true then [(2, m)] else []) := by rw [e]; rfl
      refine let1 h2 n2 _ _ y1 ?_ ⟨by omega, y3.2⟩ (hFr_mono (hFr_tr v4 y4) (fun _ _ _ g => g.elim id id) (fun _ _ _ g => g.elim id id)) e1' (by omega) (by omega)
      rw [e2', ← List.append_assoc]
      exact y2
end MDEC
