section MNEAR
variable {x p D z0 mk e0 e1 a1 k1 a2 k2 a3 k3 : Nat} {kd idn po : Nat → Int32} {b l r : mT}
/-- the bench while a forest is hung on it: nothing else has changed -/
def bnF (h1 : tpH) (p : Nat) (F : Nat → Nat → Int32) : Prop := ∀ c, (c < p + 20 ∨ p + 35 ≤ c) → F c = hI h1 c
theorem bn_fr {h1 : tpH} {F : Nat → Nat → Int32} (f : bnF h1 p F) : hFr h1 (wI h1 F) (mtT p z0 e0 e1) (cfU p) := hFr_w h1 _ (fun c j hc => by unfold mtT at hc; rw [f c (by omega)])
/-- what stands while the children of q are hung -/
def bnX (h1 : tpH) (F : Nat → Nat → Int32) (x p D z0 mk e0 e1 a1 k1 a2 k2 a3 k3 : Nat) (kd idn po : Nat → Int32) (b l r : mT) (R0 : Nat) (s : mgS) (K : Nat → List Nat) : Prop := (MG h1 x p D z0 mk e0 e1 a1 k1 a2 k2 a3 k3 kd idn po b l r ∧ bnF h1 p F) ∧ (mgH mk R0 b l r ∧ mgI mk R0 po b l r s ∧ mgE mk s) ∧ (∀ z, kOK s z (K z)) ∧ BuP F (p + 20) (FK R0 s K)
theorem p_isCh {h1 : tpH} {F : Nat → Nat → Int32} {R0 m q : Nat} {s : mgS} {K : Nat → List Nat} (Y : bnX h1 F x p D z0 mk e0 e1 a1 k1 a2 k2 a3 k3 kd idn po b l r R0 s K) (m3 : m < 300) (q3 : q < 300) {R : Int32 → tpH → Prop} (kk : R (if m ∈ K q then 1 else 0) (wI h1 F)) : w_Bu_isChild (p + 20) (nI m) (nI q) (wI h1 F) R := by
  obtain ⟨⟨H1, fr⟩, ⟨HH, I, Eg⟩, hK, hB⟩ := Y
  obtain ⟨_, _, ⟨_, lb⟩, _⟩ := mgRw H1.1.1.1
  have hw := FK_wf HH I Eg hK
  rw [e_Bu_isChild lb, bu_has hB m3, rAt_n m3 (by decide)]
  cases e : tIn (FK R0 s K) m with
  | false =>
    have n1 : m ∉ K q := fun g => by
      have := ((hw.2.1 m q).mp g).1
      rw [e] at this
      cases this
    rw [if_neg n1] at kk
    rw [if_neg (fun g => absurd g.1 (by rw [if_neg Bool.false_ne_true]; decide))]
    exact kk
  | true =>
    have nu := (hB.2.2 m e).2.1
    rw [if_pos rfl, nu]
    by_cases c : m ∈ K q
    · rw [if_pos c] at kk
      rw [(FK_up hK).mpr c, if_pos ⟨rfl, rfl⟩]
      exact kk
    · rw [if_neg c] at kk
      rw [if_neg (fun g => c ((FK_up (R0 := R0) hK).mp ?_))]
      · exact kk
      · have g2 := g.2
        cases eu : tUp (FK R0 s K) m with
        | none => rw [eu] at g2; exact absurd g2.symm (nI_ne_m (by omega))
        | some y =>
          rw [eu] at g2
          have := hw.1 y (hw.2.2.2.2 m y e eu)
          rw [nI_inj (by omega) (by omega) g2]
theorem p_nr25 {h1 : tpH} {F : Nat → Nat → Int32} {R0 q p' a k : Nat} {s : mgS} {K : Nat → List Nat} {t : mT} (Y : bnX h1 F x p D z0 mk e0 e1 a1 k1 a2 k2 a3 k3 kd idn po b l r R0 s K) (T : trX (wI h1 F) D z0 e0 e1 mk a k t) (hp : tIn t p' = true) (q3 : q < 300) {R : Int32 → tpH → Prop} : ∀ (f : Nat) (A : List Nat), A.length < f → (∀ (i y : Nat), A[i]? = some y → (tKi t p')[i]? = some y) → R (nO ((A.filter (fun x => decide (x ∈ K q))).getLast?)) (wI h1 F) → w_Mg_nearestAhead_25 R f (p + 69) (some a) (nI q) (nI (pl t p')) (nI A.length - 1) (wI h1 F)
  | 0, A, h1', h2, kk => by omega
  | f + 1, A, h1', h2, kk => by
    obtain ⟨l1, ⟨l2, _⟩, l3, l4, l5, _⟩ := id T
    obtain ⟨g0, _, ⟨rb, lb⟩, _⟩ := mgRw Y.1.1.1.1.1
    have pq := pO_le l4
    have lk := ki_len l4.1 p'
    have lc := tCn_le t
    rcases snoc A with e | ⟨A', y, e⟩
    · rw [e] at kk ⊢
      exact ⟨fun _ => kk, fun g => absurd (show nI 0 - 1 < (0 : Int32) by decide) g⟩
    · rw [e] at kk h2 h1' ⊢
      rw [List.length_append] at h1' ⊢
      have h1' : A'.length + 1 < f + 1 := h1'
      have ey : (tKi t p')[A'.length]? = some y := h2 A'.length y (by rw [List.getElem?_append_right (Nat.le_refl _), Nat.sub_self]; rfl)
      have la := (List.getElem?_eq_some_iff.mp ey).1
      have hy := (l4.1.2.1 y p').mp (List.mem_of_getElem? ey)
      have y3 := l4.1.1 y hy.1
      have py := pl_lt l4 hy.1
      have em : nI (A'.length + [y].length) - 1 = nI A'.length := nI_pred _
      rw [em]
      refine ⟨fun g => absurd g (nI_pos (by omega)), fun _ => ⟨a, rfl, l1.1, ?_⟩⟩
      rw [e_kid (show lTr h1 a _ _ from l1) l2 l4 (show TrP F a t k from l3) hp ey]
      refine ⟨l1.1, ?_⟩
      rw [e_Tr_markOf (show lTr h1 a _ _ from l1) pq l2, rAt_n py (by omega), show F (a + 2) (pl t y) = nI y from (l3.2.1 y hy.1).1]
      refine ⟨g0, p + 20, rb, lb.1, p_isCh Y y3 q3 ?_⟩
      rw [List.filter_append] at kk
      by_cases c : y ∈ K q
      · rw [if_pos c]
        rw [show [y].filter (fun x => decide (x ∈ K q)) = [y] from by rw [List.filter_cons, if_pos (decide_eq_true c)]; rfl, List.getLast?_append] at kk
        exact ⟨fun g => absurd g (by decide), fun _ => kk⟩
      · rw [if_neg c]
        rw [show [y].filter (fun x => decide (x ∈ K q)) = [] from by rw [List.filter_cons, if_neg (fun g => c (of_decide_eq_true g))]; rfl, List.append_nil] at kk
        refine ⟨fun _ => ?_, fun g => absurd rfl g⟩
        rw [← Int32.sub_eq_add_neg]
        refine p_nr25 Y T hp q3 f A' (by omega) (fun i z hz => h2 i z ?_) kk
        rw [List.getElem?_append_left (List.getElem?_eq_some_iff.mp hz).1]
        exact hz
theorem p_near {h1 : tpH} {F : Nat → Nat → Int32} {R0 m q a k : Nat} {s : mgS} {K : Nat → List Nat} {t : mT} (Y : bnX h1 F x p D z0 mk e0 e1 a1 k1 a2 k2 a3 k3 kd idn po b l r R0 s K) (T : trX (wI h1 F) D z0 e0 e1 mk a k t) (m3 : m < 300) (q3 : q < 300) {R : Int32 → tpH → Prop} (kk : ∀ o, (m ∈ tKi t q → o = nrA t (K q) q m) → (∀ d, o = some d → d ∈ K q) → R (nO o) (wI h1 F)) : w_Mg_nearestAhead (p + 69) (some a) (nI m) (nI q) (wI h1 F) R := by
  obtain ⟨l1, ⟨l2, _⟩, l3, l4, l5, _⟩ := id T
  have pq := pO_le l4
  have l1' : lTr h1 a (pO t).length k := l1
  refine ⟨a, rfl, l1.1, ?_⟩
  rw [e_Tr_placeOf l1' pq l2, show rAt (F (a + 18)) k (nI m) = (if tIn t m = true then nI (pl t m) else -1) from tr_pl l3 l2 (fun m hm => (l5 m hm).2) m3]
  refine ⟨l1.1, ?_⟩
  rw [e_Tr_upOf l1' pq l2]
  refine ⟨l1.1, ?_⟩
  rw [e_Tr_rankOf l1' pq l2]
  cases e : tIn t m with
  | false =>
    rw [if_neg Bool.false_ne_true, rAt_m, rAt_m]
    have nk : m ∉ tKi t q := fun g => by
      rw [((l4.1.2.1 m q).mp g).1] at e
      cases e
    exact ⟨1, fun _ => kk none (fun g => absurd g nk) (fun d hd => by cases hd), fun g => absurd (show (-1 : Int32) - 1 < 0 by decide) g⟩
  | true =>
    have pm := pl_lt l4 e
    have m' := l3.2.1 m e
    rw [if_pos rfl, rAt_n pm (by omega), rAt_n pm (by omega), show F (a + 6) (pl t m) = nO ((tUp t m).map (pl t)) from m'.2.2.1, show F (a + 10) (pl t m) = nI (rkO t m) from m'.2.2.2.2.1]
    cases eu : tUp t m with
    | none =>
      have er : rkO t m = 0 := by
        unfold rkO
        rw [eu]
      have nk : m ∉ tKi t q := fun g => by
        rw [((l4.1.2.1 m q).mp g).2] at eu
        cases eu
      rw [er]
      exact ⟨1, fun _ => kk none (fun g => absurd g nk) (fun d hd => by cases hd), fun g => absurd (show nI 0 - 1 < (0 : Int32) by decide) g⟩
    | some p' =>
      have hpi := l4.1.2.2.2.2 m p' e eu
      obtain ⟨A, B, eK⟩ := List.append_of_mem ((l4.1.2.1 m p').mpr ⟨e, eu⟩)
      rw [rkO_mid l4 eK]
      refine ⟨A.length + 1, p_nr25 Y T hpi q3 _ A (Nat.lt_succ_self _) (fun i y hy => ?_) (kk _ (fun g => ?_) (fun d hd => ?_))⟩
      · rw [eK, List.getElem?_append_left (List.getElem?_eq_some_iff.mp hy).1]
        exact hy
      · have ep : p' = q := by
          have := ((l4.1.2.1 m q).mp g).2
          rw [eu] at this
          exact Option.some.inj this
        subst ep
        unfold nrA
        rw [idx_split (l4.1.2.2.1 p') eK, eK, List.take_left' rfl]
      · have := (List.mem_filter.mp (List.mem_of_getLast? hd)).2
        exact of_decide_eq_true this
theorem mnO_i {x y : Option Nat} (hx : ∀ d, x = some d → d < 300) (hy : ∀ d, y = some d → d < 300) : (if nO y < nO x then nO y else nO x) = nO (mnO x y) := by
  cases x with
  | none =>
    cases y with
    | none => rfl
    | some d =>
      have := hy d rfl
      show (if nI d < (-1 : Int32) then nI d else (-1 : Int32)) = -1
      rw [if_neg (fun g => by
        have g := Int32.lt_iff_toInt_lt.mp g
        rw [nI_toInt (by omega)] at g
        have : (-1 : Int32).toInt = -1 := by decide
        omega)]
  | some c =>
    have := hx c rfl
    cases y with
    | none =>
      show (if (-1 : Int32) < nI c then (-1 : Int32) else nI c) = -1
      rw [if_pos (by
        rw [Int32.lt_iff_toInt_lt, nI_toInt (by omega)]
        have : (-1 : Int32).toInt = -1 := by decide
        omega)]
    | some d =>
      have := hy d rfl
      show (if nI d < nI c then nI d else nI c) = nI (if c < d then c else d)
      by_cases g : c < d
      · rw [if_pos g, if_neg (fun z => absurd ((nI_lt_iff (by omega) (by omega)).mp z) (by omega))]
      · rw [if_neg g]
        by_cases g2 : d < c
        · rw [if_pos ((nI_lt_iff (by omega) (by omega)).mpr g2)]
        · have : c = d := by omega
          rw [this]
          by_cases g3 : nI d < nI d
          · rw [if_pos g3]
          · rw [if_neg g3]
theorem mnO_m {x y : Option Nat} {d : Nat} (h : mnO x y = some d) : x = some d ∨ y = some d := by
  cases x with
  | none => cases h
  | some c =>
    cases y with
    | none => cases h
    | some e =>
      have h : (if c < e then c else e) = d := Option.some.inj h
      by_cases g : c < e
      · rw [if_pos g] at h; rw [h]; exact Or.inl rfl
      · rw [if_neg g] at h; rw [h]; exact Or.inr rfl
theorem p_nearOf {h1 : tpH} {F : Nat → Nat → Int32} {R0 m q : Nat} {s : mgS} {K : Nat → List Nat} (Y : bnX h1 F x p D z0 mk e0 e1 a1 k1 a2 k2 a3 k3 kd idn po b l r R0 s K) (m3 : m < 300) (q3 : q < 300) {R : Int32 → tpH → Prop} (kk : ∀ o, ((m ∈ tKi l q ∨ m ∈ tKi r q) → o = nrO l r (K q) q m) → (∀ d, o = some d → d ∈ K q) → R (nO o) (wI h1 F)) : w_Mg_nearestOf (p + 69) (some a2) (some a3) (nI m) (nI q) (wI h1 F) R := by
  have H := MG_fr Y.1.1 (bn_fr Y.1.2)
  obtain ⟨X, B, Lt, Rt⟩ := id H
  have g0 := (mgRw X.1.1).1
  have wl := Lt.2.2.2.1
  have wr := Rt.2.2.2.1
  have k3' : ∀ d, d ∈ K q → d < 300 := fun d hd => (FK_wf (R0 := R0) Y.2.1.1 Y.2.1.2.1 Y.2.1.2.2 Y.2.2.1).1 d (((FK_wf (R0 := R0) Y.2.1.1 Y.2.1.2.1 Y.2.1.2.2 Y.2.2.1).2.1 d q).mp hd).1
  have iff : ∀ {t : mT}, tWF 300 t → ((tIn t m && decide (tUp t m = some q)) = true ↔ m ∈ tKi t q) := fun {t} w => by
    rw [Bool.and_eq_true, decide_eq_true_iff]
    exact (w.1.2.1 m q).symm
  refine ⟨a2, rfl, Lt.1.1, tx_under Lt m3 q3 ?_⟩
  by_cases cl : m ∈ tKi l q
  · rw [if_pos ((iff wl).mpr cl)]
    refine ⟨fun _ => ⟨a3, rfl, Rt.1.1, tx_under Rt m3 q3 ?_⟩, fun g => absurd g (by decide)⟩
    by_cases cr : m ∈ tKi r q
    · rw [if_pos ((iff wr).mpr cr)]
      refine ⟨fun _ => ⟨g0, p_near Y Lt m3 q3 (fun o1 u1 v1 => ⟨g0, p_near Y Rt m3 q3 (fun o2 u2 v2 => ?_)⟩)⟩, fun g => absurd g (by decide)⟩
      rw [mnO_i (fun d hd => k3' d (v1 d hd)) (fun d hd => k3' d (v2 d hd))]
      refine kk _ (fun _ => ?_) (fun d hd => (mnO_m hd).elim (v1 d) (v2 d))
      unfold nrO
      rw [if_pos cl, if_pos cr, u1 cl, u2 cr]
    · rw [if_neg (fun g => cr ((iff wr).mp g))]
      refine ⟨fun g => absurd rfl g, fun _ => ⟨g0, p_near Y Lt m3 q3 (fun o1 u1 v1 => kk o1 (fun _ => ?_) v1)⟩⟩
      unfold nrO
      rw [if_pos cl, if_neg cr, u1 cl]
  · rw [if_neg (fun g => cl ((iff wl).mp g))]
    refine ⟨fun g => absurd rfl g, fun _ => ⟨g0, p_near Y Rt m3 q3 (fun o1 u1 v1 => kk o1 (fun g => ?_) v1)⟩⟩
    have cr := g.elim (fun z => absurd z cl) id
    unfold nrO
    rw [if_neg cl, if_pos cr, u1 cr]
theorem p_hgK {h1 : tpH} {F : Nat → Nat → Int32} {R0 m q : Nat} {s : mgS} {K : Nat → List Nat} (Y : bnX h1 F x p D z0 mk e0 e1 a1 k1 a2 k2 a3 k3 kd idn po b l r R0 s K) (hu : sUp s m = some q) (hm : m ∉ K q) {ao : Option Nat} (ha : ∀ d, ao = some d → d ∈ K q) {R : tpH → Prop} (kk : ∀ G, bnX h1 G x p D z0 mk e0 e1 a1 k1 a2 k2 a3 k3 kd idn po b l r R0 s (mU K q (inKids (loK kd q) (K q) m (aK (K q) ao))) → G (p + 20) 8 = F (p + 20) 8 → R (wI h1 G)) : w_Bu_hang (p + 20) (nI m) (nI q) (nO ao) (wI h1 F) R := by
  obtain ⟨⟨H1, fr⟩, ⟨HH, I, Eg⟩, hK, hB⟩ := id Y
  obtain ⟨_, ⟨_, lm⟩, ⟨_, lb⟩, _⟩ := mgRw H1.1.1.1
  have hw := FK_wf HH I Eg hK
  have qm := up_lt HH I hu
  have mi : sIn s m = true := by
    cases e : sIn s m with
    | true => rfl
    | false => rw [I.2.1 m e] at hu; cases hu
  have hlo : F (p + 2) q < 4 ↔ loK kd q = false := by
    rw [fr (p + 2) (by omega), (H1.1.2.1.2 q qm).1]
    exact loK_iff kd q
  refine p_cHang lb lm hB hw (m := m) (r := q) mi (FK_no hu hm) (Eg.1 m q hu) (a := ao) ha hlo (fun G hG fG => kk G ⟨⟨H1, fun c hc => ?_⟩, ⟨HH, I, Eg⟩, mU_OK hK (ins_OK (hK q) hu hm), ?_⟩ (by rw [fG _ (by omega) (by omega) (by omega) (by omega) (by omega)]))
  · rw [fG c (by omega) (by omega) (by omega) (by omega) (by omega)]
    exact fr c hc
  · rw [← FK_hng hu]
    exact hG
theorem hang_v {h : tpH} {d k q : Nat} (lb : lBu h d (some k)) (lm : lMa h k) {F : Nat → Nat → Int32} (q3 : q < 300) (hlo : ¬ F (k + 2) q < 4) {m v v' : Int32} {R : tpH → Prop} (H : w_Bu_hang d m (nI q) v (wI h F) R) : w_Bu_hang d m (nI q) v' (wI h F) R := by
  unfold w_Bu_hang at H ⊢
  simp only [wI_T, wI_R, lb.1, lb.2.1, lm.1, Option.some.injEq, exists_eq_left', true_and, e_Ma_isLoose lm] at H ⊢
  rw [rAt_n q3 n300, if_neg hlo] at H ⊢
  exact ⟨fun e => absurd e (by decide), H.2⟩
/-- under a loose parent, wherever it is told to come -/
theorem p_hgL {h1 : tpH} {F : Nat → Nat → Int32} {R0 m q : Nat} {s : mgS} {K : Nat → List Nat} (Y : bnX h1 F x p D z0 mk e0 e1 a1 k1 a2 k2 a3 k3 kd idn po b l r R0 s K) (hu : sUp s m = some q) (hm : m ∉ K q) (hl : loK kd q = true) {v : Int32} {k : Nat} {R : tpH → Prop} (kk : ∀ G, bnX h1 G x p D z0 mk e0 e1 a1 k1 a2 k2 a3 k3 kd idn po b l r R0 s (mU K q (inKids (loK kd q) (K q) m k)) → G (p + 20) 8 = F (p + 20) 8 → R (wI h1 G)) : w_Bu_hang (p + 20) (nI m) (nI q) v (wI h1 F) R := by
  obtain ⟨⟨H1, fr⟩, ⟨HH, I, Eg⟩, hK, hB⟩ := id Y
  obtain ⟨_, ⟨_, lm⟩, ⟨_, lb⟩, _⟩ := mgRw H1.1.1.1
  have qm := up_lt HH I hu
  have := H1.1.2.2.1
  have n4 : ¬ F (p + 2) q < 4 := fun g => by
    rw [fr (p + 2) (by omega), (H1.1.2.1.2 q qm).1] at g
    rw [(loK_iff kd q).mp g] at hl
    cases hl
  refine hang_v lb lm (by omega) n4 (v := nO none) (p_hgK Y hu hm (ao := none) (fun d hd => by cases hd) (fun G g1 g2 => kk G ?_ g2))
  rw [hl] at g1 ⊢
  exact g1
end MNEAR
