section COMES2
theorem tch_eq {b s : mT} (ws : tWF 300 s) {m : Nat} (hi : tIn s m = true) : mgTch b s m = ((!(decide (tWo s m = tWo b m) && decide (tUp s m = tUp b m))) || (pO s).any (fun x => decide (tUp s x = some m) && bdK b m x)) := by
  unfold mgTch
  rw [Bool.not_and, List.not_all_eq_any_not, ← pO_ki ws hi, List.any_filter]
  rfl
theorem lpk3_b {α : Type} {n : Nat} {x y z z' : α} (h : 2 ≤ n → z = z') : pk3 n x y z = pk3 n x y z' := by
  match n, h with
  | 0, _ => rfl
  | 1, _ => rfl
  | n + 2, h => rw [h (by omega)]
theorem lpk3_f {α β : Type} (f : α → β) (n : Nat) (x y z : α) : pk3 n (f x) (f y) (f z) = f (pk3 n x y z) := by
  match n with
  | 0 => rfl
  | 1 => rfl
  | n + 2 => rfl
theorem nOu {t u : mT} (ht : tWF 300 t) (hu : tWF 300 u) {m : Nat} (h1 : tIn t m = true) (h2 : tIn u m = true) : nO (tUp t m) = nO (tUp u m) ↔ tUp t m = tUp u m :=
  ⟨fun g => nO_inj (fun k hk => by have := ht.1.1 k (ht.1.2.2.2.2 m k h1 hk); omega) (fun k hk => by have := hu.1.1 k (hu.1.2.2.2.2 m k h2 hk); omega) g, fun g => by rw [g]⟩
/-- the row of a tree -/
def bR (h : tpH) (F : Nat → Nat → Int32) (t : Nat) (T : mT) : Prop := (iA h t 41 ∧ rwP F t (preL T)) ∧ tWF 300 T ∧ tVa T
theorem bR_k {h : tpH} {F G : Nat → Nat → Int32} {t : Nat} {T : mT} (H : bR h F t T) (e : G t = F t) : bR h G t T := ⟨⟨H.1.1, rwP_k H.1.2 e⟩, H.2⟩
theorem bR_p {h : tpH} {F : Nat → Nat → Int32} {t m : Nat} {T : mT} (H : bR h F t T) (hm : m < 40) {R : Int32 → tpH → Prop} (kk : R (rPa (tIn T) (tUp T) m) (wI h F)) : w_Lw_parentOf (some t) (nI m) (wI h F) R :=
  p_pOf (h := wI h F) H.1.1 H.1.2 (preL_rwT H.2.1 H.2.2) (by omega) kk
theorem bR_v {h : tpH} {F : Nat → Nat → Int32} {t m : Nat} {T : mT} (H : bR h F t T) (hm : m < 40) {R : Int32 → tpH → Prop} (kk : R (rVa (tIn T) (tWo T) m) (wI h F)) : w_Lw_valueOf (some t) (nI m) (wI h F) R :=
  p_vOf (h := wI h F) H.1.1 H.1.2 (preL_rwT H.2.1 H.2.2) (by omega) kk
theorem bR_has {h : tpH} {F : Nat → Nat → Int32} {t m : Nat} {T : mT} (H : bR h F t T) (hm : m < 40) {K : Int32 → tpH → Prop} (kk : K (lB (tIn T m)) (wI h F)) : w_Lw_place (some t) (nI m) (wI h F) (fun v2 h1 => (v2 < 0 → K (0 : Int32) h1) ∧ (¬ v2 < 0 → K (1 : Int32) h1)) := by
  have qT := preL_rwT H.2.1 H.2.2
  refine p_place (h := wI h F) H.1.1 H.1.2 (by omega) (fun i e hi he => ⟨fun g => absurd g (nI_pos ?_), fun _ => ?_⟩) (fun no => ⟨fun _ => ?_, fun g => absurd (show (-1 : Int32) < 0 by decide) g⟩)
  · have := (List.getElem?_eq_some_iff.mp hi).1
    have := H.1.2.2.1
    omega
  · have : tIn T m = true := (qT.1 m).mpr ⟨e, List.mem_of_getElem? hi, he⟩
    rw [this] at kk
    exact kk
  · have : tIn T m = false := by
      cases q : tIn T m with
      | false => rfl
      | true =>
        obtain ⟨e, h1, h2⟩ := (qT.1 m).mp q
        exact absurd h2 (no e h1)
    rw [this] at kk
    exact kk
theorem rPa_1 {I : Nat → Bool} {U : Nat → Option Nat} {m : Nat} (h : I m = true) : rPa I U m = nO (U m) := if_pos h
theorem rVa_1 {I : Nat → Bool} {W : Nat → Int32} {m : Nat} (h : I m = true) : rVa I W m = W m := if_pos h
theorem p_touched {h : tpH} {tb ts m : Nat} {b s : mT} {F : Nat → Nat → Int32} (Hb : bR h F tb b) (Hs : bR h F ts s) (hm : m < 40) (ib : tIn b m = true) (is : tIn s m = true) {R : Int32 → tpH → Prop} (kk : R (lB (mgTch b s m)) (wI h F)) : w_Lw_isTouched (some tb) (some ts) (nI m) (wI h F) R := by
  have wb := Hb.2.1
  have ws := Hs.2.1
  rw [tch_eq ws is] at kk
  have go : ∀ v0, v0 = (!(decide (tWo s m = tWo b m) && decide (tUp s m = tUp b m))) → ∃ n, w_Lw_isTouched_35 R n (some tb) (some ts) (nI m) (lB v0) 0 (wI h F) := fun v0 e => by
    rw [← e] at kk
    have := p_it35 (h := wI h F) (v0 := v0) Hb.1.1 Hs.1.1 Hb.1.2 Hs.1.2 wb ws Hb.2.2 Hs.2.2 hm kk ((pO s).length + 1) 0 [] (pO s) rfl rfl (Nat.lt_succ_self _)
    rw [List.any_nil, Bool.or_false] at this
    exact ⟨_, this⟩
  refine bR_v Hb hm (bR_v Hs hm ?_)
  rw [rVa_1 ib, rVa_1 is]
  refine ⟨fun g => go true ?_, fun g => bR_p Hb hm (bR_p Hs hm ?_)⟩
  · rw [decide_eq_false (fun q => g q.symm)]; rfl
  · rw [rPa_1 ib, rPa_1 is, nOu wb ws ib is]
    refine ⟨fun g2 => go false ?_, fun g2 => go true ?_⟩
    · rw [decide_eq_true g.symm, decide_eq_true g2.symm]; rfl
    · rw [decide_eq_true g.symm, decide_eq_false (fun q => g2 q.symm)]; rfl
def cOut (m : Nat) : Option (Int32 × Option Nat) → Int32
  | none => -1
  | some (v, u) => (nI m + (64 : Int32) * v) + (8192 : Int32) * (nO u + 1)
theorem p_c225 {h : tpH} {tl tr ts m : Nat} {s : mT} {F : Nat → Nat → Int32} (Hs : bR h F ts s) (hm : m < 40) (is : tIn s m = true) {x7 : Int32} (e : (x7 = 0 ∧ ts = tr) ∨ (x7 = 1 ∧ ts = tl)) {R : Int32 → tpH → Prop} (kk : R (cOut m (some (tWo s m, tUp s m))) (wI h F)) : w_Lw_comes_211 R (some tl) (some tr) (nI m) x7 (wI h F) := by
  have r45 : w_Lw_comes_245 R (nI m) (some ts) (8192 : Int32) (nI m + (64 : Int32) * tWo s m) (wI h F) := bR_p Hs hm (by rw [rPa_1 is]; exact kk)
  rcases e with ⟨rfl, rfl⟩ | ⟨rfl, rfl⟩
  · refine ⟨fun _ => bR_v Hs hm ?_, fun g => absurd rfl g⟩
    rw [rVa_1 is]
    exact ⟨fun _ => r45, fun g => absurd rfl g⟩
  · refine ⟨fun g => absurd g (by decide), fun _ => bR_v Hs hm ?_⟩
    rw [rVa_1 is]
    exact ⟨fun g => absurd g (by decide), fun _ => r45⟩
theorem p_c149 {h : tpH} {tb tl tr ts c g m : Nat} {b s : mT} (ac : iA h c 64) (ag : iA h g 6) (hc : (tb ≠ c ∧ ts ≠ c) ∧ g ≠ c) {F : Nat → Nat → Int32} {cf : List (Nat × Nat)} (C : cP F c cf) (hl : cf.length < 100000) {po : Nat → Int32} (hg : ∀ k, k < 6 → F g k = po k) (hpo : po 0 = 0 ∨ po 0 = 1 ∨ po 0 = 2) (Hb : bR h F tb b) (Hs : bR h F ts s) (hm : m < 40) (is : tIn s m = true) {x7 w : Int32} (e : (x7 = 0 ∧ ts = tr ∧ w = 2) ∨ (x7 = 1 ∧ ts = tl ∧ w = 1)) {R : Int32 → tpH → Prop}
    (kk : ∀ G, (∀ x, x ≠ c → G x = F x) → cP G c (cf ++ (mg1 po b s w m).2) → R (cOut m (mg1 po b s w m).1) (wI h G)) : w_Lw_comes_149 R (some tb) (some tl) (some tr) (some c) (some g) (nI m) (lB (tIn b m)) x7 (wI h F) := by
  have e2 : (x7 = 0 ∧ ts = tr) ∨ (x7 = 1 ∧ ts = tl) := e.imp (fun q => ⟨q.1, q.2.1⟩) (fun q => ⟨q.1, q.2.1⟩)
  cases ib : tIn b m with
  | false =>
    have em : mg1 po b s w m = (some (tWo s m, tUp s m), []) := by unfold mg1; rw [if_neg (by rw [ib]; simp)]
    rw [em] at kk
    exact ⟨fun _ => p_c225 Hs hm is e2 (kk F (fun _ _ => rfl) (by rw [List.append_nil]; exact C)), fun q => absurd rfl q⟩
  | true =>
    have r65 : w_Lw_comes_165 R (w_Lw_comes_211 R) (some tl) (some tr) (some c) (some g) (nI m) x7 (some ts) (some tb) (wI h F) := by
      refine p_touched Hb Hs hm ib is ⟨fun g1 => ?_, fun g1 => ?_⟩
      · have et : mgTch b s m = true := by
          cases q : mgTch b s m with
          | true => rfl
          | false => rw [q] at g1; exact absurd rfl g1
        have em : mg1 po b s w m = (if po 0 = 0 ∨ po 0 = w then some (tWo s m, tUp s m) else none, [(0, m)]) := by unfold mg1; rw [if_pos ib, if_pos et]
        rw [em] at kk
        have e8 : (8 : Int32) * nI m = nI (8 * m + 0) := by rw [show (8 : Int32) = nI 8 from rfl, mI_mul]; rfl
        rw [e8]
        refine p_adds ac C hl (fun G g2 g3 => ⟨g, rfl, ag.1, by rw [show hL (wI h G) g = 6 from ag.2]; exact vp0 (by decide) (by decide), ?_⟩)
        have kG := kk G g2 g3
        rw [show (0 : Int32).toNatClampNeg = 0 from rfl, wI_I, g2 g hc.2, hg 0 (by decide)]
        have s211 : (po 0 = 0 ∨ po 0 = w) → w_Lw_comes_211 R (some tl) (some tr) (nI m) x7 (wI h G) := fun q => by
          rw [if_pos q] at kG
          exact p_c225 (bR_k Hs (g2 ts hc.1.2)) hm is e2 kG
        have no : ¬ (po 0 = 0 ∨ po 0 = w) → R (-1) (wI h G) := fun q => by
          rw [if_neg q] at kG
          exact kG
        refine ⟨fun q => s211 (Or.inl q), fun q => ⟨by rw [show hL (wI h G) g = 6 from ag.2]; exact vp0 (by decide) (by decide), fun q2 => ?_, fun q2 => ?_⟩⟩
        · have q3 : po 0 = 2 := (hpo.resolve_left q).resolve_left q2
          rcases e with ⟨rfl, _, rfl⟩ | ⟨rfl, _, rfl⟩
          · exact ⟨fun _ => s211 (Or.inr q3), fun x => absurd rfl x⟩
          · exact ⟨fun x => absurd x (by decide), fun _ => no (fun x => x.elim q q2)⟩
        · rcases e with ⟨rfl, _, rfl⟩ | ⟨rfl, _, rfl⟩
          · exact ⟨fun x => absurd x (by decide), fun _ => no (fun x => x.elim q (fun y => absurd (q2.symm.trans y) (by decide)))⟩
          · exact ⟨fun _ => s211 (Or.inr q2), fun x => absurd rfl x⟩
      · have et : mgTch b s m = false := by
          cases q : mgTch b s m with
          | false => rfl
          | true => rw [q] at g1; exact absurd g1 (by decide)
        have em : mg1 po b s w m = (none, []) := by unfold mg1; rw [if_pos ib, if_neg (by rw [et]; simp)]
        rw [em] at kk
        exact kk F (fun _ _ => rfl) (by rw [List.append_nil]; exact C)
    refine ⟨fun q => absurd q (by decide), fun _ => ?_⟩
    rcases e with ⟨rfl, rfl, _⟩ | ⟨rfl, rfl, _⟩
    · exact ⟨fun _ => r65, fun q => absurd rfl q⟩
    · exact ⟨fun q => absurd q (by decide), fun _ => r65⟩
theorem p_comes {h : tpH} {tb tl tr c g m : Nat} {b l r : mT} (ac : iA h c 64) (ag : iA h g 6) (hc : (tb ≠ c ∧ tl ≠ c ∧ tr ≠ c) ∧ g ≠ c) {F : Nat → Nat → Int32} {cf : List (Nat × Nat)} (C : cP F c cf) (hl : cf.length + 2 < 100000) {po : Nat → Int32} (hg : ∀ k, k < 6 → F g k = po k) (hpo : po 0 = 0 ∨ po 0 = 1 ∨ po 0 = 2) (Hb : bR h F tb b) (Hl : bR h F tl l) (Hr : bR h F tr r) (hm : m < 40) {R : Int32 → tpH → Prop}
    (kk : ∀ G, (∀ x, x ≠ c → G x = F x) → cP G c (cf ++ (mgD po b l r m).2) → R (cOut m (mgD po b l r m).1) (wI h G)) : w_Lw_comes (some tb) (some tl) (some tr) (some c) (some g) (nI m) (wI h F) R := by
  obtain ⟨⟨hc1, hc2, hc3⟩, hc4⟩ := hc
  unfold mgD at kk
  refine bR_has (K := fun v h1 => w_Lw_comes_14 R (some tb) (some tl) (some tr) (some c) (some g) (nI m) v h1) Hb hm (bR_has (K := fun v h1 => w_Lw_comes_30 R (some tb) (some tl) (some tr) (some c) (some g) (nI m) (lB (tIn b m)) v h1) Hl hm (bR_has (K := fun v h1 => w_Lw_comes_46 R (some tb) (some tl) (some tr) (some c) (some g) (nI m) (lB (tIn b m)) (lB (tIn l m)) v h1) Hr hm ?_))
  cases il : tIn l m with
  | false =>
    rw [if_neg (by rw [il]; simp)] at kk
    cases ir : tIn r m with
    | false =>
      rw [if_neg (by rw [ir]; simp)] at kk
      exact ⟨fun q => absurd rfl q, fun _ => ⟨fun q => absurd rfl q, fun _ => kk F (fun _ _ => rfl) (by rw [List.append_nil]; exact C)⟩⟩
    | true =>
      rw [if_pos ir] at kk
      refine ⟨fun q => absurd rfl q, fun _ => ⟨fun _ => ⟨fun _ => ?_, fun q => absurd rfl q⟩, fun q => absurd q (by decide)⟩⟩
      exact p_c149 ac ag ⟨⟨hc1, hc3⟩, hc4⟩ C (by omega) hg hpo Hb Hr hm ir (Or.inl ⟨rfl, rfl, rfl⟩) kk
  | true =>
    rw [if_pos il] at kk
    cases ir : tIn r m with
    | false =>
      rw [if_neg (by rw [ir]; simp)] at kk
      refine ⟨fun _ => ⟨fun q => absurd q (by decide), fun _ => ⟨fun _ => ?_, fun q => absurd rfl q⟩⟩, fun q => absurd q (by decide)⟩
      exact p_c149 ac ag ⟨⟨hc1, hc2⟩, hc4⟩ C (by omega) hg hpo Hb Hl hm il (Or.inr ⟨rfl, rfl, rfl⟩) kk
    | true =>
      rw [if_pos ir] at kk
      refine ⟨fun _ => ⟨fun q => absurd q (by decide), fun _ => ⟨fun q => absurd q (by decide), fun _ => ?_⟩⟩, fun q => absurd q (by decide)⟩
      refine bR_v Hb hm (bR_v Hl hm (bR_v Hr hm ?_))
      rw [rVa_1 il, rVa_1 ir]
      have vb : rVa (tIn b) (tWo b) m = -1 ↔ tIn b m = false := by
        unfold rVa
        cases ib : tIn b m with
        | false => exact ⟨fun _ => rfl, fun _ => if_neg (by simp)⟩
        | true =>
          rw [if_pos rfl]
          refine ⟨fun q => ?_, fun q => by cases q⟩
          obtain ⟨v, v1, v2⟩ := Hb.2.2 m ib
          rw [v2] at q
          exact absurd q (nI_ne_m (by omega))
      refine p_decided ac ag hc4 C (by omega) (k := 1) (by decide) (hg 1 (by decide)) (hb := tIn b m) (e1 := decide (tWo l m = tWo r m)) (e2 := decide (tWo r m = tWo b m)) (e3 := decide (tWo l m = tWo b m)) vb (by simp) (fun ib => by rw [rVa_1 ib]; simp) (fun ib => by rw [rVa_1 ib]; simp) (fun G g1 g2 => ?_)
      have ev : pk3 (chS (po 1) (tIn b m) (decide (tWo l m = tWo r m)) (decide (tWo r m = tWo b m)) (decide (tWo l m = tWo b m))).1 (tWo l m) (tWo r m) (rVa (tIn b) (tWo b) m) = pk3 (mgV po b l r m).1 (tWo l m) (tWo r m) (tWo b m) := lpk3_b (fun q => rVa_1 (chS_b q))
      rw [ev]
      refine bR_p (bR_k Hb (g1 tb hc1)) hm (bR_p (bR_k Hl (g1 tl hc2)) hm (bR_p (bR_k Hr (g1 tr hc3)) hm ?_))
      rw [rPa_1 il, rPa_1 ir]
      have pb : rPa (tIn b) (tUp b) m = -2 ↔ tIn b m = false := by
        unfold rPa
        cases ib : tIn b m with
        | false => exact ⟨fun _ => rfl, fun _ => if_neg (by simp)⟩
        | true =>
          rw [if_pos rfl]
          refine ⟨fun q => ?_, fun q => by cases q⟩
          have q2 := congrArg Int32.toInt q
          have h2 : (-2 : Int32).toInt = -2 := rfl
          cases hu : tUp b m with
          | none =>
            rw [hu] at q2
            have h3 : (nO none).toInt = -1 := rfl
            omega
          | some p =>
            have hp := Hb.2.1.1.1 p (Hb.2.1.1.2.2.2.2 m p ib hu)
            rw [hu] at q2
            have h3 : (nO (some p)).toInt = (p : Int) := nI_toInt (by omega)
            omega
      refine p_decided ac ag hc4 g2 (by rw [List.length_append]; split <;> simp <;> omega) (k := 2) (by decide) ((congrFun (g1 g hc4) 2).trans (hg 2 (by decide))) (hb := tIn b m) (e1 := decide (tUp l m = tUp r m)) (e2 := decide (tUp r m = tUp b m)) (e3 := decide (tUp l m = tUp b m)) pb (by rw [nOu Hl.2.1 Hr.2.1 il ir]; simp) (fun ib => by rw [rPa_1 ib, nOu Hr.2.1 Hb.2.1 ir ib]; simp) (fun ib => by rw [rPa_1 ib, nOu Hl.2.1 Hb.2.1 il ib]; simp) (fun G' g3 g4 => ?_)
      have eu : pk3 (chS (po 2) (tIn b m) (decide (tUp l m = tUp r m)) (decide (tUp r m = tUp b m)) (decide (tUp l m = tUp b m))).1 (nO (tUp l m)) (nO (tUp r m)) (rPa (tIn b) (tUp b) m) = nO (pk3 (mgU po b l r m).1 (tUp l m) (tUp r m) (tUp b m)) := by
        rw [← lpk3_f nO]
        exact lpk3_b (fun q => rPa_1 (chS_b q))
      rw [eu]
      rw [List.append_assoc] at g4
      exact kk G' (fun x hx => (g3 x hx).trans (g1 x hx)) g4
end COMES2
