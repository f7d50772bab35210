section MCTX
def trX (h : tpH) (D z0 e0 e1 mk a k : Nat) (t : mT) : Prop := lTr h a (pO t).length k ∧ (k ≤ 300 ∧ D ≤ a ∧ a + 19 ≤ z0) ∧ TrP (hI h) a t k ∧ tWF 300 t ∧ (∀ m, tIn t m = true → m < mk ∧ m < k) ∧ (e0 < a ∨ a + 19 ≤ e0) ∧ (e1 < a ∨ a + 19 ≤ e1)
def mX (h : tpH) (x p D z0 mk e0 e1 : Nat) (kd idn po : Nat → Int32) : Prop := (lTP h x p ∧ x < p ∧ cfE p D z0 e0 e1 ∧ z0 ≤ hZ h) ∧ MaP (hI h) p mk kd idn ∧ mk ≤ 300 ∧ PoP (hI h) p po
def MG (h : tpH) (x p D z0 mk e0 e1 a1 k1 a2 k2 a3 k3 : Nat) (kd idn po : Nat → Int32) (b l r : mT) : Prop := mX h x p D z0 mk e0 e1 kd idn po ∧ trX h D z0 e0 e1 mk a1 k1 b ∧ trX h D z0 e0 e1 mk a2 k2 l ∧ trX h D z0 e0 e1 mk a3 k3 r
/-- what merging may touch -/
def mtT (p z0 e0 e1 c _j : Nat) : Prop := (p + 20 ≤ c ∧ c < p + 35) ∨ (p + 72 ≤ c ∧ c < p + 90) ∨ c = e0 ∨ c = e1 ∨ z0 ≤ c
theorem trX_fr {h h' : tpH} {p D z0 e0 e1 mk a k : Nat} {t : mT} (H : trX h D z0 e0 e1 mk a k t) (hpD : p + 101 ≤ D) (hz : z0 ≤ hZ h) (f : hFr h h' (mtT p z0 e0 e1) (cfU p)) : trX h' D z0 e0 e1 mk a k t := by
  obtain ⟨H1, H2, H3, H4, H5, H6, H7⟩ := H
  have sm : ∀ c, a ≤ c → c < a + 19 → hSm h h' c := fun c c1 c2 => hFr_sS f (by omega) (fun j => by unfold mtT; omega) (fun j => by unfold cfU; omega)
  exact ⟨lTr_k H1 sm, H2, TrP_kb (fun c c1 c2 => (sm c c1 c2).2.2.2.1) H3, H4, H5, H6, H7⟩
theorem mX_fr {h h' : tpH} {x p D z0 mk e0 e1 : Nat} {kd idn po : Nat → Int32} (H : mX h x p D z0 mk e0 e1 kd idn po) (f : hFr h h' (mtT p z0 e0 e1) (cfU p)) : mX h' x p D z0 mk e0 e1 kd idn po := by
  obtain ⟨⟨H1, H2, H3, H4⟩, H5, H6, H7⟩ := H
  have E := H3
  unfold cfE at E
  have eI : ∀ c, c < p + 20 ∨ (p + 35 ≤ c ∧ c < p + 72) → hI h' c = hI h c := fun c hc => funext fun j => (f.2 c (by omega)).2.2.2.2.1 j (fun g => by unfold mtT at g; omega)
  exact ⟨⟨lTP_hFr H1 H2 (by omega) f (fun b j _ g => by unfold cfU at g; omega), H2, H3, Nat.le_trans H4 f.1⟩, MaP_k H5 (fun c c1 c2 => eI c (by omega)), H6, fun j hj => by rw [eI (p + 71) (by omega)]; exact H7 j hj⟩
variable {x p D z0 mk e0 e1 a1 k1 a2 k2 a3 k3 : Nat} {kd idn po : Nat → Int32} {b l r : mT}
theorem MG_fr {h h' : tpH} (H : MG h x p D z0 mk e0 e1 a1 k1 a2 k2 a3 k3 kd idn po b l r) (f : hFr h h' (mtT p z0 e0 e1) (cfU p)) : MG h' x p D z0 mk e0 e1 a1 k1 a2 k2 a3 k3 kd idn po b l r := by
  obtain ⟨H1, H2, H3, H4⟩ := H
  have E := H1.1.2.2.1
  unfold cfE at E
  have hz := H1.1.2.2.2
  exact ⟨mX_fr H1 f, trX_fr H2 E.2.2.2.2.2.1 hz f, trX_fr H3 E.2.2.2.2.2.1 hz f, trX_fr H4 E.2.2.2.2.2.1 hz f⟩
theorem cfT_mt {h h' : tpH} (f : hFr h h' (cfT p z0 e0 e1) (cfU p)) : hFr h h' (mtT p z0 e0 e1) (cfU p) := hFr_mono f (fun c j _ g => by unfold cfT at g; unfold mtT; omega) (fun _ _ _ g => g)
theorem mt_w {h : tpH} (F : Nat → Nat → Int32) (hk : ∀ c j, ¬ (p + 72 ≤ c ∧ c < p + 86) → F c j = hI h c j) : hFr h (wI h F) (mtT p z0 e0 e1) (cfU p) := hFr_w h _ (fun c j hc => by unfold mtT at hc; exact hk c j (by omega))
/-- a conflict is listed -/
theorem p_mgL {h : tpH} {cf : List (Nat × Nat)} {n k m : Nat} (H : MG h x p D z0 mk e0 e1 a1 k1 a2 k2 a3 k3 kd idn po b l r) (C : cfL h p z0 e0 e1 cf n) (hn : 1 ≤ n ∧ n ≤ 184001) (hc : cf.length < 92000) {R : tpH → Prop} (kk : ∀ h' n', MG h' x p D z0 mk e0 e1 a1 k1 a2 k2 a3 k3 kd idn po b l r → cfL h' p z0 e0 e1 (cf ++ [(k, m)]) n' → n ≤ n' ∧ n' ≤ 184001 → hFr h h' (cfT p z0 e0 e1) (cfU p) → hZ h' ≤ hZ h + (n' - n) → hU h' ≤ hU h + 4 * (n' - n) → R h') : w_Mg_list (p + 69) (nI k) (nI m) h R := by
  obtain ⟨⟨⟨l1, l2, l3, l4⟩, _⟩, _⟩ := id H
  exact p_Mg_list l1 l2 l3 l4 C hc hn.2 hn.1 (fun h' n' v1 v2 v3 v4 v5 _ => kk h' n' (MG_fr H (cfT_mt v3)) v1 v2 v3 v4 v5)
theorem p_choose {h : tpH} {cf : List (Nat × Nat)} {n k m : Nat} (H : MG h x p D z0 mk e0 e1 a1 k1 a2 k2 a3 k3 kd idn po b l r) (C : cfL h p z0 e0 e1 cf n) (hn : 1 ≤ n ∧ n ≤ 184001) (hc : cf.length < 92000) (hk : k < 6) {hb q1 q2 q3 : Bool} {v xb xl xr : Int32} (hv : v = if hb = true then 1 else 0) (g1 : xl = xr ↔ q1 = true) (g2 : hb = true → (xr = xb ↔ q2 = true)) (g3 : hb = true → (xl = xb ↔ q3 = true)) {R : Int32 → tpH → Prop} (kk : ∀ h' n', MG h' x p D z0 mk e0 e1 a1 k1 a2 k2 a3 k3 kd idn po b l r → cfL h' p z0 e0 e1 (cf ++ (if (chS (po k) hb q1 q2 q3).2 = true then [(k, m)] else [])) n' → n ≤ n' ∧ n' ≤ 184001 → hFr h h' (cfT p z0 e0 e1) (cfU p) → hZ h' ≤ hZ h + (n' - n) → hU h' ≤ hU h + 4 * (n' - n) → R (pk3 (chS (po k) hb q1 q2 q3).1 xl xr xb) h') : w_Mg_choose (p + 69) (nI k) (nI m) v xb xl xr h R := by
  have same : (chS (po k) hb q1 q2 q3).2 = false → R (pk3 (chS (po k) hb q1 q2 q3).1 xl xr xb) h := fun e => by
    have q := kk h n H
    rw [e, if_neg Bool.false_ne_true, List.append_nil] at q
    exact q C ⟨Nat.le_refl _, hn.2⟩ ⟨Nat.le_refl _, fun _ _ => ⟨rfl, rfl, rfl, rfl, fun _ _ => rfl, fun _ _ => rfl⟩⟩ (by omega) (by omega)
  have v0 : v = 0 ↔ hb = false := by
    rw [hv]
    cases hb <;> simp
  have c35 : chS (po k) hb q1 q2 q3 = (if po k = 2 then 1 else if po k = 1 ∨ hb = false then 0 else 2, true) → w_Mg_choose_35 R (p + 69) (nI k) (nI m) v xb xl xr h := fun e => by
    obtain ⟨g0, _, _, _, _, r2, w2⟩ := lTP_mgL H.1.1.1
    refine ⟨g0, p_mgL H C hn hc (fun h' n' v1 v2 v3 v4 v5 v6 => ?_)⟩
    have kv := kk h' n' v1
    rw [e] at kv
    have kv := kv v2 v3 v4 v5 v6
    obtain ⟨g0', _, _, _, _, r2', w2'⟩ := lTP_mgL v1.1.1.1
    refine ⟨g0', p + 70, r2', w2'.1, p_at w2' (by decide) ?_⟩
    rw [rAt_n (by omega) (by decide), v1.1.2.2.2 k hk]
    by_cases c2 : po k = 2
    · rw [if_pos c2] at kv
      exact ⟨fun g => absurd c2 g, fun _ => kv⟩
    · rw [if_neg c2] at kv
      refine ⟨fun _ => ⟨fun g => ?_, fun g => ⟨fun q => ?_, fun q => ?_⟩⟩, fun g => absurd g c2⟩
      · rw [if_pos (Or.inl g)] at kv
        exact kv
      · rw [if_neg (fun z => z.elim g (fun z => q (v0.mpr z)))] at kv
        exact kv
      · rw [if_pos (Or.inr (v0.mp q))] at kv
        exact kv
  refine ⟨fun e => ?_, fun ne => ?_⟩
  · have h1 := g1.mp e
    have hs : chS (po k) hb q1 q2 q3 = (0, false) := by
      unfold chS
      rw [h1, Bool.true_or, if_pos rfl]
    rw [hs] at same
    exact same rfl
  · have h1 : q1 = false := by
      cases q : q1 with
      | false => rfl
      | true => exact absurd (g1.mpr q) ne
    cases eb : hb with
    | false =>
      refine ⟨fun _ => ⟨fun _ => c35 ?_, fun g => absurd (v0.mpr eb) g⟩, fun g => absurd (v0.mpr eb) g⟩
      rw [eb, h1]
      rfl
    | true =>
      have nv : ¬ v = 0 := fun g => by rw [v0.mp g] at eb; cases eb
      refine ⟨fun g => absurd g nv, fun _ => ⟨fun n2 => ?_, fun e2 => ?_⟩⟩
      · have h2 : q2 = false := by
          cases q : q2 with
          | false => rfl
          | true => exact absurd ((g2 eb).mpr q) n2
        refine ⟨fun g => absurd g nv, fun _ => ⟨fun n3 => c35 ?_, fun e3 => ?_⟩⟩
        · have h3 : q3 = false := by
            cases q : q3 with
            | false => rfl
            | true => exact absurd ((g3 eb).mpr q) n3
          rw [eb, h1, h2, h3]
          rfl
        · have h3 := (g3 eb).mp e3
          have hs : chS (po k) hb q1 q2 q3 = (1, false) := by rw [eb, h1, h2, h3]; rfl
          rw [hs] at same
          exact same rfl
      · have h2 := (g2 eb).mp e2
        have hs : chS (po k) hb q1 q2 q3 = (0, false) := by
          unfold chS
          rw [eb, h2, h1]
          rfl
        rw [hs] at same
        exact same rfl
theorem tx_holds {h : tpH} {a k : Nat} {t : mT} (T : trX h D z0 e0 e1 mk a k t) {m : Nat} (m3 : m < 300) {R : Int32 → tpH → Prop} (kk : R (if tIn t m = true then 1 else 0) h) : w_Tr_holds a (nI m) h R := by
  obtain ⟨l1, ⟨l2, _⟩, l3, l4, l5, _⟩ := T
  show w_Tr_holds a (nI m) (wI h (hI h)) R
  rw [e_Tr_holds l1 (pO_le l4) l2, tr_pl l3 l2 (fun m hm => (l5 m hm).2) m3]
  cases e : tIn t m with
  | true =>
    have := pl_lt l4 e
    have := pO_le l4
    rw [e] at kk
    rw [if_pos rfl, if_neg (nI_ne_m (by omega))]
    exact kk
  | false =>
    rw [e] at kk
    rw [if_neg Bool.false_ne_true, if_pos rfl]
    exact kk
theorem tx_worth {h : tpH} {a k : Nat} {t : mT} (T : trX h D z0 e0 e1 mk a k t) {m : Nat} (m3 : m < 300) {R : Int32 → tpH → Prop} (kk : ∀ v, (tIn t m = true → v = tWo t m) → R v h) : w_Tr_worthOfMark a (nI m) h R := by
  obtain ⟨l1, ⟨l2, _⟩, l3, l4, l5, _⟩ := T
  show w_Tr_worthOfMark a (nI m) (wI h (hI h)) R
  rw [e_Tr_worthOfMark l1 (pO_le l4) l2, tr_pl l3 l2 (fun m hm => (l5 m hm).2) m3]
  refine kk _ (fun e => ?_)
  rw [if_pos e]
  exact tr_wo l3 l4 e
theorem tx_par {h : tpH} {a k : Nat} {t : mT} (T : trX h D z0 e0 e1 mk a k t) {m : Nat} (m3 : m < 300) {R : Int32 → tpH → Prop} (kk : ∀ v, (tIn t m = true → v = nO (tUp t m)) → R v h) : w_Tr_parentOfMark a (nI m) h R := by
  obtain ⟨l1, ⟨l2, _⟩, l3, l4, l5, _⟩ := T
  show w_Tr_parentOfMark a (nI m) (wI h (hI h)) R
  rw [e_Tr_parentOfMark l1 (pO_le l4) l2, tr_pl l3 l2 (fun m hm => (l5 m hm).2) m3]
  refine kk _ (fun e => ?_)
  rw [if_pos e]
  exact tr_um l3 l4 e
theorem up_i {t : mT} (hw : tWF 300 t) {m p : Nat} (hm : tIn t m = true) (hp : p < 300) : nO (tUp t m) = nI p ↔ tUp t m = some p := by
  cases e : tUp t m with
  | none => exact ⟨fun g => absurd g.symm (nI_ne_m (by omega)), fun g => by cases g⟩
  | some q =>
    have := hw.1.1 q (hw.1.2.2.2.2 m q hm e)
    exact ⟨fun g => by rw [nI_inj (by omega) (by omega) g], fun g => by rw [Option.some.inj g]; rfl⟩
theorem tx_under {h : tpH} {a k : Nat} {t : mT} (T : trX h D z0 e0 e1 mk a k t) {m q : Nat} (m3 : m < 300) (q3 : q < 300) {R : Int32 → tpH → Prop} (kk : R (if (tIn t m && decide (tUp t m = some q)) = true then 1 else 0) h) : w_Tr_hasUnder a (nI m) (nI q) h R := by
  obtain ⟨l1, ⟨l2, _⟩, l3, l4, l5, _⟩ := T
  show w_Tr_hasUnder a (nI m) (nI q) (wI h (hI h)) R
  rw [e_Tr_hasUnder l1 (pO_le l4) l2, tr_pl l3 l2 (fun m hm => (l5 m hm).2) m3]
  cases e : tIn t m with
  | true =>
    have := pl_lt l4 e
    have := pO_le l4
    rw [e, Bool.true_and] at kk
    rw [if_pos rfl, if_neg (nI_ne_m (by omega)), tr_um l3 l4 e]
    by_cases c : tUp t m = some q
    · rw [decide_eq_true c, if_pos rfl] at kk
      rw [if_pos ((up_i l4 e q3).mpr c)]
      exact kk
    · rw [decide_eq_false c, if_neg Bool.false_ne_true] at kk
      rw [if_neg (fun g => c ((up_i l4 e q3).mp g))]
      exact kk
  | false =>
    rw [e, Bool.false_and, if_neg Bool.false_ne_true] at kk
    rw [if_neg Bool.false_ne_true, if_pos rfl]
    exact kk
end MCTX
