section MT6
/-! which nodes are free, and their families -/
noncomputable def pnm (w : mT) (m : Nat → Option Nat) (z : Nat) : Bool := (tPo w z).all (fun c => decide (m c = none))
theorem pnm_iff {w : mT} {m : Nat → Option Nat} {z : Nat} : pnm w m z = true ↔ ∀ c ∈ tPo w z, m c = none := by
  unfold pnm
  rw [List.all_eq_true]
  exact ⟨fun h z hz => of_decide_eq_true (h z hz), fun h z hz => decide_eq_true (h z hz)⟩
theorem pnm_k {w : mT} (hw : tWF 300 w) {m : Nat → Option Nat} {z : Nat} : pnm w m z = true ↔ m z = none ∧ ∀ c ∈ tKi w z, pnm w m c = true := by
  rw [pnm_iff]
  constructor
  · intro h
    exact ⟨h z (tPo_self hw.1.2.2.2.1 z), fun c hc => pnm_iff.mpr (fun d hd => h d ((tPo_mem hw.1.2.2.2.1).mpr (Or.inr ⟨c, hc, hd⟩)))⟩
  · rintro ⟨h1, h2⟩ c hc
    rcases (tPo_mem hw.1.2.2.2.1).mp hc with g | ⟨d, g1, g2⟩
    · rw [g]; exact h1
    · exact pnm_iff.mp (h2 d g1) c g2
def sfV (w : mT) (m : Nat → Option Nat) (i x : Nat) : Prop := m x = none ∧ ∀ c ∈ tKi w x, i ≤ pl w c → pnm w m c = true
noncomputable def sfL (w : mT) (m : Nat → Option Nat) (off i : Nat) (S0 : List Nat) : List Nat := (((pO w).drop i).filter (pnm w m)).map (off + ·) ++ S0
def sfFr (p rf : Nat) (F G : Nat → Nat → Int32) : Prop := ∀ b j, ¬ ((p + 37 ≤ b ∧ b ≤ p + 49) ∨ b = rf + 1) → G b j = F b j
theorem sfFr_tr {p rf : Nat} {F G H : Nat → Nat → Int32} (h1 : sfFr p rf F G) (h2 : sfFr p rf G H) : sfFr p rf F H := fun b j e => (h2 b j e).trans (h1 b j e)
def sfR (F : Nat → Nat → Int32) (rf : Nat) (w : mT) (m : Nat → Option Nat) (i : Nat) : Prop := ∀ x, tIn w x = true → (sfV w m i x → F (rf + 1) (pl w x) = 1) ∧ (¬ sfV w m i x → F (rf + 1) (pl w x) = 0)
theorem p_sf47 {h : tpH} {p mk : Nat} {t u w : mT} {kd idn : Nat → Int32} (ll : lLi h (p + 37) (some p)) (lm : lMa h p) (lt : lMt h (p + 50) (some p) (some (p + 37))) (hw : tWF 300 t) (hu : tWF 300 u) (hk : mk ≤ 300) {off : Nat} (hA : (off = 0 ∧ w = t) ∨ (off = 300 ∧ w = u)) {aw mkw : Nat} (lw : lTr h aw (pO w).length mkw) (lw2 : mkw ≤ 300) (lw3 : p + 101 ≤ aw) {F0 : Nat → Nat → Int32} (hM : MaP F0 p mk kd idn) (Tw : TrP F0 aw w mkw) (hmw : ∀ m, tIn w m = true → m < mk) {rf : Nat} (hr : rf = p + 55 ∨ rf = p + 57) (lr : rwL h rf (rf + 1) 300) (m : Nat → Option Nat) {S0 : List Nat} (hS : ∀ z ∈ S0, zm z < mk) (hS2 : ∀ c, tIn w c = true → off + c ∉ S0) {R : tpH → Prop} (kk : ∀ G, sfFr p rf F0 G → FamE G (p + 37) kd idn t u (sfL w m off 0 S0) → sfR G rf w m 0 → R (wI h G)) :
    ∀ (n i : Nat) (F : Nat → Nat → Int32), i ≤ (pO w).length → i < n → sfFr p rf F0 F → FamE F (p + 37) kd idn t u (sfL w m off i S0) → sfR F rf w m i → w_Mt_sortFree_47 R n (p + 50) (some aw) (some rf) (nI off) (nI i + (-1)) (wI h F)
  | 0, i, F, h1, h2, f, E, V => by omega
  | n + 1, 0, F, h1, h2, f, E, V => ⟨fun _ => kk F f E V, fun g => absurd (by decide) g⟩
  | n + 1, i + 1, F, h1, h2, f, E, V => by
    have ww : tWF 300 w := by rcases hA with ⟨_, e⟩ | ⟨_, e⟩ <;> rw [e] <;> assumption
    obtain ⟨x, ex, px, hx, nx⟩ := dr_cons ww (show i < (pO w).length by omega)
    have l4 := pO_le ww
    have ei : nI (i + 1) + (-1 : Int32) = nI i := nI_dn (by omega)
    have kidg : ∀ c ∈ tKi w x, i + 1 ≤ pl w c := fun c hc => by
      have := pl_kid_lt ww hc
      omega
    have vx : sfV w m (i + 1) x ↔ pnm w m x = true := by
      rw [pnm_k ww]
      exact ⟨fun g => ⟨g.1, fun c hc => g.2 c hc (kidg c hc)⟩, fun g => ⟨g.1, fun c hc _ => g.2 c hc⟩⟩
    have vs : ∀ y, (x ∉ tKi w y ∨ pnm w m x = true) → (sfV w m i y ↔ sfV w m (i + 1) y) := fun y hy =>
      ⟨fun g => ⟨g.1, fun c hc hl => g.2 c hc (by omega)⟩, fun g => ⟨g.1, fun c hc hl => by
        by_cases e : pl w c = i
        · have ec : c = x := pl_inj ww ((ww.1.2.1 c y).mp hc).1 hx (by omega)
          rcases hy with q | q
          · exact absurd (ec ▸ hc) q
          · rw [ec]; exact q
        · exact g.2 c hc (by omega)⟩⟩
    rw [ei]
    refine ⟨fun g => absurd g (nI_pos (by omega)), fun _ => ⟨rf, rfl, lr.1, p_at (rwL_w lr) (by decide) ?_⟩⟩
    have e1 : rAt (hI (wI h F) (rf + 1)) 300 (nI i) = F (rf + 1) (pl w x) := by rw [rAt_n (by omega) (by decide), px]; rfl
    rw [e1]
    have hM' : MaP F p mk kd idn := MaP_k hM (fun c c1 c2 => funext fun j => f c j (by omega))
    have Tw' : TrP F aw w mkw := TrP_kb (fun c c1 c2 => funext fun j => f c j (by omega)) Tw
    by_cases c : pnm w m x = true
    · have v1 := (V x hx).1 (vx.mpr c)
      rw [v1]
      refine ⟨fun g => absurd rfl g, fun _ => ⟨lt.1, p + 37, lt.2.2.1, ll.1, ?_⟩⟩
      rw [← px]
      refine p_Li_sortIn ll lm lw lw2 hw hu hA hx hk hM' Tw' (by omega) (by omega) E (fun z hz => ?_) (hmw x hx) (fun g => ?_) (fun d hd => ?_) (fun G g1 g2 => ?_)
      · rcases List.mem_append.mp hz with q | q
        · obtain ⟨d, d1, d2⟩ := List.mem_map.mp q
          have di := (pO_mem ww).mp (List.mem_of_mem_drop (List.mem_filter.mp d1).1)
          rw [← d2, (za (kd := kd) (idn := idn) hA (ww.1.1 d di)).2.2.2.2.1]
          exact hmw d di
        · exact hS z q
      · rcases List.mem_append.mp g with q | q
        · obtain ⟨d, d1, d2⟩ := List.mem_map.mp q
          have : d = x := by omega
          exact nx (this ▸ (List.mem_filter.mp d1).1)
        · exact hS2 x hx q
      · have di := ((ww.1.2.1 d x).mp hd).1
        exact List.mem_append_left _ (List.mem_map.mpr ⟨d, List.mem_filter.mpr ⟨mem_dr ww di (kidg d hd), ((pnm_k ww).mp c).2 d hd⟩, rfl⟩)
      · rw [px]
        refine p_sf47 ll lm lt hw hu hk hA lw lw2 lw3 hM Tw hmw hr lr m hS hS2 kk n i G (by omega) (by omega) (sfFr_tr f (fun b j hb => g2 b j (by omega))) ?_ (fun y hy => ?_)
        · unfold sfL
          rw [ex, List.filter_cons, if_pos c, List.map_cons, List.cons_append]
          exact g1
        · rw [vs y (Or.inr c), g2 (rf + 1) _ (by omega)]
          exact V y hy
    · have v0 := (V x hx).2 (fun g => c (vx.mp g))
      rw [v0]
      refine ⟨fun _ => ⟨aw, rfl, lw.1, ?_⟩, fun g => absurd g (by decide)⟩
      have eup : rAt (F (aw + 6)) (pO w).length (nI i) = nO ((tUp w x).map (pl w)) := by rw [rAt_n (by omega) (by omega), ← px]; exact (Tw'.2.1 x hx).2.2.1
      rw [e_Tr_upOf lw l4 lw2, eup]
      refine ⟨lr.1, p_put (rwL_w lr) (by decide) ?_⟩
      rw [wI_I, wI_wI]
      have eL : sfL w m off i S0 = sfL w m off (i + 1) S0 := by
        unfold sfL
        rw [ex, List.filter_cons, if_neg c]
      cases eu : tUp w x with
      | none =>
        show w_Mt_sortFree_47 R n (p + 50) (some aw) (some rf) (nI off) (nI i + (-1)) (wI h (rPut F (rf + 1) 300 (-1) 0))
        rw [rPut_m]
        refine p_sf47 ll lm lt hw hu hk hA lw lw2 lw3 hM Tw hmw hr lr m hS hS2 kk n i F (by omega) (by omega) f (by rw [eL]; exact E) (fun y hy => ?_)
        rw [vs y (Or.inl (fun g => by
          have := ((ww.1.2.1 x y).mp g).2
          rw [eu] at this
          cases this))]
        exact V y hy
      | some q =>
        have hq := ww.1.2.2.2.2 x q hx eu
        have hqk : x ∈ tKi w q := (ww.1.2.1 x q).mpr ⟨hx, eu⟩
        have pq := pl_lt ww hq
        show w_Mt_sortFree_47 R n (p + 50) (some aw) (some rf) (nI off) (nI i + (-1)) (wI h (rPut F (rf + 1) 300 (nI (pl w q)) 0))
        rw [rPut_n (by omega) (by decide)]
        refine p_sf47 ll lm lt hw hu hk hA lw lw2 lw3 hM Tw hmw hr lr m hS hS2 kk n i _ (by omega) (by omega) (fun b j hb => by rw [tpu_o (by omega)]; exact f b j hb) (by rw [eL]; exact FamE_fr (fun b j h1 h2 => by rw [tpu_o (by omega)]) E) (fun y hy => ?_)
        by_cases ey : y = q
        · rw [ey, tpu_s]
          exact ⟨fun g => absurd (g.2 x hqk (by omega)) c, fun _ => rfl⟩
        · rw [tpu_o (fun g => ey (pl_inj ww hy hq g.2)), vs y (Or.inl (fun g => ey (by
            have := ((ww.1.2.1 x y).mp g).2
            rw [eu] at this
            exact (Option.some.inj this).symm)))]
          exact V y hy
theorem p_sf3 {h : tpH} {p mk : Nat} {t u w : mT} {kd idn : Nat → Int32} (ll : lLi h (p + 37) (some p)) (lm : lMa h p) (lt : lMt h (p + 50) (some p) (some (p + 37))) (hw : tWF 300 t) (hu : tWF 300 u) (hk : mk ≤ 300) {off : Nat} (hA : (off = 0 ∧ w = t) ∨ (off = 300 ∧ w = u)) {aw mkw : Nat} (lw : lTr h aw (pO w).length mkw) (lw2 : mkw ≤ 300) (lw3 : p + 101 ≤ aw) {F0 : Nat → Nat → Int32} (hM : MaP F0 p mk kd idn) (Tw : TrP F0 aw w mkw) (hmw : ∀ m, tIn w m = true → m < mk) {rf : Nat} (hr : rf = p + 55 ∨ rf = p + 57) (lr : rwL h rf (rf + 1) 300) {rm : Nat} (hrm : rm = p + 51 ∨ rm = p + 53) (lrm : rwL h rm (rm + 1) 300) (m : Nat → Option Nat) (hm : ∀ x, tIn w x = true → (F0 (rm + 1) (pl w x) = -1 ↔ m x = none)) {S0 : List Nat} (hS : ∀ z ∈ S0, zm z < mk) (hS2 : ∀ c, tIn w c = true → off + c ∉ S0) (E0 : FamE F0 (p + 37) kd idn t u S0) {R : tpH → Prop} (kk : ∀ G, sfFr p rf F0 G → FamE G (p + 37) kd idn t u (sfL w m off 0 S0) → sfR G rf w m 0 → R (wI h G)) :
    ∀ (n i : Nat) (F : Nat → Nat → Int32), i ≤ (pO w).length → (pO w).length < n + i → (∀ b j, b ≠ rf + 1 → F b j = F0 b j) → (∀ x, tIn w x = true → pl w x < i → F (rf + 1) (pl w x) = if m x = none then 1 else 0) → w_Mt_sortFree_3 R n (p + 50) (some aw) (some rm) (some rf) (nI off) (nI i) (wI h F)
  | 0, i, F, h1, h2, f, V => by omega
  | n + 1, i, F, h1, h2, f, V => by
    have ww : tWF 300 w := by rcases hA with ⟨_, e⟩ | ⟨_, e⟩ <;> rw [e] <;> assumption
    have l4 := pO_le ww
    have Tw' : TrP F aw w mkw := TrP_kb (fun c c1 c2 => funext fun j => f c j (by omega)) Tw
    refine ⟨aw, rfl, lw.1, ?_⟩
    rw [wI_I, Tw'.1]
    by_cases hi : i < (pO w).length
    · obtain ⟨x, ex, px, hx, nx⟩ := dr_cons ww hi
      refine ⟨fun g => absurd ((nI_le_iff (by omega) (by omega)).mp g) (by omega), fun _ => ⟨rm, rfl, lrm.1, p_at (rwL_w lrm) (by decide) ?_⟩⟩
      have e1 : rAt (hI (wI h F) (rm + 1)) 300 (nI i) = F0 (rm + 1) (pl w x) := by rw [rAt_n (by omega) (by decide), px]; exact f _ _ (by omega)
      rw [e1]
      have go : ∀ v : Int32, v = (if m x = none then 1 else 0) → w_Mt_sortFree_30 R (w_Mt_sortFree_3 R n) (p + 50) (some aw) (some rm) (some rf) (nI off) (nI i) v (nI i) (some rf) (wI h F) := fun v ev => by
        refine ⟨rf, rfl, lr.1, p_put (rwL_w lr) (by decide) ?_⟩
        rw [wI_I, wI_wI, rPut_n (by omega) (by decide), nI_1]
        refine p_sf3 ll lm lt hw hu hk hA lw lw2 lw3 hM Tw hmw hr lr hrm lrm m hm hS hS2 E0 kk n (i + 1) _ (by omega) (by omega) (fun b j hb => by rw [tpu_o (by omega)]; exact f b j hb) (fun y hy hl => ?_)
        by_cases e : pl w y = i
        · rw [e, tpu_s, pl_inj ww hy hx (by omega)]
          exact ev
        · rw [tpu_o (by omega)]
          exact V y hy (by omega)
      refine ⟨fun g => go 0 ?_, fun g => go 1 ?_⟩
      · rw [if_neg (fun q => g ((hm x hx).mpr q))]
      · rw [if_pos ((hm x hx).mp g)]
    · refine ⟨fun _ => ⟨(pO w).length + 1, ?_⟩, fun g => absurd ((nI_le_iff (by omega) (by omega)).mpr (by omega)) g⟩
      rw [Int32.sub_eq_add_neg]
      refine p_sf47 ll lm lt hw hu hk hA lw lw2 lw3 hM Tw hmw hr lr m hS hS2 kk _ (pO w).length F (Nat.le_refl _) (Nat.lt_succ_self _) (fun b j hb => f b j (by omega)) ?_ (fun x hx => ?_)
      · have : sfL w m off (pO w).length S0 = S0 := by
          unfold sfL
          rw [List.drop_length]
          rfl
        rw [this]
        exact FamE_fr (fun b j h1 h2 => f b j (by omega)) E0
      · have v := V x hx (by have := pl_lt ww hx; omega)
        rw [v]
        refine ⟨fun g => if_pos g.1, fun g => if_neg (fun q => g ⟨q, fun c hc hl => ?_⟩)⟩
        have := pl_lt ww ((ww.1.2.1 c x).mp hc).1
        omega
theorem sfR_0 {F : Nat → Nat → Int32} {rf : Nat} {w : mT} (hw : tWF 300 w) {m : Nat → Option Nat} (V : sfR F rf w m 0) {x : Nat} (hx : tIn w x = true) : F (rf + 1) (pl w x) = 1 ↔ pnm w m x = true := by
  have e : sfV w m 0 x ↔ pnm w m x = true := by
    rw [pnm_k hw]
    exact ⟨fun g => ⟨g.1, fun c hc => g.2 c hc (Nat.zero_le _)⟩, fun g => ⟨g.1, fun c hc _ => g.2 c hc⟩⟩
  rw [← e]
  refine ⟨fun g => Classical.byContradiction (fun q => ?_), fun g => (V x hx).1 g⟩
  rw [(V x hx).2 q] at g
  exact absurd g (by decide)
end MT6
