section PNODE
/-- where a mark comes in among children -/
def inKids (lo : Bool) (l : List Nat) (m K : Nat) : List Nat := hgA lo l m (l.take K) ++ m :: hgB lo l m (l.drop K)
def dNode (t : mT) (k : Nat) (v : Int32) (r : Nat) (lo : Bool) (K : Nat) : mT := tHng (tSpr t k v) k r (inKids lo (tKi t r) k K)
def dMove (t : mT) (m r : Nat) (lo : Bool) (K : Nat) : mT := tHng (tCut t m) m r (inKids lo (tKi (tCut t m) r) m K)
theorem in_split (lo : Bool) (l : List Nat) (m K : Nat) : l = hgA lo l m (l.take K) ++ hgB lo l m (l.drop K) := hg_app (List.take_append_drop K l).symm
theorem spr_kids {t : mT} {k r : Nat} {v : Int32} (h : r ≠ k) : tKi (tSpr t k v) r = tKi t r := mU_n _ _ h
theorem spr_po {N : Nat} {t : mT} (hw : fWF N t) {k r : Nat} {v : Int32} (hk : tIn t k = false) (hN : k < N) (hr : r ≠ k) : r ∉ tPo (tSpr t k v) k := fun h => by
  have e : tKi (tSpr t k v) k = [] := mU_s _ _ _
  rw [tPo_eq (fSpr (w := v) hw hk hN).2.2.2.1 k, e] at h
  simp at h
  exact hr h
theorem wNode {t : mT} (hw : tWF 300 t) {k r : Nat} {v : Int32} (hk : tIn t k = false) (hN : k < 300) (hr : tIn t r = true) (lo : Bool) (K : Nat) : tWF 300 (dNode t k v r lo K) := by
  have hrk : r ≠ k := fun e => by rw [e, hk] at hr; simp at hr
  have hik : tIn (tSpr t k v) k = true := mU_s _ _ _
  have hir : tIn (tSpr t k v) r = true := (mU_n _ _ hrk).trans hr
  have huk : tUp (tSpr t k v) k = none := mU_s _ _ _
  have hrt : tRt t ≠ k := fun e => by have := hw.2.1; rw [e, hk] at this; simp at this
  refine ⟨fHng (fSpr hw.1 hk hN) hik huk hir (spr_po hw.1 hk hN hrk) (by rw [spr_kids hrk]; exact in_split lo (tKi t r) k K), ?_, ?_, fun x hx hne => ?_⟩
  · show mU (tIn t) k true (tRt t) = true
    rw [mU_n _ _ hrt]; exact hw.2.1
  · show mU (mU (tUp t) k none) k (some r) (tRt t) = none
    rw [mU_n _ _ hrt, mU_n _ _ hrt]; exact hw.2.2.1
  · have hx : mU (tIn t) k true x = true := hx
    show mU (mU (tUp t) k none) k (some r) x ≠ none
    by_cases c : x = k
    · rw [c, mU_s]; simp
    · rw [mU_n _ _ c, mU_n _ _ c]
      rw [mU_n _ _ c] at hx
      exact hw.2.2.2 x hx hne
theorem wMove {t : mT} (hw : tWF 300 t) {m r : Nat} (hm : tIn t m = true) (hr : tIn t r = true) (hc : r ∉ tPo t m) (lo : Bool) (K : Nat) : tWF 300 (dMove t m r lo K) := by
  have hmr : m ≠ tRt t := fun e => hc (by rw [e]; exact (tPo_all hw).mpr hr)
  refine ⟨fHng (fCut hw.1 m) hm (mU_s _ _ _) hr (by rw [tCut_po hw.1 m]; exact hc) (in_split lo _ m K), hw.2.1, ?_, fun x hx hne => ?_⟩
  · show mU (mU (tUp t) m none) m (some r) (tRt t) = none
    rw [mU_n _ _ (Ne.symm hmr), mU_n _ _ (Ne.symm hmr)]; exact hw.2.2.1
  · show mU (mU (tUp t) m none) m (some r) x ≠ none
    by_cases c : x = m
    · rw [c, mU_s]; simp
    · rw [mU_n _ _ c, mU_n _ _ c]
      exact hw.2.2.2 x hx hne
def plOK (lo : Bool) (pl : Int32) (n : Nat) : Prop := lo = true ∨ (0 ≤ pl.toInt ∧ pl.toInt ≤ (n : Int))
theorem p_TP_node {h : tpH} {o p mk : Nat} (l : lTP h o p) {F : Nat → Nat → Int32} {dr : Option mT} (hD : DrP F p dr) {kd idn : Nat → Int32} (hM : MaP F p mk kd idn) (hk : mk ≤ 300) (hdm : ∀ t, dr = some t → ∀ m, tIn t m = true → m < mk) {lo : Nat → Bool} (hlo : ∀ m, m < mk → (kd m < 4 ↔ lo m = false)) {x pl k v i : Int32} {X : String → tpH → Prop} {R : Int32 → tpH → Prop}
    (x1 : (∀ m, m < 300 → x = nI m → drIn dr m = false) → X "java/lang/IndexOutOfBoundsException" (nC (wI h F) 0 0 6))
    (x2 : ∀ t r, dr = some t → x = nI r → tIn t r = true → ¬ plOK (lo r) pl (tKi t r).length → X "java/lang/IndexOutOfBoundsException" (nC (wI h F) 0 0 6))
    (x3 : ∀ t r, dr = some t → x = nI r → tIn t r = true → plOK (lo r) pl (tKi t r).length → ¬ gdLk k v i → X "java/lang/IllegalArgumentException" (nC (wI h F) 0 0 6))
    (x4 : ∀ t r, dr = some t → x = nI r → tIn t r = true → plOK (lo r) pl (tKi t r).length → gdLk k v i → (24 ≤ tCn t ∨ mk = 300) → X "java/lang/IllegalStateException" (nC (wI h F) 0 0 6))
    (kk : ∀ t r, dr = some t → x = nI r → tIn t r = true → plOK (lo r) pl (tKi t r).length → gdLk k v i → tCn t < 24 → mk < 300 → ∀ G, MaP G p (mk + 1) (mU kd mk k) (mU idn mk i) → DrP G p (some (dNode t mk v r (lo r) pl.toInt.toNat)) → (∀ b, b < p ∨ p + 20 ≤ b → G b = F b) → R (nI mk) (wI h G)) : w_TP_node o x pl k v i (wI h F) X R := by
  have lm : lMa h p := l.2.2.1
  have lb : lBu h (p + 5) (some (p + 0)) := l.2.2.2.2.1
  refine ⟨l.1, p_TP_needDrafted l (dr_held hD) (fun r e hr3 hr0 => ?_) x1⟩
  obtain ⟨t, ed, hr⟩ := dr_some hr0
  clear hr0
  subst ed
  subst e
  have hwT := hD.2.2
  have hrm := hdm t rfl r hr
  have hlr : F (p + 2) r < 4 ↔ lo r = false := by rw [(hM.2 r hrm).1]; exact hlo r hrm
  refine ⟨l.1, p_TP_needPlace l hD.1 hwT.1 hr hlr (c := 0) (Or.inl ⟨rfl, fun m hm e => absurd e.symm (nI_ne_m (by omega))⟩) (fun g => ?_) (fun g1 g2 => x2 t r rfl rfl hr (fun g => by
    rcases g with g | g
    · rw [g1] at g; simp at g
    · exact g2 g))⟩
  have gp : plOK (lo r) pl (tKi t r).length := g
  refine ⟨l.1, p_TP_needLooks l.1 (fun gd => ?_) (fun gd => x3 t r rfl rfl hr gp gd)⟩
  refine ⟨l.1, p + 5, l.2.2.2.1, lb.1, ?_⟩
  have hC3 := tCn_le t
  have e24 : (24 : Int32) = nI 24 := rfl
  rw [wI_I, hD.1.1, e24, nI_lt_iff (by omega) (by decide)]
  refine ⟨fun h24 => ?_, fun h24 => x4 t r rfl rfl hr gp gd (Or.inl (by omega))⟩
  refine p_TP_needFreeMark l hM.1 hk (fun hlt => ?_) (fun e => x4 t r rfl rfl hr gp gd (Or.inr e))
  refine ⟨l.1, p, l.2.1, lm.1, ?_⟩
  rw [e_Ma_make lm, hM.1]
  obtain ⟨m1, m2⟩ := make_at hM hlt k i
  have hB1 : BuP (uMake F p k i) (p + 5) t := BuP_k hD.1 (fun b b1 b2 => m2 b (by omega) (by omega) (by omega))
  have hkn : tIn t mk = false := by
    cases c : tIn t mk with
    | false => rfl
    | true => exact absurd (hdm t rfl mk c) (Nat.lt_irrefl _)
  refine ⟨l.1, p + 5, l.2.2.2.1, lb.1, ?_⟩
  rw [e_Bu_sprout lb]
  have hB2 := bu_spr (w := v) hB1 hwT.1 hlt hkn
  have hw2 := fSpr (w := v) hwT.1 hkn hlt
  obtain ⟨-, -, -, -, -, -, -, s0, so⟩ := spr_at (uMake F p k i) (d := p + 5) (w := v) hlt
  have hrk : r ≠ mk := fun e => by rw [e, hkn] at hr; simp at hr
  have hik : tIn (tSpr t mk v) mk = true := mU_s _ _ _
  have hir : tIn (tSpr t mk v) r = true := (mU_n _ _ hrk).trans hr
  have huk : tUp (tSpr t mk v) mk = none := mU_s _ _ _
  refine ⟨l.1, p + 5, l.2.2.2.1, lb.1, p_Bu_childAhead lb (BuP_L hB2) hw2 hir (K := pl.toInt.toNat) (fun j hj => plK pl hj) ?_⟩
  rw [spr_kids hrk]
  have hsp := in_split (lo r) (tKi t r) mk pl.toInt.toNat
  obtain ⟨hB3, hf3⟩ := bu_hng hB2 hw2 (A := hgA (lo r) (tKi t r) mk ((tKi t r).take pl.toInt.toNat)) (B := hgB (lo r) (tKi t r) mk ((tKi t r).drop pl.toInt.toNat)) hik huk hir (by rw [spr_kids hrk]; exact hsp)
  have hlr2 : uSprout (uMake F p k i) (p + 5) (nI mk) v (p + 0 + 2) r < 4 ↔ lo r = false := by
    rw [so _ (by omega) (by omega) (by omega) (by omega) (by omega) (by omega) (by omega) (by omega)]
    show uMake F p k i (p + 2) r < 4 ↔ _
    rw [(m1.2 r (by omega)).1, mU_n _ _ hrk]
    exact hlo r hrm
  refine ⟨lb.1, p_Bu_hang lb lm (BuP_L hB2) hw2 hir hlt hlr2 ?_⟩
  rw [spr_kids hrk]
  have hfr : ∀ b, b < p + 5 ∨ p + 20 ≤ b → uHang (uSprout (uMake F p k i) (p + 5) (nI mk) v) (p + 5) (nI mk) (nI r) (lastO (hgA (lo r) (tKi t r) mk ((tKi t r).take pl.toInt.toNat))) b = uMake F p k i b := fun b hb => by
    rw [hf3 b (by omega) (by omega) (by omega) (by omega) (by omega), so b (by omega) (by omega) (by omega) (by omega) (by omega) (by omega) (by omega) (by omega)]
  refine kk t r rfl rfl hr gp gd h24 hlt _ ?_ ⟨hB3, ?_, wNode hwT hkn hlt hr (lo r) _⟩ (fun b hb => by rw [hfr b (by omega), m2 b (by omega) (by omega) (by omega)])
  · unfold MaP
    rw [hfr p (by omega), hfr (p + 2) (by omega), hfr (p + 4) (by omega)]
    exact m1
  · rw [hf3 (p + 5) (by omega) (by omega) (by omega) (by omega) (by omega), s0, mU_n _ _ (by decide), m2 (p + 5) (by omega) (by omega) (by omega)]
    exact hD.2.1
end PNODE
