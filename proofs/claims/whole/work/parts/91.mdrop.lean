section MDROP
def rMap (F : Nat → Nat → Int32) (c : Nat) (f : Nat → Int32) (i : Nat) : Nat → Nat → Int32 := fun b j => if b = c ∧ j < i then f j else F b j
theorem rMap_0 (F : Nat → Nat → Int32) (c : Nat) (f : Nat → Int32) : rMap F c f 0 = F := by
  funext b j; show (if b = c ∧ j < 0 then f j else F b j) = F b j
  rw [if_neg (by omega)]
theorem rMap_s (F : Nat → Nat → Int32) (c : Nat) (f : Nat → Int32) (i : Nat) : tpu (rMap F c f i) c i (f i) = rMap F c f (i + 1) := by
  funext b j
  simp only [tpu, rMap]
  by_cases e : b = c ∧ j = i
  · obtain ⟨rfl, rfl⟩ := e
    rw [if_pos (by simp), if_pos (by constructor <;> omega)]
  · rw [if_neg e]
    by_cases e2 : b = c ∧ j < i
    · rw [if_pos e2, if_pos (by omega)]
    · rw [if_neg e2, if_neg (by omega)]
theorem rMap_ne (F : Nat → Nat → Int32) {c b : Nat} (f : Nat → Int32) (i : Nat) (h : b ≠ c) : rMap F c f i b = F b := by
  funext j; show (if b = c ∧ j < i then f j else F b j) = F b j
  rw [if_neg (by omega)]
theorem rMap_in (F : Nat → Nat → Int32) (c : Nat) (f : Nat → Int32) {i j : Nat} (h : j < i) : rMap F c f i c j = f j := by
  show (if c = c ∧ j < i then f j else F c j) = f j
  rw [if_pos ⟨rfl, h⟩]
/-! which are below -/
noncomputable def belF (t : mT) (m j : Nat) : Int32 := match (pO t)[j]? with
  | some z => if z ∈ tPo t m then 1 else 0
  | none => 0
theorem p_drop59 {h : tpH} {Q q : Nat} (M : lMd h Q q) {F : Nat → Nat → Int32} {t : mT} (hP : MtP F q 40 t) (hw : tWF 300 t) (hol : ∀ j z, (pO t)[j]? = some z → F (q + 24) j = nI z) {m : Nat} (hm : m < 300) {R : Int32 → tpH → Prop}
    (k : w_Md_unhang Q (40 : Int32) (nI m) (wI h (rMap F (q + 26) (belF t m) (pO t).length)) (fun h3 => ∃ n, w_Md_drop_102 R n Q (nI (pO t).length) 0 (0 : Int32) h3)) :
    ∀ (n i : Nat), i ≤ (pO t).length → (pO t).length < n + i → w_Md_drop_59 R n Q (nI m) (nI (pO t).length) 0 (nI i) (wI h (rMap F (q + 26) (belF t m) i))
  | 0, i, h1, h2 => by omega
  | n + 1, i, h1, h2 => by
    obtain ⟨o1, o2, o3⟩ := md_f M (j := 24) (kd := 15) (n := 300) (f := 32) (by decide)
    obtain ⟨b1, b2, b3⟩ := md_f M (j := 26) (kd := 16) (n := 300) (f := 36) (by decide)
    have hlen : (pO t).length ≤ 300 := by have := tCn_le t; have := pO_len hw; omega
    show b_Md_drop_59 R (w_Md_drop_59 R n) Q (nI m) (nI (pO t).length) 0 (nI i) (wI h (rMap F (q + 26) (belF t m) i))
    refine ⟨fun e => ?_, fun e => ?_⟩
    · have : i = (pO t).length := by
        have := (nI_le_iff (by omega) (by omega)).mp e
        omega
      subst this
      exact ⟨M.1, k⟩
    · have hi : i < (pO t).length := by
        refine Classical.byContradiction fun g => e ((nI_le_iff (by omega) (by omega)).mpr (by omega))
      have hz : (pO t)[i]? = some (pO t)[i] := List.getElem?_eq_getElem hi
      generalize (pO t)[i] = z at hz
      have hzi : tIn t z = true := (tPo_all hw).mp (List.mem_of_getElem? hz)
      have ev : hI (wI h (rMap F (q + 26) (belF t m) i)) (q + 24) (nI i).toNatClampNeg = nI z := by
        rw [wI_I, nI_clamp (by omega), rMap_ne _ _ _ (by omega)]
        exact hol i z hz
      have hP1 : MtP (rMap F (q + 26) (belF t m) i) q 40 t := MtP_fr hP (fun b b1 b2 => rMap_ne _ _ _ (by omega))
      refine ⟨M.1, q + 24, o3, o1, by rw [wI_L, o2]; exact vp_in_nI (by omega) (by decide), ?_⟩
      rw [ev]
      show w_Md_isWithin Q (nI 40) (nI z) (nI m) _ _
      refine p_Md_isWithin M (by decide) hP1.1 hw.1 hP1.2.1.1 (fun y hy hu => Or.inl (Classical.byContradiction fun hn => hw.2.2.2 y hy hn hu)) hzi hm ?_
      have ef : (if z ∈ tPo t m then (1 : Int32) else 0) = belF t m i := by
        unfold belF
        rw [hz]
      rw [ef]
      refine ⟨q + 26, b3, b1, by rw [wI_L, b2]; exact vp_in_nI (by omega) (by decide), ?_, fun h16 e16 => ?_⟩
      · rw [← ef]
        by_cases c : z ∈ tPo t m
        · rw [if_pos c]; exact Or.inr rfl
        · rw [if_neg c]; exact Or.inl rfl
      · rw [nI_clamp (by omega), sI_wI, wI_wI, wI_I, rMap_s] at e16
        subst e16
        have := p_drop59 M hP hw hol hm k n (i + 1) (by omega) (by omega)
        rw [nI_1]
        exact this
/-! taking them out -/
def oUt (F : Nat → Nat → Int32) (q : Nat) (S : List Nat) : Nat → Nat → Int32 := fun b j => if b = q + 3 ∧ 12000 ≤ j ∧ j - 12000 ∈ S then -2 else F b j
theorem oUt_nil (F : Nat → Nat → Int32) (q : Nat) : oUt F q [] = F := by
  funext b j; show (if b = q + 3 ∧ 12000 ≤ j ∧ j - 12000 ∈ [] then (-2 : Int32) else F b j) = F b j
  rw [if_neg (fun e => by simp at e)]
theorem oUt_ne (F : Nat → Nat → Int32) {q b : Nat} (S : List Nat) (h : b ≠ q + 3) : oUt F q S b = F b := by
  funext j; show (if b = q + 3 ∧ 12000 ≤ j ∧ j - 12000 ∈ S then (-2 : Int32) else F b j) = F b j
  rw [if_neg (fun e => h e.1)]
theorem oUt_s (F : Nat → Nat → Int32) (q : Nat) (S : List Nat) (z : Nat) : tpu (oUt F q S) (q + 3) (12000 + z) (-2) = oUt F q (S ++ [z]) := by
  funext b j
  simp only [tpu, oUt]
  by_cases e : b = q + 3 ∧ j = 12000 + z
  · obtain ⟨rfl, rfl⟩ := e
    rw [if_pos (by simp), if_pos ⟨rfl, by omega, by simp⟩]
  · rw [if_neg e]
    by_cases e2 : b = q + 3 ∧ 12000 ≤ j ∧ j - 12000 ∈ S
    · rw [if_pos e2, if_pos ⟨e2.1, e2.2.1, List.mem_append_left _ e2.2.2⟩]
    · rw [if_neg e2, if_neg (fun g => ?_)]
      rcases List.mem_append.mp g.2.2 with g2 | g2
      · exact e2 ⟨g.1, g.2.1, g2⟩
      · simp at g2
        exact e ⟨g.1, by omega⟩
theorem p_drop102 {h : tpH} {Q q : Nat} (M : lMd h Q q) {G : Nat → Nat → Int32} {P : List Nat} (hP3 : ∀ z ∈ P, z < 300) (hlen : P.length ≤ 300) {bel : Nat → Bool} (hol : ∀ j z, P[j]? = some z → G (q + 24) j = nI z ∧ G (q + 26) j = if bel z = true then 1 else 0) {R : Int32 → tpH → Prop}
    (k : R (nI (P.filter bel).length) (wI h (oUt G q (P.filter bel)))) :
    ∀ (n : Nat) (A L : List Nat), P = A ++ L → L.length < n → w_Md_drop_102 R n Q (nI P.length) (nI (A.filter bel).length) (nI A.length) (wI h (oUt G q (A.filter bel)))
  | 0, A, L, h1, h2 => by omega
  | n + 1, A, [], h1, h2 => by
    rw [List.append_nil] at h1
    subst h1
    show b_Md_drop_102 R (w_Md_drop_102 R n) Q _ _ _ _
    exact ⟨fun _ => k, fun e => absurd (Int32.le_refl _) e⟩
  | n + 1, A, z :: L, h1, h2 => by
    obtain ⟨o1, o2, o3⟩ := md_f M (j := 24) (kd := 15) (n := 300) (f := 32) (by decide)
    obtain ⟨b1, b2, b3⟩ := md_f M (j := 26) (kd := 16) (n := 300) (f := 36) (by decide)
    obtain ⟨p1, p2, p3⟩ := md_f M (j := 3) (kd := 15) (n := 12600) (f := 6) (by decide)
    have hl : A.length < P.length := by rw [h1, List.length_append, List.length_cons]; omega
    have hz : P[A.length]? = some z := by rw [h1]; simp
    have hz3 := hP3 z (List.mem_of_getElem? hz)
    obtain ⟨g1, g2⟩ := hol A.length z hz
    have h1' : P = (A ++ [z]) ++ L := by rw [h1]; simp
    show b_Md_drop_102 R (w_Md_drop_102 R n) Q _ _ _ _
    refine ⟨fun e => absurd ((nI_le_iff (by omega) (by omega)).mp e) (by omega), fun _ => ⟨M.1, q + 26, b3, b1, by rw [wI_L, b2]; exact vp_in_nI (by omega) (by decide), ?_⟩⟩
    have e26 : hI (wI h (oUt G q (A.filter bel))) (q + 26) (nI A.length).toNatClampNeg = if bel z = true then 1 else 0 := by
      rw [wI_I, nI_clamp (by omega), oUt_ne _ _ (by omega)]; exact g2
    have e24 : hI (wI h (oUt G q (A.filter bel))) (q + 24) (nI A.length).toNatClampNeg = nI z := by
      rw [wI_I, nI_clamp (by omega), oUt_ne _ _ (by omega)]; exact g1
    rw [e26]
    have ih := p_drop102 M hP3 hlen hol k n (A ++ [z]) L h1' (by simp at h2; omega)
    rw [List.length_append, List.filter_append] at ih
    by_cases c : bel z = true
    · have ef : [z].filter bel = [z] := by rw [List.filter_cons_of_pos c]; rfl
      rw [ef, List.length_append] at ih
      rw [if_pos c]
      refine ⟨fun e => absurd e (by decide), fun _ => ⟨q + 24, o3, o1, by rw [wI_L, o2]; exact vp_in_nI (by omega) (by decide), ?_⟩⟩
      have e12 : (12000 : Int32) + nI z = nI (12000 + z) := by
        rw [← nI_add]; rfl
      rw [e24, e12]
      refine ⟨q + 3, p3, p1, by rw [wI_L, p2]; exact vp_in_nI (by omega) (by decide), fun h16 e16 => ?_⟩
      rw [nI_clamp (by omega), sI_wI, wI_wI, wI_I, oUt_s] at e16
      subst e16
      rw [nI_1, nI_1]
      exact ih
    · have ef : [z].filter bel = [] := by rw [List.filter_cons_of_neg c]; rfl
      rw [ef, List.append_nil] at ih
      rw [if_neg c]
      refine ⟨fun _ => ?_, fun e => absurd rfl e⟩
      rw [nI_1]
      exact ih
theorem rt_po {t : mT} (hw : tWF 300 t) {m : Nat} (hne : m ≠ tRt t) : tRt t ∉ tPo t m := fun e => by
  rcases tPo_up hw.1.2.2.2.1 m e with g | ⟨p, g, _⟩
  · exact hne g.symm
  · have := (fKi_in hw.1 g).2
    rw [hw.2.2.1] at this
    simp at this
theorem p_Md_drop {h : tpH} {Q q mk : Nat} (M : lMd h Q q) (hQ : Q < q) {F : Nat → Nat → Int32} (hM : F Q 0 = nI mk) (hk : mk ≤ 300) {dr : Option mT} (hD : DrM F Q q dr) (hw : ∀ t, dr = some t → tWF 300 t) (hdm : ∀ t, dr = some t → ∀ m, tIn t m = true → m < mk) {x : Int32} {R : Int32 → tpH → Prop}
    (x1 : (∀ m, m < 300 → x = nI m → drIn dr m = false) → R 0 (wI h (tpu F Q 31 1)))
    (x2 : ∀ t, dr = some t → x = nI (tRt t) → R 0 (wI h (tpu F Q 31 2)))
    (kk : ∀ t m, dr = some t → x = nI m → tIn t m = true → m ≠ tRt t → ∀ G, DrM G Q q (some (tErs t m)) → G Q 31 = 0 → (∀ b j, ¬ ((b = Q ∧ j = 31) ∨ (q + 3 ≤ b ∧ b ≤ q + 6 ∧ 12000 ≤ j ∧ j < 12300) ∨ b = q + 24 ∨ b = q + 26) → G b j = F b j) → R (nI (tPo t m).length) (wI h G)) : w_Md_drop Q x (wI h F) R := by
  obtain ⟨r1, r2, r3⟩ := md_f M (j := 2) (kd := 15) (n := 42) (f := 5) (by decide)
  obtain ⟨o1, o2, o3⟩ := md_f M (j := 24) (kd := 15) (n := 300) (f := 32) (by decide)
  have no : ∀ c : Int32, ¬ c ≤ 0 → R 0 (wI h (tpu F Q 31 c)) → w_Md_drop_31 R Q x c (some Q) (wI h F) := fun c hc hr => by
    refine ⟨Q, rfl, M.1, fun h4 e4 => ?_⟩
    rw [sI_wI, wI_wI] at e4
    subst e4
    exact ⟨M.1, fun e => absurd (show tpu F Q 31 c Q 31 ≤ 0 from e) (by rw [tpu_s]; exact hc), fun _ => hr⟩
  have hin := dm_in hD hw
  have hid : ∀ m, drIn dr m = true → m < mk := fun m hi => by
    obtain ⟨t, ed, hi⟩ := dr_some hi
    exact hdm t ed m hi
  refine ⟨M.1, ?_⟩
  show w_Md_has Q (nI 40) x (wI h F) _
  refine p_Md_has M (by decide) hk hM (inn := drIn dr) (fun m hmk => hin m (by omega)) hid (fun m e hm3 hm0 => ?_) (fun g => ⟨fun e => absurd rfl e, fun _ => no 1 (by decide) (x1 g)⟩)
  obtain ⟨t, ed, hm⟩ := dr_some hm0
  clear hm0
  subst ed
  subst e
  have hwt := hw t rfl
  have hC3 := tCn_le t
  have hpl := pO_len hwt
  refine ⟨fun _ => ⟨M.1, q + 2, r3, r1, by rw [wI_L, r2]; exact vp_in_nI (n := 40) (by decide) (by decide), ?_⟩, fun e => absurd e (by decide)⟩
  have er : hI (wI h F) (q + 2) (40 : Int32).toNatClampNeg = nI (tRt t) := hD.2.2.2.2
  rw [er]
  refine ⟨fun e => ?_, fun e => no 2 (by decide) (x2 t rfl e)⟩
  have hne : m ≠ tRt t := fun e2 => e (by rw [e2])
  obtain ⟨u, hu⟩ := Option.ne_none_iff_exists'.mp (hwt.2.2.2 m hm hne)
  obtain ⟨A0, B0, e0⟩ := List.append_of_mem ((hwt.1.2.1 m u).mpr ⟨hm, hu⟩)
  refine ⟨Q, rfl, M.1, fun h4 e4 => ?_⟩
  rw [sI_wI, wI_wI] at e4
  subst e4
  refine ⟨M.1, fun _ => ?_, fun e => absurd (show tpu F Q 31 0 Q 31 ≤ 0 by rw [tpu_s]; decide) e⟩
  rw [wI_R, o3, wI_I]
  have fr0 : ∀ b j, ¬ (b = Q ∧ j = 31) → tpu F Q 31 0 b j = F b j := fun b j hb => by
    simp only [tpu]; rw [if_neg (by omega)]
  have hD0 : DrM (tpu F Q 31 0) Q q (some t) := DrM_fr hD (fr0 _ _ (by omega)) (fun b b1 b2 => funext fun j => fr0 _ _ (by omega))
  show w_Md_layOrder Q (nI 40) (some (q + 24)) (wI h (tpu F Q 31 0)) _
  refine p_Md_layOrder M (by decide) hD0.2 hwt (Or.inr (by omega)) o1 o2 ⟨(pO t).length + 1, ?_⟩
  have hD1 := DrM_lay hQ (pO t) hD0
  have k59 := p_drop59 (R := R) M hD1.2 hwt (fun j z hz => lay_at _ _ hz) hm3 ?_ ((pO t).length + 1) 0 (by omega) (by omega)
  · rw [rMap_0] at k59
    exact k59
  have hP2 : MtP (rMap (lay (tpu F Q 31 0) (q + 24) (pO t)) (q + 26) (belF t m) (pO t).length) q 40 t := MtP_fr hD1.2 (fun b b1 b2 => rMap_ne _ _ _ (by omega))
  show w_Md_unhang Q (nI 40) (nI m) _ _
  refine p_Md_unhang M (by decide) hP2.1 hwt.1 e0 ⟨(pO t).length + 1, ?_⟩
  obtain ⟨c1, c2, c3, c4⟩ := mu_cut hP2.1 hwt.1 e0
  have hS : ∀ y, y ∈ (pO t).filter (fun z => decide (z ∈ tPo t m)) ↔ y ∈ tPo t m := fun y => by
    rw [List.mem_filter]
    exact ⟨fun g => of_decide_eq_true g.2, fun g => ⟨(tPo_all hwt).mpr (tPo_in hwt.1 hm y g), decide_eq_true g⟩⟩
  have hSl : ((pO t).filter (fun z => decide (z ∈ tPo t m))).length = (tPo t m).length :=
    nd_len_eq ((tPo_nodup hwt.1 _).filter _) (tPo_nodup hwt.1 m) hS
  have k102 := p_drop102 (R := R) M (G := uMu (rMap (lay (tpu F Q 31 0) (q + 24) (pO t)) (q + 26) (belF t m) (pO t).length) q 40 m u A0.getLast?) (P := pO t) (fun z hz => hwt.1.1 z ((tPo_all hwt).mp hz)) (by omega) (bel := fun z => decide (z ∈ tPo t m)) (fun j z hz => ?_) ?_ ((pO t).length + 1) [] (pO t) rfl (by omega)
  · have e1 : ∀ G : Nat → Nat → Int32, oUt G q (List.filter (fun z => decide (z ∈ tPo t m)) []) = G := fun G => oUt_nil G q
    rw [e1] at k102
    exact k102
  · have hj : j < (pO t).length := (List.getElem?_eq_some_iff.mp hz).1
    rw [c2.1 (q + 24) (by omega) (by omega) (by omega), c2.1 (q + 26) (by omega) (by omega) (by omega), rMap_in _ _ _ hj, rMap_ne _ _ _ (by omega), lay_at _ _ hz]
    refine ⟨rfl, ?_⟩
    unfold belF
    rw [hz]
    show (if z ∈ tPo t m then (1 : Int32) else 0) = _
    by_cases c : z ∈ tPo t m
    · rw [if_pos c, if_pos (decide_eq_true c)]
    · rw [if_neg c, if_neg (by simpa using c)]
  generalize hSd : (pO t).filter (fun z => decide (z ∈ tPo t m)) = S at hS hSl
  generalize hGd : uMu (rMap (lay (tpu F Q 31 0) (q + 24) (pO t)) (q + 26) (belF t m) (pO t).length) q 40 m u A0.getLast? = G at c1 c2 c3 c4
  have hrA0 : tRt t ∉ A0 := fun e => by
    have := (fKi_in hwt.1 (x := tRt t) (p := u) (by rw [e0]; exact List.mem_append_left _ e)).2
    rw [hwt.2.2.1] at this; simp at this
  have hrS : tRt t ∉ S := fun g => rt_po hwt hne ((hS _).mp g)
  have hout : ∀ z, z ∉ S → oUt G q S (q + 3) (300 * 40 + z) = G (q + 3) (300 * 40 + z) := fun z hz => by
    show (if q + 3 = q + 3 ∧ 12000 ≤ 300 * 40 + z ∧ 300 * 40 + z - 12000 ∈ S then (-2 : Int32) else _) = _
    rw [if_neg (fun g => hz (by have := g.2.2; rwa [show 300 * 40 + z - 12000 = z by omega] at this))]
  have hins : ∀ z, z ∈ S → oUt G q S (q + 3) (300 * 40 + z) = -2 := fun z hz => by
    show (if q + 3 = q + 3 ∧ 12000 ≤ 300 * 40 + z ∧ 300 * 40 + z - 12000 ∈ S then (-2 : Int32) else _) = _
    rw [if_pos ⟨rfl, by omega, by rwa [show 300 * 40 + z - 12000 = z by omega]⟩]
  rw [hSl]
  have fin2 : ∀ b j, ¬ ((b = Q ∧ j = 31) ∨ (q + 3 ≤ b ∧ b ≤ q + 6 ∧ 12000 ≤ j ∧ j < 12300) ∨ b = q + 24 ∨ b = q + 26) → oUt G q S b j = F b j := fun b j hb => by
    have e1 : oUt G q S b j = G b j := by
      show (if b = q + 3 ∧ 12000 ≤ j ∧ j - 12000 ∈ S then (-2 : Int32) else _) = _
      rw [if_neg (fun g => ?_)]
      have := hwt.1.1 _ (tPo_in hwt.1 hm _ ((hS _).mp g.2.2))
      omega
    have e2 : G b j = rMap (lay (tpu F Q 31 0) (q + 24) (pO t)) (q + 26) (belF t m) (pO t).length b j := by
      by_cases c : b = q + 3 ∨ b = q + 5 ∨ b = q + 6
      · exact c2.2 b j (by omega)
      · rw [c2.1 b (by omega) (by omega) (by omega)]
    rw [e1, e2, rMap_ne _ _ _ (by omega), lay_ne _ _ (by omega)]
    exact fr0 b j (by omega)
  refine kk t m rfl rfl hm hne _ ⟨?_, fun z hz => ?_, ⟨?_, ?_⟩, fun z hz hi => ?_, ?_⟩ ?_ fin2
  · rw [fin2 Q 4 (by omega)]; exact hD.1
  · have hz : (tIn t z && !decide (z ∈ tPo t m)) = true := hz
    simp only [Bool.and_eq_true, Bool.not_eq_true', decide_eq_false_iff_not] at hz
    obtain ⟨n1, n2, n3⟩ := c1 z hz.1
    have e5 : tKi (tErs t m) z = tKi (tCut t m) z := by
      show (if z ∈ tPo t m then [] else (tKi t z).erase m) = _
      rw [if_neg hz.2]; rfl
    refine ⟨?_, fun p hp => ?_, ?_⟩
    · rw [oUt_ne _ _ (by omega)]; exact n1
    · rw [hout z (fun g => hz.2 ((hS z).mp g))]; exact n2 p hp
    · rw [e5, oUt_ne _ _ (show q + 6 ≠ q + 3 by omega), oUt_ne _ _ (show q + 5 ≠ q + 3 by omega)]; exact n3
  · show oUt G q S (q + 3) (300 * 40 + tRt t) = -1
    rw [hout _ hrS, c3]
    exact hP2.2.1.1
  · show oUt G q S (q + 6) (300 * 40 + tRt t) = -1
    rw [oUt_ne _ _ (by omega), c4 _ (Ne.symm hne) hrA0]
    exact hP2.2.1.2
  · by_cases c : z ∈ S
    · exact hins z c
    · have hi : (tIn t z && !decide (z ∈ tPo t m)) = false := hi
      have hi2 : tIn t z = false := by
        rw [Bool.and_eq_false_iff] at hi
        rcases hi with g | g
        · exact g
        · simp at g; exact absurd ((hS z).mpr g) c
      rw [hout z c, c3]
      exact hP2.2.2.1 z hz hi2
  · show oUt G q S (q + 2) 40 = nI (tRt t)
    rw [fin2 (q + 2) 40 (by omega)]
    exact hD.2.2.2.2
  · have : oUt G q S Q 31 = 0 := by
      rw [oUt_ne _ _ (by omega), c2.1 Q (by omega) (by omega) (by omega), rMap_ne _ _ _ (by omega), lay_ne _ _ (by omega), tpu_s]
    exact this
end MDROP
