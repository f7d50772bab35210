section MPLAY
/-- a forest in a slot, one mark of it hung nowhere -/
def MtD (F : Nat → Nat → Int32) (q s : Nat) (u : mT) (m : Nat) : Prop :=
  MtL F q s u ∧ (F (q + 3) (300 * s + tRt u) = -1 ∧ F (q + 6) (300 * s + tRt u) = -1) ∧ (∀ x, x < 300 → (tIn u x = false ∨ x = m) → F (q + 3) (300 * s + x) = -2) ∧ F (q + 2) s = nI (tRt u)
def upD (u : mT) (m : Nat) : Prop := m ≠ tRt u ∧ tUp u (tRt u) = none ∧ tIn u (tRt u) = true ∧ ∀ x, tIn u x = true → x ≠ m → x ≠ tRt u → tUp u x ≠ none
theorem mtD_up {F : Nat → Nat → Int32} {q s : Nat} {u : mT} {m : Nat} (H : MtD F q s u m) (hu : upD u m) {x : Nat} (hx : tIn u x = true) (hm : x ≠ m) : F (q + 3) (300 * s + x) = nO (tUp u x) := by
  by_cases er : x = tRt u
  · rw [er, H.2.1.1, hu.2.1]; rfl
  · obtain ⟨p, hp⟩ := Option.ne_none_iff_exists'.mp (hu.2.2.2 x hx hm er)
    rw [(H.1 x hx).2.1 p hp, hp]; rfl
theorem mtD_in {F : Nat → Nat → Int32} {q s : Nat} {u : mT} {m : Nat} (H : MtD F q s u m) (hw : fWF 300 u) (hu : upD u m) : ∀ x, x < 300 → (F (q + 3) (300 * s + x) = -2 ↔ (tIn u x && !decide (x = m)) = false) := fun x hx => by
  by_cases c : tIn u x = true ∧ x ≠ m
  · have e1 : (tIn u x && !decide (x = m)) = true := by simp [c.1, c.2]
    rw [e1, mtD_up H hu c.1 c.2]
    refine ⟨fun e => ?_, fun e => by simp at e⟩
    exfalso
    cases hp : tUp u x with
    | none => rw [hp] at e; exact absurd e (by decide)
    | some p =>
      rw [hp] at e
      have := hw.1 p (hw.2.2.2.2 x p c.1 hp)
      exact nI_ne_2 (by omega) e
  · have e1 : (tIn u x && !decide (x = m)) = false := by
      cases c1 : tIn u x with
      | false => rfl
      | true =>
        have : x = m := Classical.byContradiction fun n => c ⟨c1, n⟩
        simp [this]
    rw [e1]
    refine ⟨fun _ => rfl, fun _ => H.2.2.1 x hx ?_⟩
    cases c1 : tIn u x with
    | false => exact Or.inl rfl
    | true => exact Or.inr (Classical.byContradiction fun n => c ⟨c1, n⟩)
theorem p_isChM {h : tpH} {Q q mk : Nat} (M : lMd h Q q) {F : Nat → Nat → Int32} (hm0 : F Q 0 = nI mk) (hk : mk ≤ 300) {u : mT} {m : Nat} (H : MtD F q 41 u m) (hw : fWF 300 u) (hu : upD u m) (hum : tUp u m = none) (hmk : ∀ x, tIn u x = true → x < mk) {r : Nat} (hr : r < 300) {a : Option Nat} (ha : ∀ x, a = some x → x < mk) {R : Int32 → tpH → Prop} (k1 : ∀ x, a = some x → x ∈ tKi u r → R 1 (wI h F)) (k0 : (∀ x, a = some x → x ∉ tKi u r) → R 0 (wI h F)) : w_Md_isChild Q (nO a) (nI r) (wI h F) R := by
  cases a with
  | none => exact ⟨fun _ => k0 (fun x hx => by simp at hx), fun g => absurd rfl g⟩
  | some x =>
    have hx := ha x rfl
    refine ⟨fun g => absurd g (nI_ne_m (by omega)), fun _ => ⟨M.1, ?_⟩⟩
    show w_Md_has Q (nI 41) (nI x) (wI h F) _
    refine p_Md_has M (by decide) hk hm0 (inn := fun x => tIn u x && !decide (x = m)) (fun y hy => mtD_in H hw hu y (by omega)) (fun y hy => hmk y (Bool.and_eq_true_iff.mp hy).1) (fun y ey hy3 hi => ?_) (fun g => ?_)
    · have e1 : x = y := nI_inj (by omega) (by omega) ey
      subst e1
      have hi : (tIn u x && !decide (x = m)) = true := hi
      simp only [Bool.and_eq_true, Bool.not_eq_true', decide_eq_false_iff_not] at hi
      refine ⟨fun g => absurd g (by decide), fun _ => ⟨M.1, ?_⟩⟩
      show w_Md_parentIn Q (nI 41) (nI x) (wI h F) _
      rw [e_Md_parentIn M (by decide) hy3, mtD_up H hu hi.1 hi.2]
      have hb : ∀ k, tUp u x = some k → k < 2 ^ 31 := fun k hk => by have := hw.1 k (hw.2.2.2.2 x k hi.1 hk); omega
      refine ⟨fun g => k0 (fun y ey hy => ?_), fun g => k1 x rfl ((hw.2.1 x r).mpr ⟨hi.1, nO_inj hb (fun k hk => by have := Option.some.inj hk; omega) g⟩)⟩
      have := Option.some.inj ey
      subst this
      exact g (by rw [((hw.2.1 x r).mp hy).2]; rfl)
    · have g1 : (tIn u x && !decide (x = m)) = false := g x (by omega) rfl
      refine ⟨fun _ => k0 (fun y ey hy => ?_), fun g => absurd rfl g⟩
      have := Option.some.inj ey
      subst this
      obtain ⟨h1, h2⟩ := (hw.2.1 x r).mp hy
      have hne : x ≠ m := fun e => by rw [e, hum] at h2; simp at h2
      simp [h1, hne] at g1
theorem p_lastM {h : tpH} {Q q : Nat} (M : lMd h Q q) {F : Nat → Nat → Int32} {R : Int32 → tpH → Prop} : ∀ (n : Nat) (L A : List Nat) (v : Int32), seg (fun y => F (q + 6) (300 * 41 + y)) v L (-1) → (∀ x ∈ L, x < 300) → L.length < n → R (lastO (A ++ L)) (wI h F) → w_Md_lastChild_10 R n Q (lastO A) v (wI h F)
  | 0, L, A, v, h1, h2, h3, k => by omega
  | n + 1, [], A, v, h1, h2, h3, k => by
    rw [List.append_nil] at k
    exact ⟨fun _ => k, fun g => absurd h1 g⟩
  | n + 1, x :: L, A, v, h1, h2, h3, k => by
    have hx := h2 x List.mem_cons_self
    obtain ⟨e1, e2⟩ := h1
    subst e1
    refine ⟨fun g => absurd g (nI_ne_m (by omega)), fun _ => ⟨M.1, ?_⟩⟩
    show w_Md_nextIn Q (nI 41) (nI x) (wI h F) _
    rw [e_Md_nextIn M (by decide) hx]
    have ih := p_lastM M n L (A ++ [x]) _ e2 (fun y hy => h2 y (List.mem_cons_of_mem _ hy)) (by simp at h3; omega) (by rw [List.append_assoc]; exact k)
    rw [lastO_app] at ih
    exact ih
theorem p_Md_lastChild {h : tpH} {Q q : Nat} (M : lMd h Q q) {F : Nat → Nat → Int32} {u : mT} (H : MtL F q 41 u) (hw : fWF 300 u) {r : Nat} (hr : tIn u r = true) {R : Int32 → tpH → Prop} (k : R (lastO (tKi u r)) (wI h F)) : w_Md_lastChild Q (nI r) (wI h F) R := by
  refine ⟨M.1, ?_⟩
  show w_Md_firstIn Q (nI 41) (nI r) (wI h F) _
  rw [e_Md_firstIn M (by decide) (hw.1 r hr)]
  exact ⟨(tKi u r).length + 1, p_lastM M _ (tKi u r) [] _ (H r hr).2.2 (fun x hx => hw.1 x (fKi_in hw hx).1) (Nat.lt_succ_self _) k⟩
/-! settling -/
theorem p_settle {h : tpH} {Q q mk ks : Nat} {kd idn : Nat → Int32} (M : lMd h Q q) (hQ : Q < q) {F : Nat → Nat → Int32} (hM : MaM F Q q mk kd idn) (hk : mk ≤ 300) (hks : ks < 4100) {e : mSt} (hS : StM F q ks e) (hs : spI mk e.2.2.2.2.2) {u : mT} (H : MtD F q 41 u e.2.1) (hw : fWF 300 u) (hu : upD u e.2.1) (hum : tUp u e.2.1 = none) (hi : tIn u e.2.1 = true) (hmk : ∀ x, tIn u x = true → x < mk) {r : Nat} (er : e.2.2.2.2.2.1 = some r) (hr : tIn u r = true) (hrm : r ≠ e.2.1) (hc : r ∉ tPo u e.2.1) {R : Int32 → tpH → Prop}
    (kk : ∀ G, MtP G q 41 (tHng u e.2.1 r (inKids (loK kd r) (tKi u r) e.2.1 (plN (tKi u r) e.2.2.2.2.2.2.1 e.2.2.2.2.2.2.2))) → (∀ b j, ¬ (q + 3 ≤ b ∧ b ≤ q + 6 ∧ 12300 ≤ j ∧ j < 12600) → G b j = F b j) → R (nI (fzN (loK kd r) (tKi u r) (plN (tKi u r) e.2.2.2.2.2.2.1 e.2.2.2.2.2.2.2) e.2.2.2.2.2.2.1 e.2.2.2.2.2.2.2)) (wI h G)) : w_Md_settle Q (nI ks) (nI e.2.1) (wI h F) R := by
  obtain ⟨x1, x2, x3⟩ := md_f M (j := 12) (kd := 15) (n := 4100) (f := 16) (by decide)
  obtain ⟨y1, y2, y3⟩ := md_f M (j := 13) (kd := 15) (n := 4100) (f := 17) (by decide)
  obtain ⟨z1, z2, z3⟩ := md_f M (j := 14) (kd := 15) (n := 4100) (f := 18) (by decide)
  have va : vp_in (nI ks) 4100 := vp_in_nI hks (by decide)
  have cs : (nI ks).toNatClampNeg = ks := nI_clamp (by omega)
  have hm3 := hw.1 _ hi
  have hr3 := hw.1 r hr
  have hnd := hw.2.2.1 r
  obtain ⟨_, _, _, _, _, s12, s13, s14⟩ := hS
  rw [er] at s12
  have hmkK : e.2.1 ∉ tKi u r := fun g => by have := (fKi_in hw g).2; rw [hum] at this; simp at this
  have hlo : F q r < 4 ↔ loK kd r = false := by rw [(hM.2 r (hmk r hr)).1]; exact loK_iff kd r
  generalize hn : plN (tKi u r) e.2.2.2.2.2.2.1 e.2.2.2.2.2.2.2 = n at kk
  have hnle : n ≤ (tKi u r).length := by rw [← hn]; exact plN_le _ _ _
  have hsp := in_split (loK kd r) (tKi u r) e.2.1 n
  obtain ⟨g1, g2, g3, g4⟩ := mh_hng H.1 hw (m := e.2.1) (p := r) hi hum hr hrm hsp
  generalize hA : hgA (loK kd r) (tKi u r) e.2.1 ((tKi u r).take n) = A at hsp g1 g2 g3 g4
  generalize hB : hgB (loK kd r) (tKi u r) e.2.1 ((tKi u r).drop n) = B at hsp g1 g2
  have eK : inKids (loK kd r) (tKi u r) e.2.1 n = A ++ e.2.1 :: B := by unfold inKids; rw [hA, hB]
  rw [eK] at kk
  have memA : ∀ x ∈ A, x ∈ tKi u r := fun x hx => by rw [hsp]; exact List.mem_append_left _ hx
  have memB : ∀ x ∈ B, x ∈ tKi u r := fun x hx => by rw [hsp]; exact List.mem_append_right _ hx
  have hrA : tRt u ∉ A := fun g => by have := (fKi_in hw (memA _ g)).2; rw [hu.2.1] at this; simp at this
  have hw2 := fHng hw hi hum hr hc hsp
  have hb2 : ∀ x, e.2.2.2.2.2.2.1 = some x → x < 300 := fun x hx => by have := hs.2.1 x hx; omega
  have hb3 : ∀ x, e.2.2.2.2.2.2.2 = some x → x < 300 := fun x hx => by have := hs.2.2 x hx; omega
  have lA : ∀ x, A.getLast? = some x → x < 300 := fun x hx => hw.1 x (fKi_in hw (memA x (getL_mem hx))).1
  have lB : ∀ x, B.head? = some x → x < 300 := fun x hx => hw.1 x (fKi_in hw (memB x (getH_mem hx))).1
  generalize hF2 : uMh F q 41 e.2.1 r A.getLast? = F2 at g1 g2 g3 g4
  have hP2 : MtP F2 q 41 (tHng u e.2.1 r (A ++ e.2.1 :: B)) := by
    refine ⟨g1, ⟨?_, ?_⟩, fun x hx hxi => ?_, ?_⟩
    · show F2 (q + 3) (300 * 41 + tRt u) = -1
      rw [g3 _ (Ne.symm hu.1)]; exact H.2.1.1
    · show F2 (q + 6) (300 * 41 + tRt u) = -1
      rw [g4 _ (Ne.symm hu.1) hrA]; exact H.2.1.2
    · have hxi : tIn u x = false := hxi
      have hxm : x ≠ e.2.1 := fun g => by rw [g, hi] at hxi; simp at hxi
      rw [g3 x hxm]; exact H.2.2.1 x hx (Or.inl hxi)
    · rw [g2.1 (q + 2) (by omega) (by omega) (by omega)]; exact H.2.2.2
  have kv := kk F2 hP2 (fun b j hb => by
    by_cases c : b = q + 3 ∨ b = q + 5 ∨ b = q + 6
    · exact g2.2 b j (by omega)
    · rw [g2.1 b (by omega) (by omega) (by omega)])
  have hloF : F2 q r < 4 ↔ loK kd r = false := by rw [g2.1 q (by omega) (by omega) (by omega)]; exact hlo
  have h130 : ∀ c1 c2 : Nat, (loK kd r = false → fzN (loK kd r) (tKi u r) n e.2.2.2.2.2.2.1 e.2.2.2.2.2.2.2 = c1 + c2) → w_Md_settle_130 R Q (nI r) (nI c2) (nI c1) (wI h F2) := fun c1 c2 hcc => by
    refine ⟨M.1, ?_⟩
    rw [e_Md_isOrdered M hr3]
    cases cl : loK kd r with
    | true =>
      rw [if_neg (fun g => by have := hloF.mp g; rw [cl] at this; simp at this)]
      have e0 : fzN (loK kd r) (tKi u r) n e.2.2.2.2.2.2.1 e.2.2.2.2.2.2.2 = 0 := by rw [cl]; rfl
      rw [e0] at kv
      exact ⟨fun _ => kv, fun g => absurd rfl g⟩
    | false =>
      rw [if_pos (hloF.mpr cl)]
      rw [hcc cl] at kv
      refine ⟨fun g => absurd g (by decide), fun _ => ?_⟩
      rw [nI_add]
      exact kv
  have eAB : loK kd r = false → A = (tKi u r).take n ∧ B = (tKi u r).drop n := fun cl => by
    rw [← hA, ← hB, cl]
    exact ⟨rfl, rfl⟩
  have efz : loK kd r = false → fzN (loK kd r) (tKi u r) n e.2.2.2.2.2.2.1 e.2.2.2.2.2.2.2 = (if e.2.2.2.2.2.2.1 ≠ none ∧ A.getLast? ≠ e.2.2.2.2.2.2.1 then 1 else 0) + (if e.2.2.2.2.2.2.2 ≠ none ∧ B.head? ≠ e.2.2.2.2.2.2.2 then 1 else 0) := fun cl => by
    obtain ⟨q1, q2⟩ := eAB cl
    rw [q1, q2, cl]
    unfold fzN
    rw [if_neg (by decide)]
  have kidM : tKi (tHng u e.2.1 r (A ++ e.2.1 :: B)) r = A ++ e.2.1 :: B := mU_s _ _ _
  have nx : F2 (q + 6) (300 * 41 + e.2.1) = headO B := by
    have := (g1 r hr).2.2
    rw [kidM] at this
    have := seg_mid this
    exact this
  have h103 : ∀ c1 : Nat, (c1 = if e.2.2.2.2.2.2.1 ≠ none ∧ A.getLast? ≠ e.2.2.2.2.2.2.1 then 1 else 0) → w_Md_settle_103 R Q (nI e.2.1) (nI r) (nO e.2.2.2.2.2.2.2) (nI c1) (wI h F2) := fun c1 h1 => by
    refine ⟨fun g => h130 c1 0 (fun cl => ?_), fun g => ⟨M.1, ?_⟩⟩
    · have : e.2.2.2.2.2.2.2 = none := (fz_ah _ none hb3 (fun x hx => by simp at hx)).mp g
      rw [efz cl, ← h1, if_neg (fun q => q.1 this)]
    · show w_Md_nextIn Q (nI 41) (nI e.2.1) (wI h F2) _
      rw [e_Md_nextIn M (by decide) hm3, nx]
      have gn : e.2.2.2.2.2.2.2 ≠ none := fun q => g (by rw [q]; rfl)
      refine ⟨fun q => h130 c1 0 (fun cl => ?_), fun q => h130 c1 1 (fun cl => ?_)⟩
      · have : B.head? = e.2.2.2.2.2.2.2 := (fz_ah _ _ lB hb3).mp q
        rw [efz cl, ← h1, if_neg (fun z => z.2 this)]
      · have : B.head? ≠ e.2.2.2.2.2.2.2 := fun z => q (by rw [← z]; rfl)
        rw [efz cl, ← h1, if_pos ⟨gn, this⟩]
  have h66 : ∀ t0 : Int32, t0 = lastO ((tKi u r).take n) → w_Md_settle_66 R Q (nI e.2.1) (nI r) (nO e.2.2.2.2.2.2.1) (nO e.2.2.2.2.2.2.2) t0 (wI h F) := fun t0 et => by
    rw [et]
    refine ⟨M.1, ?_⟩
    show w_Md_hang Q (nI 41) (nI e.2.1) (nI r) (lastO ((tKi u r).take n)) (wI h F) _
    refine p_Md_hang M (by decide) hm3 (H.1 r hr) hw hr hmkK (List.take_append_drop n _).symm hlo ?_
    rw [hA, hF2]
    refine ⟨fun g => h103 0 ?_, fun g => ⟨M.1, ?_⟩⟩
    · have : e.2.2.2.2.2.2.1 = none := (fz_ah _ none hb2 (fun x hx => by simp at hx)).mp g
      rw [if_neg (fun q => q.1 this)]
    · show w_Md_sibling Q (nI 41) (nI r) (nI e.2.1) 1 (wI h F2) _
      refine p_Md_sibling M (by decide) g1 hw2 kidM ?_
      have gn : e.2.2.2.2.2.2.1 ≠ none := fun q => g (by rw [q]; rfl)
      refine ⟨fun q => h103 0 ?_, fun q => h103 1 ?_⟩
      · have : A.getLast? = e.2.2.2.2.2.2.1 := (fz_ah _ _ lA hb2).mp q
        rw [if_neg (fun z => z.2 this)]
      · have : A.getLast? ≠ e.2.2.2.2.2.2.1 := fun z => q (by rw [← z]; rfl)
        rw [if_pos ⟨gn, this⟩]
  refine ⟨M.1, q + 12, x3, x1, by rw [wI_L, x2]; exact va, q + 13, y3, y1, by rw [wI_L, y2]; exact va, q + 14, z3, z1, by rw [wI_L, z2]; exact va, ?_⟩
  rw [cs, wI_I, s12, s13, s14]
  show w_Md_isChild Q (nO e.2.2.2.2.2.2.1) (nI r) (wI h F) _
  refine p_isChM M hM.1 hk H hw hu hum hmk hr3 (fun x hx => hs.2.1 x hx) (fun x ex hx => ⟨fun g => absurd g (by decide), fun _ => h66 _ ?_⟩) (fun no1 => ⟨fun _ => ⟨M.1, ?_⟩, fun g => absurd rfl g⟩)
  · have en : n = (tKi u r).idxOf x + 1 := by
      rw [← hn, ex]
      exact if_pos hx
    rw [ex, en]
    unfold lastO
    rw [take_ix1 hnd hx]
  · have eB : n = plB (tKi u r) e.2.2.2.2.2.2.2 := by
      rw [← hn]
      unfold plN
      cases ea : e.2.2.2.2.2.2.1 with
      | none => rfl
      | some x => exact if_neg (no1 x ea)
    show w_Md_isChild Q (nO e.2.2.2.2.2.2.2) (nI r) (wI h F) _
    refine p_isChM M hM.1 hk H hw hu hum hmk hr3 (fun x hx => hs.2.2 x hx) (fun y ey hy => ⟨fun g => absurd g (by decide), fun _ => ⟨M.1, ?_⟩⟩) (fun no2' => ⟨fun _ => ⟨M.1, ?_⟩, fun g => absurd rfl g⟩)
    · obtain ⟨A', B', eAB'⟩ := List.append_of_mem hy
      rw [ey]
      show w_Md_sibling Q (nI 41) (nI r) (nI y) 1 (wI h F) _
      refine p_Md_sibling M (by decide) H.1 hw eAB' ?_
      rw [← ey]
      refine h66 _ ?_
      have en : n = A'.length := by
        rw [eB, ey, ← idx_split hnd eAB']
        exact if_pos hy
      rw [en, eAB', List.take_left]
    · refine p_Md_lastChild M H.1 hw hr (h66 _ ?_)
      have en : n = (tKi u r).length := by
        rw [eB]
        unfold plB
        cases eb : e.2.2.2.2.2.2.2 with
        | none => rfl
        | some y => exact if_neg (no2' y eb)
      rw [en, List.take_length]
end MPLAY
