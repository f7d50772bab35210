section PLAY
def plB (l : List Nat) (b : Option Nat) : Nat := match b with
  | none => l.length
  | some y => if y ∈ l then l.idxOf y else l.length
def plN (l : List Nat) (a b : Option Nat) : Nat := match a with
  | none => plB l b
  | some x => if x ∈ l then l.idxOf x + 1 else plB l b
def fzN (lo : Bool) (l : List Nat) (k : Nat) (a b : Option Nat) : Nat := if lo = true then 0 else (if a ≠ none ∧ (l.take k).getLast? ≠ a then 1 else 0) + (if b ≠ none ∧ (l.drop k).head? ≠ b then 1 else 0)
noncomputable def mPl (lo : Nat → Bool) (t : mT) (e : mSt) : mT × Nat :=
  if e.1 = 0 then (if tIn t e.2.1 = true then (tSet t e.2.1 e.2.2.2.1, if tWo t e.2.1 = e.2.2.1 then 0 else 1) else (t, 10))
  else if e.1 = 3 then (if tIn t e.2.1 = true ∧ tKi t e.2.1 = [] ∧ e.2.1 ≠ tRt t then (tErs t e.2.1, 0) else (t, 10))
  else match e.2.2.2.2.2.1 with
    | none => (t, 10)
    | some r =>
      if e.1 = 1 then (if tIn t e.2.1 = false ∧ tIn t r = true then (dNode t e.2.1 e.2.2.2.1 r (lo r) (plN (tKi t r) e.2.2.2.2.2.2.1 e.2.2.2.2.2.2.2), fzN (lo r) (tKi t r) (plN (tKi t r) e.2.2.2.2.2.2.1 e.2.2.2.2.2.2.2) e.2.2.2.2.2.2.1 e.2.2.2.2.2.2.2) else (t, 10))
      else (if tIn t e.2.1 = true ∧ tIn t r = true ∧ r ∉ tPo t e.2.1 then (dMove t e.2.1 r (lo r) (plN (tKi (tCut t e.2.1) r) e.2.2.2.2.2.2.1 e.2.2.2.2.2.2.2), fzN (lo r) (tKi (tCut t e.2.1) r) (plN (tKi (tCut t e.2.1) r) e.2.2.2.2.2.2.1 e.2.2.2.2.2.2.2) e.2.2.2.2.2.2.1 e.2.2.2.2.2.2.2) else (t, 10))
theorem plB_le (l : List Nat) (b : Option Nat) : plB l b ≤ l.length := by
  unfold plB
  cases b with
  | none => exact Nat.le_refl _
  | some y =>
    show (if y ∈ l then l.idxOf y else l.length) ≤ _
    by_cases c : y ∈ l
    · rw [if_pos c]; exact Nat.le_of_lt (List.idxOf_lt_length_of_mem c)
    · rw [if_neg c]; exact Nat.le_refl _
theorem plN_le (l : List Nat) (a b : Option Nat) : plN l a b ≤ l.length := by
  unfold plN
  cases a with
  | none => exact plB_le l b
  | some x =>
    show (if x ∈ l then l.idxOf x + 1 else plB l b) ≤ _
    by_cases c : x ∈ l
    · rw [if_pos c]; exact List.idxOf_lt_length_of_mem c
    · rw [if_neg c]; exact plB_le l b
theorem idx_split {l : List Nat} (hn : l.Nodup) {x : Nat} {A B : List Nat} (e : l = A ++ x :: B) : l.idxOf x = A.length := by
  rw [e]
  refine ix_mid (fun g => ?_)
  rw [e] at hn
  exact (List.nodup_append.mp hn).2.2 x g x List.mem_cons_self rfl
theorem take_ix1 {l : List Nat} (hn : l.Nodup) {x : Nat} (h : x ∈ l) : (l.take (l.idxOf x + 1)).getLast? = some x := by
  obtain ⟨A, B, e⟩ := List.append_of_mem h
  rw [idx_split hn e, e, show A ++ x :: B = (A ++ [x]) ++ B by simp, List.take_append_of_le_length (by simp), List.take_of_length_le (by simp)]
  simp
/-! reading the cells around a child -/
theorem bu_ah {F : Nat → Nat → Int32} {d : Nat} {u : mT} (hB : BuP F d u) {r m : Nat} {A B : List Nat} (hr : tIn u r = true) (e : tKi u r = A ++ m :: B) : F (d + 12) m = lastO A ∧ F (d + 14) m = headO B := by
  obtain ⟨_, _, s1, s2, _⟩ := hB.2.2 r hr
  rw [e] at s1 s2
  refine ⟨?_, seg_mid s1⟩
  rw [List.reverse_append, List.reverse_cons, List.append_assoc] at s2
  have := seg_mid (B := A.reverse) s2
  rw [this, headO_rev]
theorem bu_la {F : Nat → Nat → Int32} {d : Nat} {u : mT} (hB : BuP F d u) {r : Nat} (hr : tIn u r = true) : F (d + 10) r = lastO (tKi u r) := by
  obtain ⟨_, _, s1, s2, _⟩ := hB.2.2 r hr
  rw [seg_heads s2, headO_rev]
theorem bu_isC {F : Nat → Nat → Int32} {d : Nat} {u : mT} (hB : BuP F d u) (hw : fWF 300 u) {r : Nat} (hr : r < 300) {a : Option Nat} (ha : ∀ x, a = some x → x < 300) : (rAt (F (d + 2)) 300 (nO a) = 1 ∧ rAt (F (d + 6)) 300 (nO a) = nI r) ↔ ∃ x, a = some x ∧ x ∈ tKi u r := by
  cases a with
  | none =>
    constructor
    · intro g
      have := g.1
      rw [show nO none = (-1 : Int32) from rfl, rAt_m] at this
      exact absurd this (by decide)
    · rintro ⟨x, e, _⟩; simp at e
  | some x =>
    have hx := ha x rfl
    show (rAt (F (d + 2)) 300 (nI x) = 1 ∧ rAt (F (d + 6)) 300 (nI x) = nI r) ↔ _
    rw [rAt_n hx n300, rAt_n hx n300, hB.2.1 x hx]
    constructor
    · rintro ⟨g1, g2⟩
      have hi : tIn u x = true := by
        refine Classical.byContradiction fun n => ?_
        rw [if_neg n] at g1
        exact absurd g1 (by decide)
      rw [(hB.2.2 x hi).2.1] at g2
      refine ⟨x, rfl, (hw.2.1 x r).mpr ⟨hi, nO_inj (fun k hk => ?_) (fun k hk => ?_) g2⟩⟩
      · have := hw.1 k (hw.2.2.2.2 x k hi hk); omega
      · have : r = k := Option.some.inj hk
        omega
    · rintro ⟨y, e, hy⟩
      have e := Option.some.inj e
      subst e
      obtain ⟨hi, hu⟩ := (hw.2.1 x r).mp hy
      rw [if_pos hi, (hB.2.2 x hi).2.1, hu]
      exact ⟨rfl, rfl⟩
theorem p_childAt {h : tpH} {p D b : Nat} {e : mSt} {mk : Nat} (lb : lBu h (p + 20) (some (p + 0))) {F : Nat → Nat → Int32} (H : StP (wI h F) p D b e) {u : mT} (hB : BuP F (p + 20) u) (hw : fWF 300 u) {r : Nat} (er : e.2.2.2.2.2.1 = some r) (hr : tIn u r = true) (hk : mk ≤ 300) (hs : spI mk e.2.2.2.2.2) {R : Int32 → tpH → Prop} (k : R (lastO ((tKi u r).take (plN (tKi u r) e.2.2.2.2.2.2.1 e.2.2.2.2.2.2.2))) (wI h F)) : w_St_childAhead b (some (p + 20)) (wI h F) R := by
  obtain ⟨H1, H2, H3, H4, H5, H6, _, v, H9, ⟨V0, V1, V2, V3, V4⟩⟩ := H
  rw [er] at V2
  have hr3 := hw.1 r hr
  have hnd := hw.2.2.1 r
  have n3 := n300
  refine ⟨H2, v, H9, V1, p + 20, rfl, lb.1, ?_⟩
  rw [V2, V3]
  show w_Bu_isChild (p + 20) _ (nI r) (wI h F) _
  rw [e_Bu_isChild lb]
  have c1 := bu_isC hB hw hr3 (a := e.2.2.2.2.2.2.1) (fun x hx => by have := hs.2.1 x hx; omega)
  by_cases g1 : ∃ x, e.2.2.2.2.2.2.1 = some x ∧ x ∈ tKi u r
  · rw [if_pos (c1.mpr g1)]
    refine ⟨fun g => absurd g (by decide), fun _ => ⟨H2, v, H9, V1, ?_⟩⟩
    obtain ⟨x, ex, hx⟩ := g1
    rw [V3, ex]
    rw [ex] at k
    have k : R (lastO ((tKi u r).take (if x ∈ tKi u r then (tKi u r).idxOf x + 1 else plB (tKi u r) e.2.2.2.2.2.2.2))) (wI h F) := k
    rw [if_pos hx] at k
    have : lastO ((tKi u r).take ((tKi u r).idxOf x + 1)) = nI x := by unfold lastO; rw [take_ix1 hnd hx]; rfl
    rw [this] at k
    exact k
  · rw [if_neg (fun g => g1 (c1.mp g))]
    have kB : R (lastO ((tKi u r).take (plB (tKi u r) e.2.2.2.2.2.2.2))) (wI h F) := by
      unfold plN at k
      cases ea : e.2.2.2.2.2.2.1 with
      | none => rw [ea] at k; exact k
      | some x =>
        rw [ea] at k
        have k : R (lastO ((tKi u r).take (if x ∈ tKi u r then (tKi u r).idxOf x + 1 else plB (tKi u r) e.2.2.2.2.2.2.2))) (wI h F) := k
        rw [if_neg (fun g => g1 ⟨x, ea, g⟩)] at k
        exact k
    refine ⟨fun _ => ⟨H2, v, H9, V1, lb.1, ?_⟩, fun g => absurd rfl g⟩
    rw [V2, V4]
    show w_Bu_isChild (p + 20) _ (nI r) (wI h F) _
    rw [e_Bu_isChild lb]
    have c2 := bu_isC hB hw hr3 (a := e.2.2.2.2.2.2.2) (fun x hx => by have := hs.2.2 x hx; omega)
    by_cases g2 : ∃ x, e.2.2.2.2.2.2.2 = some x ∧ x ∈ tKi u r
    · rw [if_pos (c2.mpr g2)]
      refine ⟨fun g => absurd g (by decide), fun _ => ⟨H2, v, H9, V1, lb.1, ?_⟩⟩
      obtain ⟨y, ey, hy⟩ := g2
      rw [V4, ey]
      show w_Bu_aheadOf (p + 20) (nI y) (wI h F) _
      have hy3 := hw.1 y (fKi_in hw hy).1
      rw [e_Bu_aheadOf lb, rAt_n hy3 n3]
      obtain ⟨A, B, eAB⟩ := List.append_of_mem hy
      rw [(bu_ah hB hr eAB).1]
      rw [ey] at kB
      have kB : R (lastO ((tKi u r).take (if y ∈ tKi u r then (tKi u r).idxOf y else (tKi u r).length))) (wI h F) := kB
      rw [if_pos hy, idx_split hnd eAB, eAB, List.take_left] at kB
      exact kB
    · rw [if_neg (fun g => g2 (c2.mp g))]
      refine ⟨fun _ => ⟨H2, v, H9, V1, lb.1, ?_⟩, fun g => absurd rfl g⟩
      rw [V2]
      show w_Bu_lastOf (p + 20) (nI r) (wI h F) _
      rw [e_Bu_lastOf lb, rAt_n hr3 n3, bu_la hB hr]
      have eL : plB (tKi u r) e.2.2.2.2.2.2.2 = (tKi u r).length := by
        unfold plB
        cases eb : e.2.2.2.2.2.2.2 with
        | none => rfl
        | some y => exact if_neg (fun g => g2 ⟨y, eb, g⟩)
      rw [eL, List.take_length] at kB
      exact kB
/-! arriving -/
theorem StP_w {h : tpH} {F G : Nat → Nat → Int32} {p D b : Nat} {e : mSt} (H : StP (wI h F) p D b e) (hpD : p + 101 ≤ D) (hz : D ≤ hZ h) (hk : ∀ b, b < p + 20 ∨ p + 35 ≤ b → G b = F b) : StP (wI h G) p D b e := by
  have f : hFr (wI h F) (wI h G) (fun b _ => p + 20 ≤ b ∧ b < p + 35) no2 := ⟨Nat.le_refl _, fun b _ => ⟨rfl, rfl, rfl, rfl, fun j hj => by rw [wI_I, wI_I, hk b (by omega)], fun j _ => rfl⟩⟩
  exact StP_fr H (by rw [wI_Z]; omega) f (fun b j hb => ⟨fun g => by omega, fun g => g⟩)
theorem fz_ah (o a : Option Nat) (ho : ∀ x, o = some x → x < 300) (ha : ∀ x, a = some x → x < 300) : nO o = nO a ↔ o = a := ⟨fun e => nO_inj (fun k hk => by have := ho k hk; omega) (fun k hk => by have := ha k hk; omega) e, fun e => by rw [e]⟩
theorem p_arr {h : tpH} {p D b : Nat} {e : mSt} {mk : Nat} (lb : lBu h (p + 20) (some (p + 0))) (lm : lMa h (p + 0)) (hpD : p + 101 ≤ D) (hz : D ≤ hZ h) {F : Nat → Nat → Int32} (H : StP (wI h F) p D b e) {u : mT} (hB : BuP F (p + 20) u) (hw : fWF 300 u) {r : Nat} (er : e.2.2.2.2.2.1 = some r) (hr : tIn u r = true) (hk : mk ≤ 300) (hs : spI mk e.2.2.2.2.2) (hi : tIn u e.2.1 = true) (hup : tUp u e.2.1 = none) (hmk : e.2.1 ∉ tKi u r) {lo : Bool} (hlo : F (p + 2) r < 4 ↔ lo = false) {R : Int32 → tpH → Prop}
    (kk : ∀ G, BuP G (p + 20) (tHng u e.2.1 r (inKids lo (tKi u r) e.2.1 (plN (tKi u r) e.2.2.2.2.2.2.1 e.2.2.2.2.2.2.2))) → (∀ b, b ≠ p + 26 → b ≠ p + 28 → b ≠ p + 30 → b ≠ p + 32 → b ≠ p + 34 → G b = F b) → R (nI (fzN lo (tKi u r) (plN (tKi u r) e.2.2.2.2.2.2.1 e.2.2.2.2.2.2.2) e.2.2.2.2.2.2.1 e.2.2.2.2.2.2.2)) (wI h G)) : w_St_arriveIn b (some (p + 20)) (wI h F) R := by
  have hm3 := hw.1 _ hi
  have hr3 := hw.1 r hr
  have hle := plN_le (tKi u r) e.2.2.2.2.2.2.1 e.2.2.2.2.2.2.2
  obtain ⟨hB2, hf2⟩ := bu_hng hB hw (p := r) hi hup hr (in_split lo (tKi u r) e.2.1 (plN (tKi u r) e.2.2.2.2.2.2.1 e.2.2.2.2.2.2.2))
  have H' := H
  obtain ⟨H1, H2, H3, H4, H5, H6, _, v, H9, ⟨V0, V1, V2, V3, V4⟩⟩ := H
  rw [er] at V2
  refine ⟨H2, v, H9, V1, p_childAt lb H' hB hw er hr hk hs ⟨p + 20, rfl, lb.1, ?_⟩⟩
  rw [H4, V2]
  show w_Bu_hang (p + 20) (nI e.2.1) (nI r) (lastO ((tKi u r).take (plN (tKi u r) e.2.2.2.2.2.2.1 e.2.2.2.2.2.2.2))) (wI h F) _
  refine p_Bu_hang lb lm (BuP_L hB) hw hr hm3 hlo ?_
  generalize hG : uHang F (p + 20) (nI e.2.1) (nI r) (lastO (hgA lo (tKi u r) e.2.1 ((tKi u r).take (plN (tKi u r) e.2.2.2.2.2.2.1 e.2.2.2.2.2.2.2)))) = G at hB2 hf2
  have hfr : ∀ b, b < p + 20 ∨ p + 35 ≤ b → G b = F b := fun b hb => hf2 b (by omega) (by omega) (by omega) (by omega) (by omega)
  have kv := kk G hB2 (fun b b1 b2 b3 b4 b5 => hf2 b b1 b2 b3 b4 b5)
  obtain ⟨K1, K2, K3, K4, K5, K6, _, v', K9, ⟨W0, W1, W2, W3, W4⟩⟩ := StP_w H' hpD hz hfr
  have evv : v' = v := by
    have K9 : hR h b 5 = some v' := K9
    have H9 : hR h b 5 = some v := H9
    rw [K9] at H9
    exact Option.some.inj H9
  subst evv
  rw [er] at W2
  refine ⟨lb.1, K2, v', K9, W1, p + 0, lb.2.1, lm.1, ?_⟩
  rw [W2]
  show w_Ma_isLoose (p + 0) (nI r) (wI h G) _
  rw [e_Ma_isLoose lm, rAt_n hr3 n300]
  have hlo2 : G (p + 0 + 2) r < 4 ↔ lo = false := by rw [hfr (p + 0 + 2) (by omega)]; exact hlo
  cases lo with
  | true =>
    rw [if_neg (fun g => by have := hlo2.mp g; simp at this)]
    have e0 : fzN true (tKi u r) (plN (tKi u r) e.2.2.2.2.2.2.1 e.2.2.2.2.2.2.2) e.2.2.2.2.2.2.1 e.2.2.2.2.2.2.2 = 0 := rfl
    rw [e0] at kv
    exact ⟨fun g => absurd g (by decide), fun _ => kv⟩
  | false =>
    rw [if_pos (hlo2.mpr rfl)]
    refine ⟨fun _ => ⟨K2, v', K9, W1, ?_⟩, fun g => absurd rfl g⟩
    rw [W3]
    have eK : tKi (tHng u e.2.1 r (inKids false (tKi u r) e.2.1 (plN (tKi u r) e.2.2.2.2.2.2.1 e.2.2.2.2.2.2.2))) r = (tKi u r).take (plN (tKi u r) e.2.2.2.2.2.2.1 e.2.2.2.2.2.2.2) ++ e.2.1 :: (tKi u r).drop (plN (tKi u r) e.2.2.2.2.2.2.1 e.2.2.2.2.2.2.2) := mU_s _ _ _
    generalize hA : (tKi u r).take (plN (tKi u r) e.2.2.2.2.2.2.1 e.2.2.2.2.2.2.2) = A at eK kv
    generalize hBb : (tKi u r).drop (plN (tKi u r) e.2.2.2.2.2.2.1 e.2.2.2.2.2.2.2) = B at eK kv
    obtain ⟨g12, g14⟩ := bu_ah hB2 hr eK
    have efz : fzN false (tKi u r) (plN (tKi u r) e.2.2.2.2.2.2.1 e.2.2.2.2.2.2.2) e.2.2.2.2.2.2.1 e.2.2.2.2.2.2.2 = (if e.2.2.2.2.2.2.1 ≠ none ∧ A.getLast? ≠ e.2.2.2.2.2.2.1 then 1 else 0) + (if e.2.2.2.2.2.2.2 ≠ none ∧ B.head? ≠ e.2.2.2.2.2.2.2 then 1 else 0) := by
      unfold fzN
      rw [if_neg (by decide), hA, hBb]
    rw [efz] at kv
    have memA : ∀ x, A.getLast? = some x → x < 300 := fun x hx => hw.1 x (fKi_in hw (List.mem_of_mem_take (by rw [hA]; exact getL_mem hx))).1
    have memB : ∀ x, B.head? = some x → x < 300 := fun x hx => hw.1 x (fKi_in hw (List.mem_of_mem_drop (by rw [hBb]; exact getH_mem hx))).1
    have s2 : ∀ x, e.2.2.2.2.2.2.1 = some x → x < 300 := fun x hx => by have := hs.2.1 x hx; omega
    have s3 : ∀ x, e.2.2.2.2.2.2.2 = some x → x < 300 := fun x hx => by have := hs.2.2 x hx; omega
    have tail : ∀ c : Nat, c ≤ 1 → R (nI (c + (if e.2.2.2.2.2.2.2 ≠ none ∧ B.head? ≠ e.2.2.2.2.2.2.2 then 1 else 0))) (wI h G) → w_St_arriveIn_73 R b (some (p + 20)) (nI c) (wI h G) := fun c hc k => by
      refine ⟨K2, v', K9, W1, ?_⟩
      rw [W4]
      refine ⟨fun g => ?_, fun g => ⟨p + 20, rfl, lb.1, ?_⟩⟩
      · have : e.2.2.2.2.2.2.2 = none := (fz_ah _ none s3 (fun x hx => by simp at hx)).mp g
        rw [if_neg (fun q => q.1 this)] at k
        exact k
      · rw [K4]
        show w_Bu_behindOf (p + 20) (nI e.2.1) (wI h G) _
        rw [e_Bu_behindOf lb, rAt_n hm3 n300, g14]
        refine ⟨K2, v', K9, W1, ?_⟩
        rw [W4]
        have gn : e.2.2.2.2.2.2.2 ≠ none := fun q => g (by rw [q]; rfl)
        refine ⟨fun q => ?_, fun q => ?_⟩
        · have : B.head? = e.2.2.2.2.2.2.2 := (fz_ah _ _ memB s3).mp q
          rw [if_neg (fun z => z.2 this)] at k
          exact k
        · have : B.head? ≠ e.2.2.2.2.2.2.2 := fun z => q (by rw [← z]; rfl)
          rw [if_pos ⟨gn, this⟩] at k
          rw [nI_1]
          exact k
    refine ⟨fun g => ?_, fun g => ⟨lb.1, ?_⟩⟩
    · have : e.2.2.2.2.2.2.1 = none := (fz_ah _ none s2 (fun x hx => by simp at hx)).mp g
      rw [if_neg (fun q => q.1 this)] at kv
      exact tail 0 (by omega) kv
    · rw [K4]
      show w_Bu_aheadOf (p + 20) (nI e.2.1) (wI h G) _
      rw [e_Bu_aheadOf lb, rAt_n hm3 n300, g12]
      refine ⟨K2, v', K9, W1, ?_⟩
      rw [W3]
      have gn : e.2.2.2.2.2.2.1 ≠ none := fun q => g (by rw [q]; rfl)
      refine ⟨fun q => ?_, fun q => ?_⟩
      · have : A.getLast? = e.2.2.2.2.2.2.1 := (fz_ah _ _ memA s2).mp q
        rw [if_neg (fun z => z.2 this)] at kv
        exact tail 0 (by omega) kv
      · have : A.getLast? ≠ e.2.2.2.2.2.2.1 := fun z => q (by rw [← z]; rfl)
        rw [if_pos ⟨gn, this⟩] at kv
        exact tail 1 (by omega) kv
end PLAY
