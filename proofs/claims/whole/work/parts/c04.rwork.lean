section RWORK
variable {h : tpH} {Q q mk s1 s2 s3 R0 : Nat} {kd idn po : Nat → Int32} {b l r : mT}
/-! the slot WORK while children are hung in it -/
def WkP (F : Nat → Nat → Int32) (q R0 : Nat) (s : mgS) (K : Nat → List Nat) : Prop := MtL F q 41 (reW (FK R0 s K) (fun x => F (q + 4) (300 * 41 + x))) ∧ (F (q + 3) (300 * 41 + R0) = -1 ∧ F (q + 6) (300 * 41 + R0) = -1) ∧ (∀ x, x < 300 → x ≠ R0 → tUp (FK R0 s K) x = none → F (q + 3) (300 * 41 + x) = -2) ∧ F (q + 2) 41 = nI R0
def hgFr (q : Nat) (F G : Nat → Nat → Int32) : Prop := ∀ b j, ¬ ((b = q + 3 ∨ b = q + 5 ∨ b = q + 6) ∧ 12300 ≤ j ∧ j < 12600) → G b j = F b j
theorem hg_r {F G : Nat → Nat → Int32} (f : hgFr q F G) : rFr Q q F G := fun c j hc => f c j (fun g => hc (by unfold rfT; omega))
theorem hg_tr {F G K : Nat → Nat → Int32} (a : hgFr q F G) (c : hgFr q G K) : hgFr q F K := fun x j e => (c x j e).trans (a x j e)
theorem WkP_k {F G : Nat → Nat → Int32} {s : mgS} {K : Nat → List Nat} (V : WkP F q R0 s K) (k : ∀ c, q + 2 ≤ c → c ≤ q + 6 → G c = F c) : WkP G q R0 s K := by
  obtain ⟨V1, V2, V3, V4⟩ := V
  have e4 := k (q + 4) (by omega) (by omega)
  refine ⟨?_, by rw [k (q + 3) (by omega) (by omega), k (q + 6) (by omega) (by omega)]; exact V2, by rw [k (q + 3) (by omega) (by omega)]; exact V3, by rw [k (q + 2) (by omega) (by omega)]; exact V4⟩
  rw [e4]
  exact MtL_o V1 (fun c c1 c2 => k c (by omega) c2)
theorem p_hgW (X : RC h Q q mk s1 s2 s3 R0 b l r) {F : Nat → Nat → Int32} {s : mgS} (I : mgI mk R0 po b l r s) (Eg : mgE mk s) {K : Nat → List Nat} (hK : ∀ z, kOK s z (K z)) (V : WkP F q R0 s K) {m p : Nat} (hu : sUp s m = some p) (hm : m ∉ K p) {lo : Bool} (hlo : F q p < 4 ↔ lo = false) {ao : Option Nat} (ha : ∀ d, ao = some d → d ∈ K p) {R : tpH → Prop} (kk : ∀ G, WkP G q R0 s (mU K p (inKids lo (K p) m (aK (K p) ao))) → hgFr q F G → R (wI h G)) : w_Md_hang Q (nI 41) (nI m) (nI p) (nO ao) (wI h F) R := by
  obtain ⟨⟨M, hQ⟩, _, HH⟩ := id X
  have hw : fWF 300 (FK R0 s K) := FK_wf HH I Eg hK
  have hwr : fWF 300 (reW (FK R0 s K) (fun x => F (q + 4) (300 * 41 + x))) := hw
  have mi : sIn s m = true := by
    cases e : sIn s m with
    | true => rfl
    | false => rw [I.2.1 m e] at hu; cases hu
  have pi : sIn s p = true := Eg.1 m p hu
  obtain ⟨V1, ⟨V2, V2'⟩, V3, V4⟩ := V
  have m3 : m < 300 := hw.1 m mi
  have e1 : lastO ((K p).take (aK (K p) ao)) = nO ao := aK_last (hK p).1 ha
  rw [← e1]
  have hmR : R0 ≠ m := fun e => by
    have := I.2.2.2.2.1.2
    rw [e, hu] at this
    cases this
  have up0 : tUp (FK R0 s K) m = none := FK_no hu hm
  have hpm : p ≠ m := fun e => by
    obtain ⟨rk, hrk⟩ := mg_rk HH I Eg
    have := hrk m p hu
    rw [e] at this
    omega
  refine p_Md_hang M (by decide) m3 (V1 p pi) hwr pi hm (List.take_append_drop (aK (K p) ao) (K p)).symm hlo ?_
  obtain ⟨g1, g2, g3, g4⟩ := mh_hng V1 hwr mi up0 pi hpm (in_split lo (K p) m (aK (K p) ao))
  show R (wI h (uMh F q 41 m p (hgA lo (K p) m ((K p).take (aK (K p) ao))).getLast?))
  have g1 : MtL (uMh F q 41 m p (hgA lo (K p) m ((K p).take (aK (K p) ao))).getLast?) q 41 (tHng (reW (FK R0 s K) (fun x => F (q + 4) (300 * 41 + x))) m p (inKids lo (K p) m (aK (K p) ao))) := g1
  have g4 : ∀ x, x ≠ m → x ∉ hgA lo (K p) m ((K p).take (aK (K p) ao)) → uMh F q 41 m p (hgA lo (K p) m ((K p).take (aK (K p) ao))).getLast? (q + 6) (300 * 41 + x) = F (q + 6) (300 * 41 + x) := g4
  have g3 : ∀ x, x ≠ m → uMh F q 41 m p (hgA lo (K p) m ((K p).take (aK (K p) ao))).getLast? (q + 3) (300 * 41 + x) = F (q + 3) (300 * 41 + x) := g3
  have g2 : mFr F (uMh F q 41 m p (hgA lo (K p) m ((K p).take (aK (K p) ao))).getLast?) q 41 := g2
  have inA : ∀ x ∈ hgA lo (K p) m ((K p).take (aK (K p) ao)), x ∈ K p := fun x hx => by
    rw [in_split lo (K p) m (aK (K p) ao)]
    exact List.mem_append_left _ hx
  generalize uMh F q 41 m p (hgA lo (K p) m ((K p).take (aK (K p) ao))).getLast? = G at g1 g2 g3 g4
  have e4 : G (q + 4) = F (q + 4) := g2.1 _ (by omega) (by omega) (by omega)
  refine kk G ⟨?_, ⟨by rw [g3 R0 hmR]; exact V2, ?_⟩, fun x x3 xR xu => ?_, by rw [g2.1 _ (by omega) (by omega) (by omega)]; exact V4⟩ (fun c j hc => ?_)
  · rw [e4]
    rw [← FK_hng hu]
    exact g1
  · rw [g4 R0 hmR (fun z => ?_)]
    · exact V2'
    · have := (hK p).2 R0 (inA R0 z)
      rw [I.2.2.2.2.1.2] at this
      cases this
  · have hK' := mU_OK hK (ins_OK (lo := lo) (k := aK (K p) ao) (hK p) hu hm)
    by_cases c : x = m
    · exfalso
      rw [c, (FK_up hK').mpr (by rw [mU_s]; exact in_mem.mpr (Or.inl rfl))] at xu
      cases xu
    · rw [g3 x c]
      refine V3 x x3 xR ?_
      cases e : tUp (FK R0 s K) x with
      | none => rfl
      | some w =>
        exfalso
        have hx := (FK_up hK).mp e
        have : x ∈ mU K p (inKids lo (K p) m (aK (K p) ao)) w := by
          by_cases cw : w = p
          · rw [cw, mU_s]; rw [cw] at hx; exact in_mem.mpr (Or.inr hx)
          · rw [mU_n _ _ cw]; exact hx
        rw [(FK_up hK').mpr this] at xu
        cases xu
  · by_cases cb : c = q + 3 ∨ c = q + 5 ∨ c = q + 6
    · exact g2.2 c j (by omega)
    · rw [g2.1 c (by omega) (by omega) (by omega)]
/-- is it a child in WORK -/
theorem p_isCW (X : RC h Q q mk s1 s2 s3 R0 b l r) {F : Nat → Nat → Int32} (e0 : F Q 0 = nI mk) {s : mgS} (I : mgI mk R0 po b l r s) {K : Nat → List Nat} (hK : ∀ z, kOK s z (K z)) (V : WkP F q R0 s K) {m p : Nat} (m3 : m < mk) (p3 : p < 300) {R : Int32 → tpH → Prop} (kk : R (if m ∈ K p then 1 else 0) (wI h F)) : w_Md_isChildOf Q (nI 41) (nI m) (nI p) (wI h F) R := by
  obtain ⟨⟨M, hQ⟩, _, HH⟩ := id X
  have hk := HH.2.2.1
  obtain ⟨V1, ⟨V2, V2'⟩, V3, V4⟩ := V
  have inw : ∀ x w, x ∈ K w → sIn s x = true := fun x w hx => by
    have hu := (hK w).2 x hx
    cases e : sIn s x with
    | true => rfl
    | false => rw [I.2.1 x e] at hu; cases hu
  have pc : ∀ x w, tUp (FK R0 s K) x = some w → F (q + 3) (300 * 41 + x) = nI w ∧ w < mk ∧ x < mk := fun x w e => by
    have hx := (FK_up hK).mp e
    exact ⟨(V1 x (inw x w hx)).2.1 w e, up_lt HH I ((hK w).2 x hx), (I.1 x (inw x w hx)).1⟩
  have Rlt : R0 < mk := (I.1 R0 I.2.2.2.2.1.1).1
  have upR : tUp (FK R0 s K) R0 = none := by
    cases e : tUp (FK R0 s K) R0 with
    | none => rfl
    | some w =>
      have := (hK w).2 R0 ((FK_up hK).mp e)
      rw [I.2.2.2.2.1.2] at this
      cases this
  refine ⟨M.1, p_Md_has M (by decide) hk e0 (inn := fun x => decide (x = R0) || (tUp (FK R0 s K) x).isSome) (fun x hx => ?_) (fun x hx => ?_) (fun x e x3 hi => ?_) (fun g => ?_)⟩
  · by_cases c : x = R0
    · rw [c, V2, decide_eq_true rfl, Bool.true_or]
      exact ⟨fun g => absurd g (by decide), fun g => by cases g⟩
    · rw [decide_eq_false c, Bool.false_or]
      cases e : tUp (FK R0 s K) x with
      | none =>
        rw [V3 x (by omega) c e]
        exact ⟨fun _ => rfl, fun _ => rfl⟩
      | some w =>
        obtain ⟨w1, w2, _⟩ := pc x w e
        rw [w1]
        refine ⟨fun g => ?_, fun g => by cases g⟩
        have h2 : (0 : Int32) ≤ nI w := by rw [show (0 : Int32) = nI 0 from rfl]; exact (nI_le_iff (by omega) (by omega)).mpr (Nat.zero_le _)
        rw [g] at h2
        exact absurd h2 (by decide)
  · rw [Bool.or_eq_true] at hx
    rcases hx with g | g
    · rw [of_decide_eq_true g]; exact Rlt
    · obtain ⟨w, hw⟩ := Option.isSome_iff_exists.mp g
      exact (pc x w hw).2.2
  · have ex : m = x := nI_inj (by omega) (by omega) e
    subst ex
    refine ⟨fun g => absurd g (by decide), fun _ => ⟨M.1, ?_⟩⟩
    rw [e_Md_parentIn M (by decide) (by omega)]
    cases eu : tUp (FK R0 s K) m with
    | none =>
      have : m ∉ K p := fun z => by rw [(FK_up hK).mpr z] at eu; cases eu
      rw [if_neg this] at kk
      rw [eu] at hi
      have cR : m = R0 := by
        rw [show (none : Option Nat).isSome = false from rfl, Bool.or_false] at hi
        exact of_decide_eq_true hi
      rw [cR, V2]
      exact ⟨fun _ => kk, fun g => absurd g.symm (nI_ne_m (by omega))⟩
    | some w =>
      obtain ⟨w1, w2, _⟩ := pc m w eu
      rw [w1]
      by_cases c : m ∈ K p
      · have := (FK_up (R0 := R0) hK).mpr c
        rw [eu] at this
        rw [Option.some.inj this]
        rw [if_pos c] at kk
        exact ⟨fun g => absurd rfl g, fun _ => kk⟩
      · rw [if_neg c] at kk
        refine ⟨fun _ => kk, fun g => absurd ((FK_up (R0 := R0) hK).mp ?_) c⟩
        rw [eu, nI_inj (by omega) (by omega) g]
  · have h0 := g m (by omega) rfl
    have : m ∉ K p := fun z => by
      rw [(FK_up hK).mpr z] at h0
      rw [show (some p : Option Nat).isSome = true from rfl, Bool.or_true] at h0
      cases h0
    rw [if_neg this] at kk
    exact ⟨fun _ => kk, fun g => absurd rfl g⟩
/-- is it a child in a tree -/
theorem p_isCT (X : RC h Q q mk s1 s2 s3 R0 b l r) {F : Nat → Nat → Int32} (hM : MaM F Q q mk kd idn) {s' : Nat} {t : mT} (hs : s' < 42) (T : MtP F q s' t) (hw : tWF 300 t) (ht : ∀ m, tIn t m = true → m < mk) {m p : Nat} (m3 : m < mk) (p3 : p < 300) {R : Int32 → tpH → Prop} (kk : R (if m ∈ tKi t p then 1 else 0) (wI h F)) : w_Md_isChildOf Q (nI s') (nI m) (nI p) (wI h F) R := by
  obtain ⟨⟨M, hQ⟩, _, HH⟩ := id X
  have hk := HH.2.2.1
  refine ⟨M.1, rc_has M hs hk hM T hw ht m3 ?_⟩
  cases e : tIn t m with
  | false =>
    rw [if_neg (fun z => by rw [((hw.1.2.1 m p).mp z).1] at e; cases e)] at kk
    rw [if_neg Bool.false_ne_true]
    exact ⟨fun _ => kk, fun g => absurd rfl g⟩
  | true =>
    rw [if_pos rfl]
    refine ⟨fun g => absurd g (by decide), fun _ => ⟨M.1, ?_⟩⟩
    rw [e_Md_parentIn M hs (by omega), mt_up T hw e]
    have iff : nO (tUp t m) = nI p ↔ m ∈ tKi t p := (up_i hw e p3).trans ⟨fun g => (hw.1.2.1 m p).mpr ⟨e, g⟩, fun g => ((hw.1.2.1 m p).mp g).2⟩
    by_cases c : m ∈ tKi t p
    · rw [if_pos c] at kk
      exact ⟨fun g => absurd (iff.mpr c) g, fun _ => kk⟩
    · rw [if_neg c] at kk
      exact ⟨fun _ => kk, fun g => absurd (iff.mp g) c⟩
/-- the nearest one ahead in a tree that stands -/
theorem p_stand11 (X : RC h Q q mk s1 s2 s3 R0 b l r) {F : Nat → Nat → Int32} (e0 : F Q 0 = nI mk) {s : mgS} (I : mgI mk R0 po b l r s) {K : Nat → List Nat} (hK : ∀ z, kOK s z (K z)) (V : WkP F q R0 s K) {s' : Nat} {t : mT} (hs : s' < 42) (ht : ∀ m, tIn t m = true → m < mk) {m p : Nat} (hki : ∀ x ∈ tKi t p, tIn t x = true) (hnd : (tKi t p).Nodup) (p3 : p < 300) (hm : m ∈ tKi t p) {R : Int32 → tpH → Prop} (kk : R (nO (nrA t (K p) p m)) (wI h F)) : ∀ (n : Nat) (A C : List Nat) (v : Int32), tKi t p = A ++ C → m ∉ A → C.length < n → seg (fun y => F (q + 6) (300 * s' + y)) v C (-1) → w_Md_standing_11 R n Q (nI s') (nI p) (nI m) (nO ((A.filter (fun x => decide (x ∈ K p))).getLast?)) v (wI h F)
  | 0, A, C, v, e, hA, hn, hv => by omega
  | n + 1, A, [], v, e, hA, hn, hv => by
    rw [e, List.append_nil] at hm
    exact absurd hm hA
  | n + 1, A, x :: C, v, e, hA, hn, hv => by
    obtain ⟨⟨M, hQ⟩, _, HH⟩ := id X
    have hk := HH.2.2.1
    obtain ⟨ev, hC⟩ := hv
    subst ev
    have hx : x ∈ tKi t p := by rw [e]; exact List.mem_append_right _ List.mem_cons_self
    have x3 := ht x (hki x hx)
    have m3 := ht m (hki m hm)
    have hn : C.length < n := by simpa using hn
    refine ⟨fun g => ?_, fun g => ⟨M.1, ?_⟩⟩
    · have ex : x = m := nI_inj (by omega) (by omega) g
      subst ex
      unfold nrA at kk
      rw [idx_split hnd e, e, List.take_left' rfl] at kk
      exact kk
    · have ne : x ≠ m := fun z => g (by rw [z])
      show w_Md_isChildOf Q (nI 41) (nI x) (nI p) (wI h F) _
      refine p_isCW X e0 I hK V x3 p3 ?_
      have step := fun v' => p_stand11 X e0 I hK V hs ht hki hnd p3 hm kk n (A ++ [x]) C v' (by rw [e, List.append_assoc]; rfl) (fun z => (List.mem_append.mp z).elim hA (fun z => ne (List.mem_singleton.mp z).symm)) hn
      by_cases c : x ∈ K p
      · rw [if_pos c]
        refine ⟨fun g => absurd g (by decide), fun _ => ⟨M.1, ?_⟩⟩
        rw [e_Md_nextIn M hs (by omega)]
        have := step _ hC
        rw [List.filter_append, show [x].filter (fun x => decide (x ∈ K p)) = [x] from by rw [List.filter_cons, if_pos (decide_eq_true c)]; rfl, List.getLast?_append] at this
        exact this
      · rw [if_neg c]
        refine ⟨fun _ => ⟨M.1, ?_⟩, fun g => absurd rfl g⟩
        rw [e_Md_nextIn M hs (by omega)]
        have := step _ hC
        rw [List.filter_append, show [x].filter (fun x => decide (x ∈ K p)) = [] from by rw [List.filter_cons, if_neg (fun z => c (of_decide_eq_true z))]; rfl, List.append_nil] at this
        exact this
theorem p_stand (X : RC h Q q mk s1 s2 s3 R0 b l r) {F : Nat → Nat → Int32} (e0 : F Q 0 = nI mk) {s : mgS} (I : mgI mk R0 po b l r s) {K : Nat → List Nat} (hK : ∀ z, kOK s z (K z)) (V : WkP F q R0 s K) {s' : Nat} {t : mT} (hs : s' < 42) (T : MtP F q s' t) (hw : tWF 300 t) (ht : ∀ m, tIn t m = true → m < mk) {m p : Nat} (hm : m ∈ tKi t p) {R : Int32 → tpH → Prop} (kk : R (nO (nrA t (K p) p m)) (wI h F)) : w_Md_standing Q (nI s') (nI p) (nI m) (wI h F) R := by
  obtain ⟨⟨M, hQ⟩, _, HH⟩ := id X
  have hi := (hw.1.2.1 m p).mp hm
  have hp := hw.1.2.2.2.2 m p hi.1 hi.2
  have p3 := hw.1.1 p hp
  refine ⟨M.1, ?_⟩
  rw [e_Md_firstIn M hs p3]
  refine ⟨(tKi t p).length + 1, ?_⟩
  exact p_stand11 X e0 I hK V hs ht (fun x hx => ((hw.1.2.1 x p).mp hx).1) (hw.1.2.2.1 p) p3 hm kk _ [] (tKi t p) _ rfl (by simp) (Nat.lt_succ_self _) (T.1 p hp).2.2
/-- a mark that comes by a side -/
theorem p_hgO (X : RC h Q q mk s1 s2 s3 R0 b l r) {F : Nat → Nat → Int32} (H : RFm F Q q mk s1 s2 s3 kd idn po b l r) {s : mgS} (I : mgI mk R0 po b l r s) (Eg : mgE mk s) {K : Nat → List Nat} (hK : ∀ z, kOK s z (K z)) (V : WkP F q R0 s K) {m p : Nat} (hu : sUp s m = some p) (hm : m ∉ K p) (hlo : F q p < 4 ↔ loK kd p = false) (src : m ∈ tKi l p ∨ m ∈ tKi r p) {R : tpH → Prop} (kk : ∀ G, WkP G q R0 s (mU K p (inKids (loK kd p) (K p) m (aK (K p) (nrO l r (K p) p m)))) → hgFr q F G → R (wI h G)) : w_Md_hangOther Q (nI s2) (nI s3) (nI p) (nI m) (wI h F) R := by
  obtain ⟨⟨M, hQ⟩, ⟨i1, i2, i3⟩, HH⟩ := id X
  obtain ⟨⟨w1, w2, w3⟩, _, hk, b1, b2, b3⟩ := id HH
  obtain ⟨H1, H2, H3, H4, H5⟩ := id H
  have m3 : m < mk := by
    rcases src with g | g
    · exact b2 m ((w2.1.2.1 m p).mp g).1
    · exact b3 m ((w3.1.2.1 m p).mp g).1
  have p3 := up_lt HH I hu
  have nrm : ∀ {t : mT} {d : Nat}, nrA t (K p) p m = some d → d ∈ K p := fun {t d} hd => by
    unfold nrA at hd
    have := (List.mem_filter.mp (List.mem_of_getLast? hd)).2
    exact of_decide_eq_true this
  have k300 : ∀ d, d ∈ K p → d < 300 := fun d hd => by
    have := (FK_wf (R0 := R0) HH I Eg hK).1 d (((FK_wf (R0 := R0) HH I Eg hK).2.1 d p).mp hd).1
    omega
  have fin97 : ∀ ao, ao = nrO l r (K p) p m → (∀ d, ao = some d → d ∈ K p) → w_Md_hangOther_97 R Q (nI p) (nI m) (nO ao) (wI h F) := fun ao e ha => by
    refine ⟨M.1, p_hgW X I Eg hK V hu hm hlo ha ?_⟩
    rw [e]
    exact kk
  refine ⟨M.1, p_isCT X H1 (by omega) H4 w2 b2 m3 (by omega) ⟨M.1, p_isCT X H1 (by omega) H5 w3 b3 m3 (by omega) ?_⟩⟩
  by_cases cl : m ∈ tKi l p
  · rw [if_pos cl]
    refine ⟨fun g => absurd g (by decide), fun _ => ⟨M.1, p_stand X H1.1 I hK V (by omega) H4 w2 b2 cl ?_⟩⟩
    by_cases cr : m ∈ tKi r p
    · rw [if_pos cr]
      refine ⟨fun g => absurd g (by decide), fun _ => ⟨M.1, p_stand X H1.1 I hK V (by omega) H5 w3 b3 cr ?_⟩⟩
      refine ⟨fun g => absurd (show (1 : Int32) = 0 from g) (by decide), fun _ => ⟨fun g => absurd (show (1 : Int32) = 0 from g) (by decide), fun _ => ?_⟩⟩
      have e : nrO l r (K p) p m = mnO (nrA l (K p) p m) (nrA r (K p) p m) := by
        unfold nrO
        rw [if_pos cl, if_pos cr]
      have mi := mnO_i (x := nrA l (K p) p m) (y := nrA r (K p) p m) (fun d hd => k300 d (nrm hd)) (fun d hd => k300 d (nrm hd))
      have f := fin97 _ e.symm (fun d hd => (mnO_m hd).elim nrm nrm)
      rw [← mi] at f
      refine ⟨fun g => ?_, fun g => ?_⟩
      · by_cases c : nO (nrA r (K p) p m) < nO (nrA l (K p) p m)
        · rw [if_pos c] at f
          exact f
        · rw [if_neg c] at f
          rw [Int32.le_antisymm g (Int32.not_lt.mp c)]
          exact f
      · have c : ¬ nO (nrA r (K p) p m) < nO (nrA l (K p) p m) := fun z => g (Int32.le_of_lt z)
        rw [if_neg c] at f
        exact f
    · rw [if_neg cr]
      have f := fin97 (nrA l (K p) p m) (by unfold nrO; rw [if_pos cl, if_neg cr]) (fun d hd => nrm hd)
      exact ⟨fun _ => ⟨fun g => absurd (show (1 : Int32) = 0 from g) (by decide), fun _ => ⟨fun _ => ⟨fun g => absurd (show (1 : Int32) = 0 from g) (by decide), fun _ => f⟩, fun g => absurd rfl g⟩⟩, fun g => absurd rfl g⟩
  · rw [if_neg cl]
    have cr := src.elim (fun z => absurd z cl) id
    rw [if_pos cr]
    have f := fin97 (nrA r (K p) p m) (by unfold nrO; rw [if_neg cl, if_pos cr]) (fun d hd => nrm hd)
    refine ⟨fun _ => ⟨fun g => absurd (show (1 : Int32) = 0 from g) (by decide), fun _ => ⟨M.1, p_stand X H1.1 I hK V (by omega) H5 w3 b3 cr ?_⟩⟩, fun g => absurd rfl g⟩
    exact ⟨fun _ => ⟨fun _ => f, fun g => absurd rfl g⟩, fun g => absurd rfl g⟩
end RWORK
