section MDOES
theorem ix_41 (m : Nat) : (12300 : Int32) + nI m = nI (300 * 41 + m) := by
  have e : (12300 : Int32) = nI 12300 := rfl
  rw [e, nI_add]
/-- all but the slot of work -/
def wkFr (q : Nat) (F G : Nat → Nat → Int32) : Prop := ∀ b j, ¬ (q + 3 ≤ b ∧ b ≤ q + 6 ∧ 12300 ≤ j ∧ j < 12600) → G b j = F b j
theorem wk_tpu {q : Nat} (F : Nat → Nat → Int32) {b m : Nat} (hb : q + 3 ≤ b ∧ b ≤ q + 6) (hm : m < 300) (v : Int32) : wkFr q F (tpu F b (300 * 41 + m) v) := fun c j hc => tpu_o (by omega)
theorem wk_tr {q : Nat} {F G K : Nat → Nat → Int32} (a : wkFr q F G) (b : wkFr q G K) : wkFr q F K := fun c j hc => (b c j hc).trans (a c j hc)
theorem wk_mFr {q : Nat} {F G : Nat → Nat → Int32} (a : mFr F G q 41) : wkFr q F G := fun b j hb => by
  by_cases c : b = q + 3 ∨ b = q + 5 ∨ b = q + 6
  · exact a.2 b j (by omega)
  · rw [a.1 b (by omega) (by omega) (by omega)]
theorem ma_wk {F G : Nat → Nat → Int32} {Q q mk : Nat} {kd idn : Nat → Int32} (hQ : Q < q) (hM : MaM F Q q mk kd idn) (f : wkFr q F G) : MaM G Q q mk kd idn := MaM_fr hM (f _ _ (by omega)) (fun b hb => funext fun j => f _ _ (by omega))
theorem st_wk {F G : Nat → Nat → Int32} {q k : Nat} {e : mSt} (H : StM F q k e) (f : wkFr q F G) : StM G q k e := StM_fr H (fun b b1 b2 => f _ _ (by omega))
/-- a mark is cut off its parent, and called nowhere -/
theorem mt_off {F : Nat → Nat → Int32} {q : Nat} {t : mT} (H : MtP F q 41 t) (hw : tWF 300 t) {m p : Nat} {A B : List Nat} (e : tKi t p = A ++ m :: B) (hne : m ≠ tRt t) : MtD (tpu (uMu F q 41 m p A.getLast?) (q + 3) (300 * 41 + m) (-2)) q 41 (tCut t m) m ∧ wkFr q F (tpu (uMu F q 41 m p A.getLast?) (q + 3) (300 * 41 + m) (-2)) := by
  have hm : tIn t m = true := (fKi_in hw.1 (by rw [e]; simp)).1
  have hm3 := hw.1.1 m hm
  have hum : tUp (tCut t m) m = none := mU_s _ _ _
  obtain ⟨c1, c2, c3, c4⟩ := mu_cut H.1 hw.1 e
  have hrA : tRt t ∉ A := fun g => by
    have := (fKi_in hw.1 (x := tRt t) (p := p) (by rw [e]; exact List.mem_append_left _ g)).2
    rw [hw.2.2.1] at this; simp at this
  have ix : ∀ x, 300 * 41 + x = 300 * 41 + m ↔ x = m := fun x => by omega
  refine ⟨⟨fun x hx => ?_, ⟨?_, ?_⟩, fun x hx hi => ?_, ?_⟩, wk_tr (wk_mFr c2) (wk_tpu _ (by omega) hm3 _)⟩
  · obtain ⟨n1, n2, n3⟩ := c1 x hx
    refine ⟨?_, fun p' hp' => ?_, ?_⟩
    · rw [tpu_o (by omega)]; exact n1
    · have hxm : x ≠ m := fun g => by rw [g, hum] at hp'; simp at hp'
      rw [tpu_o (by omega)]
      exact n2 p' hp'
    · rw [tpu_fa _ _ _ _ _ (show q + 6 ≠ q + 3 by omega), tpu_o (by omega)]
      exact n3
  · show tpu _ _ _ _ (q + 3) (300 * 41 + tRt t) = -1
    rw [tpu_o (by omega), c3]; exact H.2.1.1
  · show tpu _ _ _ _ (q + 6) (300 * 41 + tRt t) = -1
    rw [tpu_o (by omega), c4 _ (Ne.symm hne) hrA]; exact H.2.1.2
  · by_cases c : x = m
    · rw [c, tpu_s]
    · rw [tpu_o (by omega), c3]
      rcases hi with g | g
      · exact H.2.2.1 x hx g
      · exact absurd g c
  · show tpu _ _ _ _ (q + 2) 41 = nI (tRt t)
    rw [tpu_o (by omega), c2.1 (q + 2) (by omega) (by omega) (by omega)]; exact H.2.2.2
theorem mt_one {F : Nat → Nat → Int32} {q : Nat} {t : mT} {m : Nat} (hw : tWF 300 t) (hm : tIn t m = true) (hk : tKi t m = []) (hne : m ≠ tRt t) (H : MtD F q 41 (tCut t m) m) : MtP F q 41 (tErs t m) := by
  have hpo : ∀ x, x ∈ tPo t m ↔ x = m := fun x => by
    rw [tPo_eq hw.1.2.2.2.1, hk]
    simp
  refine ⟨fun x hx => ?_, H.2.1, fun x hx hi => ?_, H.2.2.2⟩
  · have hx : (tIn t x && !decide (x ∈ tPo t m)) = true := hx
    simp only [Bool.and_eq_true, Bool.not_eq_true', decide_eq_false_iff_not] at hx
    have e5 : tKi (tErs t m) x = tKi (tCut t m) x := by
      show (if x ∈ tPo t m then [] else (tKi t x).erase m) = _
      rw [if_neg hx.2]; rfl
    obtain ⟨n1, n2, n3⟩ := H.1 x hx.1
    exact ⟨n1, n2, by rw [e5]; exact n3⟩
  · have hi : (tIn t x && !decide (x ∈ tPo t m)) = false := hi
    refine H.2.2.1 x hx ?_
    rw [Bool.and_eq_false_iff] at hi
    rcases hi with g | g
    · exact Or.inl g
    · have : x ∈ tPo t m := by simpa using g
      exact Or.inr ((hpo x).mp this)
theorem mt_new {F : Nat → Nat → Int32} {q : Nat} {t : mT} (H : MtP F q 41 t) (hw : tWF 300 t) {m : Nat} (hm : tIn t m = false) (h3 : m < 300) (v : Int32) : MtD (tpu (tpu F (q + 4) (300 * 41 + m) v) (q + 5) (300 * 41 + m) (-1)) q 41 (tSpr t m v) m ∧ wkFr q F (tpu (tpu F (q + 4) (300 * 41 + m) v) (q + 5) (300 * 41 + m) (-1)) := by
  have hrm : tRt t ≠ m := fun g => by have := hw.2.1; rw [g, hm] at this; simp at this
  refine ⟨⟨fun x hx => ?_, ⟨?_, ?_⟩, fun x hx hi => ?_, ?_⟩, wk_tr (wk_tpu F (by omega) h3 _) (wk_tpu _ (by omega) h3 _)⟩
  · have hx : mU (tIn t) m true x = true := hx
    by_cases c : x = m
    · subst c
      refine ⟨?_, fun p hp => ?_, ?_⟩
      · rw [tpu_o (by omega), tpu_s]
        exact (mU_s _ _ _).symm
      · have hp : mU (tUp t) x none x = some p := hp
        rw [mU_s] at hp; simp at hp
      · have ek : tKi (tSpr t x v) x = [] := mU_s _ _ _
        rw [ek, tpu_s]
        rfl
    · rw [mU_n _ _ c] at hx
      obtain ⟨n1, n2, n3⟩ := H.1 x hx
      have e1 : tWo (tSpr t m v) x = tWo t x := mU_n _ _ c
      have e2 : tUp (tSpr t m v) x = tUp t x := mU_n _ _ c
      have e3 : tKi (tSpr t m v) x = tKi t x := mU_n _ _ c
      refine ⟨?_, fun p hp => ?_, ?_⟩
      · rw [e1, tpu_o (by omega), tpu_o (by omega)]; exact n1
      · rw [tpu_o (by omega), tpu_o (by omega)]; exact n2 p (by rw [← e2]; exact hp)
      · rw [e3, tpu_fa _ _ _ _ _ (show q + 6 ≠ q + 5 by omega), tpu_fa _ _ _ _ _ (show q + 6 ≠ q + 4 by omega), tpu_o (by omega), tpu_o (by omega)]
        exact n3
  · show tpu _ _ _ _ (q + 3) (300 * 41 + tRt t) = -1
    rw [tpu_o (by omega), tpu_o (by omega)]; exact H.2.1.1
  · show tpu _ _ _ _ (q + 6) (300 * 41 + tRt t) = -1
    rw [tpu_o (by omega), tpu_o (by omega)]; exact H.2.1.2
  · rw [tpu_o (by omega), tpu_o (by omega)]
    refine H.2.2.1 x hx ?_
    by_cases c : x = m
    · rw [c]; exact hm
    · rcases hi with g | g
      · have g : mU (tIn t) m true x = false := g
        rw [mU_n _ _ c] at g; exact g
      · exact absurd g c
  · show tpu _ _ _ _ (q + 2) 41 = nI (tRt t)
    rw [tpu_o (by omega), tpu_o (by omega)]; exact H.2.2.2
theorem p_hasO {h : tpH} {Q q s mk : Nat} (M : lMd h Q q) (hs : s < 42) (hk : mk ≤ 300) {F : Nat → Nat → Int32} (hm : F Q 0 = nI mk) {t : mT} (H : MtP F q s t) (hw : tWF 300 t) (hmk : ∀ m, tIn t m = true → m < mk) {o : Option Nat} (ho : ∀ x, o = some x → x < mk) {R : Int32 → tpH → Prop} (k1 : ∀ r, o = some r → tIn t r = true → R 1 (wI h F)) (k0 : (∀ r, o = some r → tIn t r = false) → R 0 (wI h F)) : w_Md_has Q (nI s) (nO o) (wI h F) R := by
  refine p_Md_has M hs hk hm (inn := tIn t) (fun m hm' => mt_in H hw m (by omega)) hmk (fun r e hr3 hr => ?_) (fun g => k0 (fun r e => ?_))
  · cases o with
    | none => exact absurd e.symm (nI_ne_m (by omega))
    | some x =>
      have := ho x rfl
      have e1 : x = r := nI_inj (by omega) (by omega) e
      exact k1 r (by rw [e1]) hr
  · have := ho r e
    exact g r (by omega) (by rw [e]; rfl)
theorem p_Md_does {h : tpH} {Q q mk ks : Nat} {kd idn : Nat → Int32} {rt : Nat → Bool} (M : lMd h Q q) (hQ : Q < q) {F : Nat → Nat → Int32} (hM : MaM F Q q mk kd idn) (hk : mk ≤ 300) (hks : ks < 4100) {e : mSt} (hS : StM F q ks e) (hs : stpI mk rt e) {t : mT} (H : MtP F q 41 t) (hI0 : trI mk kd rt t) {R : Int32 → tpH → Prop}
    (kk : ∀ G, MtP G q 41 (mPl (loK kd) t e).1 → wkFr q F G → R (nI (mPl (loK kd) t e).2) (wI h G)) : w_Md_does Q (nI ks) (wI h F) R := by
  obtain ⟨a1, a2, a3⟩ := md_f M (j := 8) (kd := 15) (n := 4100) (f := 12) (by decide)
  obtain ⟨b1, b2, b3⟩ := md_f M (j := 9) (kd := 15) (n := 4100) (f := 13) (by decide)
  obtain ⟨d1, d2, d3⟩ := md_f M (j := 12) (kd := 15) (n := 4100) (f := 16) (by decide)
  obtain ⟨f1, f2, f3⟩ := md_f M (j := 10) (kd := 15) (n := 4100) (f := 14) (by decide)
  obtain ⟨g1, g2, g3⟩ := md_f M (j := 11) (kd := 15) (n := 4100) (f := 15) (by decide)
  obtain ⟨v1, v2, v3⟩ := md_f M (j := 4) (kd := 15) (n := 12600) (f := 7) (by decide)
  obtain ⟨w1, w2, w3⟩ := md_f M (j := 5) (kd := 15) (n := 12600) (f := 8) (by decide)
  obtain ⟨u1, u2, u3⟩ := md_f M (j := 3) (kd := 15) (n := 12600) (f := 6) (by decide)
  obtain ⟨r1, r2, r3⟩ := md_f M (j := 2) (kd := 15) (n := 42) (f := 5) (by decide)
  have va : vp_in (nI ks) 4100 := vp_in_nI hks (by decide)
  have cs : (nI ks).toNatClampNeg = ks := nI_clamp (by omega)
  have hw := hI0.1
  have hmk : ∀ m, tIn t m = true → m < mk := fun m hm => (hI0.2.1 m hm).1
  obtain ⟨S1, S2, S3, S4, S5⟩ := id hs
  have hm3 : e.2.1 < 300 := by omega
  have vm : vp_in (nI (300 * 41 + e.2.1)) 12600 := ix_v (by decide) hm3
  have cm : (nI (300 * 41 + e.2.1)).toNatClampNeg = 300 * 41 + e.2.1 := nI_clamp (by omega)
  obtain ⟨s8, s9, s10, s11, _, s12, _⟩ := id hS
  have e1i : nI e.1 = 1 ↔ e.1 = 1 := ⟨fun g => nI_inj (b := 1) (by omega) (by decide) g, fun g => by rw [g]; rfl⟩
  have e3i : nI e.1 = 3 ↔ e.1 = 3 := ⟨fun g => nI_inj (b := 3) (by omega) (by decide) g, fun g => by rw [g]; rfl⟩
  have e0i : nI e.1 = 0 ↔ e.1 = 0 := ⟨fun g => nI_inj (b := 0) (by omega) (by decide) g, fun g => by rw [g]; rfl⟩
  have no : ¬ fitC t e → R 10 (wI h F) := fun hf => by
    rw [mPl_no S1 hf] at kk
    exact kk F H (fun _ _ _ => rfl)
  refine ⟨M.1, q + 8, a3, a1, by rw [wI_L, a2]; exact va, q + 9, b3, b1, by rw [wI_L, b2]; exact va, q + 12, d3, d1, by rw [wI_L, d2]; exact va, ?_⟩
  rw [cs, wI_I, s8, s9, s12]
  show w_Md_has Q (nI 41) (nO (some e.2.1)) (wI h F) _
  refine p_hasO M (by decide) hk hM.1 H hw hmk (o := some e.2.1) (fun x hx => by have := Option.some.inj hx; omega) (fun r er hi => ?_) (fun hno => ?_)
  · have er := Option.some.inj er
    subst er
    refine ⟨fun n1 => ⟨fun _ => ⟨fun n0 => ⟨fun n3 => ?_, fun k3 => ?_⟩, fun k0 => ?_⟩, fun g => absurd g (by decide)⟩, fun k1 => ⟨fun _ => no (fun hf => by have := (hf.2.1 (e1i.mp k1)).1; rw [hi] at this; simp at this), fun g => absurd g (by decide)⟩⟩
    · have k2 : e.1 = 2 := by
        have q1 : e.1 ≠ 1 := fun g => n1 (e1i.mpr g)
        have q0 : e.1 ≠ 0 := fun g => n0 (e0i.mpr g)
        have q3 : e.1 ≠ 3 := fun g => n3 (e3i.mpr g)
        omega
      refine ⟨M.1, ?_⟩
      show w_Md_has Q (nI 41) (nO e.2.2.2.2.2.1) (wI h F) _
      refine p_hasO M (by decide) hk hM.1 H hw hmk (fun x hx => S5.1 x hx) (fun r er hr => ⟨fun g => absurd g (by decide), fun _ => ⟨M.1, ?_⟩⟩) (fun hno => ⟨fun _ => no (fun hf => by
        obtain ⟨_, r, er, hr, _⟩ := hf.2.2.1 k2
        rw [hno r er] at hr; simp at hr), fun g => absurd rfl g⟩)
      rw [er]
      show w_Md_isWithin Q (nI 41) (nI r) (nI e.2.1) (wI h F) _
      refine p_Md_isWithin M (by decide) H.1 hw.1 H.2.1.1 (fun y hy hu => Or.inl (Classical.byContradiction fun hn => hw.2.2.2 y hy hn hu)) hr hm3 ?_
      by_cases hc : r ∈ tPo t e.2.1
      · rw [if_pos hc]
        exact ⟨fun g => absurd g (by decide), fun _ => no (fun hf => by
          obtain ⟨_, r', er', _, n⟩ := hf.2.2.1 k2
          rw [er] at er'
          exact n (by rw [← Option.some.inj er']; exact hc))⟩
      · rw [if_neg hc]
        rw [mPl_mov k2 er hi hr hc] at kk
        have hne : e.2.1 ≠ tRt t := fun g => hc (by rw [g]; exact (tPo_all hw).mpr hr)
        have hrm : r ≠ e.2.1 := fun g => hc (by rw [g]; exact tPo_self hw.1.2.2.2.1 _)
        obtain ⟨p, hp⟩ := Option.ne_none_iff_exists'.mp (hw.2.2.2 _ hi hne)
        obtain ⟨A, B, eAB⟩ := List.append_of_mem ((hw.1.2.1 e.2.1 p).mpr ⟨hi, hp⟩)
        obtain ⟨hD, hf⟩ := mt_off H hw eAB hne
        refine ⟨fun _ => ⟨M.1, ?_⟩, fun g => absurd rfl g⟩
        show w_Md_unhang Q (nI 41) (nI e.2.1) (wI h F) _
        refine p_Md_unhang M (by decide) H.1 hw.1 eAB ⟨M.1, q + 3, u3, u1, by rw [ix_41, wI_L, u2]; exact vm, fun h35 e35 => ?_⟩
        rw [ix_41, cm, sI_wI, wI_wI, wI_I] at e35
        subst e35
        have hw1 := fCut hw.1 e.2.1
        have hum : tUp (tCut t e.2.1) e.2.1 = none := mU_s _ _ _
        refine p_settle M hQ (ma_wk hQ hM hf) hk hks (st_wk hS hf) S5 hD hw1 ⟨hne, ?_, hw.2.1, fun x hx hxm hxr => ?_⟩ hum hi hmk er hr hrm (by rw [tCut_po hw.1]; exact hc) (fun G k1 k4 => kk G k1 (wk_tr hf k4))
        · show mU (tUp t) e.2.1 none (tRt t) = none
          rw [mU_n _ _ (Ne.symm hne)]; exact hw.2.2.1
        · show mU (tUp t) e.2.1 none x ≠ none
          rw [mU_n _ _ hxm]; exact hw.2.2.2 x hx hxr
    · have k3 : e.1 = 3 := e3i.mp k3
      refine ⟨M.1, ?_⟩
      show w_Md_firstIn Q (nI 41) (nI e.2.1) (wI h F) _
      rw [e_Md_firstIn M (by decide) hm3, seg_heads (H.1 _ hi).2.2]
      have n175 : ¬ fitC t e → w_Md_does_175 R Q (nI e.2.1) 0 (wI h F) := fun hf => ⟨fun _ => ⟨fun _ => no hf, fun g => absurd rfl g⟩, fun g => absurd rfl g⟩
      cases ek : tKi t e.2.1 with
      | cons x K =>
        have hx := hw.1.1 x (fKi_in hw.1 (by rw [ek]; exact List.mem_cons_self)).1
        exact ⟨fun _ => n175 (fun hf => by have := (hf.2.2.2 k3).2.1; rw [ek] at this; simp at this), fun g => absurd g (nI_ne_m (by omega))⟩
      | nil =>
        refine ⟨fun g => absurd rfl g, fun _ => ⟨M.1, q + 2, r3, r1, by rw [wI_L, r2]; exact vp_in_nI (n := 41) (by decide) (by decide), ?_⟩⟩
        have er2 : hI (wI h F) (q + 2) (41 : Int32).toNatClampNeg = nI (tRt t) := H.2.2.2
        have hr3 := hw.1.1 _ hw.2.1
        rw [er2]
        refine ⟨fun g => n175 (fun hf => (hf.2.2.2 k3).2.2 (nI_inj (by omega) (by omega) g)), fun g => ?_⟩
        have hne : e.2.1 ≠ tRt t := fun q => g (by rw [q])
        rw [mPl_rem k3 ⟨hi, ek, hne⟩] at kk
        obtain ⟨p, hp⟩ := Option.ne_none_iff_exists'.mp (hw.2.2.2 _ hi hne)
        obtain ⟨A, B, eAB⟩ := List.append_of_mem ((hw.1.2.1 e.2.1 p).mpr ⟨hi, hp⟩)
        obtain ⟨hD, hf⟩ := mt_off H hw eAB hne
        refine ⟨fun g => absurd g (by decide), fun _ => ⟨M.1, ?_⟩⟩
        show w_Md_unhang Q (nI 41) (nI e.2.1) (wI h F) _
        refine p_Md_unhang M (by decide) H.1 hw.1 eAB ⟨M.1, q + 3, u3, u1, by rw [ix_41, wI_L, u2]; exact vm, fun h35 e35 => ?_⟩
        rw [ix_41, cm, sI_wI, wI_wI, wI_I] at e35
        subst e35
        exact ⟨fun g => absurd g (by decide), fun _ => kk _ (mt_one hw hi ek hne hD) hf⟩
    · have k0 : e.1 = 0 := e0i.mp k0
      rw [mPl_set k0 hi] at kk
      refine ⟨M.1, ?_⟩
      show w_Md_valueIn Q (nI 41) (nI e.2.1) (wI h F) _
      rw [e_Md_valueIn M (by decide) hm3, (H.1 _ hi).1]
      have k122 : ∀ t0 : Int32, t0 = nI (if tWo t e.2.1 = e.2.2.1 then 0 else 1) → w_Md_does_122 R Q (nI ks) (nI e.2.1) t0 (wI h F) := fun t0 et => by
        refine ⟨M.1, q + 11, g3, g1, by rw [wI_L, g2]; exact va, q + 4, v3, v1, by rw [ix_41, wI_L, v2]; exact vm, fun h10 e10 => ?_⟩
        rw [ix_41, cm, cs, sI_wI, wI_wI, wI_I, s11] at e10
        subst e10
        rw [et]
        exact kk _ (MtP_set H e.2.1 _) (wk_tpu F (by omega) hm3 _)
      refine ⟨M.1, q + 10, f3, f1, by rw [wI_L, f2]; exact va, ?_⟩
      rw [wI_I, s10]
      exact ⟨fun g => k122 1 (by rw [if_neg g]; rfl), fun g => k122 0 (by rw [if_pos g]; rfl)⟩
  · have hi : tIn t e.2.1 = false := hno _ rfl
    refine ⟨fun n1 => ⟨fun g => absurd rfl g, fun _ => no (fun hf => ?_)⟩, fun k1 => ⟨fun g => absurd rfl g, fun _ => ⟨M.1, ?_⟩⟩⟩
    · have q1 : e.1 ≠ 1 := fun g => n1 (e1i.mpr g)
      obtain ⟨x0, _, x2, x3⟩ := hf
      have : e.1 = 0 ∨ e.1 = 2 ∨ e.1 = 3 := by omega
      rcases this with g | g | g
      · have := x0 g; rw [hi] at this; simp at this
      · have := (x2 g).1; rw [hi] at this; simp at this
      · have := (x3 g).1; rw [hi] at this; simp at this
    · have k1 : e.1 = 1 := e1i.mp k1
      show w_Md_has Q (nI 41) (nO e.2.2.2.2.2.1) (wI h F) _
      refine p_hasO M (by decide) hk hM.1 H hw hmk (fun x hx => S5.1 x hx) (fun r er hr => ⟨fun _ => ⟨M.1, q + 11, g3, g1, by rw [wI_L, g2]; exact va, q + 4, v3, v1, by rw [ix_41, wI_L, v2]; exact vm, fun h72 e72 => ?_⟩, fun g => absurd g (by decide)⟩) (fun hno => ⟨fun g => absurd rfl g, fun _ => no (fun hf => by
        obtain ⟨_, r, er, hr⟩ := hf.2.1 k1
        rw [hno r er] at hr; simp at hr)⟩)
      rw [ix_41, cm, sI_wI, wI_wI, wI_I, s11] at e72
      subst e72
      rw [mPl_put k1 er hi hr] at kk
      have hrm : r ≠ e.2.1 := fun g => by rw [g, hi] at hr; simp at hr
      have hRm : tRt t ≠ e.2.1 := fun g => by have := hw.2.1; rw [g, hi] at this; simp at this
      obtain ⟨hD, hf⟩ := mt_new H hw hi hm3 e.2.2.2.1
      refine ⟨q + 5, w3, w1, by rw [ix_41, wI_L, w2]; exact vm, fun h78 e78 => ?_⟩
      rw [ix_41, cm, sI_wI, wI_wI, wI_I] at e78
      subst e78
      have hw1 := fSpr (w := e.2.2.2.1) hw.1 hi hm3
      have hik : tIn (tSpr t e.2.1 e.2.2.2.1) e.2.1 = true := mU_s _ _ _
      have hir : tIn (tSpr t e.2.1 e.2.2.2.1) r = true := (mU_n _ _ hrm).trans hr
      have hum : tUp (tSpr t e.2.1 e.2.2.2.1) e.2.1 = none := mU_s _ _ _
      have inn : ∀ x, tIn (tSpr t e.2.1 e.2.2.2.1) x = true → x = e.2.1 ∨ tIn t x = true := fun x hx => by
        have hx : mU (tIn t) e.2.1 true x = true := hx
        by_cases c : x = e.2.1
        · exact Or.inl c
        · rw [mU_n _ _ c] at hx; exact Or.inr hx
      have key := p_settle (R := fun v81 h80 => R v81 h80) M hQ (ma_wk hQ hM hf) hk hks (st_wk hS hf) S5 hD hw1 ⟨Ne.symm hRm, (mU_n _ _ hRm).trans hw.2.2.1, (mU_n _ _ hRm).trans hw.2.1, fun x hx hxm hxr => ?_⟩ hum hik (fun x hx => ?_) er hir hrm (spr_po hw.1 hi hm3 hrm) (fun G k1' k4 => ?_)
      · exact key
      · show mU (tUp t) e.2.1 none x ≠ none
        rw [mU_n _ _ hxm]
        rcases inn x hx with g | g
        · exact absurd g hxm
        · exact hw.2.2.2 x g hxr
      · rcases inn x hx with g | g
        · rw [g]; exact S2
        · exact hmk x g
      · rw [spr_kids hrm] at k1' ⊢
        exact kk G k1' (wk_tr hf k4)
end MDOES
