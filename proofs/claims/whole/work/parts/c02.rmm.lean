section RMM
variable {h : tpH} {Q q mk s1 s2 s3 R0 : Nat} {kd idn po : Nat → Int32} {b l r : mT}
def mmF (Q q m : Nat) (F G : Nat → Nat → Int32) : Prop := ∀ c j, ¬ ((c = Q ∧ j = 24) ∨ c = q + 19 ∨ ((c = q + 37 ∨ c = q + 38 ∨ c = q + 39) ∧ j = m)) → G c j = F c j
theorem mm_r {m : Nat} {F G : Nat → Nat → Int32} (f : mmF Q q m F G) : rFr Q q F G := fun c j hc => f c j (fun g => hc (by unfold rfT; omega))
theorem mm_tr {m : Nat} {F G K : Nat → Nat → Int32} (a : mmF Q q m F G) (c : mmF Q q m G K) : mmF Q q m F K := fun x j e => (c x j e).trans (a x j e)
theorem mm_l {m : Nat} {F G : Nat → Nat → Int32} (f : lcFr Q q F G) : mmF Q q m F G := fun c j hc => f c j (fun g => hc (by omega))
theorem mm_t {m c : Nat} (F : Nat → Nat → Int32) (v : Int32) (hc : c = q + 37 ∨ c = q + 38 ∨ c = q + 39) : mmF Q q m F (tpu F c m v) := fun x j e => tpu_o (fun g => e (by omega))
theorem CfM_t {F : Nat → Nat → Int32} {cf : List (Nat × Nat)} (hQ : Q < q) (C : CfM F Q q cf) {c j : Nat} {v : Int32} (hc : q + 24 ≤ c) : CfM (tpu F c j v) Q q cf := CfM_fr C (tpu_o (by omega)) (funext fun i => tpu_o (by omega))
/-- a mark of one side only -/
theorem p_mm148 (M : lMd h Q q) {F : Nat → Nat → Int32} {s m : Nat} {t : mT} (hs : s < 42) (T : MtP F q s t) (hw : tWF 300 t) (hi : tIn t m = true) {R : tpH → Prop} (kk : R (wI h (tpu (tpu F (q + 38) m (tWo t m)) (q + 39) m (nO (tUp t m))))) : w_Md_mergeMark_148 R Q (nI m) (nI s) (wI h F) := by
  obtain ⟨a1, a2, a3⟩ := md_f M (j := 38) (kd := 15) (n := 300) (f := 48) (by decide)
  obtain ⟨b1, b2, b3⟩ := md_f M (j := 39) (kd := 15) (n := 300) (f := 49) (by decide)
  have m3 := hw.1.1 m hi
  have vm : vp_in (nI m) 300 := vp_in_nI m3 (by decide)
  refine ⟨M.1, ?_⟩
  rw [e_Md_valueIn M hs m3, (T.1 m hi).1]
  refine ⟨q + 38, a3, a1, by rw [wI_L, a2]; exact vm, fun h8 e8 => ?_⟩
  rw [nI_clamp (by omega), sI_wI, wI_wI, wI_I] at e8
  subst e8
  refine ⟨M.1, ?_⟩
  rw [e_Md_parentIn M hs m3, tpu_o (by omega), mt_up T hw hi]
  refine ⟨q + 39, b3, b1, by rw [wI_L, b2]; exact vm, fun h17 e17 => ?_⟩
  rw [nI_clamp (by omega), sI_wI, wI_wI, wI_I] at e17
  subst e17
  exact kk
theorem pk3_b {α : Type} {n : Nat} {x y z z' : α} (h : 2 ≤ n → z = z') : pk3 n x y z = pk3 n x y z' := by
  match n with
  | 0 => rfl
  | 1 => rfl
  | n + 2 => exact h (by omega)
theorem pk3_f {α β : Type} (f : α → β) (n : Nat) (x y z : α) : pk3 n (f x) (f y) (f z) = f (pk3 n x y z) := by
  match n with
  | 0 => rfl
  | 1 => rfl
  | n + 2 => rfl
theorem p_mMark (X : RC h Q q mk s1 s2 s3 R0 b l r) {F : Nat → Nat → Int32} (H : RFm F Q q mk s1 s2 s3 kd idn po b l r) {cf : List (Nat × Nat)} (C : CfM F Q q cf) (hc : cf.length + 2 ≤ 92000) (hpo : po 0 = 0 ∨ po 0 = 1 ∨ po 0 = 2) {m : Nat} (hm : m < mk) {R : tpH → Prop} (kk : ∀ G, CfM G Q q (cf ++ (mgD po b l r m).2) → mmF Q q m F G → G (q + 37) m = (if (mgD po b l r m).1.isSome = true then 1 else 0) → (∀ v u, (mgD po b l r m).1 = some (v, u) → G (q + 38) m = v ∧ G (q + 39) m = nO u) → R (wI h G)) : w_Md_mergeMark Q (nI s1) (nI s2) (nI s3) (nI m) (wI h F) R := by
  obtain ⟨⟨M, hQ⟩, ⟨i1, i2, i3⟩, ⟨w1, w2, w3⟩, _, hk, b1, b2, b3⟩ := id X
  obtain ⟨c1, c2, c3⟩ := md_f M (j := 37) (kd := 16) (n := 300) (f := 47) (by decide)
  obtain ⟨d1, d2, d3⟩ := md_f M (j := 38) (kd := 15) (n := 300) (f := 48) (by decide)
  obtain ⟨e1, e2, e3⟩ := md_f M (j := 39) (kd := 15) (n := 300) (f := 49) (by decide)
  have vm : vp_in (nI m) 300 := vp_in_nI (by omega) (by decide)
  refine ⟨M.1, p_Mcomes X H C (by omega) hpo hm (fun G CG f => ?_)⟩
  generalize ev : (if (mgD po b l r m).1.isSome = true then (1 : Int32) else 0) = v at kk ⊢
  have tb : tpB v := by
    rw [← ev]
    by_cases z : (mgD po b l r m).1.isSome = true
    · rw [if_pos z]; exact Or.inr rfl
    · rw [if_neg z]; exact Or.inl rfl
  refine ⟨q + 37, c3, c1, by rw [wI_L, c2]; exact vm, tb, fun h9 e9 => ?_⟩
  rw [nI_clamp (by omega), sI_wI, wI_wI, wI_I] at e9
  subst e9
  refine ⟨M.1, q + 37, c3, c1, by rw [wI_L, c2]; exact vm, ?_⟩
  have er : hI (wI h (tpu G (q + 37) m v)) (q + 37) (nI m).toNatClampNeg = v := by rw [nI_clamp (by omega)]; exact tpu_s _ _ _ _
  rw [er]
  have fm : mmF Q q m F (tpu G (q + 37) m v) := mm_tr (mm_l f) (mm_t _ _ (Or.inl rfl))
  have s37 : tpu G (q + 37) m v (q + 37) m = v := tpu_s _ _ _ _
  have C1 := CfM_t (v := v) (j := m) (c := q + 37) hQ CG (by omega)
  generalize tpu G (q + 37) m v = K at fm s37 C1
  have HK := RFm_fr X H (mm_r fm)
  obtain ⟨K1, K2, K3, K4, K5⟩ := id HK
  refine ⟨fun nv => ?_, fun ez => ?_⟩
  · have so : (mgD po b l r m).1.isSome = true := by
      by_cases z : (mgD po b l r m).1.isSome = true
      · exact z
      · rw [if_neg z] at ev; exact absurd ev.symm nv
    refine rc_has M (by omega) hk K1 K3 w1 b1 hm ⟨M.1, rc_has M (by omega) hk K1 K4 w2 b2 hm ?_⟩
    have one : ∀ (s : Nat) (t : mT), s < 42 → MtP K q s t → tWF 300 t → tIn t m = true → (tIn l m && tIn r m) = false → (∀ v u, (mgD po b l r m).1 = some (v, u) → v = tWo t m ∧ u = tUp t m) → w_Md_mergeMark_148 R Q (nI m) (nI s) (wI h K) := fun s t hs T hw hi hlr g => by
      refine p_mm148 M hs T hw hi (kk _ ?_ (mm_tr fm (mm_tr (mm_t _ _ (Or.inr (Or.inl rfl))) (mm_t _ _ (Or.inr (Or.inr rfl))))) (by rw [tpu_o (by omega), tpu_o (by omega)]; exact s37) (fun v u e => ?_))
      · rw [hlr, if_neg Bool.false_ne_true] at C1
        exact CfM_t hQ (CfM_t hQ C1 (by omega)) (by omega)
      · obtain ⟨g1, g2⟩ := g v u e
        rw [tpu_s, tpu_o (by omega), tpu_s, g1, g2]
        exact ⟨rfl, rfl⟩
    have c133 : (tIn l m && tIn r m) = false → w_Md_mergeMark_133 R Q (nI s2) (nI s3) (nI m) (wI h K) := fun hlr => by
      refine ⟨M.1, rc_has M (by omega) hk K1 K4 w2 b2 hm ?_⟩
      cases el : tIn l m with
      | true =>
        rw [if_pos rfl]
        have er' : tIn r m = false := by rw [el, Bool.true_and] at hlr; exact hlr
        refine ⟨fun g => absurd g (by decide), fun _ => one s2 l (by omega) K4 w2 el hlr (fun v u e => ?_)⟩
        unfold mgD at e
        rw [el, er', if_pos rfl, if_neg Bool.false_ne_true] at e
        unfold mg1 at e
        by_cases z1 : tIn b m = true
        · rw [if_pos z1] at e
          by_cases z2 : mgTch b l m = true
          · rw [if_pos z2] at e
            by_cases z3 : po 0 = 0 ∨ po 0 = 1
            · rw [if_pos z3] at e
              have := Option.some.inj e
              exact ⟨(congrArg Prod.fst this).symm, (congrArg Prod.snd this).symm⟩
            · rw [if_neg z3] at e; cases e
          · rw [if_neg z2] at e; cases e
        · rw [if_neg z1] at e
          have := Option.some.inj e
          exact ⟨(congrArg Prod.fst this).symm, (congrArg Prod.snd this).symm⟩
      | false =>
        rw [if_neg Bool.false_ne_true]
        cases er' : tIn r m with
        | true =>
          refine ⟨fun _ => one s3 r (by omega) K5 w3 er' hlr (fun v u e => ?_), fun g => absurd rfl g⟩
          unfold mgD at e
          rw [el, er', if_neg Bool.false_ne_true, if_pos rfl] at e
          unfold mg1 at e
          by_cases z1 : tIn b m = true
          · rw [if_pos z1] at e
            by_cases z2 : mgTch b r m = true
            · rw [if_pos z2] at e
              by_cases z3 : po 0 = 0 ∨ po 0 = 2
              · rw [if_pos z3] at e
                have := Option.some.inj e
                exact ⟨(congrArg Prod.fst this).symm, (congrArg Prod.snd this).symm⟩
              · rw [if_neg z3] at e; cases e
            · rw [if_neg z2] at e; cases e
          · rw [if_neg z1] at e
            have := Option.some.inj e
            exact ⟨(congrArg Prod.fst this).symm, (congrArg Prod.snd this).symm⟩
        | false =>
          unfold mgD at so
          rw [el, er'] at so
          cases so
    cases el : tIn l m with
    | false =>
      rw [if_neg Bool.false_ne_true]
      exact ⟨fun _ => c133 (by rw [el]; rfl), fun g => absurd rfl g⟩
    | true =>
      rw [if_pos rfl]
      refine ⟨fun g => absurd (show (1 : Int32) = 0 from g) (by decide), fun _ => ⟨M.1, rc_has M (by omega) hk K1 K5 w3 b3 hm ?_⟩⟩
      cases er' : tIn r m with
      | false =>
        rw [if_neg Bool.false_ne_true]
        exact ⟨fun _ => c133 (by rw [er', Bool.and_false]), fun g => absurd rfl g⟩
      | true =>
        rw [if_pos rfl]
        refine ⟨fun g => absurd (show (1 : Int32) = 0 from g) (by decide), fun _ => ⟨M.1, ?_⟩⟩
        have m3 := w2.1.1 m el
        have em : mgD po b l r m = mg2 po b l r m := by
          unfold mgD
          rw [el, er', if_pos rfl, if_pos rfl]
        rw [el, er', Bool.and_self, if_pos rfl, List.append_nil] at C1
        rw [em] at kk
        rw [e_Md_valueIn M (by omega) m3]
        refine ⟨M.1, ?_⟩
        rw [e_Md_valueIn M (by omega) m3, (K4.1 m el).1]
        refine ⟨M.1, ?_⟩
        rw [e_Md_valueIn M (by omega) m3, (K5.1 m er').1]
        have vb : tIn b m = true → K (q + 4) (300 * s1 + m) = tWo b m := fun e => (K3.1 m e).1
        generalize K (q + 4) (300 * s1 + m) = xb at vb
        refine ⟨M.1, ?_⟩
        show w_Md_decided Q (nI 1) (nI m) _ xb (tWo l m) (tWo r m) (wI h K) _
        refine p_Mdec X HK C1 (by omega) (k := 1) (by decide) (hb := tIn b m) (q1 := decide (tWo l m = tWo r m)) (q2 := decide (tWo r m = tWo b m)) (q3 := decide (tWo l m = tWo b m)) rfl decide_eq_true_iff.symm (fun e => by rw [vb e]; exact decide_eq_true_iff.symm) (fun e => by rw [vb e]; exact decide_eq_true_iff.symm) (fun G2 CG2 f2 => ?_)
        refine ⟨q + 38, d3, d1, by rw [wI_L, d2]; exact vm, fun h43 e43 => ?_⟩
        rw [nI_clamp (by omega), sI_wI, wI_wI, wI_I] at e43
        subst e43
        have xv : pk3 (chS (po 1) (tIn b m) (decide (tWo l m = tWo r m)) (decide (tWo r m = tWo b m)) (decide (tWo l m = tWo b m))).1 (tWo l m) (tWo r m) xb = pk3 (mgV po b l r m).1 (tWo l m) (tWo r m) (tWo b m) := pk3_b (fun z => vb (chS_b z))
        rw [xv]
        have ff : mmF Q q m K (tpu G2 (q + 38) m (pk3 (mgV po b l r m).1 (tWo l m) (tWo r m) (tWo b m))) := mm_tr (mm_l f2) (mm_t _ _ (Or.inr (Or.inl rfl)))
        have C3 := CfM_t (v := pk3 (mgV po b l r m).1 (tWo l m) (tWo r m) (tWo b m)) (j := m) (c := q + 38) hQ CG2 (by omega)
        have s38 : tpu G2 (q + 38) m (pk3 (mgV po b l r m).1 (tWo l m) (tWo r m) (tWo b m)) (q + 38) m = pk3 (mgV po b l r m).1 (tWo l m) (tWo r m) (tWo b m) := tpu_s _ _ _ _
        have s37' : tpu G2 (q + 38) m (pk3 (mgV po b l r m).1 (tWo l m) (tWo r m) (tWo b m)) (q + 37) m = v := by rw [tpu_o (by omega), f2 _ _ (by omega)]; exact s37
        generalize tpu G2 (q + 38) m (pk3 (mgV po b l r m).1 (tWo l m) (tWo r m) (tWo b m)) = L at ff C3 s38 s37'
        have HL := RFm_fr X HK (mm_r ff)
        obtain ⟨L1, L2, L3, L4, L5⟩ := id HL
        refine ⟨M.1, ?_⟩
        rw [e_Md_parentIn M (by omega) m3]
        refine ⟨M.1, ?_⟩
        rw [e_Md_parentIn M (by omega) m3, mt_up L4 w2 el]
        refine ⟨M.1, ?_⟩
        rw [e_Md_parentIn M (by omega) m3, mt_up L5 w3 er']
        have ub : tIn b m = true → L (q + 3) (300 * s1 + m) = nO (tUp b m) := fun e => mt_up L3 w1 e
        generalize L (q + 3) (300 * s1 + m) = yb at ub
        refine ⟨M.1, ?_⟩
        show w_Md_decided Q (nI 2) (nI m) _ yb (nO (tUp l m)) (nO (tUp r m)) (wI h L) _
        have lV : ((if (chS (po 1) (tIn b m) (decide (tWo l m = tWo r m)) (decide (tWo r m = tWo b m)) (decide (tWo l m = tWo b m))).2 = true then [(1, m)] else []) : List (Nat × Nat)).length ≤ 1 := by
          by_cases z : (chS (po 1) (tIn b m) (decide (tWo l m = tWo r m)) (decide (tWo r m = tWo b m)) (decide (tWo l m = tWo b m))).2 = true
          · rw [if_pos z]; exact Nat.le_refl _
          · rw [if_neg z]; exact Nat.zero_le _
        refine p_Mdec X HL C3 (by rw [List.length_append]; omega) (k := 2) (by decide) (hb := tIn b m) (q1 := decide (tUp l m = tUp r m)) (q2 := decide (tUp r m = tUp b m)) (q3 := decide (tUp l m = tUp b m)) rfl ((up_e w2 w3 el er').trans decide_eq_true_iff.symm) (fun e => by rw [ub e]; exact (up_e w3 w1 er' e).trans decide_eq_true_iff.symm) (fun e => by rw [ub e]; exact (up_e w2 w1 el e).trans decide_eq_true_iff.symm) (fun G4 CG4 f4 => ?_)
        refine ⟨q + 39, e3, e1, by rw [wI_L, e2]; exact vm, fun h61 e61 => ?_⟩
        rw [nI_clamp (by omega), sI_wI, wI_wI, wI_I] at e61
        subst e61
        have xu : pk3 (chS (po 2) (tIn b m) (decide (tUp l m = tUp r m)) (decide (tUp r m = tUp b m)) (decide (tUp l m = tUp b m))).1 (nO (tUp l m)) (nO (tUp r m)) yb = nO (pk3 (mgU po b l r m).1 (tUp l m) (tUp r m) (tUp b m)) := by
          rw [← pk3_f nO]
          exact pk3_b (fun z => ub (chS_b z))
        rw [xu]
        refine kk _ ?_ (mm_tr fm (mm_tr ff (mm_tr (mm_l f4) (mm_t _ _ (Or.inr (Or.inr rfl)))))) ?_ (fun v u e => ?_)
        · rw [List.append_assoc] at CG4
          exact CfM_t hQ CG4 (by omega)
        · rw [tpu_o (by omega), f4 _ _ (by omega)]
          exact s37'
        · have := Option.some.inj e
          rw [tpu_s, tpu_o (by omega), f4 _ _ (by omega), s38]
          exact ⟨congrArg Prod.fst this, congrArg nO (congrArg Prod.snd this)⟩
  · have so : (mgD po b l r m).1.isSome = false := by
      cases z : (mgD po b l r m).1.isSome with
      | false => rfl
      | true => rw [z, if_pos rfl] at ev; rw [← ev] at ez; exact absurd ez (by decide)
    refine kk K ?_ fm s37 (fun v u e => by rw [e] at so; cases so)
    by_cases z : (tIn l m && tIn r m) = true
    · exfalso
      rw [Bool.and_eq_true] at z
      unfold mgD at so
      rw [z.1, z.2] at so
      cases so
    · rw [if_neg z] at C1
      exact C1
def rsR (F : Nat → Nat → Int32) (q i : Nat) (s : mgS) : Prop := ∀ m, m < i → F (q + 37) m = (if sIn s m = true then 1 else 0) ∧ (sIn s m = true → F (q + 38) m = sWo s m ∧ F (q + 39) m = nO (sUp s m))
theorem p_mrg8 (X : RC h Q q mk s1 s2 s3 R0 b l r) (hpo : po 0 = 0 ∨ po 0 = 1 ∨ po 0 = 2) {F0 : Nat → Nat → Int32} (H : RFm F0 Q q mk s1 s2 s3 kd idn po b l r) {R : Int32 → tpH → Prop} (fin : ∀ G, RFm G Q q mk s1 s2 s3 kd idn po b l r → CfM G Q q (sCf (mg0 po b l r mk)) → rFr Q q F0 G → rsR G q mk (mg0 po b l r mk) → w_Md_merged_8 R 1 Q (nI s1) (nI s2) (nI s3) (nI mk) (wI h G)) :
    ∀ (n i : Nat) (F : Nat → Nat → Int32), i ≤ mk → mk < n + i → RFm F Q q mk s1 s2 s3 kd idn po b l r → CfM F Q q (cfI po b l r i) → rFr Q q F0 F → rsR F q i (mg0 po b l r mk) → w_Md_merged_8 R n Q (nI s1) (nI s2) (nI s3) (nI i) (wI h F)
  | 0, i, F, h1, h2, HF, C, f, W => by omega
  | n + 1, i, F, h1, h2, HF, C, f, W => by
    obtain ⟨⟨M, hQ⟩, ⟨i1, i2, i3⟩, ⟨w1, w2, w3⟩, _, hk, b1, b2, b3⟩ := id X
    have e0 : hI (wI h F) Q 0 = nI mk := HF.1.1
    by_cases hi : i < mk
    · refine ⟨M.1, ?_⟩
      rw [e0]
      have lc := cfI_l po b l r i
      refine ⟨fun g => absurd ((nI_le_iff (by omega) (by omega)).mp g) (by omega), fun _ => p_mMark X HF C (by omega) hpo hi (fun G CG fm g1 g2 => ?_)⟩
      rw [nI_1]
      refine p_mrg8 X hpo H fin n (i + 1) G (by omega) (by omega) (RFm_fr X HF (mm_r fm)) (by rw [cfI_s]; exact CG) (rFr_tr f (mm_r fm)) (fun m hm => ?_)
      by_cases c : m = i
      · subst c
        refine ⟨g1, fun g => ?_⟩
        obtain ⟨v, u, q1, q2, q3⟩ := sIn_mg0 g
        rw [q2, q3]
        exact g2 v u q1
      · rw [fm _ _ (by omega), fm _ _ (by omega), fm _ _ (by omega)]
        exact W m (by omega)
    · have ei : i = mk := by omega
      subst ei
      refine ⟨M.1, ?_⟩
      obtain ⟨_, q1, q2⟩ := fin F HF C f W
      exact ⟨q1, fun g => absurd (by rw [e0]; exact Int32.le_refl _) g⟩
end RMM
