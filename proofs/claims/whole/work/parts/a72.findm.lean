section FINDM
theorem p_rkM {h : tpH} {Q q mk s s' : Nat} {t u : mT} {kd idn : Nat → Int32} (M : lMd h Q q) {F : Nat → Nat → Int32} (hM : MaM F Q q mk kd idn) (hk : mk ≤ 300) (hs : s < 42) (hs' : s' < 42) (r1 : F (q + 2) s = nI (tRt t)) (r2 : F (q + 2) s' = nI (tRt u)) (mt : tRt t < mk) (mu : tRt u < mk) {R : Int32 → tpH → Prop} (k1 : rkB kd idn t u = true → R 1 (wI h F)) (k0 : rkB kd idn t u = false → R 0 (wI h F)) : w_Md_areRootsLike Q (nI s) (nI s') (wI h F) R := by
  obtain ⟨b1, b2, b3⟩ := md_f M (j := 2) (kd := 15) (n := 42) (f := 5) (by decide)
  obtain ⟨c1, c2, c3⟩ := md_f M (j := 0) (kd := 15) (n := 300) (f := 1) (by decide)
  obtain ⟨i1, i2, i3⟩ := md_f M (j := 1) (kd := 15) (n := 300) (f := 2) (by decide)
  have vt : vp_in (nI (tRt t)) 300 := vp_in_nI (by omega) (by decide)
  have vu : vp_in (nI (tRt u)) 300 := vp_in_nI (by omega) (by decide)
  have e1 : hI (wI h F) (q + 2) (nI s).toNatClampNeg = nI (tRt t) := by rw [nI_clamp (by omega)]; exact r1
  have e2 : hI (wI h F) (q + 2) (nI s').toNatClampNeg = nI (tRt u) := by rw [nI_clamp (by omega)]; exact r2
  have et : ∀ b : Nat, hI (wI h F) b (nI (tRt t)).toNatClampNeg = F b (tRt t) := fun b => by rw [nI_clamp (by omega)]; rfl
  have eu : ∀ b : Nat, hI (wI h F) b (nI (tRt u)).toNatClampNeg = F b (tRt u) := fun b => by rw [nI_clamp (by omega)]; rfl
  have kt : F (q + 0) (tRt t) = kd (tRt t) := (hM.2 _ mt).1
  have ku : F (q + 0) (tRt u) = kd (tRt u) := (hM.2 _ mu).1
  have it : F (q + 1) (tRt t) = idn (tRt t) := (hM.2 _ mt).2
  have iu : F (q + 1) (tRt u) = idn (tRt u) := (hM.2 _ mu).2
  have eb : rkB kd idn t u = true ↔ (kd (tRt t) = kd (tRt u) ∧ idn (tRt t) = idn (tRt u)) := by
    unfold rkB
    rw [Bool.and_eq_true, decide_eq_true_iff, decide_eq_true_iff]
  refine ⟨M.1, q + 2, b3, b1, by rw [wI_L, b2]; exact vp_in_nI hs (by decide), by rw [wI_L, b2]; exact vp_in_nI hs' (by decide), ?_⟩
  rw [e1, e2]
  refine ⟨q + 0, c3, c1, by rw [wI_L, c2]; exact vt, by rw [wI_L, c2]; exact vu, ?_⟩
  rw [et, eu, kt, ku]
  refine ⟨fun g => ⟨Or.inl rfl, k0 (Bool.eq_false_iff.mpr (fun q => g (eb.mp q).1))⟩, fun g1 => ⟨q + 1, i3, i1, by rw [wI_L, i2]; exact vt, by rw [wI_L, i2]; exact vu, ?_⟩⟩
  rw [et, eu, it, iu]
  exact ⟨fun g => ⟨Or.inl rfl, k0 (Bool.eq_false_iff.mpr (fun q => g (eb.mp q).2))⟩, fun g2 => ⟨Or.inr rfl, k1 (eb.mpr ⟨g1, g2⟩)⟩⟩
def fnR2 (Q q n : Nat) (F G : Nat → Nat → Int32) : Prop := ∀ b j, ¬ ((b = Q ∧ (j = 10 ∨ j = 31 ∨ j = 34 ∨ j = 35)) ∨ (b = q + 2 ∧ j = 41) ∨ (q + 3 ≤ b ∧ b ≤ q + 6 ∧ 12300 ≤ j ∧ j < 12600) ∨ (b = q + 7 ∧ j = n) ∨ (q + 8 ≤ b ∧ b ≤ q + 17 ∧ 100 * n ≤ j) ∨ (q + 24 ≤ b ∧ b < q + 46)) → G b j = F b j
theorem ScM_fn {F G : Nat → Nat → Int32} {Q q : Nat} (hQ : Q < q) {sc : List (List mSt)} (hS : ScM F Q q sc) (h100 : ∀ s ∈ sc, s.length ≤ 100) (f : fnR2 Q q sc.length F G) (h10 : G Q 10 = F Q 10) : ScM G Q q sc := by
  refine ⟨h10.trans hS.1, fun i s hi => ?_⟩
  have hl := (List.getElem?_eq_some_iff.mp hi).1
  obtain ⟨g1, g2⟩ := hS.2 i s hi
  refine ⟨by rw [f _ _ (by omega)]; exact g1, fun j e hj => StM_fr (g2 j e hj) (fun b b1 b2 => ?_)⟩
  have := h100 s (List.mem_of_getElem? hi)
  have := (List.getElem?_eq_some_iff.mp hj).1
  exact f _ _ (by omega)
theorem p_Md_find {h : tpH} {Q q mk : Nat} {kd idn : Nat → Int32} {rt : Nat → Bool} (M : lMd h Q q) (hQ : Q < q) {F : Nat → Nat → Int32} (hM : MaM F Q q mk kd idn) (hk : mk ≤ 300) {fr : List mT} (hF : FoM F Q q fr) (htr : ∀ t ∈ fr, trI mk kd rt t) {sc : List (List mSt)} (hS : ScM F Q q sc) (h40 : sc.length ≤ 40) (h100 : ∀ s ∈ sc, s.length ≤ 100) {A B : Int32} {R : Int32 → tpH → Prop} (x1 : fdK kd idn fr sc.length A B = 1 → ∀ G, G Q 31 = 1 → oFr Q q F G → R 0 (wI h G)) (x2 : fdK kd idn fr sc.length A B = 2 → ∀ G, G Q 31 = 2 → oFr Q q F G → R 0 (wI h G)) (x3 : fdK kd idn fr sc.length A B = 3 → ∀ G, G Q 31 = 2 → ScM G Q q sc → fnR2 Q q sc.length F G → R 0 (wI h G)) (kk : fdK kd idn fr sc.length A B = 0 → ∀ G, G Q 31 = 0 → ScM G Q q (sc ++ [fdV kd idn fr A B]) → fnR2 Q q sc.length F G → R (nI sc.length) (wI h G)) : w_Md_find Q A B (wI h F) R := by
  have f40 := hF.2.1
  have stop : ∀ c : Int32, ¬ c ≤ 0 → R 0 (wI h (tpu F Q 31 c)) → w_Md_find_44 R Q A B c (some Q) (wI h F) := fun c hc hr => by
    refine ⟨Q, rfl, M.1, fun h4 e4 => ?_⟩
    rw [sI_wI, wI_wI, wI_I] at e4
    subst e4
    exact ⟨M.1, fun e => absurd (show tpu F Q 31 c Q 31 ≤ 0 from e) (by rw [tpu_s]; exact hc), fun _ => hr⟩
  refine ⟨M.1, ?_⟩
  rw [e_Md_isTree M hF.2.1 hF.1]
  cases e : lstAt fr A with
  | none =>
    rw [if_neg (lst_none e)]
    exact ⟨fun _ => stop 1 (by decide) (x1 (fdK_2 e) _ (tpu_s _ _ _ _) (oFr_t F 1)), fun g => absurd rfl g⟩
  | some t =>
    obtain ⟨c1, c2, c3⟩ := lst_some e
    rw [if_pos c1]
    refine ⟨fun g => absurd g (by decide), fun _ => ⟨M.1, ?_⟩⟩
    rw [e_Md_isTree M hF.2.1 hF.1]
    cases e2 : lstAt fr B with
    | none =>
      rw [if_neg (lst_none e2)]
      exact ⟨fun g => absurd rfl g, fun _ => stop 1 (by decide) (x1 (fdK_3 e2) _ (tpu_s _ _ _ _) (oFr_t F 1))⟩
    | some u =>
      obtain ⟨d1, d2, d3⟩ := lst_some e2
      rw [if_pos d1]
      have it := htr t (List.mem_of_getElem? c2)
      have iu := htr u (List.mem_of_getElem? d2)
      have HH := fi_H (idn := idn) it iu
      have mt := (it.2.1 _ it.1.2.1).1
      have mu := (iu.2.1 _ iu.1.2.1).1
      have Pt := hF.2.2 _ t c2
      have Pu := hF.2.2 _ u d2
      refine ⟨fun _ => ⟨M.1, ?_⟩, fun g => absurd g (by decide)⟩
      have hwf : ∀ (i : Nat) (t : mT), fr[i]? = some t → tWF 300 t := fun i t hi => (htr t (List.mem_of_getElem? hi)).1
      have key := p_rkM (R := fun v11 h10 => (v11 = 0 → (w_Md_find_44 R Q A B (2 : Int32) (some Q) h10)) ∧ (¬ v11 = 0 → (hT h10 Q = 14 ∧ ((¬ (hI h10 Q 10) = (40 : Int32) → (w_Md_find_44 R Q A B (0 : Int32) (some Q) h10)) ∧ ((hI h10 Q 10) = (40 : Int32) → (w_Md_find_44 R Q A B (2 : Int32) (some Q) h10)))))) M hM hk (s := A.toInt.toNat) (s' := B.toInt.toNat) (by omega) (by omega) Pt.2.2.2 Pu.2.2.2 mt mu (fun g => ⟨fun q => absurd q (by decide), fun _ => ⟨M.1, fun n40 => ?_, fun g40 => ?_⟩⟩) (fun g => ⟨fun _ => stop 2 (by decide) (x2 (fdK_4 e e2 g) _ (tpu_s _ _ _ _) (oFr_t F 2)), fun q => absurd rfl q⟩)
      · rw [← c3, ← d3] at key
        exact key
      · have e40 : (40 : Int32) = nI 40 := rfl
        have hlt : sc.length < 40 := Nat.lt_of_le_of_ne h40 (fun q => n40 (by rw [wI_I, hS.1, q]; rfl))
        obtain ⟨g1, g2⟩ : kd (tRt t) = kd (tRt u) ∧ idn (tRt t) = idn (tRt u) := by
          unfold rkB at g
          rw [Bool.and_eq_true, decide_eq_true_iff, decide_eq_true_iff] at g
          exact g
        refine ⟨Q, rfl, M.1, fun h4 e4 => ?_⟩
        rw [sI_wI, wI_wI, wI_I] at e4
        subst e4
        refine ⟨M.1, fun _ => ?_, fun q => absurd (show tpu F Q 31 0 Q 31 ≤ 0 by rw [tpu_s]; exact Int32.le_refl 0) q⟩
        have o31 : oFr Q q F (tpu F Q 31 0) := oFr_t F 0
        have X : RX h Q q mk A.toInt.toNat B.toInt.toNat t u := ⟨⟨M, hQ⟩, ⟨by omega, by omega⟩, hk, ⟨it.1, iu.1⟩, fun m hm => (it.2.1 m hm).1, fun m hm => (iu.2.1 m hm).1⟩
        rw [c3, d3]
        refine p_Mtr X ⟨g1, g2⟩ (MaM_fr hM (tpu_o (by omega)) (fun b hb => tpu_fa _ _ _ _ _ (by omega))) (MtP_t hQ Pt o31) (MtP_t hQ Pu o31) (fun G f1 C1 M1 => ⟨M.1, ?_⟩)
        obtain ⟨K1, ⟨K2, K3⟩, ⟨⟨_, K4⟩, _, K5⟩, _⟩ := C1
        show w_Md_copyTree Q (nI A.toInt.toNat) (nI 41) (wI h G) _
        refine p_Md_copyTree M (by omega) (by omega) (by omega) ⟨M.1, ?_⟩
        have D4 := MtP_cp (s' := 41) it.1 K2
        have fc := fun b j (hb : ¬ ((b = q + 2 ∧ j = 41) ∨ (q + 3 ≤ b ∧ b ≤ q + 6 ∧ 300 * 41 ≤ j ∧ j < 300 * 41 + 300))) => cp_fr G (q := q) (s := A.toInt.toNat) (s' := 41) hb (G (q + 2) A.toInt.toNat)
        generalize tpu (uCp G q A.toInt.toNat 41 300) (q + 2) 41 (G (q + 2) A.toInt.toNat) = G2 at D4 fc
        have ff : ∀ b j, ¬ ((b = Q ∧ (j = 31 ∨ j = 34 ∨ j = 35)) ∨ (b = q + 2 ∧ j = 41) ∨ (q + 3 ≤ b ∧ b ≤ q + 6 ∧ 12300 ≤ j ∧ j < 12600) ∨ (q + 24 ≤ b ∧ b ≤ q + 36)) → G2 b j = F b j := fun b j hb => by
          rw [fc b j (by omega), f1 b j (by omega), tpu_o (by omega)]
        have e10 : hI (wI h G2) Q 10 = nI sc.length := (ff _ _ (by omega)).trans hS.1
        rw [e10]
        have GXX : GX h Q q mk A.toInt.toNat B.toInt.toNat sc.length t u (MTd kd idn t u) := ⟨X, ⟨by omega, by omega, hlt⟩, HH.2.2⟩
        have GFF : GF G2 Q q mk A.toInt.toNat B.toInt.toNat t u kd idn := ⟨MaM_fr K1 (fc _ _ (by omega)) (fun b hb => funext fun j => fc _ _ (by omega)), ⟨MtP_k it.1 K2 (fc _ _ (by omega)) (fun b b1 b2 j j1 j2 => fc _ _ (by omega)), MtP_k iu.1 K3 (fc _ _ (by omega)) (fun b b1 b2 j j1 j2 => fc _ _ (by omega))⟩, fun j z hz => (fc _ _ (by omega)).trans (K4 j z hz), (fc _ _ (by omega)).trans K5⟩
        refine p_makes GXX GFF D4 (fun y hy => (fc _ _ (by omega)).trans (M1.2 y hy)) (fun G3 f3 S3 => ?_)
        have f10 : G3 Q 10 = nI sc.length := (f3 _ _ (by omega)).trans e10
        have fo : ∀ (c v : Int32), fnR2 Q q sc.length F (tpu (tpu G3 Q 31 c) Q 10 v) := fun c v b j hb => by
          rw [tpu_o (by omega), tpu_o (by omega), f3 b j (by omega), ff b j (by omega)]
        cases ef : fdA (loK kd) t u (MTd kd idn t u) with
        | none =>
          refine ⟨fun _ => ⟨Q, rfl, M.1, fun h5 e5 => ?_⟩, fun q => absurd rfl q⟩
          rw [sI_wI, wI_wI, wI_I] at e5
          subst e5
          have e31 : hI (wI h (tpu G3 Q 31 2)) Q 31 = 2 := tpu_s _ _ _ _
          refine ⟨M.1, ?_⟩
          rw [e31, show hI (wI h (tpu G3 Q 31 2)) Q 10 = nI sc.length from (tpu_o (by omega)).trans f10]
          refine ⟨fun _ => ⟨Q, rfl, M.1, fun h6 e6 => ?_⟩, fun q => absurd q (by decide)⟩
          rw [sI_wI, wI_wI, wI_I, Int32.add_zero] at e6
          subst e6
          have f31 : hI (wI h (tpu (tpu G3 Q 31 2) Q 10 (nI sc.length))) Q 31 = 2 := (tpu_o (by omega)).trans (tpu_s _ _ _ _)
          refine ⟨M.1, ?_⟩
          rw [f31]
          exact ⟨fun _ => x3 (fdK_6 e e2 g hlt ef) _ f31 (ScM_fn hQ hS h100 (fo _ _) (by rw [tpu_s]; exact hS.1.symm)) (fo _ _), fun q => absurd q (by decide)⟩
        | some l =>
          obtain ⟨k0, kv⟩ := fdK_7 (n := sc.length) e e2 g hlt ef
          rw [ef] at S3
          rw [kv] at kk
          refine ⟨fun g0 => absurd (show (1 : Int32) = 0 from g0) (by decide), fun _ => ⟨Q, rfl, M.1, fun h5 e5 => ?_⟩⟩
          rw [sI_wI, wI_wI, wI_I] at e5
          subst e5
          have e31 : hI (wI h (tpu G3 Q 31 0)) Q 31 = 0 := tpu_s _ _ _ _
          refine ⟨M.1, ?_⟩
          rw [e31, show hI (wI h (tpu G3 Q 31 0)) Q 10 = nI sc.length from (tpu_o (by omega)).trans f10]
          refine ⟨fun q => absurd rfl q, fun _ => ⟨Q, rfl, M.1, fun h6 e6 => ?_⟩⟩
          rw [sI_wI, wI_wI, wI_I, nI_1] at e6
          subst e6
          have f31 : hI (wI h (tpu (tpu G3 Q 31 0) Q 10 (nI (sc.length + 1)))) Q 31 = 0 := (tpu_o (by omega)).trans (tpu_s _ _ _ _)
          have f10' : hI (wI h (tpu (tpu G3 Q 31 0) Q 10 (nI (sc.length + 1)))) Q 10 = nI (sc.length + 1) := tpu_s _ _ _ _
          refine ⟨M.1, ?_⟩
          rw [f31, f10']
          refine ⟨fun q => absurd rfl q, fun _ => ?_⟩
          rw [show nI (sc.length + 1) - 1 = nI sc.length from nI_pred _]
          refine kk k0 _ f31 ⟨by rw [tpu_s, List.length_append]; rfl, fun i s hi => ?_⟩ (fo _ _)
          have fk := fo 0 (nI (sc.length + 1))
          by_cases c : i < sc.length
          · rw [List.getElem?_append_left c] at hi
            obtain ⟨q1, q2⟩ := hS.2 i s hi
            refine ⟨by rw [fk _ _ (by omega)]; exact q1, fun j e' hj => StM_fr (q2 j e' hj) (fun b b1 b2 => ?_)⟩
            have := h100 s (List.mem_of_getElem? hi)
            have := (List.getElem?_eq_some_iff.mp hj).1
            exact fk _ _ (by omega)
          · rw [List.getElem?_append_right (by omega)] at hi
            have hi0 : i = sc.length := by
              have h1 := (List.getElem?_eq_some_iff.mp hi).1
              have h2 : i - sc.length < 1 := h1
              omega
            subst hi0
            rw [Nat.sub_self] at hi
            have hs : l = s := Option.some.inj hi
            rw [← hs]
            exact SM_k S3.1 (fun b b1 b2 => by rw [tpu_fa _ _ _ _ _ (by omega), tpu_fa _ _ _ _ _ (by omega)])
      · exact stop 2 (by decide) (x2 (fdK_5 e e2 g (by rw [wI_I, hS.1] at g40; exact nI_inj (b := 40) (by omega) (by decide) g40)) _ (tpu_s _ _ _ _) (oFr_t F 2))
end FINDM
