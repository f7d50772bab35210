section MLAYB
theorem pl_at {v : mT} (hv : tWF 300 v) {i x : Nat} (hi : (pO v)[i]? = some x) : pl v x = i ∧ tIn v x = true := by
  have hil := (List.getElem?_eq_some_iff.mp hi).1
  refine ⟨?_, (pO_mem hv).mp (List.mem_of_getElem? hi)⟩
  obtain ⟨m, hm, em⟩ := pl_of hv hil
  obtain ⟨A, B, eAB⟩ := pO_split hv hm
  have := pl_mid hv eAB
  rw [eAB, ← em, this] at hi
  rw [List.getElem?_append_right (Nat.le_refl _), Nat.sub_self] at hi
  simp only [List.getElem?_cons_zero, Option.some.injEq] at hi
  rw [← hi]; exact em
theorem pO_at {v : mT} (hv : tWF 300 v) {x : Nat} (hx : tIn v x = true) : (pO v)[pl v x]? = some x := by
  obtain ⟨A, B, eAB⟩ := pO_split hv hx
  rw [pl_mid hv eAB, eAB]
  simp
theorem p_la89 {h : tpH} {Q q mk s s' : Nat} {kd idn : Nat → Int32} {t u : mT} (M : lMd h Q q) (hQ : Q < q) (hs : s < 42) (hs' : s' < 42) (hk : mk ≤ 300) (hw : tWF 300 t) (hu : tWF 300 u) (htm : ∀ m, tIn t m = true → m < mk) (hum : ∀ m, tIn u m = true → m < mk) {F0 : Nat → Nat → Int32} (hM : MaM F0 Q q mk kd idn) (hL : MtL F0 q s t) (hL' : MtL F0 q s' u) {R : tpH → Prop} (kk : ∀ G, laFr Q q F0 G → laP G Q q t u → alR G q t u → (∀ a, tIn t a = true → ∀ b, tIn u b = true → alT G q kd idn t u a b) → R (wI h G)) :
    ∀ (n i : Nat) (F : Nat → Nat → Int32), i < n → i ≤ (pO t).length → laFr Q q F0 F → laP F Q q t u → alR F q t u → (∀ a, tIn t a = true → i ≤ pl t a → ∀ b, tIn u b = true → alT F q kd idn t u a b) → w_Md_layAlike_89 R n Q (nI s) (nI s') (nI i - 1) (wI h F)
  | 0, i, F, h1, h2, f0, hp, hR0, ho => by omega
  | n + 1, 0, F, h1, h2, f0, hp, hR0, ho => ⟨fun _ => kk F f0 hp hR0 (fun a ha b hb => ho a ha (Nat.zero_le _) b hb), fun g => absurd (show nI 0 - 1 < 0 by decide) g⟩
  | n + 1, i + 1, F, h1, h2, f0, hp, hR0, ho => by
    have l3 := pO_le hw
    have l4 := pO_le hu
    have ei : nI (i + 1) - 1 = nI i := nI_pred i
    rw [ei]
    have hi := List.getElem?_eq_getElem (l := pO t) (i := i) (by omega)
    generalize (pO t)[i] = x at hi
    refine ⟨fun g => absurd g (nI_pos (by omega)), fun _ => ⟨M.1, (pO u).length + 1, ?_⟩⟩
    have e35 : hI (wI h F) Q 35 = nI (pO u).length := hp.2.2
    rw [e35]
    refine p_la101 M hQ hs hs' hk hw hu htm hum hM hL hL' hi ((pO u).length + 1) (pO u).length F (by omega) (Nat.le_refl _) f0 hp hR0 (fun a ha hia b hb => ho a ha hia b hb) (fun b hb hjb => absurd (pl_lt hu hb) (by omega)) (fun G g1 g2 g3 g4 => ?_)
    have e3 : nI i + (-1) = nI i - 1 := (Int32.sub_eq_add_neg _ _).symm
    rw [e3]
    exact p_la89 M hQ hs hs' hk hw hu htm hum hM hL hL' kk n i G (by omega) (by omega) g1 g2 g3 g4
/-- places by marks, laid in a row -/
def plR (F : Nat → Nat → Int32) (r : Nat) (v : mT) (i : Nat) : Prop := ∀ x, tIn v x = true → pl v x < i → F r x = nI (pl v x)
theorem plR_s {F : Nat → Nat → Int32} {r : Nat} {v : mT} (hv : tWF 300 v) {i x : Nat} (hi : (pO v)[i]? = some x) (H : plR F r v i) : plR (tpu F r x (nI i)) r v (i + 1) := fun y hy hl => by
  obtain ⟨p1, p2⟩ := pl_at hv hi
  by_cases c : y = x
  · rw [c, tpu_s, p1]
  · rw [tpu_j _ _ _ _ _ _ c]
    refine H y hy (Nat.lt_of_le_of_ne (by omega) (fun e => c (pl_inj hv hy p2 (by omega))))
theorem p_la56 {h : tpH} {Q q : Nat} {t u : mT} (M : lMd h Q q) (hQ : Q < q) (hw : tWF 300 t) (hu : tWF 300 u) {F0 : Nat → Nat → Int32} {x1 x2 : Int32} {R : tpH → Prop} (kk : ∀ G, laFr Q q F0 G → laP G Q q t u → alR G q t u → ∃ n, w_Md_layAlike_89 R n Q x1 x2 (nI (pO t).length - 1) (wI h G)) :
    ∀ (n i : Nat) (F : Nat → Nat → Int32), (pO u).length < n + i → i ≤ (pO u).length → laFr Q q F0 F → laP F Q q t u → plR F (q + 28) t (pO t).length → plR F (q + 29) u i → w_Md_layAlike_56 R n Q x1 x2 (nI i) (wI h F)
  | 0, i, F, h1, h2, f0, hp, r1, r2 => by omega
  | n + 1, i, F, h1, h2, f0, hp, r1, r2 => by
    obtain ⟨b1, b2, b3⟩ := md_f M (j := 25) (kd := 15) (n := 300) (f := 33) (by decide)
    obtain ⟨c1, c2, c3⟩ := md_f M (j := 29) (kd := 15) (n := 300) (f := 39) (by decide)
    have l4 := pO_le hu
    have e35 : hI (wI h F) Q 35 = nI (pO u).length := hp.2.2
    have e34 : hI (wI h F) Q 34 = nI (pO t).length := hp.2.1
    refine ⟨M.1, ?_⟩
    rw [e35, e34]
    refine ⟨fun g => ?_, fun g => ?_⟩
    · have := (nI_le_iff (by omega) (by omega)).mp g
      exact kk F f0 hp ⟨fun x hx => r1 x hx (pl_lt hw hx), fun y hy => r2 y hy (by have := pl_lt hu hy; omega)⟩
    · have hil : i < (pO u).length := by
        refine Classical.byContradiction fun q => g ((nI_le_iff (by omega) (by omega)).mpr (by omega))
      have hi := List.getElem?_eq_getElem hil
      generalize (pO u)[i] = x at hi
      have hx3 := hu.1.1 x (pl_at hu hi).2
      have ex : hI (wI h F) (q + 25) (nI i).toNatClampNeg = nI x := by rw [nI_clamp (by omega)]; exact hp.1.2 i x hi
      refine ⟨q + 25, b3, b1, by rw [wI_L, b2]; exact vp_in_nI (by omega) (by decide), q + 29, c3, c1, ?_, fun h11 e11 => ?_⟩
      · rw [ex, wI_L, c2]; exact vp_in_nI hx3 (by decide)
      · rw [ex, nI_clamp (by omega), sI_wI, wI_wI, wI_I] at e11
        subst e11
        rw [nI_1]
        refine p_la56 M hQ hw hu kk n (i + 1) _ (by omega) (by omega) (fun b j hb => ?_) ?_ (fun y hy hl => ?_) (plR_s hu hi r2)
        · rw [tpu_o (by omega)]; exact f0 b j hb
        · unfold laP
          rw [tpu_fa _ _ _ _ _ (show q + 24 ≠ q + 29 by omega), tpu_fa _ _ _ _ _ (show q + 25 ≠ q + 29 by omega), tpu_fa _ _ _ _ _ (show Q ≠ q + 29 by omega)]
          exact hp
        · rw [tpu_o (by omega)]; exact r1 y hy hl
theorem p_la28 {h : tpH} {Q q : Nat} {t u : mT} (M : lMd h Q q) (hQ : Q < q) (hw : tWF 300 t) (hu : tWF 300 u) {F0 : Nat → Nat → Int32} {x1 x2 : Int32} {R : tpH → Prop} (kk : ∀ G, laFr Q q F0 G → laP G Q q t u → alR G q t u → ∃ n, w_Md_layAlike_89 R n Q x1 x2 (nI (pO t).length - 1) (wI h G)) :
    ∀ (n i : Nat) (F : Nat → Nat → Int32), (pO t).length < n + i → i ≤ (pO t).length → laFr Q q F0 F → laP F Q q t u → plR F (q + 28) t i → w_Md_layAlike_28 R n Q x1 x2 (nI i) (wI h F)
  | 0, i, F, h1, h2, f0, hp, r1 => by omega
  | n + 1, i, F, h1, h2, f0, hp, r1 => by
    obtain ⟨b1, b2, b3⟩ := md_f M (j := 24) (kd := 15) (n := 300) (f := 32) (by decide)
    obtain ⟨c1, c2, c3⟩ := md_f M (j := 28) (kd := 15) (n := 300) (f := 38) (by decide)
    have l3 := pO_le hw
    have e34 : hI (wI h F) Q 34 = nI (pO t).length := hp.2.1
    refine ⟨M.1, ?_⟩
    rw [e34]
    refine ⟨fun g => ?_, fun g => ?_⟩
    · have := (nI_le_iff (by omega) (by omega)).mp g
      have ei : i = (pO t).length := by omega
      rw [ei] at r1
      exact ⟨(pO u).length + 1, p_la56 M hQ hw hu kk _ 0 F (by omega) (Nat.zero_le _) f0 hp r1 (fun y hy hl => by omega)⟩
    · have hil : i < (pO t).length := by
        refine Classical.byContradiction fun q => g ((nI_le_iff (by omega) (by omega)).mpr (by omega))
      have hi := List.getElem?_eq_getElem hil
      generalize (pO t)[i] = x at hi
      have hx3 := hw.1.1 x (pl_at hw hi).2
      have ex : hI (wI h F) (q + 24) (nI i).toNatClampNeg = nI x := by rw [nI_clamp (by omega)]; exact hp.1.1 i x hi
      refine ⟨q + 24, b3, b1, by rw [wI_L, b2]; exact vp_in_nI (by omega) (by decide), q + 28, c3, c1, ?_, fun h11 e11 => ?_⟩
      · rw [ex, wI_L, c2]; exact vp_in_nI hx3 (by decide)
      · rw [ex, nI_clamp (by omega), sI_wI, wI_wI, wI_I] at e11
        subst e11
        rw [nI_1]
        refine p_la28 M hQ hw hu kk n (i + 1) _ (by omega) (by omega) (fun b j hb => ?_) ?_ (plR_s hw hi r1)
        · rw [tpu_o (by omega)]; exact f0 b j hb
        · unfold laP
          rw [tpu_fa _ _ _ _ _ (show q + 24 ≠ q + 28 by omega), tpu_fa _ _ _ _ _ (show q + 25 ≠ q + 28 by omega), tpu_fa _ _ _ _ _ (show Q ≠ q + 28 by omega)]
          exact hp
theorem p_Md_layAlike {h : tpH} {Q q mk s s' : Nat} {kd idn : Nat → Int32} {t u : mT} (M : lMd h Q q) (hQ : Q < q) (hs : s < 42) (hs' : s' < 42) (hk : mk ≤ 300) (hw : tWF 300 t) (hu : tWF 300 u) (htm : ∀ m, tIn t m = true → m < mk) (hum : ∀ m, tIn u m = true → m < mk) {F : Nat → Nat → Int32} (hM : MaM F Q q mk kd idn) (H : MtP F q s t) (H' : MtP F q s' u) {R : tpH → Prop} (kk : ∀ G, laFr Q q F G → laP G Q q t u → alR G q t u → (∀ a, tIn t a = true → ∀ b, tIn u b = true → alT G q kd idn t u a b) → R (wI h G)) : w_Md_layAlike Q (nI s) (nI s') (wI h F) R := by
  obtain ⟨b1, b2, b3⟩ := md_f M (j := 24) (kd := 15) (n := 300) (f := 32) (by decide)
  obtain ⟨c1, c2, c3⟩ := md_f M (j := 25) (kd := 15) (n := 300) (f := 33) (by decide)
  have l3 := pO_le hw
  have l4 := pO_le hu
  refine ⟨M.1, ?_⟩
  rw [wI_R, b3]
  refine p_Md_layOrder M hs H hw (Or.inr (by omega)) b1 b2 ⟨M.1, fun h5 e5 => ?_⟩
  rw [sI_wI, wI_wI, wI_I] at e5
  subst e5
  rw [wI_R, c3]
  generalize hF1 : tpu (lay F (q + 24) (pO t)) Q 34 (nI (pO t).length) = F1
  have f1 : ∀ b j, ¬ ((b = Q ∧ j = 34) ∨ b = q + 24) → F1 b j = F b j := fun b j hb => by rw [← hF1, tpu_o (by omega), lay_ne _ _ (by omega)]
  refine p_Md_layOrder M hs' (MtP_fr H' (fun b x1 x2 => funext fun j => f1 _ _ (by omega))) hu (Or.inr (by omega)) c1 c2 ⟨M.1, fun h10 e10 => ⟨(pO t).length + 1, ?_⟩⟩
  rw [sI_wI, wI_wI, wI_I] at e10
  subst e10
  have f2 : laFr Q q F (tpu (lay F1 (q + 25) (pO u)) Q 35 (nI (pO u).length)) := fun b j hb => by rw [tpu_o (by omega), lay_ne _ _ (by omega), f1 _ _ (by omega)]
  refine p_la28 M hQ hw hu (F0 := F) (fun G g1 g2 g3 => ⟨(pO t).length + 1, ?_⟩) ((pO t).length + 1) 0 _ (by omega) (Nat.zero_le _) f2 ⟨⟨fun j z hz => ?_, fun j z hz => ?_⟩, ?_, tpu_s _ _ _ _⟩ (fun y hy hl => by omega)
  · exact p_la89 M hQ hs hs' hk hw hu htm hum hM H.1 H'.1 kk _ (pO t).length G (Nat.lt_succ_self _) (Nat.le_refl _) g1 g2 g3 (fun a ha hl => absurd (pl_lt hw ha) (by omega))
  · rw [tpu_o (by omega), lay_ne _ _ (by omega), ← hF1, tpu_o (by omega), lay_at _ _ hz]
  · rw [tpu_o (by omega), lay_at _ _ hz]
  · rw [tpu_o (by omega), lay_ne _ _ (by omega), ← hF1, tpu_s]
noncomputable def gAlike (kd idn : Nat → Int32) (fr : List mT) (x y : Int32) : Option Int32 := (lstAt fr x).bind (fun t => (lstAt fr y).bind (fun u => some (if akB kd idn t u (tRt t) (tRt u) = true then 1 else 0)))
theorem p_Md_areAlike {h : tpH} {Q q mk : Nat} {kd idn : Nat → Int32} (M : lMd h Q q) (hQ : Q < q) {F : Nat → Nat → Int32} (hM : MaM F Q q mk kd idn) (hk : mk ≤ 300) {fr : List mT} (hF : FoM F Q q fr) (hw : ∀ (i : Nat) (t : mT), fr[i]? = some t → tWF 300 t) (hmk : ∀ (i : Nat) (t : mT), fr[i]? = some t → ∀ m, tIn t m = true → m < mk) {x y : Int32} {R : Int32 → tpH → Prop}
    (x1 : gAlike kd idn fr x y = none → ∀ G, G Q 31 = 1 → oFr Q q F G → R 0 (wI h G)) (kk : ∀ v, gAlike kd idn fr x y = some v → ∀ G, G Q 31 = 0 → (∀ b j, ¬ ((b = Q ∧ (j = 31 ∨ j = 34 ∨ j = 35)) ∨ (q + 24 ≤ b ∧ b < q + 46)) → G b j = F b j) → R v (wI h G)) : w_Md_areAlike Q x y (wI h F) R := by
  obtain ⟨c1, c2, c3⟩ := md_f M (j := 27) (kd := 16) (n := 90000) (f := 37) (by decide)
  unfold gAlike at x1 kk
  have h40 := hF.2.1
  have no : gAlike kd idn fr x y = none → w_Md_areAlike_22 R Q x y 0 (some Q) (wI h F) := fun g =>
    ⟨Q, rfl, M.1, p_Md_asks M F (fun g => absurd g (by decide)) (fun _ => ⟨fun g => absurd rfl g, fun _ => x1 g _ (tpu_s _ _ _ _) (oFr_t F 1)⟩) (Or.inl rfl)⟩
  refine ⟨M.1, ?_⟩
  rw [e_Md_isTree M hF.2.1 hF.1]
  cases e : lstAt fr x with
  | none =>
    rw [if_neg (lst_none e)]
    exact ⟨fun _ => no (by unfold gAlike; rw [e]; rfl), fun g => absurd rfl g⟩
  | some t =>
    obtain ⟨c1', c2', c3'⟩ := lst_some e
    rw [if_pos c1']
    refine ⟨fun g => absurd g (by decide), fun _ => ⟨M.1, ?_⟩⟩
    rw [e_Md_isTree M hF.2.1 hF.1]
    cases e2 : lstAt fr y with
    | none =>
      rw [if_neg (lst_none e2)]
      exact ⟨fun _ => no (by unfold gAlike; rw [e, e2]; rfl), fun g => absurd rfl g⟩
    | some u =>
      obtain ⟨d1, d2, d3⟩ := lst_some e2
      rw [if_pos d1]
      rw [e, e2] at kk
      have hwt := hw _ t c2'
      have hwu := hw _ u d2
      refine ⟨fun g => absurd g (by decide), fun _ => ⟨Q, rfl, M.1, p_Md_asks M F (fun _ => ⟨fun _ => ⟨M.1, ?_⟩, fun g => absurd g (by decide)⟩) (fun g => absurd g (by decide)) (Or.inr rfl)⟩⟩
      rw [c3', d3]
      refine p_Md_layAlike M hQ (by omega) (by omega) hk hwt hwu (hmk _ t c2') (hmk _ u d2) (MaM_fr hM (tpu_o (by omega)) (fun b hb => tpu_fa _ _ _ _ _ (by omega))) (MtP_t hQ (hF.2.2 _ t c2') (oFr_t F 0)) (MtP_t hQ (hF.2.2 _ u d2) (oFr_t F 0)) (fun G g1 g2 g3 g4 => ?_)
      have er : G (q + 27) 0 = if akB kd idn t u (tRt t) (tRt u) = true then 1 else 0 := by
        have := g4 (tRt t) hwt.2.1 (tRt u) hwu.2.1
        unfold alT at this
        rw [pl_rt hwt, pl_rt hwu] at this
        exact this
      have er2 : hI (wI h G) (q + 27) (0 : Int32).toNatClampNeg = if akB kd idn t u (tRt t) (tRt u) = true then 1 else 0 := er
      refine ⟨M.1, q + 27, c3, c1, by rw [wI_L, c2]; exact vp_in_nI (n := 0) (by decide) (by decide), ?_⟩
      rw [er2]
      exact ⟨tr01 _, kk _ rfl G (by rw [g1 _ _ (by omega), tpu_s]) (fun b j hb => by rw [g1 _ _ (by omega), tpu_o (by omega)])⟩
end MLAYB
