section MLAYA
theorem tr01 (c : Prop) [Decidable c] : tpB (if c then (1 : Int32) else 0) := by
  by_cases g : c
  · rw [if_pos g]; exact Or.inr rfl
  · rw [if_neg g]; exact Or.inl rfl
theorem p_al75 {h : tpH} {Q q s s' : Nat} {u : mT} (M : lMd h Q q) (hs' : s' < 42) (hu : tWF 300 u) {y : Nat} {F0 : Nat → Nat → Int32} {x1 x3 : Int32} {R : Int32 → tpH → Prop} :
    ∀ (n : Nat) (Dn L : List Nat) (v : Int32) (F : Nat → Nat → Int32), tKi u y = Dn ++ L → (∀ b, b ≠ q + 30 → F b = F0 b) → seg (fun z => F (q + 6) (300 * s' + z)) v L (-1) → (∀ z ∈ Dn, F (q + 30) z = 0) → L.length < n → (∀ G, (∀ b, b ≠ q + 30 → G b = F0 b) → tkP G q (tKi u y) (fun _ => true) → hT (wI h G) Q = 14 ∧ (w_Md_firstIn Q (nI s') (nI y) (wI h G) (fun v4 h3 => hT h3 Q = 14 ∧ (w_Md_firstIn Q x1 x3 h3 (fun v7 h6 => ∃ n, w_Md_areLike_118 R n Q x1 (nI s') x3 (nI y) v4 v7 h6))))) → w_Md_areLike_75 R n Q x1 (nI s') x3 (nI y) v (wI h F)
  | 0, Dn, L, v, F, e, f0, sg, hd, hn, kk => by omega
  | n + 1, Dn, [], v, F, e, f0, sg, hd, hn, kk => by
    refine ⟨fun _ => kk F f0 (fun z hz => ?_), fun g => absurd sg g⟩
    rw [e, List.append_nil] at hz
    exact hd z hz
  | n + 1, Dn, z :: L, v, F, e, f0, sg, hd, hn, kk => by
    obtain ⟨a1, a2, a3⟩ := md_f M (j := 30) (kd := 16) (n := 300) (f := 40) (by decide)
    obtain ⟨e1, e2⟩ := sg
    subst e1
    have hz3 := hu.1.1 z (fKi_in hu.1 (x := z) (p := y) (by rw [e]; simp)).1
    refine ⟨fun g => absurd g (nI_ne_m (by omega)), fun _ => ⟨M.1, q + 30, a3, a1, by rw [wI_L, a2]; exact vp_in_nI hz3 (by decide), fun h13 e13 => ?_⟩⟩
    rw [nI_clamp (by omega), sI_wI, wI_wI, wI_I] at e13
    subst e13
    rw [e_Md_nextIn M hs' hz3]
    have f6 : tpu F (q + 30) z 0 (q + 6) = F (q + 6) := tpu_fa _ _ _ _ _ (by omega)
    rw [f6]
    refine p_al75 (s := s) M hs' hu n (Dn ++ [z]) L _ (tpu F (q + 30) z 0) (by rw [e]; simp) (fun b hb => by rw [tpu_fa _ _ _ _ _ hb]; exact f0 b hb) (by rw [f6]; exact e2) (fun w hw => ?_) (by simp at hn; omega) kk
    by_cases c : w = z
    · rw [c, tpu_s]
    · rw [tpu_j _ _ _ _ _ _ c]
      rcases List.mem_append.mp hw with g | g
      · exact hd w g
      · exact absurd (by simpa using g) c
theorem p_Md_areLike {h : tpH} {Q q mk s s' : Nat} {kd idn : Nat → Int32} {t u : mT} (M : lMd h Q q) (hQ : Q < q) (hs : s < 42) (hs' : s' < 42) {F : Nat → Nat → Int32} (hM : MaM F Q q mk kd idn) (hk : mk ≤ 300) (hw : tWF 300 t) (hu : tWF 300 u) (hL : MtL F q s t) (hL' : MtL F q s' u) {x y : Nat} (hx : tIn t x = true) (hy : tIn u y = true) (hxm : x < mk) (hym : y < mk) (hR0 : alR F q t u) (hT0 : ∀ a ∈ tKi t x, ∀ b ∈ tKi u y, alT F q kd idn t u a b) {R : Int32 → tpH → Prop} (kk : ∀ G, (∀ b, b ≠ q + 30 → G b = F b) → R (if akB kd idn t u x y = true then 1 else 0) (wI h G)) : w_Md_areLike Q (nI s) (nI s') (nI x) (nI y) (wI h F) R := by
  obtain ⟨a1, a2, a3⟩ := md_f M (j := 0) (kd := 15) (n := 300) (f := 1) (by decide)
  obtain ⟨b1, b2, b3⟩ := md_f M (j := 1) (kd := 15) (n := 300) (f := 2) (by decide)
  have hx3 := hw.1.1 x hx
  have hy3 := hu.1.1 y hy
  have vx : vp_in (nI x) 300 := vp_in_nI hx3 (by decide)
  have vy : vp_in (nI y) 300 := vp_in_nI hy3 (by decide)
  have iff := AK_iff (kd := kd) (idn := idn) hw.1 hu.1 (y := y) hx3
  have no : ¬ AK kd idn t u x y → R 0 (wI h F) := fun g => by
    have := kk F (fun _ _ => rfl)
    rw [if_neg (fun e => g (akB_iff.mp e))] at this
    exact this
  have ex : ∀ b : Nat, hI (wI h F) (q + b) (nI x).toNatClampNeg = F (q + b) x := fun b => by rw [nI_clamp (by omega)]; rfl
  have ey : ∀ b : Nat, hI (wI h F) (q + b) (nI y).toNatClampNeg = F (q + b) y := fun b => by rw [nI_clamp (by omega)]; rfl
  have kx : F (q + 0) x = kd x := (hM.2 x hxm).1
  have ky : F (q + 0) y = kd y := (hM.2 y hym).1
  have ix : F (q + 1) x = idn x := (hM.2 x hxm).2
  have iy : F (q + 1) y = idn y := (hM.2 y hym).2
  refine ⟨M.1, q + 0, a3, a1, by rw [wI_L, a2]; exact vx, by rw [wI_L, a2]; exact vy, ?_⟩
  rw [ex, ey, kx, ky]
  refine ⟨fun g => no (fun a => g (iff.mp a).1.1), fun ek => ⟨q + 1, b3, b1, by rw [wI_L, b2]; exact vx, by rw [wI_L, b2]; exact vy, ?_⟩⟩
  rw [ex, ey, ix, iy]
  refine ⟨fun g => no (fun a => g (iff.mp a).1.2.1), fun ei => ?_⟩
  rw [e_Md_valueIn M hs hx3, (hL x hx).1]
  refine ⟨M.1, ?_⟩
  rw [e_Md_valueIn M hs' hy3, (hL' y hy).1]
  refine ⟨fun g => no (fun a => g (iff.mp a).1.2.2), fun ew => ⟨M.1, p_Md_childMany M hs hL hw.1 hx ⟨M.1, p_Md_childMany M hs' hL' hu.1 hy ?_⟩⟩⟩
  have lx := ki_len hw.1 x
  have ly := ki_len hu.1 y
  have cx := tCn_le t
  have cy := tCn_le u
  refine ⟨fun g => ⟨M.1, ?_⟩, fun g => no (fun a => g ?_)⟩
  · have hlen : (tKi t x).length = (tKi u y).length := nI_inj (by omega) (by omega) g
    rw [e_Md_firstIn M hs' hy3]
    refine ⟨(tKi u y).length + 1, p_al75 (s := s) (F0 := F) M hs' hu _ [] (tKi u y) _ F rfl (fun _ _ => rfl) (hL' y hy).2.2 (fun z hz => by simp at hz) (Nat.lt_succ_self _) (fun G f0 hp => ⟨M.1, ?_⟩)⟩
    rw [e_Md_firstIn M hs' hy3]
    refine ⟨M.1, ?_⟩
    rw [e_Md_firstIn M hs hx3]
    have f6 := f0 (q + 6) (by omega)
    have f5 := f0 (q + 5) (by omega)
    refine ⟨(tKi t x).length + 1, ?_⟩
    cases hl : loK kd x with
    | true =>
      have hk4 : ¬ F q x < 4 := fun e => by
        have e2 : kd x < 4 := by rw [← kx]; exact e
        have := (loK_iff kd x).mp e2
        rw [hl] at this; simp at this
      refine p_al118L (F0 := F) M hs hs' hw hu hx hy hk4 hR0 hL' hT0 _ (tKi t x) (tKi u y) _ _ (fun _ => true) G f0 (fun a ha => ha) (fun c hc => hc) hlen (by rw [f6, f5]; exact (hL x hx).2.2) (by rw [f6, f5]; exact (hL' y hy).2.2) hp (Nat.lt_succ_self _) (fun G' h' => ?_)
      have kv := kk G' h'
      have et : (tKi u y).filter (fun _ => true) = tKi u y := List.filter_eq_self.mpr (fun _ _ => rfl)
      rw [et]
      have key : grd (akB kd idn t u) (tKi t x) (tKi u y) = true ↔ akB kd idn t u x y = true := by
        rw [grd_iff (r := akB kd idn t u) (fun a a' b b' h1 h2 h3 => akB_iff.mpr (AK_dif (akB_iff.mp h1) (akB_iff.mp h2) (akB_iff.mp h3))) _ _ (hu.1.2.2.1 y) hlen, akB_iff, iff]
        constructor
        · exact fun g => ⟨⟨ek, ei, ew⟩, fun _ => pm_mono (fun _ _ _ _ q => akB_iff.mp q) g, fun g2 => by rw [hl] at g2; simp at g2⟩
        · exact fun g => pm_mono (fun _ _ _ _ q => akB_iff.mpr q) (g.2.1 hl)
      by_cases c : akB kd idn t u x y = true
      · rw [if_pos c] at kv
        rw [if_pos (key.mpr c)]; exact kv
      · rw [if_neg c] at kv
        rw [if_neg (fun g => c (key.mp g))]; exact kv
    | false =>
      have hk4 : F q x < 4 := by
        have e2 := (loK_iff kd x).mpr hl
        rw [← kx] at e2; exact e2
      refine p_al118O (F0 := F) M hs hs' hw hu hx hy hk4 hR0 hT0 _ (tKi t x) (tKi u y) _ _ G f0 (fun a ha => ha) (fun c hc => hc) hlen (by rw [f6, f5]; exact (hL x hx).2.2) (by rw [f6, f5]; exact (hL' y hy).2.2) (Nat.lt_succ_self _) (fun G' h' => ?_)
      have kv := kk G' h'
      have key : a2B (akB kd idn t u) (tKi t x) (tKi u y) = true ↔ akB kd idn t u x y = true := by
        rw [a2B_iff hlen, akB_iff, iff]
        constructor
        · exact fun g => ⟨⟨ek, ei, ew⟩, fun g2 => by rw [hl] at g2; simp at g2, fun _ => all2_mono (fun _ _ _ _ q => akB_iff.mp q) g⟩
        · exact fun g => all2_mono (fun _ _ _ _ q => akB_iff.mpr q) (g.2.2 hl)
      by_cases c : akB kd idn t u x y = true
      · rw [if_pos c] at kv
        rw [if_pos (key.mpr c)]; exact kv
      · rw [if_neg c] at kv
        rw [if_neg (fun g => c (key.mp g))]; exact kv
  · have g2 := iff.mp a
    cases hl : loK kd x with
    | true => rw [pm_len (g2.2.1 hl)]
    | false => rw [all2_len (g2.2.2 hl)]
/-! laying which are alike -/
def laP (F : Nat → Nat → Int32) (Q q : Nat) (t u : mT) : Prop := ((∀ (j z : Nat), (pO t)[j]? = some z → F (q + 24) j = nI z) ∧ ∀ (j z : Nat), (pO u)[j]? = some z → F (q + 25) j = nI z) ∧ F Q 34 = nI (pO t).length ∧ F Q 35 = nI (pO u).length
def laFr (Q q : Nat) (F G : Nat → Nat → Int32) : Prop := ∀ b j, ¬ ((b = Q ∧ (j = 34 ∨ j = 35)) ∨ (q + 24 ≤ b ∧ b ≤ q + 30)) → G b j = F b j
theorem p_la101 {h : tpH} {Q q mk s s' : Nat} {kd idn : Nat → Int32} {t u : mT} (M : lMd h Q q) (hQ : Q < q) (hs : s < 42) (hs' : s' < 42) (hk : mk ≤ 300) (hw : tWF 300 t) (hu : tWF 300 u) (htm : ∀ m, tIn t m = true → m < mk) (hum : ∀ m, tIn u m = true → m < mk) {F0 : Nat → Nat → Int32} (hM : MaM F0 Q q mk kd idn) (hL : MtL F0 q s t) (hL' : MtL F0 q s' u) {R : tpH → Prop} {K : Nat → Int32 → Int32 → Int32 → tpH → Prop} {i x : Nat} (hi : (pO t)[i]? = some x) :
    ∀ (n j : Nat) (F : Nat → Nat → Int32), j < n → j ≤ (pO u).length → laFr Q q F0 F → laP F Q q t u → alR F q t u → (∀ a, tIn t a = true → i < pl t a → ∀ b, tIn u b = true → alT F q kd idn t u a b) → (∀ b, tIn u b = true → j ≤ pl u b → alT F q kd idn t u x b) → (∀ G, laFr Q q F0 G → laP G Q q t u → alR G q t u → (∀ a, tIn t a = true → i ≤ pl t a → ∀ b, tIn u b = true → alT G q kd idn t u a b) → K Q (nI s) (nI s') (nI i + (-1)) (wI h G)) → w_Md_layAlike_101 R K n Q (nI s) (nI s') (nI i) (nI j - 1) (wI h F)
  | 0, j, F, hj, hjl, f0, hp, hR0, ho, hin, kk => by omega
  | n + 1, 0, F, hj, hjl, f0, hp, hR0, ho, hin, kk => by
    refine ⟨fun _ => kk F f0 hp hR0 (fun a ha hia b hb => ?_), fun g => absurd (show nI 0 - 1 < 0 by decide) g⟩
    by_cases c : i < pl t a
    · exact ho a ha c b hb
    · have hxi : tIn t x = true := (pO_mem hw).mp (List.mem_of_getElem? hi)
      have epx : pl t x = i := by
        have hil := (List.getElem?_eq_some_iff.mp hi).1
        obtain ⟨m, hm, em⟩ := pl_of hw hil
        obtain ⟨A, B, eAB⟩ := pO_split hw hm
        have := pl_mid hw eAB
        rw [eAB, ← em, this] at hi
        rw [List.getElem?_append_right (Nat.le_refl _), Nat.sub_self] at hi
        simp only [List.getElem?_cons_zero, Option.some.injEq] at hi
        rw [← hi]; exact em
      have : a = x := pl_inj hw ha hxi (by omega)
      rw [this]
      exact hin b hb (Nat.zero_le _)
  | n + 1, j + 1, F, hj, hjl, f0, hp, hR0, ho, hin, kk => by
    obtain ⟨a1, a2, a3⟩ := md_f M (j := 24) (kd := 15) (n := 300) (f := 32) (by decide)
    obtain ⟨b1, b2, b3⟩ := md_f M (j := 25) (kd := 15) (n := 300) (f := 33) (by decide)
    obtain ⟨c1, c2, c3⟩ := md_f M (j := 27) (kd := 16) (n := 90000) (f := 37) (by decide)
    have hxi : tIn t x = true := (pO_mem hw).mp (List.mem_of_getElem? hi)
    have l3 := pO_le hw
    have l4 := pO_le hu
    have hil := (List.getElem?_eq_some_iff.mp hi).1
    have plx : ∀ {v : mT} (hv : tWF 300 v) {i x : Nat}, (pO v)[i]? = some x → pl v x = i := fun {v} hv {i x} hi => by
      have hil := (List.getElem?_eq_some_iff.mp hi).1
      obtain ⟨m, hm, em⟩ := pl_of hv hil
      obtain ⟨A, B, eAB⟩ := pO_split hv hm
      have := pl_mid hv eAB
      rw [eAB, ← em, this] at hi
      rw [List.getElem?_append_right (Nat.le_refl _), Nat.sub_self] at hi
      simp only [List.getElem?_cons_zero, Option.some.injEq] at hi
      rw [← hi]; exact em
    have epx := plx hw hi
    have hjy := List.getElem?_eq_getElem (l := pO u) (i := j) (by omega)
    generalize (pO u)[j] = y at hjy
    have hyi : tIn u y = true := (pO_mem hu).mp (List.mem_of_getElem? hjy)
    have epy := plx hu hjy
    have ej : nI (j + 1) - 1 = nI j := nI_pred j
    rw [ej]
    refine ⟨fun g => absurd g (nI_pos (by omega)), fun _ => ⟨M.1, q + 24, a3, a1, by rw [wI_L, a2]; exact vp_in_nI (by omega) (by decide), q + 25, b3, b1, by rw [wI_L, b2]; exact vp_in_nI (by omega) (by decide), ?_⟩⟩
    rw [nI_clamp (by omega), nI_clamp (by omega), wI_I, hp.1.1 i x hi, hp.1.2 j y hjy]
    have hM1 : MaM F Q q mk kd idn := MaM_fr hM (f0 _ _ (by omega)) (fun b hb => funext fun j => f0 _ _ (by omega))
    have mtl : ∀ {s : Nat} {v : mT}, MtL F0 q s v → MtL F q s v := fun {s v} H z hz => by
      unfold nodeM
      have e3 : F (q + 3) = F0 (q + 3) := funext fun j => f0 _ _ (by omega)
      have e4 : F (q + 4) = F0 (q + 4) := funext fun j => f0 _ _ (by omega)
      have e5 : F (q + 5) = F0 (q + 5) := funext fun j => f0 _ _ (by omega)
      have e6 : F (q + 6) = F0 (q + 6) := funext fun j => f0 _ _ (by omega)
      rw [e3, e4, e5, e6]
      exact H z hz
    refine p_Md_areLike M hQ hs hs' hM1 hk hw hu (mtl hL) (mtl hL') hxi hyi (htm x hxi) (hum y hyi) hR0 (fun a ha b hb => ?_) (fun G hG => ?_)
    · have := pl_kid_lt hw ha
      exact ho a (fKi_in hw.1 ha).1 (by omega) b (fKi_in hu.1 hb).1
    · refine ⟨q + 27, c3, c1, by rw [ix_e, wI_L, c2]; exact vp_in_nI (by omega) (by decide), tr01 _, fun h18 e18 => ?_⟩
      rw [ix_e, nI_clamp (by omega), sI_wI, wI_wI, wI_I] at e18
      subst e18
      have e3 : nI j + (-1) = nI j - 1 := (Int32.sub_eq_add_neg _ _).symm
      rw [e3]
      have fG : ∀ b, b ≠ q + 27 → b ≠ q + 30 → tpu G (q + 27) (300 * i + j) (if akB kd idn t u x y = true then 1 else 0) b = F b := fun b h1 h2 => by rw [tpu_fa _ _ _ _ _ h1]; exact hG b h2
      have f27 : ∀ k, k ≠ 300 * i + j → tpu G (q + 27) (300 * i + j) (if akB kd idn t u x y = true then 1 else 0) (q + 27) k = F (q + 27) k := fun k hk' => by rw [tpu_j _ _ _ _ _ _ hk', hG (q + 27) (by omega)]
      refine p_la101 M hQ hs hs' hk hw hu htm hum hM hL hL' hi n j _ (by omega) (by omega) (fun b k hb => ?_) ?_ ?_ (fun a ha hia b hb => ?_) (fun b hb hjb => ?_) kk
      · rw [fG b (by omega) (by omega)]; exact f0 b k hb
      · unfold laP
        rw [fG (q + 24) (by omega) (by omega), fG (q + 25) (by omega) (by omega), fG Q (by omega) (by omega)]
        exact hp
      · unfold alR
        rw [fG (q + 28) (by omega) (by omega), fG (q + 29) (by omega) (by omega)]
        exact hR0
      · have lb := pl_lt hu hb
        show tpu G (q + 27) (300 * i + j) _ (q + 27) (300 * pl t a + pl u b) = _
        rw [f27 _ (by omega)]
        exact ho a ha hia b hb
      · show tpu G (q + 27) (300 * i + j) _ (q + 27) (300 * pl t x + pl u b) = _
        by_cases c : pl u b = j
        · have : b = y := pl_inj hu hb hyi (by omega)
          rw [epx, c, tpu_s, this]
        · rw [f27 _ (by omega)]
          exact hin b hb (by omega)
end MLAYA
