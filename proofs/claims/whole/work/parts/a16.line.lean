section LINE
def shT (kd : Nat → Int32) (k w : Int32) (t : mT) : Prop := ∃ m, tIn t m = true ∧ kd m = k ∧ tWo t m = w
theorem p_shows {h : tpH} {p a mk' mk : Nat} {kd idn : Nat → Int32} (lm : lMa h p) (hM : MaP (hI h) p mk kd idn) (hk : mk ≤ 300) {t : mT} (b1 : lTr h a (pO t).length mk') (b2 : TrP (hI h) a t mk') (b3 : mk' ≤ 300) (hw : tWF 300 t) (hmk : ∀ m, tIn t m = true → m < mk) {k w : Int32} {R : Int32 → tpH → Prop} (k1 : shT kd k w t → R 1 h) (k0 : ¬ shT kd k w t → R 0 h) :
    ∀ (n : Nat) (A L : List Nat), pO t = A ++ L → L.length < n → (∀ m ∈ A, ¬ (kd m = k ∧ tWo t m = w)) → w_Tr_shows_3 R n a (some p) k w (nI A.length) h
  | 0, A, L, e1, e2, e3 => by omega
  | n + 1, A, [], e1, e2, e3 => by
    rw [List.append_nil] at e1
    refine ⟨b1.1, fun _ => k0 (fun ⟨m, g1, g2, g3⟩ => e3 m (by rw [← e1]; exact (pO_mem hw).mpr g1) ⟨g2, g3⟩), fun e => absurd ?_ e⟩
    rw [b2.1, e1]
    exact Int32.le_refl _
  | n + 1, A, m :: L, e1, e2, e3 => by
    have h3 := pO_le hw
    have hl : A.length < (pO t).length := by rw [e1, List.length_append, List.length_cons]; omega
    have hz : (pO t)[A.length]? = some m := by rw [e1]; simp
    obtain ⟨g1, g2, _, _, hin⟩ := TrP_mark b2 hw hz
    have m3 := hw.1.1 m hin
    have ih : ¬ (kd m = k ∧ tWo t m = w) → w_Tr_shows_3 R n a (some p) k w (nI A.length + 1) h := fun c => by
      have := p_shows lm hM hk b1 b2 b3 hw hmk k1 k0 n (A ++ [m]) L (by rw [e1]; simp) (by simp at e2; omega) (fun x hx => by
        rcases List.mem_append.mp hx with g | g
        · exact e3 x g
        · have : x = m := by simpa using g
          rw [this]; exact c)
      rw [List.length_append] at this
      rw [nI_1]
      exact this
    refine ⟨b1.1, fun e => ?_, fun _ => ?_⟩
    · rw [b2.1] at e
      exact absurd ((nI_le_iff (by omega) (by omega)).mp e) (by omega)
    · show w_Tr_markOf a (nI A.length) (wI h (hI h)) _
      rw [e_Tr_markOf b1 h3 b3, rAt_n hl (by omega), g1]
      refine ⟨p, rfl, lm.1, lm.1, p + 1, lm.2.1.1, lm.2.1.2.1, p_at lm.2.1.2 (by decide) ?_⟩
      have ek : rAt (hI (wI h (hI h)) (p + 2)) 300 (nI m) = kd m := by rw [rAt_n m3 (by decide)]; exact (hM.2 m (hmk m hin)).1
      rw [ek]
      refine ⟨fun e => ih (fun g => e g.1), fun ek => ⟨b1.1, ?_⟩⟩
      rw [e_Tr_worthOf b1 h3 b3, rAt_n hl (by omega), g2]
      exact ⟨fun e => ih (fun g => e g.2), fun ew => k1 ⟨m, hin, ek, ew⟩⟩
theorem p_Tr_shows {h : tpH} {p a mk' mk : Nat} {kd idn : Nat → Int32} (lm : lMa h p) (hM : MaP (hI h) p mk kd idn) (hk : mk ≤ 300) {t : mT} (b1 : lTr h a (pO t).length mk') (b2 : TrP (hI h) a t mk') (b3 : mk' ≤ 300) (hw : tWF 300 t) (hmk : ∀ m, tIn t m = true → m < mk) {k w : Int32} {R : Int32 → tpH → Prop} (k1 : shT kd k w t → R 1 h) (k0 : ¬ shT kd k w t → R 0 h) : w_Tr_shows a (some p) k w h R :=
  ⟨(pO t).length + 1, p_shows lm hM hk b1 b2 b3 hw hmk k1 k0 _ [] (pO t) rfl (by omega) (fun m hm => by simp at hm)⟩
/-! the line of first parents, from a later version to an earlier one -/
def fsO (vs : List mV) (v : Nat) : Option Nat := (vs[v]?).bind (fun e => e.2.1)
def lnO (vs : List mV) (a : Nat) : Nat → Nat → Option (List Nat)
  | 0, _ => none
  | n + 1, v => if v = a then some [v] else match fsO vs v with
    | none => none
    | some f => (lnO vs a n f).map (fun l => v :: l)
theorem fsO_lt {vs : List mV} (hv : vsO vs) {v f : Nat} (h : fsO vs v = some f) : f < v := by
  unfold fsO at h
  cases e : vs[v]? with
  | none => rw [e] at h; simp at h
  | some e0 => rw [e] at h; exact (hv v e0 e).1 f h
theorem lnO_in {vs : List mV} (hv : vsO vs) {a : Nat} : ∀ (n v : Nat) (l : List Nat), v < vs.length → lnO vs a n v = some l → (∀ x ∈ l, x < vs.length) ∧ l ≠ [] ∧ l.length ≤ n
  | 0, v, l, h1, h2 => by simp [lnO] at h2
  | n + 1, v, l, h1, h2 => by
    have h2 : (if v = a then some [v] else match fsO vs v with
      | none => none
      | some f => (lnO vs a n f).map (fun l => v :: l)) = some l := h2
    by_cases c : v = a
    · rw [if_pos c] at h2
      have := Option.some.inj h2
      subst this
      exact ⟨fun x hx => by have : x = v := by simpa using hx
                            omega, by simp, by simp⟩
    · rw [if_neg c] at h2
      cases e : fsO vs v with
      | none => rw [e] at h2; simp at h2
      | some f =>
        rw [e] at h2
        have h2 : (lnO vs a n f).map (fun l => v :: l) = some l := h2
        have hf := fsO_lt hv e
        cases e2 : lnO vs a n f with
        | none => rw [e2] at h2; simp at h2
        | some l' =>
          rw [e2] at h2
          have := Option.some.inj h2
          subst this
          obtain ⟨i1, i2, i3⟩ := lnO_in hv n f l' (by omega) e2
          refine ⟨fun x hx => ?_, by simp, by simp; omega⟩
          rcases List.mem_cons.mp hx with g | g
          · omega
          · exact i1 x g
theorem lnO_f {vs : List mV} (hv : vsO vs) {a : Nat} : ∀ (m m' g : Nat), g < m → g < m' → lnO vs a m g = lnO vs a m' g
  | 0, m', g, g1, g2 => by omega
  | m + 1, 0, g, g1, g2 => by omega
  | m + 1, m' + 1, g, g1, g2 => by
    show (if g = a then some [g] else match fsO vs g with
      | none => none
      | some f => (lnO vs a m f).map (fun l => g :: l)) = (if g = a then some [g] else match fsO vs g with
      | none => none
      | some f => (lnO vs a m' f).map (fun l => g :: l))
    cases eg : fsO vs g with
    | none => rfl
    | some f' =>
      have := fsO_lt hv eg
      show (if g = a then some [g] else (lnO vs a m f').map (fun l => g :: l)) = (if g = a then some [g] else (lnO vs a m' f').map (fun l => g :: l))
      rw [lnO_f hv m m' f' (by omega) (by omega)]
/-- laid numbers in a row -/
theorem lay_rp (F : Nat → Nat → Int32) {r n : Nat} (A : List Nat) (m : Nat) (h : A.length < n) (hn : n < 2 ^ 31) : rPut (lay F r A) r n (nI A.length) (nI m) = lay F r (A ++ [m]) := by
  rw [rPut_n h hn, lay_put]
def uLn (F : Nat → Nat → Int32) (d : Nat) (A : List Nat) : Nat → Nat → Int32 := tpu (lay F (d + 10) A) d 6 (nI A.length)
theorem uLn_s (F : Nat → Nat → Int32) (d : Nat) (A : List Nat) (m : Nat) : tpu (tpu (lay F (d + 10) (A ++ [m])) d 6 (nI A.length)) d 6 (nI A.length + 1) = uLn F d (A ++ [m]) := by
  unfold uLn
  rw [List.length_append, nI_1]
  funext b j
  simp only [tpu]
  by_cases c : b = d ∧ j = 6
  · rw [if_pos c, if_pos c]; rfl
  · rw [if_neg c, if_neg c, if_neg c]
theorem p_layL {h : tpH} {d : Nat} (l9 : lHi h d) {F : Nat → Nat → Int32} {vs : List mV} (hV : ∀ (i : Nat) (e : mV), vs[i]? = some e → F (d + 4) i = nO e.2.1) (hv : vsO vs) (h3 : vs.length ≤ 30) {a : Nat} (ha : a < vs.length) {R : Int32 → tpH → Prop} :
    ∀ (n v : Nat) (A : List Nat), v < vs.length → A.length + v < 30 → v + 1 < n → (∀ l, lnO vs a (v + 1) v = some l → R 1 (wI h (uLn F d (A ++ l)))) → (lnO vs a (v + 1) v = none → ∀ B, R 0 (wI h (uLn F d B))) → w_Hi_layLine_10 R n d (nI a) (nI v) (nI A.length) (wI h (uLn F d A))
  | 0, v, A, h1, h2, h4, k1, k0 => by omega
  | n + 1, v, A, h1, h2, h4, k1, k0 => by
    have e30 : (30 : Int32) = nI 30 := rfl
    obtain ⟨t9, _, ⟨b1, b2⟩, _, _, ⟨d1, d2⟩⟩ := id l9
    have e6 : ∀ G : Nat → Nat → Int32, hI (wI h G) d 6 = G d 6 := fun G => rfl
    show b_Hi_layLine_10 R (w_Hi_layLine_10 R n) d (nI a) (nI v) (nI A.length) (wI h (uLn F d A))
    refine ⟨fun e => ?_, fun _ => ⟨fun e => absurd e (nI_ne_m (by omega)), fun _ => ⟨t9, d + 9, d1, d2.1, ?_⟩⟩⟩
    · rw [e30] at e
      have := (nI_le_iff (by omega) (by omega)).mp e
      omega
    · have eu6 : hI (wI h (uLn F d A)) d 6 = nI A.length := tpu_s _ _ _ _
      rw [eu6]
      refine p_put (rwL_w d2) (by decide) ⟨t9, fun h9 e9 => ?_⟩
      have er : rPut (hI (wI h (uLn F d A))) (d + 10) 30 (nI A.length) (nI v) = tpu (lay F (d + 10) (A ++ [v])) d 6 (nI A.length) := by
        rw [wI_I, rPut_n (by omega) (by decide), ← lay_put]
        unfold uLn
        funext b j
        simp only [tpu]
        by_cases c : b = d + 10 ∧ j = A.length
        · rw [if_pos c, if_neg (by omega), if_pos c]
        · rw [if_neg c, if_neg c]
      rw [wI_wI, er] at e9
      rw [wI_I, tpu_s, sI_wI, wI_wI, wI_I, uLn_s] at e9
      subst e9
      have kl : lnO vs a (v + 1) v = if v = a then some [v] else match fsO vs v with
        | none => none
        | some f => (lnO vs a v f).map (fun l => v :: l) := rfl
      refine ⟨fun e => ⟨d + 3, b1, b2.1, p_at (rwL_w b2) (by decide) ?_⟩, fun e => ?_⟩
      · have hne : v ≠ a := fun g => e (by rw [g])
        rw [if_neg hne] at kl
        have hvv := List.getElem?_eq_getElem h1
        have ev : rAt (hI (wI h (uLn F d (A ++ [v]))) (d + 4)) 30 (nI v) = nO (fsO vs v) := by
          rw [rAt_n (by omega) (by decide), wI_I]
          unfold uLn
          rw [tpu_a _ _ _ _ _ _ (by omega), lay_ne _ _ (by omega), hV v _ hvv]
          unfold fsO
          rw [hvv]
          rfl
        rw [ev]
        cases ef : fsO vs v with
        | none =>
          rw [ef] at kl
          have k := k0 kl (A ++ [v])
          obtain ⟨n', rfl⟩ : ∃ n', n = n' + 1 := ⟨n - 1, by omega⟩
          show b_Hi_layLine_10 R (w_Hi_layLine_10 R n') d (nI a) (-1) (nI A.length + 1) (wI h (uLn F d (A ++ [v])))
          exact ⟨fun _ => k, fun _ => ⟨fun _ => k, fun e => absurd rfl e⟩⟩
        | some f =>
          have hf := fsO_lt hv ef
          rw [ef] at kl
          have kl : lnO vs a (v + 1) v = (lnO vs a v f).map (fun l => v :: l) := kl
          rw [lnO_f hv v (f + 1) f (by omega) (by omega)] at kl
          have ih := p_layL (h := h) (d := d) l9 hV hv h3 ha (R := R) n f (A ++ [v]) (by omega) (by rw [List.length_append]; show A.length + 1 + f < 30; omega) (by omega) (fun l hl => ?_) (fun hl B => ?_)
          · rw [List.length_append] at ih
            show w_Hi_layLine_10 R n d (nI a) (nI f) (nI A.length + 1) _
            rw [nI_1]
            exact ih
          · rw [List.append_assoc]
            exact k1 (v :: l) (by rw [kl, hl]; rfl)
          · exact k0 (by rw [kl, hl]; rfl) B
      · have hne : v = a := nI_inj (by omega) (by omega) e
        rw [if_pos hne] at kl
        exact k1 [v] kl
end LINE
