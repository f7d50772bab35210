section LOOK
theorem nI_half (a : Nat) (h : a < 2 ^ 31) : nI a / 2 = nI (a / 2) := by
  have e2 : (2 : Int32).toInt = 2 := rfl
  refine Int32.toInt_inj.mp ?_
  rw [Int32.toInt_div, nI_toInt h, nI_toInt (by omega), e2, Int.tdiv_eq_ediv_of_nonneg (by omega), Int.bmod_eq_of_le (by omega) (by omega)]
  omega
def shB (fr : List mT) (vs : List mV) (kd : Nat → Int32) (k w : Int32) (v : Nat) : Prop := ∃ t, vT fr vs v = some t ∧ shT kd k w t
noncomputable def bsr (P : Nat → Prop) : Nat → Nat → Nat → Nat
  | 0, lo, _ => lo
  | n + 1, lo, hi => if lo < hi then (@ite Nat (P ((lo + hi) / 2)) (Classical.propDecidable _) (bsr P n lo ((lo + hi) / 2)) (bsr P n ((lo + hi) / 2 + 1) hi)) else lo
theorem bsr_0 (P : Nat → Prop) (n lo hi : Nat) (h : ¬ lo < hi) : bsr P n lo hi = lo := by
  cases n with
  | zero => rfl
  | succ n => exact if_neg h
theorem bsr_y {P : Nat → Prop} {n lo hi : Nat} (h : lo < hi) (hp : P ((lo + hi) / 2)) : bsr P (n + 1) lo hi = bsr P n lo ((lo + hi) / 2) := by
  show (if lo < hi then _ else _) = _
  rw [if_pos h]
  exact @if_pos _ (Classical.propDecidable _) hp _ _ _
theorem bsr_n {P : Nat → Prop} {n lo hi : Nat} (h : lo < hi) (hp : ¬ P ((lo + hi) / 2)) : bsr P (n + 1) lo hi = bsr P n ((lo + hi) / 2 + 1) hi := by
  show (if lo < hi then _ else _) = _
  rw [if_pos h]
  exact @if_neg _ (Classical.propDecidable _) hp _ _ _
theorem bsr_f (P : Nat → Prop) : ∀ (n n' lo hi : Nat), hi - lo ≤ n → hi - lo ≤ n' → bsr P n lo hi = bsr P n' lo hi
  | 0, n', lo, hi, h1, h2 => by rw [bsr_0 P 0 lo hi (by omega), bsr_0 P n' lo hi (by omega)]
  | n + 1, 0, lo, hi, h1, h2 => by rw [bsr_0 P (n + 1) lo hi (by omega), bsr_0 P 0 lo hi (by omega)]
  | n + 1, n' + 1, lo, hi, h1, h2 => by
    by_cases c : lo < hi
    · by_cases g : P ((lo + hi) / 2)
      · rw [bsr_y c g, bsr_y c g, bsr_f P n n' lo _ (by omega) (by omega)]
      · rw [bsr_n c g, bsr_n c g, bsr_f P n n' _ hi (by omega) (by omega)]
    · rw [bsr_0 P _ lo hi c, bsr_0 P _ lo hi c]
theorem bsr_le (P : Nat → Prop) : ∀ (n lo hi : Nat), lo ≤ hi → bsr P n lo hi ≤ hi
  | 0, lo, hi, h => h
  | n + 1, lo, hi, h => by
    by_cases c : lo < hi
    · by_cases g : P ((lo + hi) / 2)
      · rw [bsr_y c g]
        have := bsr_le P n lo ((lo + hi) / 2) (by omega)
        omega
      · rw [bsr_n c g]
        exact bsr_le P n _ hi (by omega)
    · rw [bsr_0 P _ lo hi c]; exact h
/-- the version at a place of the line, counted from the earlier end -/
def lnC (l : List Nat) (i : Nat) : Nat := (l[l.length - 1 - i]?).getD 0
theorem lnC_at {l : List Nat} {i : Nat} (h : i < l.length) : l[l.length - 1 - i]? = some (lnC l i) := by
  unfold lnC
  rw [List.getElem?_eq_getElem (by omega)]
  rfl
noncomputable def lnW (fr : List mT) (vs : List mV) (kd : Nat → Int32) (k w : Int32) (l : List Nat) : Nat := lnC l (bsr (fun i => shB fr vs kd k w (lnC l i)) 30 0 (l.length - 1))
noncomputable def gLook (fr : List mT) (vs : List mV) (kd : Nat → Int32) (k w : Int32) (l : List Nat) : Int32 := @ite Int32 (shB fr vs kd k w (lnW fr vs kd k w l)) (Classical.propDecidable _) (nI (lnW fr vs kd k w l)) (-1)
theorem gLook_y {fr : List mT} {vs : List mV} {kd : Nat → Int32} {k w : Int32} {l : List Nat} (h : shB fr vs kd k w (lnW fr vs kd k w l)) : gLook fr vs kd k w l = nI (lnW fr vs kd k w l) := @if_pos _ (Classical.propDecidable _) h _ _ _
theorem gLook_n {fr : List mT} {vs : List mV} {kd : Nat → Int32} {k w : Int32} {l : List Nat} (h : ¬ shB fr vs kd k w (lnW fr vs kd k w l)) : gLook fr vs kd k w l = -1 := @if_neg _ (Classical.propDecidable _) h _ _ _
/-! the one side -/
def lkS (h : tpH) (o p D mk : Nat) (kd idn : Nat → Int32) (fr : List mT) (vs : List mV) (l : List Nat) : Prop :=
  lTP h o p ∧ FoP h (hI h) o p D fr ∧ HiP (hI h) p vs ∧ MaP (hI h) p mk kd idn ∧ hI h (p + 90) 6 = nI l.length ∧ ∀ j v, l[j]? = some v → hI h (p + 100) j = nI v
theorem p_onLine {h : tpH} {o p D mk : Nat} {kd idn : Nat → Int32} {fr : List mT} {vs : List mV} {l : List Nat} (S : lkS h o p D mk kd idn fr vs l) (hl : l.length ≤ 30) {i : Nat} (hi : i < l.length) {R : Int32 → tpH → Prop} (k : R (nI (lnC l i)) h) : w_Hi_onLine (p + 90) (nI i) h R := by
  obtain ⟨t9, _, _, _, _, ⟨d1, d2⟩⟩ := lTP_hiL S.1
  refine ⟨t9, p + 99, d1, d2.1, p_at d2 (by decide) ?_⟩
  have e1 : nI l.length - 1 = nI (l.length - 1) := nI_sub2 (b := 1) (by omega)
  rw [S.2.2.2.2.1, e1, nI_sub2 (by omega), rAt_n (by omega) (by decide)]
  show R (hI h (p + 100) (l.length - 1 - i)) h
  rw [S.2.2.2.2.2 _ _ (lnC_at hi)]
  exact k
theorem lTP_ma {h : tpH} {x p : Nat} (l : lTP h x p) : hR h x 0 = some (p + 0) ∧ lMa h (p + 0) := by
  obtain ⟨t0, r0, o0, _⟩ := l
  exact ⟨r0, o0⟩
theorem p_lkT {h : tpH} {o p D mk : Nat} {kd idn : Nat → Int32} {fr : List mT} {vs : List mV} {l : List Nat} (S : lkS h o p D mk kd idn fr vs l) (hk : mk ≤ 300) (hw : ∀ (i : Nat) (t : mT), fr[i]? = some t → tWF 300 t) (hmk : ∀ (i : Nat) (t : mT), fr[i]? = some t → ∀ m, tIn t m = true → m < mk) (hTv : vsT fr vs) {v : Nat} (hv : v < vs.length) {k w : Int32} {X : String → tpH → Prop} {R : Int32 → tpH → Prop} (k1 : shB fr vs kd k w v → R 1 h) (k0 : ¬ shB fr vs kd k w v → R 0 h) :
    w_TP_treeOfVersion o (nI v) h X (fun v9 h8 => hT h8 o = 13 ∧ (∃ a11, v9 = some a11 ∧ hT h8 a11 = 12 ∧ (w_Tr_shows a11 (hR h8 o 0) k w h8 R))) := by
  obtain ⟨r0, o0⟩ := lTP_ma S.1
  refine p_treeOfV S.1 S.2.1 S.2.2.1 hTv hv (fun t a mk' ht ⟨j, hj⟩ b1 b2 b3 b4 => ⟨S.1.1, a, rfl, b1.1, ?_⟩)
  rw [r0]
  exact p_Tr_shows (p := p + 0) o0 S.2.2.2.1 hk b1 b2 b3 (hw j t hj) (hmk j t hj) (fun g => k1 ⟨t, ht, g⟩) (fun g => k0 (fun ⟨t', e, g'⟩ => g (by rw [ht] at e; rw [Option.some.inj e]; exact g')))
theorem p_lk129 {h : tpH} {o p D mk : Nat} {kd idn : Nat → Int32} {fr : List mT} {vs : List mV} {l : List Nat} (S : lkS h o p D mk kd idn fr vs l) (hl : l.length ≤ 30) (hlv : ∀ v ∈ l, v < vs.length) (hk : mk ≤ 300) (hw : ∀ (i : Nat) (t : mT), fr[i]? = some t → tWF 300 t) (hmk : ∀ (i : Nat) (t : mT), fr[i]? = some t → ∀ m, tIn t m = true → m < mk) (hTv : vsT fr vs) {lo : Nat} (hlo : lo < l.length) {k w : Int32} {X : String → tpH → Prop} {R : Int32 → tpH → Prop} (k1 : shB fr vs kd k w (lnC l lo) → R (nI (lnC l lo)) h) (k0 : ¬ shB fr vs kd k w (lnC l lo) → R (-1) h) : w_TP_look_129 R X o k w (nI lo) h := by
  have hv := hlv _ (List.mem_of_getElem? (lnC_at hlo))
  refine ⟨S.1.1, p + 90, lTP_hi S.1, (lTP_hiL S.1).1, p_onLine S hl hlo ⟨S.1.1, p_lkT S hk hw hmk hTv hv (fun g => ⟨fun e => absurd e (by decide), fun _ => k1 g⟩) (fun g => ⟨fun _ => k0 g, fun e => absurd rfl e⟩)⟩⟩
theorem p_lk61 {h : tpH} {o p D mk : Nat} {kd idn : Nat → Int32} {fr : List mT} {vs : List mV} {l : List Nat} (S : lkS h o p D mk kd idn fr vs l) (hl : l.length ≤ 30) (hlv : ∀ v ∈ l, v < vs.length) (hk : mk ≤ 300) (hw : ∀ (i : Nat) (t : mT), fr[i]? = some t → tWF 300 t) (hmk : ∀ (i : Nat) (t : mT), fr[i]? = some t → ∀ m, tIn t m = true → m < mk) (hTv : vsT fr vs) {k w : Int32} {X : String → tpH → Prop} {R : Int32 → tpH → Prop} :
    ∀ (n c lo hi : Nat), lo ≤ hi → hi < l.length → c + (hi - lo) ≤ 29 → c + (hi - lo) + 1 < n + c + 1 → (w_TP_look_129 R X o k w (nI (bsr (fun i => shB fr vs kd k w (lnC l i)) 30 lo hi)) h) → w_TP_look_61 R X n o k w (nI lo) (nI hi) (nI c) h
  | 0, c, lo, hi, h1, h2, h3, h4, kk => by omega
  | n + 1, c, lo, hi, h1, h2, h3, h4, kk => by
    have e30 : (30 : Int32) = nI 30 := rfl
    refine ⟨fun e => ?_, fun _ => ⟨fun e => ?_, fun e => ?_⟩⟩
    · rw [e30] at e
      have := (nI_le_iff (by omega) (by omega)).mp e
      omega
    · have := (nI_le_iff (by omega) (by omega)).mp e
      rw [bsr_0 _ _ _ _ (by omega)] at kk
      exact kk
    · have hlt : lo < hi := by
        refine Classical.byContradiction fun g => e ((nI_le_iff (by omega) (by omega)).mpr (by omega))
      have em : (nI lo + nI hi) / 2 = nI ((lo + hi) / 2) := by rw [nI_add, nI_half _ (by omega)]
      rw [em]
      have hmid : (lo + hi) / 2 < l.length := by omega
      have hv := hlv _ (List.mem_of_getElem? (lnC_at hmid))
      refine ⟨S.1.1, p + 90, lTP_hi S.1, (lTP_hiL S.1).1, p_onLine S hl hmid ⟨S.1.1, p_lkT S hk hw hmk hTv hv (fun g => ⟨fun e => absurd e (by decide), fun _ => ?_⟩) (fun g => ⟨fun _ => ?_, fun e => absurd rfl e⟩)⟩⟩
      · rw [nI_1]
        refine p_lk61 S hl hlv hk hw hmk hTv n (c + 1) lo ((lo + hi) / 2) (by omega) (by omega) (by omega) (by omega) ?_
        rw [bsr_f _ 30 31 lo hi (by omega) (by omega), bsr_y (P := fun i => shB fr vs kd k w (lnC l i)) hlt g] at kk
        exact kk
      · rw [nI_1, nI_1]
        refine p_lk61 S hl hlv hk hw hmk hTv n (c + 1) ((lo + hi) / 2 + 1) hi (by omega) (by omega) (by omega) (by omega) ?_
        rw [bsr_f _ 30 31 lo hi (by omega) (by omega), bsr_n (P := fun i => shB fr vs kd k w (lnC l i)) hlt g] at kk
        exact kk
def lkA (vs : List mV) (x y : Int32) : Prop := (∃ e, lstAt vs x = some e) ∧ ∃ e, lstAt vs y = some e
def lkB (k w : Int32) : Prop := (0 ≤ k.toInt ∧ k.toInt ≤ 5) ∧ (0 ≤ w.toInt ∧ w.toInt ≤ 99)
def lkL (vs : List mV) (x y : Int32) : Option (List Nat) := lnO vs x.toInt.toNat (y.toInt.toNat + 1) y.toInt.toNat
def lkF (p : Nat) (F G : Nat → Nat → Int32) : Prop := ∀ b j, ¬ ((b = p + 90 ∧ j = 6) ∨ b = p + 100) → G b j = F b j
theorem uLn_fr (F : Nat → Nat → Int32) (p : Nat) (A : List Nat) : lkF p F (uLn F (p + 90) A) := fun b j hb => by
  unfold uLn
  rw [show tpu (lay F (p + 90 + 10) A) (p + 90) 6 (nI A.length) b j = lay F (p + 90 + 10) A b j by simp only [tpu]; rw [if_neg (by omega)], lay_ne _ _ (by omega)]
theorem p_TP_look {h : tpH} {o p D mk : Nat} {kd idn : Nat → Int32} (l : lTP h o p) (hop : o < p) (hpD : p + 101 ≤ D) (hDz : D ≤ hZ h) {fr : List mT} (hF : FoP h (hI h) o p D fr) (hM : MaP (hI h) p mk kd idn) (hk : mk ≤ 300) (hw : ∀ (i : Nat) (t : mT), fr[i]? = some t → tWF 300 t) (hmk : ∀ (i : Nat) (t : mT), fr[i]? = some t → ∀ m, tIn t m = true → m < mk) {vs : List mV} (hV : HiP (hI h) p vs) (hTv : vsT fr vs) {x y k w : Int32} {X : String → tpH → Prop} {R : Int32 → tpH → Prop}
    (x1 : ¬ lkA vs x y → X "java/lang/IndexOutOfBoundsException" (nC h 0 0 6)) (x2 : lkA vs x y → ¬ lkB k w → X "java/lang/IllegalArgumentException" (nC h 0 0 6)) (x3 : lkA vs x y → lkB k w → lkL vs x y = none → ∀ G, lkF p (hI h) G → X "java/lang/IllegalStateException" (nC (wI h G) 0 0 6))
    (kk : lkA vs x y → lkB k w → ∀ ln, lkL vs x y = some ln → ∀ G, lkF p (hI h) G → R (gLook fr vs kd k w ln) (wI h G)) : w_TP_look o x y k w h X R := by
  have h3 := hTv.1
  refine ⟨l.1, p_TP_needVersion l hV h3 (fun e => x1 (fun ⟨⟨e1, g⟩, _⟩ => by rw [e] at g; simp at g)) (fun i e ex hi hl => ⟨l.1, p_TP_needVersion l hV h3 (fun e => x1 (fun ⟨_, e1, g⟩ => by rw [e] at g; simp at g)) (fun j e' ey hj hl' => ⟨l.1, ?_⟩)⟩)⟩
  have A : lkA vs x y := ⟨⟨e, hl⟩, e', hl'⟩
  refine p_TP_needKind (fun gk => ⟨l.1, p_TP_needValue (fun gw => ⟨l.1, p + 90, lTP_hi l, (lTP_hiL l).1, ?_⟩) (fun g => x2 A (fun b => g b.2))⟩) (fun g => x2 A (fun b => g b.1))
  have B : lkB k w := ⟨gk, gw⟩
  have hil := (List.getElem?_eq_some_iff.mp hi).1
  have hjl := (List.getElem?_eq_some_iff.mp hj).1
  refine ⟨(lTP_hiL l).1, fun h2 e2 => ⟨j + 2, ?_⟩⟩
  have e3 : h2 = wI h (uLn (hI h) (p + 90) []) := by
    rw [e2]
    unfold uLn
    rw [lay_nil]
    rfl
  subst e3
  have exi : x.toInt.toNat = i := by rw [ex, nI_toInt (by omega)]; omega
  have eyj : y.toInt.toNat = j := by rw [ey, nI_toInt (by omega)]; omega
  unfold lkL at x3 kk
  rw [exi, eyj] at x3 kk
  rw [ex, ey]
  refine p_layL (lTP_hiL l) (fun a e ha => (hV.2 a e ha).2.1) hTv.2.1 h3 hil (j + 2) j [] hjl (by show 0 + j < 30; omega) (by omega) (fun ln hln => ?_) (fun hn B' => ⟨fun e => absurd rfl e, fun _ => x3 A B hn _ (uLn_fr _ _ _)⟩)
  obtain ⟨i1, i2, i3⟩ := lnO_in hTv.2.1 _ _ ln hjl hln
  rw [List.nil_append]
  have hlen : 0 < ln.length := List.length_pos_iff.mpr i2
  have fU := uLn_fr (hI h) p ln
  have fF : hFr h (wI h (uLn (hI h) (p + 90) ln)) (fun b j => (b = p + 90 ∧ j = 6) ∨ b = p + 100) (fun _ _ => False) := hFr_w h _ (fun b j hb => fU b j hb)
  have S : lkS (wI h (uLn (hI h) (p + 90) ln)) o p D mk kd idn fr vs ln := by
    refine ⟨l, FoP_fr hF (by omega) hpD hDz fF (fun g => by omega) (fun b j hb g => by omega) (fun b j hb g => g.elim) (fun i _ g => g.elim), HiP_fr hV (fU _ _ (by omega)) (fun b b1 b2 => funext fun j => fU _ _ (by omega)), MaP_k hM (fun b b1 b2 => funext fun j => fU _ _ (by omega)), tpu_s _ _ _ _, fun j v hj => ?_⟩
    show uLn (hI h) (p + 90) ln (p + 100) j = nI v
    unfold uLn
    rw [tpu_a _ _ _ _ _ _ (by omega)]
    exact lay_at _ _ hj
  refine ⟨fun _ => ⟨l.1, p + 90, lTP_hi l, (lTP_hiL l).1, 31, ?_⟩, fun e => absurd e (by decide)⟩
  have e6 : hI (wI h (uLn (hI h) (p + 90) ln)) (p + 90) 6 - 1 = nI (ln.length - 1) := by rw [S.2.2.2.2.1]; exact nI_sub2 (b := 1) (by omega)
  rw [e6]
  have kv := kk A B ln hln _ fU
  have hb := bsr_le (fun i => shB fr vs kd k w (lnC ln i)) 30 0 (ln.length - 1) (by omega)
  refine p_lk61 S (by omega) i1 hk hw hmk hTv 31 0 0 (ln.length - 1) (by omega) (by omega) (by omega) (by omega) (p_lk129 S (by omega) i1 hk hw hmk hTv (by omega) (fun g => ?_) (fun g => ?_))
  · rw [gLook_y g] at kv; exact kv
  · rw [gLook_n g] at kv; exact kv
end LOOK
