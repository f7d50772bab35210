section ORDERS
theorem trnB_cg {f g : Nat → Nat} : ∀ {D : List Nat}, (∀ x ∈ D, ∀ y ∈ D, f y < f x ↔ g y < g x) → trnB f D = trnB g D
  | [], _ => rfl
  | [_], _ => rfl
  | x :: y :: D, h => by
    show (decide (f y < f x) || trnB f (y :: D)) = (decide (g y < g x) || trnB g (y :: D))
    rw [trnB_cg (f := f) (g := g) (D := y :: D) (fun a ha c hc => h a (List.mem_cons_of_mem _ ha) c (List.mem_cons_of_mem _ hc))]
    have := h x List.mem_cons_self y (List.mem_cons_of_mem _ List.mem_cons_self)
    rw [decide_eq_decide.mpr this]
theorem pw_idx {f : Nat → Nat} {S : List Nat} (hp : S.Pairwise (fun a c => f a < f c)) {x y : Nat} (hx : x ∈ S) (hy : y ∈ S) : S.idxOf y < S.idxOf x ↔ f y < f x := by
  have key : ∀ {a c : Nat}, a ∈ S → c ∈ S → S.idxOf a < S.idxOf c → f a < f c := fun {a c} ha hc h => by
    have ia := List.idxOf_lt_length_iff.mpr ha
    have ic := List.idxOf_lt_length_iff.mpr hc
    have := List.pairwise_iff_getElem.mp hp _ _ ia ic h
    rw [List.getElem_idxOf, List.getElem_idxOf] at this
    exact this
  refine ⟨key hy hx, fun h => ?_⟩
  rcases Nat.lt_trichotomy (S.idxOf y) (S.idxOf x) with q | q | q
  · exact q
  · have ix := List.idxOf_lt_length_iff.mpr hx
    have iy := List.idxOf_lt_length_iff.mpr hy
    have e1 : S[S.idxOf x] = x := List.getElem_idxOf ix
    have e2 : S[S.idxOf y] = y := List.getElem_idxOf iy
    have : x = y := by
      rw [← e1, ← e2]
      congr 1
      exact q.symm
    rw [this] at h
    omega
  · have := key hx hy q
    omega
theorem ki_pl {t : mT} (hw : tWF 300 t) {p : Nat} (hp : tIn t p = true) : (tKi t p).Pairwise (fun a c => pl t a < pl t c) := by
  refine List.pairwise_iff_getElem.mpr (fun i j hi hj hij => ?_)
  have ei : tKi t p = (tKi t p).take i ++ (tKi t p)[i] :: (tKi t p).drop (i + 1) := by rw [List.getElem_cons_drop, List.take_append_drop]
  have ej : tKi t p = (tKi t p).take j ++ (tKi t p)[j] :: (tKi t p).drop (j + 1) := by rw [List.getElem_cons_drop, List.take_append_drop]
  rw [pl_ki hw hp ei, pl_ki hw hp ej]
  have el : (tKi t p).take j = (tKi t p).take i ++ (tKi t p)[i] :: ((tKi t p).take j).drop (i + 1) := by
    have h1 : ((tKi t p).take j).take i = (tKi t p).take i := by rw [List.take_take, Nat.min_eq_left (by omega)]
    have hl : i < ((tKi t p).take j).length := by rw [List.length_take]; omega
    have h2 : ((tKi t p).take j)[i] = (tKi t p)[i] := List.getElem_take
    rw [← h1, ← h2, List.getElem_cons_drop, List.take_append_drop]
  rw [el, List.flatMap_append, List.length_append, List.flatMap_cons, List.length_append, tPo_eq hw.1.2.2.2.1, List.length_cons]
  omega
theorem trn_eq {b : mT} (hw : tWF 300 b) {s : mgS} {p : Nat} {D : List Nat} (hD : ∀ x ∈ D, x ∈ shL b s p) : trnB (fun x => (shL b s p).idxOf x) D = trnB (pl b) D := by
  cases D with
  | nil => rfl
  | cons d D =>
    have hd := (hw.1.2.1 d p).mp (shL_sub d (hD d List.mem_cons_self))
    have hp := hw.1.2.2.2.2 d p hd.1 hd.2
    exact trnB_cg (fun x hx y hy => pw_idx ((ki_pl hw hp).filter _) (hD x hx) (hD y hy))
theorem sdL_bb {b : mT} {s : mgS} {p : Nat} : sdL b b s p = shL b s p := by
  unfold sdL
  conv => rhs; unfold shL
  refine List.filter_congr (fun x hx => ?_)
  by_cases c : sUp s x = some p
  · rw [decide_eq_true c, decide_eq_true]
    exact List.mem_filter.mpr ⟨hx, decide_eq_true c⟩
  · rw [decide_eq_false c, decide_eq_false]
    exact fun q => c (of_decide_eq_true (List.mem_filter.mp q).2)
/-- what stands while a merged tree is looked through -/
def oC (h : tpH) (tb tl tr t k g : Nat) (b l r : mT) (s : mgS) (po : Nat → Int32) : Prop := (bR h (hI h) tb b ∧ bR h (hI h) tl l ∧ bR h (hI h) tr r) ∧ (iA h t 41 ∧ mRo (hI h) t s) ∧ iA h k 40 ∧ (iA h g 6 ∧ ∀ j, j < 6 → hI h g j = po j) ∧ (tb < hZ h ∧ tl < hZ h ∧ tr < hZ h ∧ t < hZ h ∧ k < hZ h ∧ g < hZ h)
theorem oC_fr {h h' : tpH} {T : Nat → Nat → Prop} {c u tb tl tr t k g : Nat} {b l r : mT} {s : mgS} {po : Nat → Int32} (H : oC h tb tl tr t k g b l r s po) (f : aFr h h' T c u) (n : ∀ x, x = tb ∨ x = tl ∨ x = tr ∨ x = t ∨ x = k ∨ x = g → ∀ j, ¬ T x j) : oC h' tb tl tr t k g b l r s po := by
  obtain ⟨⟨h1, h2, h3⟩, ⟨h4, h5⟩, h6, ⟨h7, h8⟩, z1, z2, z3, z4, z5, z6⟩ := H
  have zz := f.1.1
  refine ⟨⟨bR_fr h1 f z1 (n tb (by omega)), bR_fr h2 f z2 (n tl (by omega)), bR_fr h3 f z3 (n tr (by omega))⟩, ⟨aFr_iA f z4 h4, mR_k h5 (aFr_I f z4 (n t (by omega)))⟩, aFr_iA f z5 h6, ⟨aFr_iA f z6 h7, fun j hj => ?_⟩, by omega⟩
  rw [aFr_I f z6 (n g (by omega))]
  exact h8 j hj
theorem p_orders {h : tpH} {tb tl tr t k g r p mk R0 : Nat} {po : Nat → Int32} {b l rr : mT} {s : mgS} {lo : Nat → Bool} (HH : mgH mk R0 b l rr) (hmk : mk ≤ 39) (I : mgI mk R0 po b l rr s) (X : oC h tb tl tr t k g b l rr s po) (br : iA h r 42) (zr : r < hZ h) (dr : tb ≠ r ∧ tl ≠ r ∧ tr ≠ r ∧ t ≠ r ∧ k ≠ r ∧ g ≠ r) (hpo : po 5 = 0 ∨ po 5 = 1 ∨ po 5 = 2) (lb : tLo lo b) (ll : tLo lo l) (lr : tLo lo rr) (hp : p < 40) (hkp : hI h k p ≤ 3 ↔ lo p = false) (hlp : lo p = false) {R : Int32 → tpH → Prop}
    (kk : ∀ h', aFr h h' (oR r) 130 5200 → rwC (hI h') r (KF po mk b l rr s lo p) → R (lB (ldP po b l rr s p).2) h') : w_Lw_orders (some tb) (some tl) (some tr) (some t) (some k) (some g) (nI p) (some r) h R := by
  intro a1 h2 e1 e2 a5 h6 e5 e6 a9 h10 e9 e10 a13 h14 e13 e14 a17 h18 e17 e18
  have f2 : aFr h h2 nT0 1 40 := by rw [e2]; exact aFr_n h 40 40 _
  have f6 : aFr h2 h6 nT0 1 40 := by rw [e6]; exact aFr_n h2 40 40 _
  have f10 : aFr h6 h10 nT0 1 41 := by rw [e10]; exact aFr_n h6 41 41 _
  have f14 : aFr h10 h14 nT0 1 41 := by rw [e14]; exact aFr_n h10 41 41 _
  have f18 : aFr h14 h18 nT0 1 41 := by rw [e18]; exact aFr_n h14 41 41 _
  have z2 : hZ h2 = hZ h + 1 := by rw [e2]; rfl
  have z6 : hZ h6 = hZ h + 2 := by rw [e6]; show hZ h2 + 1 = _; rw [z2]
  have z10 : hZ h10 = hZ h + 3 := by rw [e10]; show hZ h6 + 1 = _; rw [z6]
  have z14 : hZ h14 = hZ h + 4 := by rw [e14]; show hZ h10 + 1 = _; rw [z10]
  have z18 : hZ h18 = hZ h + 5 := by rw [e18]; show hZ h14 + 1 = _; rw [z14]
  have f : aFr h h18 nT0 5 203 := aFr_tr (aFr_tr (aFr_tr (aFr_tr f2 f6 (fun _ _ _ q => q)) f10 (fun _ _ _ q => q)) f14 (fun _ _ _ q => q)) f18 (fun _ _ _ q => q)
  have b1 : iA h18 a1 40 := aFr_iA f18 (by omega) (aFr_iA f14 (by omega) (aFr_iA f10 (by omega) (aFr_iA f6 (by omega) (by rw [e1, e2]; exact iA_n h 40 40))))
  have b5 : iA h18 a5 40 := aFr_iA f18 (by omega) (aFr_iA f14 (by omega) (aFr_iA f10 (by omega) (by rw [e5, e6]; exact iA_n h2 40 40)))
  have b9 : iA h18 a9 41 := aFr_iA f18 (by omega) (aFr_iA f14 (by omega) (by rw [e9, e10]; exact iA_n h6 41 41))
  have b13 : iA h18 a13 41 := aFr_iA f18 (by omega) (by rw [e13, e14]; exact iA_n h10 41 41)
  have b17 : iA h18 a17 41 := by rw [e17, e18]; exact iA_n h14 41 41
  have br18 := aFr_iA f zr br
  have X18 := oC_fr X f (fun _ _ _ q => q)
  obtain ⟨-, -, -, -, y1, y2, y3, y4, y5, y6⟩ := id X
  obtain ⟨d1, d2, d3, d4, d5, d6⟩ := dr
  have hw := HH.1.1
  have kib : ∀ y ∈ tKi b p, y < mk := fun y hy => HH.2.2.2.1 y ((hw.1.2.1 y p).mp hy).1
  have S40 : ∀ y ∈ shL b s p, y < 40 := fun y hy => by have := kib y (shL_sub y hy); omega
  have nS : (shL b s p).Nodup := (hw.1.2.2.1 p).filter _
  have S39 : (shL b s p).length ≤ 39 := nd_lt nS (fun y hy => by have := kib y (shL_sub y hy); omega)
  have sdm : ∀ (T : mT), ∀ y ∈ sdL T b s p, y ∈ shL b s p := fun T y hy => of_decide_eq_true (List.mem_filter.mp hy).2
  have sdn : ∀ (T : mT), fWF 300 T → (sdL T b s p).Nodup := fun T qT => (qT.2.2.1 p).filter _
  have sdl : ∀ (T : mT), fWF 300 T → (sdL T b s p).length ≤ 39 := fun T qT => nd_lt (sdn T qT) (fun y hy => by have := kib y (shL_sub y (sdm T y hy)); omega)
  -- from the frames: what is written are the row r and new ones
  let TT : Nat → Nat → Prop := fun x _ => x = r ∨ hZ h ≤ x
  have nTT : ∀ x, x = tb ∨ x = tl ∨ x = tr ∨ x = t ∨ x = k ∨ x = g → ∀ j, ¬ TT x j := fun x hx j q => by
    have q : x = r ∨ hZ h ≤ x := q
    omega
  have hk18 : ∀ (h' : tpH) c u, aFr h h' TT c u → (hI h' k p ≤ 3 ↔ lo p = false) := fun h' c u f' => by
    rw [aFr_I f' y5 (nTT k (by omega))]
    exact hkp
  have toTT : ∀ {h1 h' : tpH} {T : Nat → Nat → Prop} {c u c' u' : Nat}, aFr h h1 TT c u → aFr h1 h' T c' u' → (∀ x j, T x j → TT x j) → aFr h h' TT (c + c') (u + u') := fun a b q => aFr_tr a b (fun x j _ => q x j)
  have F18 : aFr h h18 TT 5 203 := aFr_mono f (fun _ _ _ q => q.elim) (Nat.le_refl _) (Nat.le_refl _)
  have body : ∀ F, (∀ c, c ≠ a1 → F c = hI h18 c) → rwKs F a1 0 (tKi b p) → ∃ n, w_Lw_orders_61 R n (some tb) (some tl) (some tr) (some t) (some k) (some g) (nI p) (some r) (some a1) (some a5) (some a9) (some a13) (some a17) (nI (tKi b p).length) (0 : Int32) (0 : Int32) (wI h18 F) := fun F q1 q2 => by
    obtain ⟨c1, c2⟩ := ki_40 (p := p) X.1.1
    refine ⟨(tKi b p).length + 1, p_or61 (h := h18) (F0 := F) HH hmk I X18.2.1.1 b1 b5 ⟨by omega, by omega⟩ hp c1 c2 (mR_k X18.2.1.2 (q1 t (by omega))) q2 (fun G g1 g2 => ?_) _ 0 [] (tKi b p) F rfl rfl (Nat.lt_succ_self _) (fun _ _ => rfl) (rwG_nil _ _ _ _)⟩
    have g2 : rwKs G a5 0 (shL b s p) := g2
    show w_Lw_shares (some tl) (some k) (nI p) (some a5) (nI (shL b s p).length) (some a9) (wI h18 G) _
    -- heap A
    have FA : aFr h (wI h18 G) TT 5 203 := by
      have q := toTT F18 (c' := 0) (u' := 0) (aFr_w (h := h18) (F := hI h18) (G := G) (T := fun x _ => x = a1 ∨ x = a5) (fun x j hx => by rw [g1 x (by omega), q1 x (by omega)])) (fun x j q => Or.inr (by omega))
      exact q
    have XA := oC_fr X FA nTT
    refine p_shares (h := wI h18 G) XA.1.2.1 ll XA.2.2.1 (show iA (wI h18 G) a5 40 from b5) (show iA (wI h18 G) a9 41 from b9) (by omega) ⟨by show tl < hZ h18; omega, by show k < hZ h18; omega, by show a5 < hZ h18; omega, by show a9 < hZ h18; omega⟩ hp (fun _ => hk18 _ _ _ FA) nS S40 (by omega) g2 (fun hB fB rB => ?_)
    have rB : rwC (hI hB) a9 (sdL l b s p) := rB
    have FB : aFr h hB TT 6 243 := toTT FA fB (fun x j q => Or.inr (by have q : x = a9 := q; omega))
    have XB := oC_fr X FB nTT
    have zB := fB.1.1
    have zA : hZ (wI h18 G) = hZ h + 5 := z18
    have b5B := aFr_iA fB (show a5 < hZ (wI h18 G) by omega) (show iA (wI h18 G) a5 40 from b5)
    have b9B := aFr_iA fB (show a9 < hZ (wI h18 G) by omega) (show iA (wI h18 G) a9 41 from b9)
    have b13B := aFr_iA fB (show a13 < hZ (wI h18 G) by omega) (show iA (wI h18 G) a13 41 from b13)
    have b17B := aFr_iA fB (show a17 < hZ (wI h18 G) by omega) (show iA (wI h18 G) a17 41 from b17)
    have brB := aFr_iA fB (show r < hZ (wI h18 G) by omega) (show iA (wI h18 G) r 42 from br18)
    have rSB : rwKs (hI hB) a5 0 (shL b s p) := rwG_k g2 (fun j _ _ => by rw [aFr_I fB (show a5 < hZ (wI h18 G) by omega) (fun j q => by have q : a5 = a9 := q; omega)]; rfl)
    refine p_shares (h := hB) XB.1.2.2 lr XB.2.2.1 b5B b13B (by omega) ⟨by omega, by omega, by omega, by omega⟩ hp (fun _ => hk18 _ _ _ FB) nS S40 (by omega) rSB (fun hC fC rC => ?_)
    have rC : rwC (hI hC) a13 (sdL rr b s p) := rC
    have FC : aFr h hC TT 7 283 := toTT FB fC (fun x j q => Or.inr (by have q : x = a13 := q; omega))
    have XC := oC_fr X FC nTT
    have zC := fC.1.1
    have b5C := aFr_iA fC (by omega) b5B
    have b9C := aFr_iA fC (by omega) b9B
    have b13C := aFr_iA fC (by omega) b13B
    have b17C := aFr_iA fC (by omega) b17B
    have brC := aFr_iA fC (by omega) brB
    have rSC : rwKs (hI hC) a5 0 (shL b s p) := rwG_k rSB (fun j _ _ => by rw [aFr_I fC (by omega) (fun j q => by have q : a5 = a13 := q; omega)])
    have r9C : rwC (hI hC) a9 (sdL l b s p) := rwC_k rB (aFr_I fC (by omega) (fun j q => by have q : a9 = a13 := q; omega))
    have tv1 : trnB (fun x => (shL b s p).idxOf x) (sdL l b s p) = trnB (pl b) (sdL l b s p) := trn_eq hw (sdm l)
    have tv2 : trnB (fun x => (shL b s p).idxOf x) (sdL rr b s p) = trnB (pl b) (sdL rr b s p) := trn_eq hw (sdm rr)
    show ∃ n, w_Lw_orders_139 R n (some tb) (some tl) (some tr) (some t) (some k) (some g) (nI p) (some r) (some a5) (some a9) (some a13) (some a17) (nI (shL b s p).length) (lB (trnB (fun x => (shL b s p).idxOf x) (sdL l b s p))) (lB (trnB (fun x => (shL b s p).idxOf x) (sdL rr b s p))) (1 : Int32) (0 : Int32) hC
    rw [tv1, tv2]
    generalize hv3 : trnB (pl b) (sdL l b s p) = v3
    generalize hv5 : trnB (pl b) (sdL rr b s p) = v5
    have l215 : ∀ t0 : Bool, (v3 && v5 && !decide (sdL l b s p = sdL rr b s p)) = t0 → w_Lw_orders_215 R (some tb) (some tl) (some tr) (some t) (some k) (some g) (nI p) (some r) (some a5) (some a9) (some a13) (some a17) (nI (shL b s p).length) (lB v3) (lB t0) hC := fun t0 ht0 => by
      refine p_shares (h := hC) XC.1.1 lb XC.2.2.1 b5C b17C (by omega) ⟨by omega, by omega, by omega, by omega⟩ hp (fun _ => hk18 _ _ _ FC) nS S40 (by omega) rSC (fun hD fD rD => ?_)
      have rD : rwC (hI hD) a17 (sdL b b s p) := rD
      rw [sdL_bb] at rD
      have FD : aFr h hD TT 8 323 := toTT FC fD (fun x j q => Or.inr (by have q : x = a17 := q; omega))
      have zD := fD.1.1
      have b5D := aFr_iA fD (by omega) b5C
      have b9D := aFr_iA fD (by omega) b9C
      have b13D := aFr_iA fD (by omega) b13C
      have b17D := aFr_iA fD (by omega) b17C
      have brD := aFr_iA fD (by omega) brC
      have r9D : rwC (hI hD) a9 (sdL l b s p) := rwC_k r9C (aFr_I fD (by omega) (fun j q => by have q : a9 = a17 := q; omega))
      have r13D : rwC (hI hD) a13 (sdL rr b s p) := rwC_k rC (aFr_I fD (by omega) (fun j q => by have q : a13 = a17 := q; omega))
      have rSD : rwKs (hI hD) a5 0 (shL b s p) := rwG_k rSC (fun j _ _ => by rw [aFr_I fD (by omega) (fun j q => by have q : a5 = a17 := q; omega)])
      refine ⟨r, rfl, brD.1, by rw [brD.2]; exact vp0 (by decide) (by decide), fun h7 e7 => ?_⟩
      rw [show (0 : Int32).toNatClampNeg = 0 from rfl, sI_wI] at e7
      subst e7
      generalize hG0 : tpu (hI hD) r 0 0 = G0
      have G0k : ∀ c, c ≠ r → G0 c = hI hD c := fun c hc => by rw [← hG0]; exact tpu_ne hc
      have G0r : rwC G0 r [] := ⟨by rw [← hG0]; exact tpu_s _ _ _ _, rwG_nil _ _ _ _⟩
      -- from a side's row on
      have go : ∀ (vs : Int32) (sd : Nat) (D : List Nat), ((vs = 0 ∧ sd = a17) ∨ (vs = 1 ∧ sd = a9) ∨ (vs = 2 ∧ sd = a13)) → iA hD sd 41 → sd ≠ r → D.length ≤ 39 → rwC (hI hD) sd D → ldP po b l rr s p = (D, t0) → ∃ n, w_Lw_orders_265 R n (some tb) (some tl) (some tr) (some t) (some k) (nI p) (some r) (some a5) (some a9) (some a13) (some a17) (nI (shL b s p).length) (lB t0) vs (1 : Int32) (wI hD G0) := fun vs sd D hvs bd dsd lD rDD eld => by
        refine ⟨D.length + 1, p_or265 (h := hD) (F0 := G0) hvs bd brD dsd lD (rwC_k rDD (G0k sd dsd)) (fun G k1 k2 => ?_) (D.length + 1) [] D G0 rfl (Nat.lt_succ_self _) (fun _ _ => rfl) G0r⟩
        have FE : aFr h (wI hD G) TT 8 323 := toTT FD (c' := 0) (u' := 0) (aFr_w (h := hD) (F := hI hD) (G := G) (T := oR r) (fun x j hx => by rw [k1 x hx, G0k x hx])) (fun x j q => Or.inl q)
        have XE := oC_fr X FE nTT
        have nD : D.Nodup := by
          have q := ldP_OK (po := po) hw.1 HH.1.2.1.1 HH.1.2.2.1 s p
          rw [eld] at q
          exact q.1
        have sD : ∀ x ∈ D, x ∈ shL b s p := by
          have q := ldP_or po b l rr s p
          rw [eld] at q
          rcases q with q | q | q
          · intro x hx; have q : D = _ := q; rw [q] at hx; exact sdm l x hx
          · intro x hx; have q : D = _ := q; rw [q] at hx; exact sdm rr x hx
          · intro x hx; have q : D = _ := q; rw [q] at hx; exact hx
        have oXE : oX (wI hD G) tb t k a5 r b (shL b s p) := ⟨⟨XE.1.1, XE.2.1.1, XE.2.2.1, b5D, brD⟩, ⟨XE.2.2.2.2.1, XE.2.2.2.2.2.2.2.1, XE.2.2.2.2.2.2.2.2.1, by show a5 < hZ hD; omega, by show r < hZ hD; omega⟩, ⟨d1, d4, d5, by omega⟩, rwG_k rSD (fun j _ _ => by rw [wI_I, k1 a5 (by omega), G0k a5 (by omega)])⟩
        refine ⟨(shL b s p).length + 1, p_or353 (po := po) (h1 := wI hD G) HH hmk oXE lb hp (hk18 _ _ _ FE) nD sD (fun h3 c3 f3 hc3 r3 => ⟨41, ?_⟩) _ [] (shL b s p) D (wI hD G) 0 rfl (Nat.lt_succ_self _) rfl nD sD (fun _ q => by cases q) (aFr_mono (aFr_w (h := hD) (F := G) (G := G) (T := oR r) (fun _ _ _ => rfl)) (fun _ _ _ q => q) (Nat.le_refl _) (Nat.le_refl _)) (Nat.le_refl _) k2⟩
        have f3T : aFr h h3 TT (8 + c3) (323 + 40 * c3) := toTT FE f3 (fun x j q => Or.inl q)
        have X3 := oC_fr X f3T nTT
        have z3 := f3.1.1
        have zE : hZ (wI hD G) = hZ hD := rfl
        have oX3 : oX h3 tb t k a5 r b (shL b s p) := ⟨⟨X3.1.1, X3.2.1.1, X3.2.2.1, aFr_iA f3 (by omega) b5D, aFr_iA f3 (by omega) brD⟩, ⟨X3.2.2.2.2.1, X3.2.2.2.2.2.2.2.1, X3.2.2.2.2.2.2.2.2.1, by omega, by omega⟩, ⟨d1, d4, d5, by omega⟩, rwG_k oXE.2.2.2 (fun j _ _ => by rw [aFr_I f3 (by omega) (fun j q => by have q : a5 = r := q; omega)])⟩
        have eb : ((shL b s p).foldl bsS (D, none)).1 = bsK po b l rr s p := by
          unfold bsK
          rw [eld]
        rw [eb] at r3
        have bOK := bsK_OK (po := po) hw.1 HH.1.2.1.1 HH.1.2.2.1 s p
        have bmem : ∀ x, x ∈ bsK po b l rr s p ↔ x ∈ shL b s p := bsK_mem eld sD
        refine p_or445 (po := po) (h1 := h3) HH hmk I oX3 X3.1.2.1 X3.1.2.2 ⟨X3.2.2.2.2.2.1, X3.2.2.2.2.2.2.1, d2, d3⟩ X3.2.1.2 ll lr hp (hk18 _ _ _ f3T) hlp bOK.1 bmem (fun h4 c4 f4 hc4 r4 => ?_) 41 0 _ h3 0 (Nat.zero_le _) (by omega) rfl bOK.1 (fun x => (bmem x).trans ⟨Or.inl, fun q => q.elim id (fun q => absurd q.1 (Nat.not_lt_zero _))⟩) ⟨hFr_mono (hFr_w h3 (G := hI h3) (T := nT0) (fun _ _ => False) (fun _ _ _ => rfl)) (fun _ _ _ q => q.elim) (fun _ _ _ q => q), Nat.le_refl _, Nat.le_refl _⟩ (Nat.le_refl _) r3
        have eK : (List.range mk).foldl (otS (lo p) l rr s p) (bsK po b l rr s p) = KF po mk b l rr s lo p := by
          unfold KF stK
          rw [hlp]
          rfl
        rw [eK] at r4
        have f4T := toTT f3T f4 (fun x j q => Or.inl q)
        have res := kk h4 (aFr_mono f4T (fun x j hx q => q.elim id (fun q => by omega)) (by omega) (by omega)) r4
        rw [eld] at res
        exact res
      cases t0 with
      | false =>
        refine ⟨fun _ => ⟨fun q3 => ?_, fun q3 => ?_⟩, fun q => absurd rfl q⟩
        · have e3 : v3 = false := by
            cases v3 with
            | false => rfl
            | true => exact absurd q3 (by decide)
          exact go 2 a13 (sdL rr b s p) (Or.inr (Or.inr ⟨rfl, rfl⟩)) b13D (by omega) (sdl rr HH.1.2.2.1) r13D (by unfold ldP; rw [if_pos (hv3.trans e3)])
        · have e3 : v3 = true := by
            cases v3 with
            | true => rfl
            | false => exact absurd rfl q3
          refine go 1 a9 (sdL l b s p) (Or.inr (Or.inl ⟨rfl, rfl⟩)) b9D (by omega) (sdl l HH.1.2.1.1) r9D ?_
          unfold ldP
          rw [if_neg (by rw [hv3, e3]; simp), if_pos]
          rw [hv5]
          cases e5 : v5 with
          | false => exact Or.inl rfl
          | true =>
            rw [e3, e5] at ht0
            refine Or.inr ?_
            by_cases c : sdL l b s p = sdL rr b s p
            · exact c
            · rw [decide_eq_false c] at ht0
              exact absurd ht0 (by decide)
      | true =>
        refine ⟨fun q => absurd q (by decide), fun _ => ⟨g, rfl, ?_⟩⟩
        have XD := oC_fr X FD nTT
        have eg : G0 g = hI hD g := G0k g d6
        refine ⟨XD.2.2.2.1.1.1, by rw [show hL (wI hD G0) g = 6 from XD.2.2.2.1.1.2]; exact vp_in_nI (n := 5) (by decide) (by decide), ?_⟩
        rw [show (5 : Int32).toNatClampNeg = 5 from rfl, wI_I, eg, XD.2.2.2.1.2 5 (by decide)]
        have e3 : v3 = true := by
          cases v3 with
          | true => rfl
          | false => exact absurd ht0 (by simp)
        have e5 : v5 = true := by
          cases v5 with
          | true => rfl
          | false => rw [e3] at ht0; exact absurd ht0 (by simp)
        have ne : ¬ sdL l b s p = sdL rr b s p := fun q => by
          rw [e3, e5, decide_eq_true q] at ht0
          exact absurd ht0 (by decide)
        have eld : ldP po b l rr s p = (if po 5 = 1 then sdL l b s p else if po 5 = 2 then sdL rr b s p else shL b s p, true) := by
          unfold ldP
          rw [if_neg (by rw [hv3, e3]; simp), if_neg (fun q => q.elim (fun q => by rw [hv5, e5] at q; cases q) ne)]
        rcases hpo with q | q | q
        · rw [q] at eld ⊢
          rw [if_neg (by decide), if_neg (by decide)] at eld
          exact go 0 a17 _ (Or.inl ⟨rfl, rfl⟩) b17D (by omega) S39 rD eld
        · rw [q] at eld ⊢
          rw [if_pos rfl] at eld
          exact go 1 a9 _ (Or.inr (Or.inl ⟨rfl, rfl⟩)) b9D (by omega) (sdl l HH.1.2.1.1) r9D eld
        · rw [q] at eld ⊢
          rw [if_neg (by decide), if_pos rfl] at eld
          exact go 2 a13 _ (Or.inr (Or.inr ⟨rfl, rfl⟩)) b13D (by omega) (sdl rr HH.1.2.2.1) r13D eld
    exact ⟨41, p_or139 (v3 := v3) (v5 := v5) b9C (aFr_iA fC (by omega) b13B) r9C rC (sdl l HH.1.2.1.1) (sdl rr HH.1.2.2.1) (fun y hy => S40 y (sdm l y hy)) (fun y hy => S40 y (sdm rr y hy)) (fun q => l215 true q) (fun q => l215 false q) 41 0 true (by omega) (by omega) (fun _ q => absurd q (Nat.lt_irrefl _)) (fun q => by cases q)⟩
  have qT := preL_rwT X.1.1.2.1 X.1.1.2.2
  refine p_place X18.1.1.1.1 X18.1.1.1.2 (by omega) (fun i e hi he => ⟨fun _ => ?_, fun q => absurd (nI_pos' ?_) q⟩) (fun nn => ⟨fun q => absurd q (by decide), fun _ => ?_⟩)
  · have hip : tIn b p = true := (qT.1 p).mpr ⟨e, List.mem_of_getElem? hi, he⟩
    exact p_kidsT (h := h18) (F := hI h18) X18.1.1 lb b1 X18.2.2.1 (by omega) (by omega) hp (fun _ => hk18 _ _ _ F18) hip (fun G g1 g2 => body G g1 g2)
  · have := (List.getElem?_eq_some_iff.mp hi).1
    have := X18.1.1.1.2.2.1
    omega
  · have hip : tIn b p = false := by
      cases q : tIn b p with
      | false => rfl
      | true =>
        obtain ⟨e, q1, q2⟩ := (qT.1 p).mp q
        exact absurd q2 (nn e q1)
    have e0 := ki_0 hw.1 hip
    rw [e0] at body
    exact body (hI h18) (fun _ _ => rfl) (rwG_nil _ _ _ _)
end ORDERS
