section MATCHC
/-! match and likeness -/
def nIn (t : mT) (C : Int32) : Bool := decide (0 ≤ C.toInt) && tIn t C.toInt.toNat
def rkB (kd idn : Nat → Int32) (t u : mT) : Bool := decide (kd (tRt t) = kd (tRt u)) && decide (idn (tRt t) = idn (tRt u))
def gC (kd idn : Nat → Int32) (fr : List mT) (A B : Int32) (f : mT → mT → Bool) : Nat := match lstAt fr A, lstAt fr B with
  | some t, some u => if f t u = true then (if rkB kd idn t u = true then 0 else 2) else 1
  | some _, none => 1
  | none, _ => 1
theorem nIn_c {t : mT} (hw : tWF 300 t) {C : Int32} : (∃ m, C = nI m ∧ m < 300 ∧ tIn t m = true ∧ nIn t C = true ∧ C.toInt.toNat = m) ∨ (nIn t C = false ∧ ∀ m, m < 2 ^ 31 → C = nI m → tIn t m = false) := by
  unfold nIn
  by_cases c : 0 ≤ C.toInt
  · have hy := Int32.toInt_lt C
    have ey : C = nI C.toInt.toNat := Int32.toInt_inj.mp (by rw [nI_toInt (by omega)]; omega)
    rw [decide_eq_true c, Bool.true_and]
    cases e : tIn t C.toInt.toNat with
    | true => exact Or.inl ⟨_, ey, hw.1.1 _ e, e, rfl, rfl⟩
    | false =>
      refine Or.inr ⟨rfl, fun m hm e2 => ?_⟩
      have : C.toInt.toNat = m := by rw [e2, nI_toInt hm]; omega
      rw [← this]
      exact e
  · rw [decide_eq_false c, Bool.false_and]
    refine Or.inr ⟨rfl, fun m hm e2 => ?_⟩
    rw [e2, nI_toInt hm] at c
    omega
theorem p_held {h : tpH} {a n mk o : Nat} {t : mT} {C : Int32} (l : lTr h a n mk) (hn : n ≤ 300) (hk : mk ≤ 300) (hw : tWF 300 t) (T : TrP (hI h) a t mk) (b4 : ∀ m, tIn t m = true → m < mk) {X : String → tpH → Prop} {R : tpH → Prop} (k1 : nIn t C = true → R h) (k0 : nIn t C = false → X "java/lang/IndexOutOfBoundsException" (nC h 0 0 6)) : w_TP_needHeld o (some a) C h X R := by
  refine ⟨a, rfl, l.1, ?_⟩
  show w_Tr_holds a C (wI h (hI h)) _
  rw [e_Tr_holds l hn hk]
  rcases nIn_c hw (C := C) with ⟨m, e, m3, hi, hb, _⟩ | ⟨hb, hno⟩
  · have b5 := b4 m hi
    have px := pl_lt hw hi
    have l3 := pO_le hw
    rw [e, rAt_n b5 (by omega), T.2.2 m b5, if_pos hi, if_neg (nI_ne_m (by omega))]
    exact ⟨fun _ => k1 hb, fun g => absurd g (by decide)⟩
  · have e1 : rAt (hI h (a + 18)) mk C = -1 := by
      unfold rAt
      by_cases c1 : C < 0
      · rw [if_pos c1]
      · by_cases c2 : Int32.ofNat mk ≤ C
        · rw [if_neg c1, if_pos c2]
        · rw [if_neg c1, if_neg c2]
          have c3 : 0 ≤ C.toInt := by
            refine Classical.byContradiction (fun q => c1 (Int32.lt_iff_toInt_lt.mpr ?_))
            have : (0 : Int32).toInt = 0 := by decide
            omega
          have hy := Int32.toInt_lt C
          have ey : C = nI C.toInt.toNat := Int32.toInt_inj.mp (by rw [nI_toInt (by omega)]; omega)
          have lt : C.toInt.toNat < mk := Classical.byContradiction (fun q => c2 (by rw [ey]; exact nI_le (by omega) (by omega)))
          rw [ey, nI_clamp (by omega), T.2.2 _ lt, if_neg (by rw [hno _ (by omega) ey]; exact Bool.false_ne_true)]
    rw [e1, if_pos rfl]
    exact ⟨fun g => absurd rfl g, fun _ => k0 hb⟩
theorem p_lkr {h : tpH} {o p D a mk1 b mk2 mk : Nat} {t u : mT} {kd idn : Nat → Int32} (l : lTP h o p) (hM : MaP (hI h) p mk kd idn) (hk : mk ≤ 300) (la : lTr h a (pO t).length mk1) (la2 : mk1 ≤ 300) (lb : lTr h b (pO u).length mk2) (lb2 : mk2 ≤ 300) (hw : tWF 300 t) (hu : tWF 300 u) (Ta : TrP (hI h) a t mk1) (Tb : TrP (hI h) b u mk2) (ht : ∀ m, tIn t m = true → m < mk) (hum : ∀ m, tIn u m = true → m < mk) {X : String → tpH → Prop} {R : tpH → Prop} (k1 : rkB kd idn t u = true → R h) (k0 : rkB kd idn t u = false → X "java/lang/IllegalStateException" (nC h 0 0 6)) : w_TP_needLikeRoots o (some a) (some b) h X R := by
  obtain ⟨t0, m0, m1, _⟩ := id l
  have l3 := pO_le hw
  have l4 := pO_le hu
  have p1 := pl_lt hw hw.2.1
  have p2 := pl_lt hu hu.2.1
  have a1 := ht _ hw.2.1
  have a2 := hum _ hu.2.1
  have z1 : (0 : Int32) = nI (pl t (tRt t)) := by rw [pl_rt hw]; rfl
  have z2 : (0 : Int32) = nI (pl u (tRt u)) := by rw [pl_rt hu]; rfl
  refine ⟨l.1, a, rfl, la.1, ?_⟩
  show w_Tr_markOf a 0 (wI h (hI h)) _
  rw [e_Tr_markOf la l3 la2, show rAt (hI h (a + 2)) (pO t).length 0 = nI (tRt t) from by rw [z1, rAt_n p1 (by omega)]; exact (Ta.2.1 _ hw.2.1).1]
  refine ⟨b, rfl, lb.1, ?_⟩
  rw [e_Tr_markOf lb l4 lb2, show rAt (hI h (b + 2)) (pO u).length 0 = nI (tRt u) from by rw [z2, rAt_n p2 (by omega)]; exact (Tb.2.1 _ hu.2.1).1]
  refine ⟨p, m0, m1.1, ?_⟩
  rw [e_Ma_agree (show lMa h p from m1), rAt_n (by omega) n300, rAt_n (by omega) n300, rAt_n (by omega) n300, rAt_n (by omega) n300, (hM.2 _ a1).1, (hM.2 _ a1).2, (hM.2 _ a2).1, (hM.2 _ a2).2]
  have e : rkB kd idn t u = true ↔ (kd (tRt t) = kd (tRt u) ∧ idn (tRt t) = idn (tRt u)) := by
    unfold rkB
    rw [Bool.and_eq_true, decide_eq_true_iff, decide_eq_true_iff]
  by_cases c : kd (tRt t) = kd (tRt u) ∧ idn (tRt t) = idn (tRt u)
  · rw [if_pos c]
    exact ⟨fun _ => k1 (e.mpr c), fun g => absurd g (by decide)⟩
  · rw [if_neg c]
    exact ⟨fun g => absurd rfl g, fun _ => k0 (Bool.eq_false_iff.mpr (fun q => c (e.mp q)))⟩
def seT (p : Nat) (c _j : Nat) : Prop := p + 37 ≤ c ∧ c ≤ p + 60
def seU (p : Nat) (c j : Nat) : Prop := c = p + 50 ∧ (j = 7 ∨ j = 8)
theorem p_setS {h : tpH} {x p D mk n : Nat} {kd idn : Nat → Int32} {dr : Option mT} {r : mRe} {rt : Nat → Bool} (hP : stP h x p D mk kd idn dr r n) (hxp : x < p) (hpD : p + 101 ≤ D) (hDz : D ≤ hZ h) (hm : mIn mk kd rt dr r) {i j : Nat} {t u : mT} {a mk1 b mk2 : Nat} (hi : r.1[i]? = some t) (hj : r.1[j]? = some u) (ha : hR h (p + 35) i = some a) (hb : hR h (p + 35) j = some b) (la : lTr h a (pO t).length mk1) (la2 : mk1 ≤ 300) (la3 : D ≤ a) (la4 : ∀ m, tIn t m = true → m < mk1) (lb : lTr h b (pO u).length mk2) (lb2 : mk2 ≤ 300) (lb3 : D ≤ b) (lb4 : ∀ m, tIn u m = true → m < mk2) (Ta : TrP (hI h) a t mk1) (Tb : TrP (hI h) b u mk2) {R : tpH → Prop} (kk : ∀ h', stP h' x p D mk kd idn dr r n → hFr h h' (seT p) (seU p) → hZ h' = hZ h → hU h' = hU h → MX h' p mk a mk1 b mk2 t u → MXF (hI h') p mk a mk1 b mk2 t u kd idn → McP (hI h') p t u (MTd kd idn t u) → R h') : w_Mt_settle (p + 50) (some a) (some b) h R := by
  have hwt := mIn_wf hm i t hi
  have hwu := mIn_wf hm j u hj
  have mmt := mIn_mm hm i t hi
  have mmu := mIn_mm hm j u hj
  obtain ⟨l, hMa, hDr, hno, hre⟩ := id hP
  obtain ⟨F1, F2, F3, F4, F5, F6, F7, F8⟩ := hre
  have lMM : lMa h p ∧ lLi h (p + 37) (some p) ∧ lMt h (p + 50) (some p) (some (p + 37)) := by
    obtain ⟨t0, m0, m1, c0, c1, c2, c3, c4, c5, c6, c7, l0, l1, v0, v1, _⟩ := id l
    exact ⟨m1, l1, v1⟩
  have X : MX h p mk a mk1 b mk2 t u := ⟨lMM, ⟨la, la2, by omega⟩, ⟨lb, lb2, by omega⟩, ⟨hwt, hwu⟩, hm.1, fun m hi => ⟨mmt m hi, la4 m hi⟩, fun m hi => ⟨mmu m hi, lb4 m hi⟩⟩
  have C : MXF (hI h) p mk a mk1 b mk2 t u kd idn := ⟨hMa, Ta, Tb⟩
  have go : w_Mt_settle_17 R (p + 50) (some a) (some b) (wI h (hI h)) := by
    refine p_set17 X C (fun G f M => ?_)
    generalize eh : sR (sR h (p + 50) 7 (some a)) (p + 50) 8 (some b) = h1
    have eT : hT h1 = hT h := by rw [← eh]; rfl
    have eL : hL h1 = hL h := by rw [← eh]; rfl
    have eJ : hJ h1 = hJ h := by rw [← eh]; rfl
    have eF : hF h1 = hF h := by rw [← eh]; rfl
    have eZ : hZ h1 = hZ h := by rw [← eh]; rfl
    have eU : hU h1 = hU h := by rw [← eh]; rfl
    have eR : ∀ c k, ¬ seU p c k → hR h1 c k = hR h c k := fun c k hc => by
      unfold seU at hc
      rw [← eh]
      show tpu (tpu (hR h) (p + 50) 7 (some a)) (p + 50) 8 (some b) c k = hR h c k
      unfold tpu
      rw [if_neg (by omega), if_neg (by omega)]
    have f1 : hFr h (wI h1 G) (seT p) (seU p) := ⟨by rw [wI_Z, eZ]; exact Nat.le_refl _, fun c _ => ⟨by rw [wI_T, eT], by rw [wI_L, eL], by rw [wI_J, eJ], by rw [wI_F, eF], fun k hk => f c k (by unfold seT at hk; omega), fun k hk => eR c k hk⟩⟩
    have eI : ∀ c, c < p + 37 ∨ p + 61 ≤ c → G c = hI h c := fun c hc => funext fun k => f c k (by omega)
    have r7 : hR h1 (p + 50) 7 = some a := by
      rw [← eh]
      show tpu (tpu (hR h) (p + 50) 7 (some a)) (p + 50) 8 (some b) (p + 50) 7 = some a
      rw [tpu_j _ _ _ _ _ _ (by decide), tpu_s]
    have r8 : hR h1 (p + 50) 8 = some b := by
      rw [← eh]
      show tpu (tpu (hR h) (p + 50) 7 (some a)) (p + 50) 8 (some b) (p + 50) 8 = some b
      rw [tpu_s]
    have nt : fNT p D (seT p) (seU p) := fun c k hc => ⟨fun g => by unfold seT at g; omega, fun g => by unfold seU at g; omega⟩
    have e35 : ∀ k, hR h1 (p + 35) k = hR h (p + 35) k := fun k => eR _ k (by unfold seU; omega)
    have l' : lTP (wI h1 G) x p := lTP_fr l ⟨by rw [wI_T, eT], by rw [wI_R]; exact funext fun k => eR x k (by unfold seU; omega)⟩ (fun c c1 c2 => ⟨by rw [wI_T, eT], by rw [wI_L, eL], fun _ _ c50 _ _ => by rw [wI_R]; exact funext fun k => eR c k (by unfold seU; omega)⟩) (fun k hk => by rw [wI_R]; exact eR _ k (by unfold seU; omega))
    have P' : stP (wI h1 G) x p D mk kd idn dr r n := by
      refine ⟨l', MaP_k hMa (fun c c1 c2 => eI c (by omega)), DrP_k hDr (fun c c1 c2 => eI c (by omega)), fun k hk => by rw [wI_I, eI (p + 68) (by omega)]; exact hno k hk, FoP_fr F1 (by omega) hpD hDz f1 (fun g => by unfold seT at g; omega) (fun c k hc g => by unfold seT at g; omega) (fun c k hc g => by unfold seU at g; omega) (fun k _ g => by unfold seU at g; omega), fun k k' hk hk' e => F2 k k' hk hk' (by rw [wI_R, e35, e35] at e; exact e), ScP_fr F3 hxp (by omega) f1 nt (fun g => by unfold seT at g; omega) (fun k _ g => by unfold seU at g; omega), by rw [wI_I, eI x (by omega)]; exact F4, fun k hk => by rw [wI_I, eI (p + 71) (by omega)]; exact F5 k hk, CfP_fr F6 (by omega) f1 (fun c k hc => ⟨fun g => by unfold seT at g; omega, fun g => by unfold seU at g; omega⟩) (fun k a0 e => Or.inl (by rw [← e35]; exact e)), HiP_fr F7 (by rw [wI_I, eI (p + 90) (by omega)]) (fun c c1 c2 => eI c (by omega)), Or.inr ⟨i, j, t, u, a, b, ⟨hi, hj, hwt, hwu⟩, ⟨(e35 i).trans ha, (e35 j).trans hb, r7, r8⟩, M⟩⟩
    have sm : ∀ c, p + 61 ≤ c → hSm h (wI h1 G) c := fun c hc => ⟨by rw [wI_T, eT], by rw [wI_L, eL], funext fun k => eR c k (by unfold seU; omega), eI c (by omega), by rw [wI_J, eJ], by rw [wI_F, eF]⟩
    have X' : MX (wI h1 G) p mk a mk1 b mk2 t u := by
      have lMM' : lMa (wI h1 G) p ∧ lLi (wI h1 G) (p + 37) (some p) ∧ lMt (wI h1 G) (p + 50) (some p) (some (p + 37)) := by
        obtain ⟨t0, m0, m1, c0, c1, c2, c3, c4, c5, c6, c7, l0, l1, v0, v1, _⟩ := id l'
        exact ⟨m1, l1, v1⟩
      exact ⟨lMM', ⟨lTr_k la (fun c c1 c2 => sm c (by omega)), la2, by omega⟩, ⟨lTr_k lb (fun c c1 c2 => sm c (by omega)), lb2, by omega⟩, ⟨hwt, hwu⟩, hm.1, X.2.2.2.2.2⟩
    exact kk _ P' f1 eZ eU X' (MXF_fr X C f) M
  show w_Mt_settle (p + 50) (some a) (some b) (wI h (hI h)) R
  refine ⟨lMM.2.2.1, fun _ => go, fun e7 => ⟨fun _ => go, fun e8 => ?_⟩⟩
  rcases F8 with g | ⟨i', j', t', u', a', b', ⟨g1, g2, g3, g4⟩, ⟨q1, q2, q3, q4⟩, m⟩
  · have e7' : some a = hR h (p + 50) 7 := e7
    rw [g] at e7'
    cases e7'
  · have e7' : some a = hR h (p + 50) 7 := e7
    have e8' : some b = hR h (p + 50) 8 := e8
    rw [q3] at e7'
    rw [q4] at e8'
    have ei : i' = i := F2 i' i (List.getElem?_eq_some_iff.mp g1).1 (List.getElem?_eq_some_iff.mp hi).1 (by rw [q1, ha, e7'])
    have ej : j' = j := F2 j' j (List.getElem?_eq_some_iff.mp g2).1 (List.getElem?_eq_some_iff.mp hj).1 (by rw [q2, hb, e8'])
    rw [ei, hi] at g1
    rw [ej, hj] at g2
    have et : t = t' := Option.some.inj g1
    have eu : u = u' := Option.some.inj g2
    rw [← et, ← eu] at m
    exact kk h hP ⟨Nat.le_refl _, fun c _ => ⟨rfl, rfl, rfl, rfl, fun _ _ => rfl, fun _ _ => rfl⟩⟩ rfl rfl X C m
end MATCHC
