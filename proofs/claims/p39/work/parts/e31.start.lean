section LSTART
theorem c_begin {h : tpH} {z n : Nat} {kd idn : Nat → Int32} {rt : Nat → Bool} {r : mRe} {X : String → tpH → Prop} {R : Int32 → tpH → Prop} (H : cS h z 0 kd idn rt none r n) {k v i : Int32} (gd : gdLk k v i)
    (kk : ∀ G, (∀ b, b < z + 1 ∨ z + 1 + 20 ≤ b → G b = hI h b) → cS (wI h G) z 1 (mU kd 0 k) (mU idn 0 i) (mU rt 0 true) (some (tOne 0 v)) r n → R (nI 0) (wI h G)) : w_TP_begin z k v i h X R := by
  obtain ⟨hm, hP, hz, hn⟩ := id H
  show w_TP_begin z k v i (wI h (hI h)) X R
  refine p_TP_begin hP.1 hP.2.1 hm.1 (fun ng => absurd gd ng) (fun _ e => absurd e (by decide)) (fun gd hlt G g1 g2 g3 g4 => kk G (fun c hc => g4 c (by omega)) ?_)
  have ht : trI (0 + 1) (mU kd 0 k) (mU rt 0 true) (tOne 0 v) := by
    refine ⟨wOne hlt _, fun m hi => ?_, fun p hp hl => ?_⟩
    · have := (tOne_in 0 v m).mp hi
      subst this
      exact ⟨Nat.lt_succ_self _, by rw [mU_s]; exact ⟨fun _ => rfl, fun _ => rfl⟩⟩
    · have := (tOne_in 0 v p).mp hp
      subst this
      have e : tKi (tOne 0 v) 0 = [] := mU_s (tKi (tEm 0)) 0 []
      rw [e]
      exact List.Pairwise.nil
  exact c_dr H (mIn_mk hm hlt k true ht) g1 ⟨g2, g3, wOne hlt _⟩ (fun c hc => g4 c (by omega)) (MiP_kd hP.2.2.2.2.2.2.2.2.2.2.2 (fun t ht m hi => ((hm.2.2.1 t ht).2.1 m hi).1) k i)
/-- the heap when the law has made its object and its rows -/
def lwF (b L z : Nat) (xs : Nat → Int32) (h : tpH) : Prop := fTP h z (z + 1) ∧ lA h b L z xs ∧ (∀ x j, z + 102 ≤ x → x < z + 109 → hI h x j = 0) ∧ hZ h = z + 109 ∧ hU h = 13586
theorem c_0 {b L z : Nat} {xs : Nat → Int32} {h : tpH} (H : lwF b L z xs h) : cS h z 0 (fun _ => 0) (fun _ => 0) (fun _ => false) none ([], [], 0, fun _ => 0, [], []) 32 := by
  obtain ⟨T, o1, o2, zz, uu⟩ := H
  obtain ⟨l, t0, ma, bu, bu2, r35, r36, li, mt, fi, mg, hi⟩ := T
  refine ⟨?_, ?_, by omega, by decide⟩
  · exact ⟨Nat.zero_le _, fun t e => (by cases e), fun t ht => (by cases ht), fun s hs => (by cases hs), fun k => Or.inl rfl, ⟨Nat.zero_le _, fun e he => (by cases he)⟩, Nat.zero_le _, fun i e hi => (by simp at hi)⟩
  · refine ⟨l, ⟨ma.2.1 2, fun m hm => absurd hm (Nat.not_lt_zero _)⟩, ?_, fun j hj => ?_, ?_⟩
    · exact ⟨bu.2.1, bu.2.2.1 9 (by decide), fun m _ => bu.2.2.2.1.1 m⟩
    · exact fi.2.2.2.2.2 j hj
    · refine ⟨⟨t0 4, Nat.zero_le _, fun i t hi => (by simp at hi)⟩, fun i j hi => absurd hi (Nat.not_lt_zero _), ⟨t0 6, Nat.zero_le _, fun i t hi => (by simp at hi)⟩, t0 10, fun k hk => ?_, ?_, ?_, ?_⟩
      · exact mg.2.2.2.2.1.1 k
      · refine ⟨?_, ?_, ⟨Nat.zero_le _, by decide⟩, z + 1 + 87, z + 1 + 89, ⟨mg.2.1, Or.inl rfl, by omega⟩, ⟨mg.2.2.1, Or.inl rfl, by omega⟩, ⟨by omega, fun i a ha => ?_⟩, fun i e hi => (by simp at hi)⟩
        · obtain ⟨_, _, _, _, _, _, _, _, _, _, _, _, w8, w9⟩ := id mg
          exact w8.2
        · obtain ⟨_, _, _, _, _, _, _, _, _, _, _, _, w8, w9⟩ := id mg
          exact w9.2
        · rw [r35 i] at ha
          cases ha
      · exact ⟨hi.2.1 5, fun i e hi => (by simp at hi)⟩
      · exact Or.inl mt.2.2.2.2.2.2.2
theorem LT_1 (lo : Nat → Bool) (w : Nat) : LT lo [(0, w, none)] (tOne 0 (nI w)) := by
  have hwf : tWF 300 (tOne 0 (nI w)) := wOne (by decide) _
  refine ⟨by simp, ⟨fun m => ?_, fun e he => ?_⟩, fun p hp _ => ?_⟩
  · rw [tOne_in]
    constructor
    · rintro rfl
      exact ⟨_, List.mem_singleton.mpr rfl, rfl⟩
    · rintro ⟨e, e1, e2⟩
      rw [List.mem_singleton.mp e1] at e2
      exact e2.symm
  · rw [List.mem_singleton.mp he]
    exact ⟨mU_s (tWo (tEm 0)) 0 _, mU_s (tUp (tEm 0)) 0 _⟩
  · have := (tOne_in 0 (nI w) p).mp hp
    subst this
    have e : tKi (tOne 0 (nI w)) 0 = [] := mU_s (tKi (tEm 0)) 0 []
    rw [e, lcL_f]
    rfl
theorem p_62 {b L z Q : Nat} {xs : Nat → Int32} {h : tpH} (qL : L ≤ 260) (H : lwF b L z xs h) {X : String → tpH → Prop} {R : Int32 → tpH → Prop} (hQ : Q < 2 ^ 31) (kk : ∀ h k, k ≤ 110 → lI b L z xs k h → R 1 h) : w_Lw_law_62 R X (some b) (some z) (some (z + 102)) (some (z + 103)) (some (z + 104)) (some (z + 105)) (some (z + 106)) (some (z + 107)) (some (z + 108)) (nI Q) h := by
  have c0 := c_0 H
  obtain ⟨-, hA, o2, zz, uu⟩ := H
  obtain ⟨⟨a2, a3, a4, a5, a6, a7, a8⟩, ⟨bz, zz'⟩, -, -, -⟩ := id hA
  have v2 : ∀ F, vp_in (0 : Int32) (hL (wI h F) (z + 102)) := fun F => by rw [show hL (wI h F) (z + 102) = 40 from a2.2]; exact vp0 (by decide) (by decide)
  refine ⟨z + 102, rfl, a2.1, v2 (hI h), fun h5 e5 => ?_⟩
  rw [show (0 : Int32).toNatClampNeg = 0 from rfl, show nI Q - nI Q / (4 : Int32) * (4 : Int32) = nI (Q % 4) from nI_mod (c := 4) hQ (by decide), sI_wI] at e5
  subst e5
  have q4 : Q % 4 < 4 := Nat.mod_lt _ (by decide)
  generalize Q % 4 = k0 at q4 ⊢
  generalize hF : tpu (hI h) (z + 102) 0 (nI k0) = F1
  have kF : ∀ x, x ≠ z + 102 → F1 x = hI h x := fun x hx => by rw [← hF]; exact tpu_ne hx
  have eF : F1 (z + 102) 0 = nI k0 := by rw [← hF]; exact tpu_s _ _ _ _
  have c1 : cS (wI h F1) z 0 (fun _ => 0) (fun _ => 0) (fun _ => false) none ([], [], 0, fun _ => 0, [], []) 32 := cS_aFr c0 (aFr_w (h := h) (F := hI h) (G := F1) (T := fun x _ => x = z + 102) (fun x j hx => by rw [kF x hx])) (fun x j hx q => by omega)
  refine ⟨v2 F1, ?_⟩
  rw [show (0 : Int32).toNatClampNeg = 0 from rfl, wI_I, eF]
  have tk : (nI k0).toInt = (k0 : Int) := nI_toInt (by omega)
  have gd : gdLk (nI k0) (3 : Int32) (-1 : Int32) := ⟨⟨by rw [tk]; omega, by rw [tk]; omega⟩, ⟨by decide, by decide⟩, ⟨by decide, by decide⟩⟩
  refine p_does0 ⟨c1.2.1.1.1, c_begin c1 gd (fun G g1 c2 => ⟨fun q => absurd rfl q, fun _ => ⟨z + 103, rfl, a3.1, by rw [show hL (wI (wI h F1) G) (z + 103) = 2 from a3.2]; exact vp0 (by decide) (by decide), fun h5 e5 => ?_⟩⟩)⟩
  rw [show (0 : Int32).toNatClampNeg = 0 from rfl, sI_wI, wI_wI, wI_I] at e5
  subst e5
  generalize hG : tpu G (z + 103) 0 (1 : Int32) = G2
  have kG : ∀ x, x ≠ z + 103 → G2 x = G x := fun x hx => by rw [← hG]; exact tpu_ne hx
  have z5 : ∀ j, G2 (z + 105) j = 0 := fun j => by rw [kG _ (by omega), g1 _ (by omega), wI_I, kF _ (by omega)]; exact o2 _ _ (by omega) (by omega)
  have P0 : rwP G2 (z + 105) [] := ⟨z5 0, Nat.zero_le _, fun _ q => (by cases q), rwG_nil _ _ _ _⟩
  have lok : lOK (0, 3, none) := ⟨by decide, by decide, fun p hp => by cases hp⟩
  show w_Lw_puts (some (z + 105)) (nI 0) (nI (lcd (0, 3, none))) (wI h G2) _
  refine p_puts a5 P0 (Nat.le_refl _) (by decide) lok (fun G3 k1 k2 => ⟨110, ?_⟩)
  have kG3 : ∀ x, z + 102 ≤ x → x ≠ z + 103 → x ≠ z + 105 → G3 x = F1 x := fun x x1 x2 x3 => (k1 x x3).trans ((kG x x2).trans (g1 x (by omega)))
  have e103 : ∀ j, G3 (z + 103) j = tpu G (z + 103) 0 (1 : Int32) (z + 103) j := fun j => by rw [k1 _ (by omega), hG]
  have c3 : cS (wI h G3) z 1 (mU (fun _ => 0) 0 (nI k0)) (mU (fun _ => 0) 0 (-1)) (mU (fun _ => false) 0 true) (some (tOne 0 3)) ([], [], 0, fun _ => 0, [], []) 32 := cS_aFr c2 (aFr_w (h := h) (F := G) (G := G3) (T := fun x _ => x = z + 103 ∨ x = z + 105) (fun x j hx => by rw [k1 x (fun q => hx (Or.inr q)), kG x (fun q => hx (Or.inl q))])) (fun x j hx q => by omega)
  have S : lS (wI h G3) b L z xs 1 (mU (fun _ => 0) 0 (nI k0)) (mU (fun _ => 0) 0 (-1)) (mU (fun _ => false) 0 true) (tOne 0 3) ([], [], 0, fun _ => 0, [], []) 32 := by
    refine ⟨c3, ?_, ⟨fun m hm => ?_, ?_, ?_, fun j hj => ?_⟩, ⟨_, k2, LT_1 _ 3⟩, by decide, fun U hUm => (by cases hUm), fun x hx => ?_, rfl⟩
    · exact lA_w hA ((k1 b (by omega)).trans ((kG b (by omega)).trans ((g1 b (by omega)).trans (kF b (by omega)))))
    · show G3 (z + 102) m = _
      have : m = 0 := by omega
      rw [this, kG3 _ (by omega) (by omega) (by omega), eF, mU_s]
    · show G3 (z + 103) 0 = _
      rw [e103]
      exact tpu_s _ _ _ _
    · show G3 (z + 103) 1 = _
      rw [e103, tpu_o (by omega), g1 _ (by omega), wI_I, kF _ (by omega)]
      exact o2 _ _ (by omega) (by omega)
    · show G3 (z + 104) j = _
      rw [kG3 _ (by omega) (by omega) (by omega), kF _ (by omega)]
      exact o2 _ _ (by omega) (by omega)
    · have := (tOne_in 0 3 x).mp hx
      subst this
      exact ⟨3, by decide, mU_s (tWo (tEm 0)) 0 _⟩
  have I1 : lI b L z xs 1 (wI h G3) := ⟨1, _, _, _, _, _, 32, S, by show 0 ≤ 38; omega, by show hZ h ≤ _; omega, by show hU h ≤ _; omega⟩
  exact p_107 (xlen := qL) kk 110 1 _ (by decide) (by decide) I1
theorem p_law {b L z : Nat} {xs : Nat → Int32} {X : String → tpH → Prop} {R : Int32 → tpH → Prop} (qL : L ≤ 260) (hbz : b < z) (kk : ∀ h k, k ≤ 110 → lI b L z xs k h → R 1 h) : w_Lw_law (some b) (tpH0 b L z xs) X R := by
  unfold w_Lw_law
  intro a1 h2 ea1 eh2
  have ez1 : a1 = z := ea1
  clear ea1
  subst a1
  have z0 : hZ (tpH0 b L z xs) = z := rfl
  have u0 : hU (tpH0 b L z xs) = 0 := rfl
  generalize hg : tpH0 b L z xs = g at *
  have b1 : hT g b = 22 ∧ hL g b = L ∧ hI g b = xs := by
    rw [← hg]
    exact ⟨if_pos rfl, rfl, rfl⟩
  have n1 := nC_new g 13 0 13
  have s1 := hSm_nC g 13 0 13
  rw [z0] at n1 s1
  have z2 : hZ h2 = z + 1 := by rw [eh2]; show hZ g + 1 = _; omega
  have u2 : hU h2 = 13 := by rw [eh2]; show hU g + 13 = _; omega
  rw [← eh2] at n1 s1
  refine p_TP_init (by omega) n1.1 (fun j => by rw [n1.2.2.2.1]) (fun h5 f5 z5 u5 r5 => ?_)
  rw [z2] at f5 z5 r5
  intro a6 h7 ea6 eh7 a10 h11 ea10 eh11 a14 h15 ea14 eh15 a18 h19 ea18 eh19 a22 h23 ea22 eh23 a26 h27 ea26 eh27 a30 h31 ea30 eh31
  have w7 : hZ h7 = z + 103 := by rw [eh7]; show hZ h5 + 1 = _; omega
  have w11 : hZ h11 = z + 104 := by rw [eh11]; show hZ h7 + 1 = _; omega
  have w15 : hZ h15 = z + 105 := by rw [eh15]; show hZ h11 + 1 = _; omega
  have w19 : hZ h19 = z + 106 := by rw [eh19]; show hZ h15 + 1 = _; omega
  have w23 : hZ h23 = z + 107 := by rw [eh23]; show hZ h19 + 1 = _; omega
  have w27 : hZ h27 = z + 108 := by rw [eh27]; show hZ h23 + 1 = _; omega
  have w31 : hZ h31 = z + 109 := by rw [eh31]; show hZ h27 + 1 = _; omega
  have y7 : hU h7 = 13414 := by rw [eh7]; show hU h5 + 40 = _; omega
  have y11 : hU h11 = 13416 := by rw [eh11]; show hU h7 + 2 = _; omega
  have y15 : hU h15 = 13422 := by rw [eh15]; show hU h11 + 6 = _; omega
  have y19 : hU h19 = 13463 := by rw [eh19]; show hU h15 + 41 = _; omega
  have y23 : hU h23 = 13504 := by rw [eh23]; show hU h19 + 41 = _; omega
  have y27 : hU h27 = 13545 := by rw [eh27]; show hU h23 + 41 = _; omega
  have y31 : hU h31 = 13586 := by rw [eh31]; show hU h27 + 41 = _; omega
  have g7 : aFr h5 h7 nT0 1 40 := by rw [eh7]; exact aFr_n h5 40 40 _
  have g11 : aFr h7 h11 nT0 1 2 := by rw [eh11]; exact aFr_n h7 2 2 _
  have g15 : aFr h11 h15 nT0 1 6 := by rw [eh15]; exact aFr_n h11 6 6 _
  have g19 : aFr h15 h19 nT0 1 41 := by rw [eh19]; exact aFr_n h15 41 41 _
  have g23 : aFr h19 h23 nT0 1 41 := by rw [eh23]; exact aFr_n h19 41 41 _
  have g27 : aFr h23 h27 nT0 1 41 := by rw [eh27]; exact aFr_n h23 41 41 _
  have g31 : aFr h27 h31 nT0 1 41 := by rw [eh31]; exact aFr_n h27 41 41 _
  have G27 := g31
  have G23 := aFr_tr g27 G27 (fun _ _ _ q => q)
  have G19 := aFr_tr g23 G23 (fun _ _ _ q => q)
  have G15 := aFr_tr g19 G19 (fun _ _ _ q => q)
  have G11 := aFr_tr g15 G15 (fun _ _ _ q => q)
  have G7 := aFr_tr g11 G11 (fun _ _ _ q => q)
  have G5 := aFr_tr g7 G7 (fun _ _ _ q => q)
  have i6 : iA h7 a6 40 ∧ ∀ j, hI h7 a6 j = 0 := by rw [ea6, eh7]; exact ⟨iA_n h5 40 40, fun j => nC_0 h5 40 40 j⟩
  have i10 : iA h11 a10 2 ∧ ∀ j, hI h11 a10 j = 0 := by rw [ea10, eh11]; exact ⟨iA_n h7 2 2, fun j => nC_0 h7 2 2 j⟩
  have i14 : iA h15 a14 6 ∧ ∀ j, hI h15 a14 j = 0 := by rw [ea14, eh15]; exact ⟨iA_n h11 6 6, fun j => nC_0 h11 6 6 j⟩
  have i18 : iA h19 a18 41 ∧ ∀ j, hI h19 a18 j = 0 := by rw [ea18, eh19]; exact ⟨iA_n h15 41 41, fun j => nC_0 h15 41 41 j⟩
  have i22 : iA h23 a22 41 ∧ ∀ j, hI h23 a22 j = 0 := by rw [ea22, eh23]; exact ⟨iA_n h19 41 41, fun j => nC_0 h19 41 41 j⟩
  have i26 : iA h27 a26 41 ∧ ∀ j, hI h27 a26 j = 0 := by rw [ea26, eh27]; exact ⟨iA_n h23 41 41, fun j => nC_0 h23 41 41 j⟩
  have i30 : iA h31 a30 41 ∧ ∀ j, hI h31 a30 j = 0 := by rw [ea30, eh31]; exact ⟨iA_n h27 41 41, fun j => nC_0 h27 41 41 j⟩
  have b6 : a6 = z + 102 := by omega
  have b10 : a10 = z + 103 := by omega
  have b14 : a14 = z + 104 := by omega
  have b18 : a18 = z + 105 := by omega
  have b22 : a22 = z + 106 := by omega
  have b26 : a26 = z + 107 := by omega
  have b30 : a30 = z + 108 := by omega
  subst b6 b10 b14 b18 b22 b26 b30
  have nn : ∀ x (j : Nat), ¬ nT0 x j := fun _ _ q => q
  have fr : ∀ y, y < z + 102 → hSm h5 h31 y := fun y hy => by
    have e := hFr_sS G5.1 (b := y) (by omega) (nn y) (fun _ q => q)
    exact e
  have qb := hSm_tr (hSm_tr (s1 b hbz) (r5 b (by omega) (by omega))) (fr b (by omega))
  have F : lwF b L z xs h31 := by
    refine ⟨fTP_k f5 (fr z (by omega)) (fun y h1 h2 => fr y (by omega)), ⟨⟨aFr_iA G7 (by omega) i6.1, aFr_iA G11 (by omega) i10.1, aFr_iA G15 (by omega) i14.1, aFr_iA G19 (by omega) i18.1, aFr_iA G23 (by omega) i22.1, aFr_iA G27 (by omega) i26.1, i30.1⟩, ⟨hbz, by omega⟩, qb.1.trans b1.1, qb.2.1.trans b1.2.1, qb.2.2.2.1.trans b1.2.2⟩, fun x j x1 x2 => ?_, w31, y31⟩
    have cs : x = z + 102 ∨ x = z + 103 ∨ x = z + 104 ∨ x = z + 105 ∨ x = z + 106 ∨ x = z + 107 ∨ x = z + 108 := by omega
    rcases cs with q | q | q | q | q | q | q
    · rw [q, aFr_I G7 (by omega) (nn _)]; exact i6.2 j
    · rw [q, aFr_I G11 (by omega) (nn _)]; exact i10.2 j
    · rw [q, aFr_I G15 (by omega) (nn _)]; exact i14.2 j
    · rw [q, aFr_I G19 (by omega) (nn _)]; exact i18.2 j
    · rw [q, aFr_I G23 (by omega) (nn _)]; exact i22.2 j
    · rw [q, aFr_I G27 (by omega) (nn _)]; exact i26.2 j
    · rw [q]; exact i30.2 j
  have en : Int32.ofNat (hL h31 b) = nI L := by rw [F.2.1.2.2.2.1]; rfl
  refine ⟨b, rfl, F.2.1.2.2.1, ?_⟩
  rw [en]
  refine ⟨fun _ => p_62 (Q := 0) qL F (by decide) kk, fun q => ⟨by rw [F.2.1.2.2.2.1]; exact vp_in_nI (n := 0) (by have : ¬ L ≤ 0 := fun w => q ((nI_le_iff (b := 0) (by omega) (by decide)).mpr w); omega) (by omega), ?_⟩⟩
  obtain ⟨Q, hQ, eQ⟩ := and_31 (hI h31 b (0 : Int32).toNatClampNeg)
  rw [eQ]
  exact p_62 qL F hQ kk
theorem lI_end {b L z : Nat} {xs : Nat → Int32} {k : Nat} {h : tpH} (H : lI b L z xs k h) (hk : k ≤ 110) : hZ h ≤ z + 600000 ∧ hU h ≤ 7200000 := by
  obtain ⟨mk, kd, idn, rt, T, r, n, S, h38, B1, B2⟩ := H
  have := S.1.2.2.2
  omega
theorem whole_start {p : Program} {e : Env} {s : State} {m : MethodId} {below : List Frame} {meth : Method} {c : Code} (l : Launch) (hflags : l.flags = flags0) {b L : Nat} {xs : Nat → Int32} (h26 : L ≤ 260) (C0 : lw_At p s m meth c b L xs) : W p l e room_1 s m #[Value.ref b] below meth c s.heap [] 0 0 (lw_Z below #[Value.ref b] s) (entryFrame m ([Value.ref b] : List Value).toArray 18) := by
  have hbz : b < s.heap.size := by
    obtain ⟨_, _, _, _, _, _, _, g, _⟩ := id C0
    exact g
  exact tp_whole l hflags C0 (p_law h26 hbz (fun h k hk I => ⟨rfl, lI_end I hk⟩))
end LSTART
