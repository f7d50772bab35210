section TURN
theorem tpu_o {F : Nat → Nat → Int32} {a k b j : Nat} {v : Int32} (h : ¬ (b = a ∧ j = k)) : tpu F a k v b j = F b j := by
  simp only [tpu]
  rw [if_neg h]

def uNs (F : Nat → Nat → Int32) (q n c : Nat) (k m : Int32) : Nat → Nat → Int32 := (tpu (tpu (tpu (tpu (tpu (tpu (tpu (tpu (tpu (tpu (tpu F (q + 7) n (nI (c + 1))) (q + 8) (100 * n + c) k) (q + 9) (100 * n + c) m) (q + 10) (100 * n + c) (-1)) (q + 11) (100 * n + c) (-1)) (q + 12) (100 * n + c) (-1)) (q + 13) (100 * n + c) (-1)) (q + 14) (100 * n + c) (-1)) (q + 15) (100 * n + c) (-1)) (q + 16) (100 * n + c) (-1)) (q + 17) (100 * n + c) (-1))
theorem uNs_o (F : Nat → Nat → Int32) {q n c : Nat} (k m : Int32) {b j : Nat} (h : ¬ ((b = q + 7 ∧ j = n) ∨ (q + 8 ≤ b ∧ b ≤ q + 17 ∧ j = 100 * n + c))) : uNs F q n c k m b j = F b j := by
  unfold uNs
  rw [tpu_o (by omega), tpu_o (by omega), tpu_o (by omega), tpu_o (by omega), tpu_o (by omega), tpu_o (by omega), tpu_o (by omega), tpu_o (by omega), tpu_o (by omega), tpu_o (by omega), tpu_o (by omega)]

theorem uNs_0 (F : Nat → Nat → Int32) (q n c : Nat) (k m : Int32) : uNs F q n c k m (q + 8) (100 * n + c) = k := by
  unfold uNs
  rw [tpu_o (by omega), tpu_o (by omega), tpu_o (by omega), tpu_o (by omega), tpu_o (by omega), tpu_o (by omega), tpu_o (by omega), tpu_o (by omega), tpu_o (by omega), tpu_s]
theorem uNs_1 (F : Nat → Nat → Int32) (q n c : Nat) (k m : Int32) : uNs F q n c k m (q + 9) (100 * n + c) = m := by
  unfold uNs
  rw [tpu_o (by omega), tpu_o (by omega), tpu_o (by omega), tpu_o (by omega), tpu_o (by omega), tpu_o (by omega), tpu_o (by omega), tpu_o (by omega), tpu_s]
theorem uNs_2 (F : Nat → Nat → Int32) (q n c : Nat) (k m : Int32) : uNs F q n c k m (q + 10) (100 * n + c) = (-1) := by
  unfold uNs
  rw [tpu_o (by omega), tpu_o (by omega), tpu_o (by omega), tpu_o (by omega), tpu_o (by omega), tpu_o (by omega), tpu_o (by omega), tpu_s]
theorem uNs_3 (F : Nat → Nat → Int32) (q n c : Nat) (k m : Int32) : uNs F q n c k m (q + 11) (100 * n + c) = (-1) := by
  unfold uNs
  rw [tpu_o (by omega), tpu_o (by omega), tpu_o (by omega), tpu_o (by omega), tpu_o (by omega), tpu_o (by omega), tpu_s]
theorem uNs_4 (F : Nat → Nat → Int32) (q n c : Nat) (k m : Int32) : uNs F q n c k m (q + 12) (100 * n + c) = (-1) := by
  unfold uNs
  rw [tpu_o (by omega), tpu_o (by omega), tpu_o (by omega), tpu_o (by omega), tpu_o (by omega), tpu_s]
theorem uNs_5 (F : Nat → Nat → Int32) (q n c : Nat) (k m : Int32) : uNs F q n c k m (q + 13) (100 * n + c) = (-1) := by
  unfold uNs
  rw [tpu_o (by omega), tpu_o (by omega), tpu_o (by omega), tpu_o (by omega), tpu_s]
theorem uNs_6 (F : Nat → Nat → Int32) (q n c : Nat) (k m : Int32) : uNs F q n c k m (q + 14) (100 * n + c) = (-1) := by
  unfold uNs
  rw [tpu_o (by omega), tpu_o (by omega), tpu_o (by omega), tpu_s]
theorem uNs_7 (F : Nat → Nat → Int32) (q n c : Nat) (k m : Int32) : uNs F q n c k m (q + 15) (100 * n + c) = (-1) := by
  unfold uNs
  rw [tpu_o (by omega), tpu_o (by omega), tpu_s]
theorem uNs_8 (F : Nat → Nat → Int32) (q n c : Nat) (k m : Int32) : uNs F q n c k m (q + 16) (100 * n + c) = (-1) := by
  unfold uNs
  rw [tpu_o (by omega), tpu_s]
theorem uNs_9 (F : Nat → Nat → Int32) (q n c : Nat) (k m : Int32) : uNs F q n c k m (q + 17) (100 * n + c) = (-1) := by
  unfold uNs
  rw [tpu_s]
theorem uNs_c (F : Nat → Nat → Int32) (q n c : Nat) (k m : Int32) : uNs F q n c k m (q + 7) n = nI (c + 1) := by
  unfold uNs
  rw [tpu_o (by omega), tpu_o (by omega), tpu_o (by omega), tpu_o (by omega), tpu_o (by omega), tpu_o (by omega), tpu_o (by omega), tpu_o (by omega), tpu_o (by omega), tpu_o (by omega), tpu_s]
theorem p_Md_newStep {h : tpH} {Q q n c : Nat} (M : lMd h Q q) (hn : n ≤ 40) {F : Nat → Nat → Int32} (h7 : F (q + 7) n = nI c) (hc : c < 100) {k m : Int32} {R : Int32 → tpH → Prop} (kk : R (nI (100 * n + c)) (wI h (uNs F q n c k m))) : w_Md_newStep Q (nI n) k m (wI h F) R := by
  obtain ⟨o1, o2, o3⟩ := md_f M (j := 7) (kd := 15) (n := 41) (f := 11) (by decide)
  obtain ⟨x01, x02, x03⟩ := md_f M (j := 8) (kd := 15) (n := 4100) (f := 12) (by decide)
  obtain ⟨x11, x12, x13⟩ := md_f M (j := 9) (kd := 15) (n := 4100) (f := 13) (by decide)
  obtain ⟨x21, x22, x23⟩ := md_f M (j := 10) (kd := 15) (n := 4100) (f := 14) (by decide)
  obtain ⟨x31, x32, x33⟩ := md_f M (j := 11) (kd := 15) (n := 4100) (f := 15) (by decide)
  obtain ⟨x41, x42, x43⟩ := md_f M (j := 12) (kd := 15) (n := 4100) (f := 16) (by decide)
  obtain ⟨x51, x52, x53⟩ := md_f M (j := 13) (kd := 15) (n := 4100) (f := 17) (by decide)
  obtain ⟨x61, x62, x63⟩ := md_f M (j := 14) (kd := 15) (n := 4100) (f := 18) (by decide)
  obtain ⟨x71, x72, x73⟩ := md_f M (j := 15) (kd := 15) (n := 4100) (f := 19) (by decide)
  obtain ⟨x81, x82, x83⟩ := md_f M (j := 16) (kd := 15) (n := 4100) (f := 20) (by decide)
  obtain ⟨x91, x92, x93⟩ := md_f M (j := 17) (kd := 15) (n := 4100) (f := 21) (by decide)
  have vn : vp_in (nI n) (hL (wI h F) (q + 7)) := by rw [wI_L, o2]; exact vp_in_nI (by omega) (by decide)
  have va : vp_in (nI (100 * n + c)) 4100 := vp_in_nI (by omega) (by decide)
  have e100 : (100 : Int32) = nI 100 := rfl
  have ec : hI (wI h F) (q + 7) (nI n).toNatClampNeg = nI c := by rw [nI_clamp (by omega)]; exact h7
  refine ⟨M.1, q + 7, o3, o1, vn, ?_⟩
  rw [ec, ix_100, e100, nI_lt_iff (by omega) (by decide)]
  refine ⟨fun _ => ⟨vn, vn, vn, fun h10 e10 => ?_⟩, fun g => absurd hc g⟩
  rw [nI_clamp (by omega), sI_wI, wI_wI, wI_I, nI_1] at e10
  subst e10
  refine ⟨q + 8, x03, x01, by rw [wI_L, x02]; exact va, fun h0 e0 => ?_⟩
  rw [nI_clamp (by omega), sI_wI, wI_wI, wI_I] at e0
  subst e0
  refine ⟨q + 9, x13, x11, by rw [wI_L, x12]; exact va, fun h1 e1 => ?_⟩
  rw [nI_clamp (by omega), sI_wI, wI_wI, wI_I] at e1
  subst e1
  refine ⟨q + 10, x23, x21, by rw [wI_L, x22]; exact va, fun h2 e2 => ?_⟩
  rw [nI_clamp (by omega), sI_wI, wI_wI, wI_I] at e2
  subst e2
  refine ⟨q + 11, x33, x31, by rw [wI_L, x32]; exact va, fun h3 e3 => ?_⟩
  rw [nI_clamp (by omega), sI_wI, wI_wI, wI_I] at e3
  subst e3
  refine ⟨q + 12, x43, x41, by rw [wI_L, x42]; exact va, fun h4 e4 => ?_⟩
  rw [nI_clamp (by omega), sI_wI, wI_wI, wI_I] at e4
  subst e4
  refine ⟨q + 13, x53, x51, by rw [wI_L, x52]; exact va, fun h5 e5 => ?_⟩
  rw [nI_clamp (by omega), sI_wI, wI_wI, wI_I] at e5
  subst e5
  refine ⟨q + 14, x63, x61, by rw [wI_L, x62]; exact va, fun h6 e6 => ?_⟩
  rw [nI_clamp (by omega), sI_wI, wI_wI, wI_I] at e6
  subst e6
  refine ⟨q + 15, x73, x71, by rw [wI_L, x72]; exact va, fun h7 e7 => ?_⟩
  rw [nI_clamp (by omega), sI_wI, wI_wI, wI_I] at e7
  subst e7
  refine ⟨q + 16, x83, x81, by rw [wI_L, x82]; exact va, fun h8 e8 => ?_⟩
  rw [nI_clamp (by omega), sI_wI, wI_wI, wI_I] at e8
  subst e8
  refine ⟨q + 17, x93, x91, by rw [wI_L, x92]; exact va, fun h9 e9 => ?_⟩
  rw [nI_clamp (by omega), sI_wI, wI_wI, wI_I] at e9
  subst e9
  exact kk

theorem p_Md_newStep_no {h : tpH} {Q q n c : Nat} (M : lMd h Q q) (hn : n ≤ 40) {F : Nat → Nat → Int32} (h7 : F (q + 7) n = nI c) (hc : 100 ≤ c) (hc2 : c ≤ 200) {k m : Int32} {R : Int32 → tpH → Prop} (kk : R (-1) (wI h (tpu F (q + 7) n (nI 101)))) : w_Md_newStep Q (nI n) k m (wI h F) R := by
  obtain ⟨o1, o2, o3⟩ := md_f M (j := 7) (kd := 15) (n := 41) (f := 11) (by decide)
  have vn : vp_in (nI n) (hL (wI h F) (q + 7)) := by rw [wI_L, o2]; exact vp_in_nI (by omega) (by decide)
  have e100 : (100 : Int32) = nI 100 := rfl
  have ec : hI (wI h F) (q + 7) (nI n).toNatClampNeg = nI c := by rw [nI_clamp (by omega)]; exact h7
  refine ⟨M.1, q + 7, o3, o1, vn, ?_⟩
  rw [ec, e100, nI_lt_iff (by omega) (by decide)]
  refine ⟨fun g => by omega, fun _ => ⟨vn, fun h10 e10 => ?_⟩⟩
  rw [nI_clamp (by omega), sI_wI, wI_wI, wI_I] at e10
  subst e10
  exact kk

def uTb (F : Nat → Nat → Int32) (q n c ks : Nat) (k m : Int32) : Nat → Nat → Int32 := (tpu (tpu (tpu (tpu (tpu (tpu (tpu (tpu (uNs F q n c k m) (q + 10) (100 * n + c) (F (q + 11) ks)) (q + 11) (100 * n + c) (F (q + 10) ks)) (q + 12) (100 * n + c) (F (q + 15) ks)) (q + 13) (100 * n + c) (F (q + 16) ks)) (q + 14) (100 * n + c) (F (q + 17) ks)) (q + 15) (100 * n + c) (F (q + 12) ks)) (q + 16) (100 * n + c) (F (q + 13) ks)) (q + 17) (100 * n + c) (F (q + 14) ks))
theorem uTb_o (F : Nat → Nat → Int32) {q n c ks : Nat} (k m : Int32) {b j : Nat} (h : ¬ ((b = q + 7 ∧ j = n) ∨ (q + 8 ≤ b ∧ b ≤ q + 17 ∧ j = 100 * n + c))) : uTb F q n c ks k m b j = F b j := by
  unfold uTb
  rw [tpu_o (by omega), tpu_o (by omega), tpu_o (by omega), tpu_o (by omega), tpu_o (by omega), tpu_o (by omega), tpu_o (by omega), tpu_o (by omega), uNs_o _ _ _ h]
theorem uTb_c (F : Nat → Nat → Int32) (q n c ks : Nat) (k m : Int32) : uTb F q n c ks k m (q + 7) n = nI (c + 1) := by
  unfold uTb
  rw [tpu_o (by omega), tpu_o (by omega), tpu_o (by omega), tpu_o (by omega), tpu_o (by omega), tpu_o (by omega), tpu_o (by omega), tpu_o (by omega), uNs_c]
theorem uTb_st {F : Nat → Nat → Int32} {q n c ks : Nat} {e : mSt} (H : StM F q ks e) {k : Int32} (hk : k = nI (bkK e.1)) : StM (uTb F q n c ks k (F (q + 9) ks)) q (100 * n + c) (tnS e) := by
  obtain ⟨H1, H2, H3, H4, ⟨H5, H6, H7⟩, H8, H9, H10⟩ := H
  subst hk
  unfold uTb
  refine ⟨?_, ?_, ?_, ?_, ⟨?_, ?_, ?_⟩, ?_, ?_, ?_⟩
  · rw [tpu_o (by omega), tpu_o (by omega), tpu_o (by omega), tpu_o (by omega), tpu_o (by omega), tpu_o (by omega), tpu_o (by omega), tpu_o (by omega), uNs_0]
    rfl
  · rw [tpu_o (by omega), tpu_o (by omega), tpu_o (by omega), tpu_o (by omega), tpu_o (by omega), tpu_o (by omega), tpu_o (by omega), tpu_o (by omega), uNs_1]
    exact H2
  · rw [tpu_o (by omega), tpu_o (by omega), tpu_o (by omega), tpu_o (by omega), tpu_o (by omega), tpu_o (by omega), tpu_o (by omega), tpu_s]
    exact H4
  · rw [tpu_o (by omega), tpu_o (by omega), tpu_o (by omega), tpu_o (by omega), tpu_o (by omega), tpu_o (by omega), tpu_s]
    exact H3
  · rw [tpu_o (by omega), tpu_o (by omega), tpu_s]
    exact H8
  · rw [tpu_o (by omega), tpu_s]
    exact H9
  · rw [tpu_s]
    exact H10
  · rw [tpu_o (by omega), tpu_o (by omega), tpu_o (by omega), tpu_o (by omega), tpu_o (by omega), tpu_s]
    exact H5
  · rw [tpu_o (by omega), tpu_o (by omega), tpu_o (by omega), tpu_o (by omega), tpu_s]
    exact H6
  · rw [tpu_o (by omega), tpu_o (by omega), tpu_o (by omega), tpu_s]
    exact H7

theorem p_turn102 {h : tpH} {Q q n c ks : Nat} (M : lMd h Q q) (hn : n ≤ 40) {F : Nat → Nat → Int32} (h7 : F (q + 7) n = nI c) (hc : c < 100) (hks : ks < 4100) (hne : ks ≠ 100 * n + c) {x1 k : Int32} {R : Int32 → tpH → Prop} {K : Nat → Int32 → Int32 → tpH → Prop} (kk : K Q x1 (nI ks + (-1)) (wI h (uTb F q n c ks k (F (q + 9) ks)))) : w_Md_turn_102 R K Q x1 (nI ks) k (nI n) (some Q) (wI h F) := by
  obtain ⟨x81, x82, x83⟩ := md_f M (j := 8) (kd := 15) (n := 4100) (f := 12) (by decide)
  obtain ⟨x91, x92, x93⟩ := md_f M (j := 9) (kd := 15) (n := 4100) (f := 13) (by decide)
  obtain ⟨x101, x102, x103⟩ := md_f M (j := 10) (kd := 15) (n := 4100) (f := 14) (by decide)
  obtain ⟨x111, x112, x113⟩ := md_f M (j := 11) (kd := 15) (n := 4100) (f := 15) (by decide)
  obtain ⟨x121, x122, x123⟩ := md_f M (j := 12) (kd := 15) (n := 4100) (f := 16) (by decide)
  obtain ⟨x131, x132, x133⟩ := md_f M (j := 13) (kd := 15) (n := 4100) (f := 17) (by decide)
  obtain ⟨x141, x142, x143⟩ := md_f M (j := 14) (kd := 15) (n := 4100) (f := 18) (by decide)
  obtain ⟨x151, x152, x153⟩ := md_f M (j := 15) (kd := 15) (n := 4100) (f := 19) (by decide)
  obtain ⟨x161, x162, x163⟩ := md_f M (j := 16) (kd := 15) (n := 4100) (f := 20) (by decide)
  obtain ⟨x171, x172, x173⟩ := md_f M (j := 17) (kd := 15) (n := 4100) (f := 21) (by decide)
  have va : vp_in (nI (100 * n + c)) 4100 := vp_in_nI (by omega) (by decide)
  have vs : vp_in (nI ks) 4100 := vp_in_nI hks (by decide)
  have ce : (nI (100 * n + c)).toNatClampNeg = 100 * n + c := nI_clamp (by omega)
  have cs : (nI ks).toNatClampNeg = ks := nI_clamp (by omega)
  refine ⟨M.1, q + 9, x93, x91, by rw [wI_L, x92]; exact vs, Q, rfl, M.1, ?_⟩
  rw [cs, wI_I]
  refine p_Md_newStep M hn h7 hc ⟨M.1, ?_⟩
  refine ⟨q + 11, x113, x111, by rw [wI_L, x112]; exact vs, q + 10, x103, x101, by rw [wI_L, x102]; exact va, fun y0 g0 => ?_⟩
  rw [ce, sI_wI, wI_wI, wI_I, uNs_o (b := q + 11) _ _ _ (by omega)] at g0
  subst g0
  refine ⟨q + 10, x103, x101, by rw [wI_L, x102]; exact vs, q + 11, x113, x111, by rw [wI_L, x112]; exact va, fun y1 g1 => ?_⟩
  rw [ce, sI_wI, wI_wI, wI_I, tpu_o (b := q + 10) (by omega), uNs_o (b := q + 10) _ _ _ (by omega)] at g1
  subst g1
  refine ⟨q + 15, x153, x151, by rw [wI_L, x152]; exact vs, q + 12, x123, x121, by rw [wI_L, x122]; exact va, fun y2 g2 => ?_⟩
  rw [ce, sI_wI, wI_wI, wI_I, tpu_o (b := q + 15) (by omega), tpu_o (b := q + 15) (by omega), uNs_o (b := q + 15) _ _ _ (by omega)] at g2
  subst g2
  refine ⟨q + 16, x163, x161, by rw [wI_L, x162]; exact vs, q + 13, x133, x131, by rw [wI_L, x132]; exact va, fun y3 g3 => ?_⟩
  rw [ce, sI_wI, wI_wI, wI_I, tpu_o (b := q + 16) (by omega), tpu_o (b := q + 16) (by omega), tpu_o (b := q + 16) (by omega), uNs_o (b := q + 16) _ _ _ (by omega)] at g3
  subst g3
  refine ⟨q + 17, x173, x171, by rw [wI_L, x172]; exact vs, q + 14, x143, x141, by rw [wI_L, x142]; exact va, fun y4 g4 => ?_⟩
  rw [ce, sI_wI, wI_wI, wI_I, tpu_o (b := q + 17) (by omega), tpu_o (b := q + 17) (by omega), tpu_o (b := q + 17) (by omega), tpu_o (b := q + 17) (by omega), uNs_o (b := q + 17) _ _ _ (by omega)] at g4
  subst g4
  refine ⟨q + 12, x123, x121, by rw [wI_L, x122]; exact vs, q + 15, x153, x151, by rw [wI_L, x152]; exact va, fun y5 g5 => ?_⟩
  rw [ce, sI_wI, wI_wI, wI_I, tpu_o (b := q + 12) (by omega), tpu_o (b := q + 12) (by omega), tpu_o (b := q + 12) (by omega), tpu_o (b := q + 12) (by omega), tpu_o (b := q + 12) (by omega), uNs_o (b := q + 12) _ _ _ (by omega)] at g5
  subst g5
  refine ⟨q + 13, x133, x131, by rw [wI_L, x132]; exact vs, q + 16, x163, x161, by rw [wI_L, x162]; exact va, fun y6 g6 => ?_⟩
  rw [ce, sI_wI, wI_wI, wI_I, tpu_o (b := q + 13) (by omega), tpu_o (b := q + 13) (by omega), tpu_o (b := q + 13) (by omega), tpu_o (b := q + 13) (by omega), tpu_o (b := q + 13) (by omega), tpu_o (b := q + 13) (by omega), uNs_o (b := q + 13) _ _ _ (by omega)] at g6
  subst g6
  refine ⟨q + 14, x143, x141, by rw [wI_L, x142]; exact vs, q + 17, x173, x171, by rw [wI_L, x172]; exact va, fun y7 g7 => ?_⟩
  rw [ce, sI_wI, wI_wI, wI_I, tpu_o (b := q + 14) (by omega), tpu_o (b := q + 14) (by omega), tpu_o (b := q + 14) (by omega), tpu_o (b := q + 14) (by omega), tpu_o (b := q + 14) (by omega), tpu_o (b := q + 14) (by omega), tpu_o (b := q + 14) (by omega), uNs_o (b := q + 14) _ _ _ (by omega)] at g7
  subst g7
  exact kk

end TURN
