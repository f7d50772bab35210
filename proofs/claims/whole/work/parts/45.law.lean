section PLAW
/-- a call of the law: from the k-th state it goes on to the next -/
def lwOK (I : Nat → tpH → Prop) (b X Q O OD L : Nat) (V : (Int32 → tpH → Prop) → (Option Nat → Option Nat → Option Nat → Option Nat → Option Nat → Int32 → tpH → Prop) → Option Nat → Option Nat → Option Nat → Option Nat → Option Nat → Int32 → tpH → Prop) : Prop :=
  ∀ (R : Int32 → tpH → Prop) (K : Option Nat → Option Nat → Option Nat → Option Nat → Option Nat → Int32 → tpH → Prop) (k : Nat) (h : tpH), I k h → 6 * k + 6 ≤ L → (∀ h', I (k + 1) h' → K (some b) (some X) (some Q) (some O) (some OD) (nI (6 * k) + 6) h') → V R K (some b) (some X) (some Q) (some O) (some OD) (nI (6 * k)) h
theorem lw_cmp6 {L k : Nat} (hL : L ≤ 3072) (hk : 6 * k ≤ L) : (Int32.ofNat L - (6 : Int32)) < nI (6 * k) ↔ ¬ 6 * k + 6 ≤ L := by
  have e1 : (Int32.ofNat L - (6 : Int32)).toInt = (L : Int) - 6 := pk_sub_toInt (a := L) (b := 6) (by omega) (by decide)
  have e2 : (nI (6 * k)).toInt = ((6 * k : Nat) : Int) := nI_toInt (by omega)
  rw [Int32.lt_iff_toInt_lt, e1, e2]
  omega
theorem p_loop {I : Nat → tpH → Prop} {b X Q O OD L : Nat} {R : Int32 → tpH → Prop} (hL0 : L ≤ 3072) (hb : ∀ k h, I k h → hT h b = 22 ∧ hL h b = L) (hs : ∀ k h, I k h → I (k + 1) h) (he : ∀ k h, I k h → 6 * k ≤ L → R 1 h)
    (c0 : lwOK I b X Q O OD L w_Lw_law_204) (c1 : lwOK I b X Q O OD L w_Lw_law_284) (c2 : lwOK I b X Q O OD L w_Lw_law_340) (c3 : lwOK I b X Q O OD L w_Lw_law_444) (c4 : lwOK I b X Q O OD L w_Lw_law_512) (c5 : lwOK I b X Q O OD L w_Lw_law_592) (c6 : lwOK I b X Q O OD L w_Lw_law_648) (c7 : lwOK I b X Q O OD L w_Lw_law_692) (c8 : lwOK I b X Q O OD L w_Lw_law_760) (c9 : lwOK I b X Q O OD L w_Lw_law_816) (c10 : lwOK I b X Q O OD L w_Lw_law_884) (c11 : lwOK I b X Q O OD L w_Lw_law_897) (c12 : lwOK I b X Q O OD L w_Lw_law_965) (c13 : lwOK I b X Q O OD L w_Lw_law_1045) (c14 : lwOK I b X Q O OD L w_Lw_law_1125) (c15 : lwOK I b X Q O OD L w_Lw_law_1193) (c16 : lwOK I b X Q O OD L w_Lw_law_1261) (c17 : lwOK I b X Q O OD L w_Lw_law_1274) (c18 : lwOK I b X Q O OD L w_Lw_law_1330) (c19 : lwOK I b X Q O OD L w_Lw_law_1398) (c20 : lwOK I b X Q O OD L w_Lw_law_1466) (c21 : lwOK I b X Q O OD L w_Lw_law_1534) (c22 : lwOK I b X Q O OD L w_Lw_law_1609) (c23 : lwOK I b X Q O OD L w_Lw_law_1684) (c24 : lwOK I b X Q O OD L w_Lw_law_1764) (c25 : lwOK I b X Q O OD L w_Lw_law_1878) (c26 : lwOK I b X Q O OD L w_Lw_law_1934) (c27 : lwOK I b X Q O OD L w_Lw_law_2002) (c28 : lwOK I b X Q O OD L w_Lw_law_2070) (c29 : lwOK I b X Q O OD L w_Lw_law_2166) (c30 : lwOK I b X Q O OD L w_Lw_law_2179) (c31 : lwOK I b X Q O OD L w_Lw_law_2235) (c32 : lwOK I b X Q O OD L w_Lw_law_2291) (c33 : lwOK I b X Q O OD L w_Lw_law_2304) (c34 : lwOK I b X Q O OD L w_Lw_law_2360) (c35 : lwOK I b X Q O OD L w_Lw_law_2428) :
    ∀ (n k : Nat) (h : tpH), I k h → 6 * k ≤ L → L + 6 < 6 * (k + n) → w_Lw_law_28 R n (some b) (some X) (some Q) (some O) (some OD) (nI (6 * k)) h := by
  intro n
  induction n with
  | zero => intro k h _ h1 h2; omega
  | succ n ih =>
    intro k h hI hk hn
    change b_Lw_law_28 R (w_Lw_law_28 R n) (some b) (some X) (some Q) (some O) (some OD) (nI (6 * k)) h
    unfold b_Lw_law_28
    obtain ⟨hb1, hb2⟩ := hb k h hI
    have hc := lw_cmp6 hL0 hk
    have nx : ∀ h', 6 * k + 6 ≤ L → I (k + 1) h' → w_Lw_law_28 R n (some b) (some X) (some Q) (some O) (some OD) (nI (6 * k) + (6 : Int32)) h' := fun h' hl h1 => by
      have e : nI (6 * k) + (6 : Int32) = nI (6 * (k + 1)) := nI_add (6 * k) 6
      rw [e]
      exact ih (k + 1) h' h1 (by omega) (by omega)
    refine ⟨b, rfl, hb1, ?_⟩
    rw [hb2]
    refine ⟨fun _ => he k h hI hk, fun c => ?_⟩
    have hl : 6 * k + 6 ≤ L := Classical.byContradiction fun h9 => c (hc.mpr h9)
    exact ⟨vp_in_nI (by omega) (by omega), fun _ => nx h hl (hs k h hI), fun _ => c0 R _ k h hI hl (fun h1 h2 => nx h1 hl h2), fun _ => c1 R _ k h hI hl (fun h1 h2 => nx h1 hl h2), fun _ => c2 R _ k h hI hl (fun h1 h2 => nx h1 hl h2), fun _ => c3 R _ k h hI hl (fun h1 h2 => nx h1 hl h2), fun _ => c4 R _ k h hI hl (fun h1 h2 => nx h1 hl h2), fun _ => c5 R _ k h hI hl (fun h1 h2 => nx h1 hl h2), fun _ => c6 R _ k h hI hl (fun h1 h2 => nx h1 hl h2), fun _ => c7 R _ k h hI hl (fun h1 h2 => nx h1 hl h2), fun _ => c8 R _ k h hI hl (fun h1 h2 => nx h1 hl h2), fun _ => c9 R _ k h hI hl (fun h1 h2 => nx h1 hl h2), fun _ => c10 R _ k h hI hl (fun h1 h2 => nx h1 hl h2), fun _ => c11 R _ k h hI hl (fun h1 h2 => nx h1 hl h2), fun _ => c12 R _ k h hI hl (fun h1 h2 => nx h1 hl h2), fun _ => c13 R _ k h hI hl (fun h1 h2 => nx h1 hl h2), fun _ => c14 R _ k h hI hl (fun h1 h2 => nx h1 hl h2), fun _ => c15 R _ k h hI hl (fun h1 h2 => nx h1 hl h2), fun _ => c16 R _ k h hI hl (fun h1 h2 => nx h1 hl h2), fun _ => c17 R _ k h hI hl (fun h1 h2 => nx h1 hl h2), fun _ => c18 R _ k h hI hl (fun h1 h2 => nx h1 hl h2), fun _ => c19 R _ k h hI hl (fun h1 h2 => nx h1 hl h2), fun _ => c20 R _ k h hI hl (fun h1 h2 => nx h1 hl h2), fun _ => c21 R _ k h hI hl (fun h1 h2 => nx h1 hl h2), fun _ => c22 R _ k h hI hl (fun h1 h2 => nx h1 hl h2), fun _ => c23 R _ k h hI hl (fun h1 h2 => nx h1 hl h2), fun _ => c24 R _ k h hI hl (fun h1 h2 => nx h1 hl h2), fun _ => c25 R _ k h hI hl (fun h1 h2 => nx h1 hl h2), fun _ => c26 R _ k h hI hl (fun h1 h2 => nx h1 hl h2), fun _ => c27 R _ k h hI hl (fun h1 h2 => nx h1 hl h2), fun _ => c28 R _ k h hI hl (fun h1 h2 => nx h1 hl h2), fun _ => c29 R _ k h hI hl (fun h1 h2 => nx h1 hl h2), fun _ => c30 R _ k h hI hl (fun h1 h2 => nx h1 hl h2), fun _ => c31 R _ k h hI hl (fun h1 h2 => nx h1 hl h2), fun _ => c32 R _ k h hI hl (fun h1 h2 => nx h1 hl h2), fun _ => c33 R _ k h hI hl (fun h1 h2 => nx h1 hl h2), fun _ => c34 R _ k h hI hl (fun h1 h2 => nx h1 hl h2), fun _ => c35 R _ k h hI hl (fun h1 h2 => nx h1 hl h2)⟩
/-- the heap when the law has made its objects, from z on -/
def lwF (b L z : Nat) (xs : Nat → Int32) (h : tpH) : Prop := fTP h z (z + 1) ∧ fMd h (z + 102) (z + 103) ∧ (hT h (z + 149) = 17 ∧ hL h (z + 149) = 1) ∧ (hT h (z + 150) = 18 ∧ hL h (z + 150) = 1) ∧ (hT h b = 22 ∧ hL h b = L ∧ hI h b = xs) ∧ hZ h = z + 151 ∧ hU h = 293673
theorem p_law {b L z : Nat} {xs : Nat → Int32} {R : Int32 → tpH → Prop} (hbz : b < z) (k : ∀ h, lwF b L z xs h → ∃ n, w_Lw_law_28 R n (some b) (some z) (some (z + 102)) (some (z + 149)) (some (z + 150)) (0 : Int32) h) : w_Lw_law (some b) (tpH0 b L z xs) R := by
  unfold w_Lw_law
  intro a1 h2 ea1 eh2
  have ez1 : a1 = z := ea1
  clear ea1
  subst a1
  have z0 : hZ (tpH0 b L z xs) = z := rfl
  have u0 : hU (tpH0 b L z xs) = 0 := rfl
  generalize hg : tpH0 b L z xs = g at *
  have b1 : hT g b = 22 ∧ hL g b = L ∧ hI g b = xs := by
    rw [← hg]
    exact ⟨if_pos rfl, rfl, rfl⟩
  have n1 := nC_new g 13 0 13
  have s1 := hSm_nC g 13 0 13
  rw [z0] at n1 s1
  have z2 : hZ h2 = z + 1 := by rw [eh2]; show hZ g + 1 = _; omega
  have u2 : hU h2 = 13 := by rw [eh2]; show hU g + 13 = _; omega
  rw [← eh2] at n1 s1
  refine p_TP_init (by omega) n1.1 (fun j => by rw [n1.2.2.2.1]) (fun h5 f5 z5 u5 r5 => ?_)
  rw [z2] at f5 z5 r5
  intro a6 h7 ea6 eh7
  have n7 := nC_new h5 14 0 58
  have s7 := hSm_nC h5 14 0 58
  rw [← eh7] at n7 s7
  rw [z5] at n7 s7 ea6
  have ea6' : a6 = z + 102 := by omega
  subst ea6'
  have z7 : hZ h7 = z + 103 := by rw [eh7]; show hZ h5 + 1 = _; omega
  have u7 : hU h7 = 13 + 13361 + 58 := by rw [eh7]; show hU h5 + 58 = _; omega
  have n7' := n7
  rw [show z + 1 + 101 = z + 102 by omega] at n7'
  refine p_Md_init (by omega) n7'.1 (fun j => by rw [n7'.2.2.2.1]) (fun h10 f10 z10 u10 r10 => ?_)
  rw [z7] at f10 z10 r10
  intro a11 h12 ea11 eh12 a15 h16 ea15 eh16
  have n12 := nC_new h10 17 1 1
  have s12 := hSm_nC h10 17 1 1
  rw [← eh12] at n12 s12
  rw [z10] at n12 s12 ea11
  have z12 : hZ h12 = z + 150 := by rw [eh12]; show hZ h10 + 1 = _; omega
  have u12 : hU h12 = 13 + 13361 + 58 + 280239 + 1 := by rw [eh12]; show hU h10 + 1 = _; omega
  have n16 := nC_new h12 18 1 1
  have s16 := hSm_nC h12 18 1 1
  rw [← eh16] at n16 s16
  rw [z12] at n16 s16 ea15
  have z16 : hZ h16 = z + 151 := by rw [eh16]; show hZ h12 + 1 = _; omega
  have u16 : hU h16 = 293673 := by rw [eh16]; show hU h12 + 1 = _; omega
  have e11 : a11 = z + 149 := by omega
  have e15 : a15 = z + 150 := by omega
  subst e11 e15
  rw [show z + 103 + 46 = z + 149 by omega] at n12 s12
  have fr : ∀ y, y < z + 102 → hSm h5 h16 y := fun y hy => hSm_tr (hSm_tr (hSm_tr (s7 y (by omega)) (r10 y (by omega) (by omega))) (s12 y (by omega))) (s16 y (by omega))
  have fr2 : ∀ y, y < z + 149 → hSm h10 h16 y := fun y hy => hSm_tr (s12 y (by omega)) (s16 y (by omega))
  refine k h16 ⟨fTP_k f5 (fr z (by omega)) (fun y h1 h2 => fr y (by omega)), ?_, ?_, ⟨n16.1, n16.2.1⟩, ?_, z16, u16⟩
  · obtain ⟨m1, m2, m3⟩ := f10
    refine ⟨lMd_k m1 (fr2 _ (by omega)) (fun y h1 h2 => fr2 y (by omega)), fun j => by rw [(fr2 (z + 102) (by omega)).2.2.2.1]; exact m2 j, fun j q hj => ?_⟩
    rw [(fr2 (z + 103 + j) (by omega)).2.2.2.1]
    exact m3 j q hj
  · have := s16 (z + 149) (by omega)
    exact ⟨by rw [this.1]; exact n12.1, by rw [this.2.1]; exact n12.2.1⟩
  · have q := hSm_tr (hSm_tr (s1 b hbz) (r5 b (by omega) (by omega))) (fr b (by omega))
    exact ⟨by rw [q.1]; exact b1.1, by rw [q.2.1]; exact b1.2.1, by rw [q.2.2.2.1]; exact b1.2.2⟩
end PLAW
