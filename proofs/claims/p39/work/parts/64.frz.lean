section PFRZ
theorem p_frz {h : tpH} {d a mk : Nat} {x : Option Nat} {t : mT} (l : lBu h d x) (lt : lTr h a (pO t).length mk) (hda : d + 15 ≤ a) (hw : tWF 300 t) (hk : mk ≤ 300) (hmk : ∀ m, tIn t m = true → m < mk) {R : Option Nat → tpH → Prop} :
    ∀ (n : Nat) (A L : List Nat) (F : Nat → Nat → Int32), L.length < n → pO t = A ++ L → BuL F d t → F d 8 = nI (tRt t) → F a 0 = nI (pO t).length → FtP F a t mk A →
    (∀ G, TrP G a t mk → (∀ b, b < a → G b = F b) → R (some a) (wI h G)) → w_Bu_freeze_26 R n d (some a) (headO L) (nI A.length) (wI h F) := by
  have hn : (pO t).length ≤ 300 := by rw [pO_len hw]; exact tCn_le t
  have hb : (pO t).length < 2 ^ 31 := by omega
  have lt0 := lt.1
  have l0 := l.1
  obtain ⟨-, -, -, ⟨a2, b2⟩, ⟨a3, b3⟩, -⟩ := id l
  intro n
  induction n with
  | zero => intro A L F h; omega
  | succ n ih =>
    intro A L F hni e hB h8 hc hF kk
    have hlen := congrArg List.length e
    rw [List.length_append] at hlen
    have hend : L = [] → w_Bu_freeze_77 R (some a) (wI h F) := fun e2 => by
      rw [e2, List.append_nil] at e
      rw [← e] at hF
      exact ⟨a, rfl, lt0, p_Tr_close lt hw hc hF (fun G g1 g2 => kk G g1 (fun b hb => g2 b (by omega) (by omega) (by omega)))⟩
    show b_Bu_freeze_26 R (w_Bu_freeze_26 R n) d (some a) (headO L) (nI A.length) (wI h F)
    unfold b_Bu_freeze_26
    refine ⟨l0, ?_⟩
    rw [wI_I, hB.1, ← pO_len hw, nI3_le (by omega) (by omega)]
    cases L with
    | nil => exact ⟨fun _ => hend rfl, fun _ => ⟨fun _ => hend rfl, fun e => absurd rfl e⟩⟩
    | cons m L =>
      simp only [List.length_cons] at hlen hni
      have hmi : tIn t m = true := (pO_mem hw).mp (by rw [e]; simp)
      have hm3 := hw.1.1 m hmi
      rw [headO_cons]
      refine ⟨fun h => by omega, fun _ => ⟨fun e2 => absurd e2 (nI_ne_m (by omega)), fun _ => ⟨d + 3, a2, b2.1, ?_⟩⟩⟩
      rw [e_at b2 n300, rAt_n hm3 n300]
      refine ⟨l0, d + 5, a3, b3.1, ?_⟩
      rw [e_at b3 n300, rAt_n hm3 n300]
      obtain ⟨q1, q2, -⟩ := hB.2 m hmi
      rw [q1, q2]
      refine ⟨a, rfl, lt0, ?_⟩
      rw [e_Tr_fillPlace lt hn hk]
      obtain ⟨hF2, ho2⟩ := ft_st hw hmk hk e hF
      have hfr : ∀ b, b < a → uFill F a (pO t).length mk (nI A.length) (nI m) (tWo t m) (nO (tUp t m)) b = F b := fun b hb => ho2 b (by omega) (by omega) (by omega) (by omega) (by omega) (by omega) (by omega)
      have hB2 : BuL (uFill F a (pO t).length mk (nI A.length) (nI m) (tWo t m) (nO (tUp t m))) d t := by
        unfold BuL nodeP
        rw [hfr d (by omega), hfr (d + 4) (by omega), hfr (d + 6) (by omega), hfr (d + 8) (by omega), hfr (d + 10) (by omega), hfr (d + 12) (by omega), hfr (d + 14) (by omega)]
        exact hB
      refine ⟨l0, ?_⟩
      rw [wI_I, hfr d (by omega), h8]
      refine p_Bu_nextInOrder l hB2 hw.1 hw.2.1 (A := A) (L := L) e ?_
      have k2 := ih (A ++ [m]) L _ (by omega) (by rw [e]; simp) hB2 (by rw [hfr d (by omega)]; exact h8) (by rw [ho2 a (by omega) (by omega) (by omega) (by omega) (by omega) (by omega) (by omega)]; exact hc) hF2 (fun G g1 g2 => kk G g1 (fun b hb => (g2 b hb).trans (hfr b hb)))
      rw [List.length_append] at k2
      rw [nI_1]
      exact k2
theorem p_Bu_freeze {h : tpH} {d k mk : Nat} {t : mT} (l : lBu h d (some k)) (lm : lMa h k) (hB : BuP (hI h) d t) (h8 : hI h d 8 = nI (tRt t)) (h2 : hI h k 2 = nI mk) (hw : tWF 300 t) (hk : mk ≤ 300) (hmk : ∀ m, tIn t m = true → m < mk) (hdz : d + 15 ≤ hZ h) (hkz : k + 5 ≤ hZ h) {R : Option Nat → tpH → Prop}
    (kk : ∀ h', lTr h' (hZ h) (pO t).length mk → TrP (hI h') (hZ h) t mk → hZ h' = hZ h + 19 → hU h' = hU h + (28 + 8 * (pO t).length + mk) → (∀ b, b < hZ h → hSm h h' b) → R (some (hZ h)) h') : w_Bu_freeze d h R := by
  have hn : (pO t).length ≤ 300 := by rw [pO_len hw]; exact tCn_le t
  have hpos := pl_lt hw hw.2.1
  rw [pl_rt hw] at hpos
  have hm0 := hmk _ hw.2.1
  intro a1 h2' e1 e2
  subst e1 e2
  have sd := hSm_nC h 12 0 10 d (by omega)
  have sk := hSm_nC h 12 0 10 k (by omega)
  refine ⟨sd.1.trans l.1, k, by rw [sd.2.2.1]; exact l.2.1, sk.1.trans lm.1, ?_⟩
  rw [sd.2.2.2.1, sk.2.2.2.1, h2, hB.1, ← pO_len hw]
  refine p_Tr_init hpos hn (by omega) hk (fun h9 M => ?_)
  obtain ⟨m1, m2, m3, m4, m5, m6, m7⟩ := M
  have l9 : lBu h9 d (some k) := lBu_k l (fun b b1 b2 => m4 b (by omega))
  have hI9 : ∀ b, b < hZ h → hI h9 b = hI h b := fun b hb => (m4 b hb).2.2.2.1
  refine ⟨l9.1, (pO t).length + 1, ?_⟩
  have hB9 : BuP (hI h9) d t := BuP_k hB (fun b b1 b2 => hI9 b (by omega))
  rw [hI9 d (by omega), h8]
  have hL : headO (pO t) = nI (tRt t) := by unfold pO; rw [tPo_eq hw.1.2.2.2.1]; rfl
  have hF : FtP (hI h9) (hZ h) t mk [] := by
    refine ⟨fun x hx => by simp at hx, fun p hp => ?_, fun m hm => ?_⟩
    · rw [cK_nil, nI_0]; exact m6 6 (by decide) _
    · rw [if_neg (by simp)]; exact m7 m hm
  have k2 := p_frz l9 m1 hdz hw hk hmk (R := R) ((pO t).length + 1) [] (pO t) (hI h9) (Nat.lt_succ_self _) rfl (BuP_L hB9) (by rw [hI9 d (by omega)]; exact h8) m5 hF (fun G g1 g2 => kk (wI h9 G) m1 g1 m2 m3 (fun b hb => ?_))
  · rw [hL] at k2
    exact k2
  · obtain ⟨c1, c2, c3, c4, c5, c6⟩ := m4 b hb
    exact ⟨c1, c2, c3, (g2 b hb).trans c4, c5, c6⟩
end PFRZ
