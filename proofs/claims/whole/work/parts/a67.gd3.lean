section GD3
/-! the reference makes a script: puts and moves -/
theorem p_cmA {h : tpH} {Q q b : Nat} (M : lMd h Q q) (hb : b < 300) {F : Nat → Nat → Int32} {R : Int32 → tpH → Prop} : ∀ (n : Nat) (L : List Nat) (v : Int32), seg (fun y => F (q + 6) (300 * 41 + y)) v L (-1) → (∀ x ∈ L, x < 300) → L.length < n → R (if b ∈ L then 1 else 0) (wI h F) → w_Md_comesAhead_8 R n Q (nI b) v (wI h F)
  | 0, L, v, hv, h3, hn, k => by omega
  | n + 1, [], v, hv, h3, hn, k => by
    have hv : v = -1 := hv
    subst hv
    rw [if_neg (by simp)] at k
    exact ⟨fun _ => k, fun g => absurd rfl g⟩
  | n + 1, x :: L, v, hv, h3, hn, k => by
    obtain ⟨e, hv⟩ := hv
    subst e
    have hx := h3 x List.mem_cons_self
    simp only [List.length_cons] at hn
    refine ⟨fun g => absurd g (nI_ne_m (by omega)), fun _ => ⟨fun g => ⟨M.1, ?_⟩, fun g => ?_⟩⟩
    · have ne : b ≠ x := fun q => g (by rw [q])
      show w_Md_nextIn Q (nI 41) (nI x) (wI h F) _
      rw [e_Md_nextIn M (by decide) hx]
      refine p_cmA M hb n L _ hv (fun y hy => h3 y (List.mem_cons_of_mem _ hy)) (by omega) ?_
      by_cases c : b ∈ L
      · rw [if_pos c]
        rw [if_pos (List.mem_cons_of_mem _ c)] at k
        exact k
      · rw [if_neg c]
        rw [if_neg (fun q => (List.mem_cons.mp q).elim ne c)] at k
        exact k
    · have eb : x = b := nI_inj (by omega) (by omega) g
      rw [if_pos (by rw [eb]; exact List.mem_cons_self)] at k
      exact k
theorem seg_tail {nx : Nat → Int32} {s : Int32} : ∀ {A B : List Nat} {m : Nat}, seg nx s (A ++ m :: B) (-1) → seg nx (nx m) B (-1)
  | [], B, m, h => h.2
  | _ :: A, B, m, h => seg_tail (A := A) h.2
theorem p_comes {h : tpH} {Q q m r b : Nat} (M : lMd h Q q) {F : Nat → Nat → Int32} {c : mT} (hL : MtL F q 41 c) (hw : fWF 300 c) (hm : m ∈ tKi c r) (hb : b ∈ tKi c r) (hne : b ≠ m) {R : Int32 → tpH → Prop} (k : R (if m ∈ (tKi c r).take ((tKi c r).idxOf b) then 1 else 0) (wI h F)) : w_Md_comesAhead Q (nI m) (nI b) (wI h F) R := by
  have hmi := fKi_in hw hm
  have hr := fKi_p hw hm
  have m3 := hw.1 m hmi.1
  have b3 := hw.1 b (fKi_in hw hb).1
  obtain ⟨A, B, e⟩ := List.append_of_mem hm
  have nd := hw.2.2.1 r
  have g3 := (hL r hr).2.2
  have hK : ∀ x ∈ tKi c r, x < 300 := fun x hx => hw.1 x (fKi_in hw hx).1
  rw [e] at g3
  refine ⟨M.1, ?_⟩
  show w_Md_nextIn Q (nI 41) (nI m) (wI h F) _
  rw [e_Md_nextIn M (by decide) m3]
  refine ⟨B.length + 1, p_cmA M b3 _ B _ (seg_tail (nx := fun y => F (q + 6) (300 * 41 + y)) g3) (fun x hx => hK x (by rw [e]; exact List.mem_append_right _ (List.mem_cons_of_mem _ hx))) (Nat.lt_succ_self _) ?_⟩
  have iff : b ∈ B ↔ m ∈ (tKi c r).take ((tKi c r).idxOf b) := by
    rw [e] at nd hb
    obtain ⟨nA, nB, nd2⟩ := List.nodup_append.mp nd
    constructor
    · intro hB
      obtain ⟨B1, B2, eB⟩ := List.append_of_mem hB
      have e2 : tKi c r = (A ++ m :: B1) ++ b :: B2 := by rw [e, eB, List.append_assoc]; rfl
      rw [idx_split (hw.2.2.1 r) e2, e2, List.take_left' rfl]
      exact List.mem_append_right _ List.mem_cons_self
    · intro ht
      rcases List.mem_append.mp hb with g | g
      · exfalso
        obtain ⟨A1, A2, eA⟩ := List.append_of_mem g
        have e2 : tKi c r = A1 ++ b :: (A2 ++ m :: B) := by rw [e, eA, List.append_assoc]; rfl
        rw [idx_split (hw.2.2.1 r) e2, e2, List.take_left' rfl] at ht
        exact nd2 m (by rw [eA]; exact List.mem_append_left _ ht) m List.mem_cons_self rfl
      · rcases List.mem_cons.mp g with q | q
        · exact absurd q hne
        · exact q
  by_cases c1 : b ∈ B
  · rw [if_pos c1]
    rw [if_pos (iff.mp c1)] at k
    exact k
  · rw [if_neg c1]
    rw [if_neg (fun q => c1 (iff.mpr q))] at k
    exact k
def GT (F : Nat → Nat → Int32) (q : Nat) (u : mT) (P : mP) (i : Nat) : Prop := ∀ z, tIn u z = true → F (q + 32) z = if pl u z < i then nI (twF P z) else nO (P.2 z)
theorem p_g189 {h : tpH} {Q q mk s1 s2 sc : Nat} {t u : mT} {P : mP} {kd idn : Nat → Int32} (X : GX h Q q mk s1 s2 sc t u P) {F : Nat → Nat → Int32} (C : GF F Q q mk s1 s2 t u kd idn) {l : List mSt} (S : SM F q sc l) (hl : l.length ≤ 100) {c : mT} {w : Nat → Int32} (hw : tWF 300 c) (D : MtP F q 41 (reW c w)) {x r : Nat} (hx : tIn c x = true) (hxr : x ≠ tRt c) (hr : tIn c r = true) (hrm : r < mk) (hne : r ≠ x) {ao : Option Nat} (ha : ∀ d, ao = some d → d ∈ tKi c r ∧ d ≠ x) (hw' : tWF 300 (dMove c x r (loK kd r) (aK (tKi (tCut c x) r) ao))) {R : Int32 → tpH → Prop} (k1 : ∀ G, addO l (2, x, -1, -1, spO c x, spO (dMove c x r (loK kd r) (aK (tKi (tCut c x) r) ao)) x) = some (l ++ [(2, x, -1, -1, spO c x, spO (dMove c x r (loK kd r) (aK (tKi (tCut c x) r) ao)) x)]) → l.length < 100 → gFr Q q sc F G → G (q + 32) = F (q + 32) → SM G q sc (l ++ [(2, x, -1, -1, spO c x, spO (dMove c x r (loK kd r) (aK (tKi (tCut c x) r) ao)) x)]) → MtP G q 41 (reW (dMove c x r (loK kd r) (aK (tKi (tCut c x) r) ao)) w) → R 1 (wI h G)) (k0 : ∀ G, addO l (2, x, -1, -1, spO c x, spO (dMove c x r (loK kd r) (aK (tKi (tCut c x) r) ao)) x) = none → gFr Q q sc F G → R 0 (wI h G)) : w_Md_places_189 R Q (nI sc) (nI r) (nO ao) (nI x) 1 (wI h F) := by
  obtain ⟨⟨⟨M, hQ⟩, _, hk, _, ht, hum⟩, ⟨l1, l2, l3⟩, HP⟩ := id X
  have x3 := hw.1.1 x hx
  refine ⟨fun g => absurd g (by decide), fun _ => ⟨M.1, ?_⟩⟩
  show w_Md_newStep Q (nI sc) (nI 2) (nI x) (wI h F) _
  by_cases hl1 : l.length < 100
  · have k1 := fun G => k1 G (addO_s hl1) hl1
    refine p_Md_newStep M (by omega) S.1 hl1 ⟨fun _ => ⟨M.1, ?_⟩, fun g => absurd g (nI_ne_m (by omega))⟩
    have o1 : ∀ b jj, ¬ ((b = q + 7 ∧ jj = sc) ∨ (q + 8 ≤ b ∧ b ≤ q + 17 ∧ jj = 100 * sc + l.length)) → uNs F q sc l.length (nI 2) (nI x) b jj = F b jj := fun b jj hb => uNs_o F _ _ hb
    have q0 := uNs_0 F q sc l.length (nI 2) (nI x)
    have q1 := uNs_1 F q sc l.length (nI 2) (nI x)
    have q2 := uNs_2 F q sc l.length (nI 2) (nI x)
    have q3 := uNs_3 F q sc l.length (nI 2) (nI x)
    have qc := uNs_c F q sc l.length (nI 2) (nI x)
    generalize uNs F q sc l.length (nI 2) (nI x) = F1 at o1 q0 q1 q2 q3 qc
    have hk4 : 100 * sc + l.length < 4100 := by omega
    have wc : tWF 300 (reW c w) := hw
    have D1 : MtP F1 q 41 (reW c w) := MtP_k wc D (o1 _ _ (by omega)) (fun b b1 b2 jj j1 j2 => o1 _ _ (by omega))
    obtain ⟨pp, hpp⟩ := Option.ne_none_iff_exists'.mp (hw.2.2.2 x hx hxr)
    obtain ⟨A0, B0, e0⟩ := List.append_of_mem ((hw.1.2.1 x pp).mpr ⟨hx, hpp⟩)
    have e0' : tKi (reW c w) pp = A0 ++ x :: B0 := e0
    refine p_tellWas M hk4 D1.1 wc.1 e0' ⟨M.1, ?_⟩
    have D2 : MtP (uTw F1 q (100 * sc + l.length) (spO (reW c w) x)) q 41 (reW c w) := MtP_fr D1 (fun b b1 b2 => by unfold uTw; rw [tpu_fa _ _ _ _ _ (by omega), tpu_fa _ _ _ _ _ (by omega), tpu_fa _ _ _ _ _ (by omega)])
    have o2 : ∀ b jj, ¬ (q + 15 ≤ b ∧ b ≤ q + 17 ∧ jj = 100 * sc + l.length) → uTw F1 q (100 * sc + l.length) (spO (reW c w) x) b jj = F1 b jj := fun b jj hb => by unfold uTw; rw [tpu_o (by omega), tpu_o (by omega), tpu_o (by omega)]
    have w15 : uTw F1 q (100 * sc + l.length) (spO (reW c w) x) (q + 15) (100 * sc + l.length) = nO (spO c x).1 := by unfold uTw; rw [tpu_o (by omega), tpu_o (by omega), tpu_s]; rfl
    have w16 : uTw F1 q (100 * sc + l.length) (spO (reW c w) x) (q + 16) (100 * sc + l.length) = nO (spO c x).2.1 := by unfold uTw; rw [tpu_o (by omega), tpu_s]; rfl
    have w17 : uTw F1 q (100 * sc + l.length) (spO (reW c w) x) (q + 17) (100 * sc + l.length) = nO (spO c x).2.2 := by unfold uTw; rw [tpu_s]; rfl
    generalize uTw F1 q (100 * sc + l.length) (spO (reW c w) x) = F2 at D2 o2 w15 w16 w17
    show w_Md_unhang Q (nI 41) (nI x) (wI h F2) _
    refine p_Md_unhang M (by decide) D2.1 wc.1 e0' ⟨M.1, ?_⟩
    obtain ⟨c1, c2, c3, c4⟩ := mu_cut D2.1 wc.1 e0'
    have hw1 := fCut wc.1 x
    have hxk : x ∉ tKi (tCut (reW c w) x) r := fun g => by
      have := (fKi_in hw1 g).2
      rw [show tUp (tCut (reW c w) x) x = none from mU_s _ _ _] at this
      cases this
    have hlr : uMu F2 q 41 x pp A0.getLast? q r < 4 ↔ loK kd r = false := by
      rw [c2.1 q (by omega) (by omega) (by omega), o2 _ _ (by omega), o1 _ _ (by omega), (C.1.2 r hrm).1]
      exact loK_iff kd r
    have haC : ∀ d, ao = some d → d ∈ tKi (tCut c x) r := fun d hd => by
      obtain ⟨d1, d2⟩ := ha d hd
      exact (List.mem_erase_of_ne d2).mpr d1
    obtain ⟨D3, w3⟩ := mt_mv D2 wc e0' hxr hr hne (loK kd r) (aK (tKi (tCut c x) r) ao)
    have nd1 : (tKi (tCut c x) r).Nodup := hw1.2.2.1 r
    show w_Md_hang Q (nI 41) (nI x) (nI r) (nO ao) (wI h (uMu F2 q 41 x pp A0.getLast?)) _
    rw [← aK_last nd1 haC]
    refine p_Md_hang M (by decide) x3 (c1 r hr) hw1 (p := r) hr hxk (A := (tKi (tCut c x) r).take (aK (tKi (tCut c x) r) ao)) (B := (tKi (tCut c x) r).drop (aK (tKi (tCut c x) r) ao)) (List.take_append_drop _ _).symm hlr ⟨M.1, ?_⟩
    have D3' : MtP (uMh (uMu F2 q 41 x pp A0.getLast?) q 41 x r (hgA (loK kd r) (tKi (tCut (reW c w) x) r) x ((tKi (tCut c x) r).take (aK (tKi (tCut c x) r) ao))).getLast?) q 41 (reW (dMove c x r (loK kd r) (aK (tKi (tCut c x) r) ao)) w) := D3
    have w3' : wkFr q F2 (uMh (uMu F2 q 41 x pp A0.getLast?) q 41 x r (hgA (loK kd r) (tKi (tCut (reW c w) x) r) x ((tKi (tCut c x) r).take (aK (tKi (tCut c x) r) ao))).getLast?) := w3
    generalize uMh (uMu F2 q 41 x pp A0.getLast?) q 41 x r (hgA (loK kd r) (tKi (tCut (reW c w) x) r) x ((tKi (tCut c x) r).take (aK (tKi (tCut c x) r) ao))).getLast? = F3 at D3' w3'
    have eK : ∃ A2 B2, tKi (dMove c x r (loK kd r) (aK (tKi (tCut c x) r) ao)) r = A2 ++ x :: B2 := ⟨_, _, mU_s _ _ _⟩
    generalize dMove c x r (loK kd r) (aK (tKi (tCut c x) r) ao) = c' at D3' k1 eK hw'
    obtain ⟨A2, B2, eK⟩ := eK
    have wc' : tWF 300 (reW c' w) := hw'
    have eK' : tKi (reW c' w) r = A2 ++ x :: B2 := eK
    refine p_tellTo M hk4 D3'.1 wc'.1 eK' ?_
    have o3 : ∀ b jj, ¬ (q + 3 ≤ b ∧ b ≤ q + 6) → F3 b jj = F2 b jj := fun b jj hb => w3' b jj (by omega)
    have o4 : ∀ b jj, ¬ (q + 12 ≤ b ∧ b ≤ q + 14 ∧ jj = 100 * sc + l.length) → uTt F3 q (100 * sc + l.length) (spO (reW c' w) x) b jj = F3 b jj := fun b jj hb => by unfold uTt; rw [tpu_o (by omega), tpu_o (by omega), tpu_o (by omega)]
    have w12 : uTt F3 q (100 * sc + l.length) (spO (reW c' w) x) (q + 12) (100 * sc + l.length) = nO (spO c' x).1 := by unfold uTt; rw [tpu_o (by omega), tpu_o (by omega), tpu_s]; rfl
    have w13 : uTt F3 q (100 * sc + l.length) (spO (reW c' w) x) (q + 13) (100 * sc + l.length) = nO (spO c' x).2.1 := by unfold uTt; rw [tpu_o (by omega), tpu_s]; rfl
    have w14 : uTt F3 q (100 * sc + l.length) (spO (reW c' w) x) (q + 14) (100 * sc + l.length) = nO (spO c' x).2.2 := by unfold uTt; rw [tpu_s]; rfl
    have D4 : MtP (uTt F3 q (100 * sc + l.length) (spO (reW c' w) x)) q 41 (reW c' w) := MtP_fr D3' (fun b b1 b2 => by unfold uTt; rw [tpu_fa _ _ _ _ _ (by omega), tpu_fa _ _ _ _ _ (by omega), tpu_fa _ _ _ _ _ (by omega)])
    generalize uTt F3 q (100 * sc + l.length) (spO (reW c' w) x) = F4 at o4 w12 w13 w14 D4
    refine k1 F4 (fun b jj hb => ?_) (funext fun jj => ?_) (SM_add S (fun b jj b1 b2 j1 j2 => ?_) ?_ ⟨?_, ?_, ?_, ?_, ⟨?_, ?_, ?_⟩, w12, w13, w14⟩) D4
    · by_cases cb : q + 3 ≤ b ∧ b ≤ q + 6
      · rw [o4 _ _ (by omega), w3' _ _ (by omega), o2 _ _ (by omega), o1 _ _ (by omega)]
      · rw [o4 _ _ (by omega), o3 _ _ cb, o2 _ _ (by omega), o1 _ _ (by omega)]
    · rw [o4 _ _ (by omega), o3 _ _ (by omega), o2 _ _ (by omega), o1 _ _ (by omega)]
    · rw [o4 _ _ (by omega), o3 _ _ (by omega), o2 _ _ (by omega), o1 _ _ (by omega)]
    · rw [o4 _ _ (by omega), o3 _ _ (by omega), o2 _ _ (by omega)]; exact qc
    · rw [o4 _ _ (by omega), o3 _ _ (by omega), o2 _ _ (by omega)]; exact q0
    · rw [o4 _ _ (by omega), o3 _ _ (by omega), o2 _ _ (by omega)]; exact q1
    · rw [o4 _ _ (by omega), o3 _ _ (by omega), o2 _ _ (by omega)]; exact q2
    · rw [o4 _ _ (by omega), o3 _ _ (by omega), o2 _ _ (by omega)]; exact q3
    · rw [o4 _ _ (by omega), o3 _ _ (by omega)]; exact w15
    · rw [o4 _ _ (by omega), o3 _ _ (by omega)]; exact w16
    · rw [o4 _ _ (by omega), o3 _ _ (by omega)]; exact w17
  · refine p_Md_newStep_no M (by omega) S.1 (by omega) (by omega) ⟨fun g => absurd rfl g, fun _ => ?_⟩
    exact k0 _ (addO_n hl1) (fun b jj hb => tpu_o (by omega))
end GD3
