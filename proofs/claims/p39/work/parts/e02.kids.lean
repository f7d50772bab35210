section KIDROWS
/-! children as a row -/
abbrev rwKs (F : Nat → Nat → Int32) (r s : Nat) (K : List Nat) : Prop := rwG nI F r s K
def lcI (lo : Bool) (K : List Nat) (m : Nat) : List Nat := if lo = true then lowA K m ++ m :: lowB K m else K ++ [m]
def lcS (lo : Bool) (p : Nat) (K : List Nat) (e : lE) : List Nat := if e.2.2 = some p ∧ e.1 ≠ p then lcI lo K e.1 else K
def lcL (lo : Bool) (L : List lE) (p : Nat) : List Nat := L.foldl (lcS lo p) []
theorem lcI_len (lo : Bool) (K : List Nat) (m : Nat) : (lcI lo K m).length = K.length + 1 := by
  unfold lcI
  split
  · have := congrArg List.length (low_app K m)
    rw [List.length_append] at this
    rw [List.length_append, List.length_cons]
    omega
  · rw [List.length_append, List.length_singleton]
theorem lcS_len (lo : Bool) (p : Nat) (K : List Nat) (e : lE) : (lcS lo p K e).length ≤ K.length + 1 := by
  unfold lcS
  split
  · rw [lcI_len]; exact Nat.le_refl _
  · exact Nat.le_succ _
theorem lcF_len (lo : Bool) (p : Nat) : ∀ (L : List lE) (K : List Nat), (L.foldl (lcS lo p) K).length ≤ K.length + L.length
  | [], K => Nat.le_refl _
  | e :: L, K => by
    have h1 := lcF_len lo p L (lcS lo p K e)
    have h2 := lcS_len lo p K e
    rw [List.foldl_cons, List.length_cons]
    omega
theorem lcL_len (lo : Bool) (p : Nat) (L : List lE) : (lcL lo L p).length ≤ L.length := by
  have := lcF_len lo p L []
  rw [List.length_nil, Nat.zero_add] at this
  exact this
theorem p_ch81 {h : tpH} {t k r p i : Nat} {L : List lE} {e : lE} {K A B : List Nat} {F : Nat → Nat → Int32} (a : iA h t 41) (b : iA h r 40) (hrt : t ≠ r) (P : rwP F t L) (hi : L[i]? = some e) (hl : A.length < 40) (h1 : rwKs F r 0 A) (h2 : rwKs F r (A.length + 1) B) {R : Int32 → tpH → Prop} {K6 : (Option Nat) → (Option Nat) → Int32 → (Option Nat) → Int32 → Int32 → tpH → Prop} (kk : ∀ G, (∀ c, c ≠ r → G c = F c) → rwKs G r 0 (A ++ e.1 :: B) → K6 (some t) (some k) (nI p) (some r) (nI (K.length + 1)) (nI (i + 1)) (wI h G)) :
    w_Lw_children_81 R K6 (some t) (some k) (nI p) (some r) (nI K.length) (nI i) (nI A.length) (wI h F) := by
  refine p_mark (h := wI h F) a P hi ⟨r, rfl, b.1, by rw [show hL (wI h F) r = 40 from b.2]; exact vp_in_nI hl (by decide), fun h7 e7 => ?_⟩
  rw [nI_clamp (by omega), sI_wI, wI_wI, wI_I] at e7
  subst e7
  rw [nI_1, nI_1]
  refine kk _ (fun c hc => tpu_ne hc) (rwG_app.mpr ⟨rwG_k h1 (fun j _ hj => tpu_o (by omega)), rwG_cons.mpr ⟨?_, ?_⟩⟩)
  · rw [Nat.zero_add]; exact tpu_s _ _ _ _
  · rw [Nat.zero_add]
    exact rwG_k h2 (fun j hj _ => tpu_o (by omega))
theorem p_ch38 {h : tpH} {t k r p i : Nat} {L : List lE} {e : lE} {K : List Nat} {lo : Bool} (a : iA h t 41) (b : iA h r 40) (ak : iA h k 40) (hrt : t ≠ r) (hrk : k ≠ r) (hp : p < 40) (hi : L[i]? = some e) (hK : K.length < 40) (hKm : ∀ x ∈ K, x < 40) {kv : Int32} (hlo : kv ≤ 3 ↔ lo = false) {R : Int32 → tpH → Prop} {K6 : (Option Nat) → (Option Nat) → Int32 → (Option Nat) → Int32 → Int32 → tpH → Prop} {F0 : Nat → Nat → Int32}
    (kk : ∀ G, (∀ c, c ≠ r → G c = F0 c) → rwKs G r 0 (lcI lo K e.1) → K6 (some t) (some k) (nI p) (some r) (nI (K.length + 1)) (nI (i + 1)) (wI h G)) :
    ∀ (n : Nat) (A B : List Nat) (F : Nat → Nat → Int32), A.length < n → K = A ++ B → (lo = true → lowA K e.1 = lowA A e.1) → (lo = false → B = []) → (∀ c, c ≠ r → F c = F0 c) → rwP F t L → F k p = kv → rwKs F r 0 A → rwKs F r (A.length + 1) B → w_Lw_children_38 R K6 n (some t) (some k) (nI p) (some r) (nI K.length) (nI i) (nI A.length) (wI h F)
  | 0, A, B, F, hn, _, _, _, _, _, _, _, _ => absurd hn (Nat.not_lt_zero _)
  | n + 1, A, B, F, hn, hAB, h1, h2, hF, P, hkv, rA, rB => by
    have hlen : K.length = A.length + B.length := by rw [hAB, List.length_append]
    have hm := (P.2.2.1 e (List.mem_of_getElem? hi)).1
    have out : lcI lo K e.1 = A ++ e.1 :: B → w_Lw_children_81 R K6 (some t) (some k) (nI p) (some r) (nI K.length) (nI i) (nI A.length) (wI h F) := fun q =>
      p_ch81 a b hrt P hi (by omega) rA rB (fun G g1 g2 => kk G (fun c hc => (g1 c hc).trans (hF c hc)) (by rw [q]; exact g2))
    have outT : lo = true → lowA A e.1 = A → lcI lo K e.1 = A ++ e.1 :: B := fun q q2 => by
      have q3 : lowA K e.1 = A := (h1 q).trans q2
      have q4 := low_app K e.1
      rw [q3] at q4
      have q5 : lowB K e.1 = B := List.append_cancel_left (q4.trans hAB)
      unfold lcI
      rw [if_pos q, q3, q5]
    refine ⟨fun c => out ?_, fun c => ?_⟩
    · have e0 : A = [] := by
        have : A.length ≤ 0 := (nI_le_iff (b := 0) (by omega) (by decide)).mp c
        exact List.eq_nil_of_length_eq_zero (by omega)
      cases hb : lo with
      | true => rw [← hb]; exact outT hb (by rw [e0]; rfl)
      | false =>
        unfold lcI
        rw [if_neg (by simp), h2 hb, hAB, h2 hb, e0]
        rfl
    · have eA : ¬ A.length ≤ 0 := fun g => c ((nI_le_iff (b := 0) (by omega) (by decide)).mpr g)
      refine ⟨k, rfl, ak.1, by rw [show hL (wI h F) k = 40 from ak.2]; exact vp_in_nI hp (by decide), ?_⟩
      rw [nI_clamp (by omega), wI_I, hkv]
      refine ⟨fun g => out ?_, fun g => ?_⟩
      · have hb := hlo.mp g
        unfold lcI
        rw [hb, if_neg (by simp), hAB, h2 hb, List.append_nil]
      · have hb : lo = true := by
          cases hb : lo with
          | true => rfl
          | false => exact absurd (hlo.mpr hb) g
        obtain ⟨A', d, rfl⟩ := ex_snoc (L := A) (fun q => eA (by rw [q]; exact Nat.le_refl _))
        have el : (A' ++ [d]).length = A'.length + 1 := by rw [List.length_append, List.length_singleton]
        rw [el] at hlen rB hn ⊢
        obtain ⟨rA1, rA2⟩ := rwG_app.mp rA
        have ed : F r A'.length = nI d := by
          have := (rwG_cons.mp rA2).1
          rw [Nat.zero_add] at this
          exact this
        have hd : d < 40 := hKm d (by rw [hAB]; simp)
        have ep : nI (A'.length + 1) - 1 = nI A'.length := nI_pred _
        have er : hL (wI h F) r = 40 := b.2
        have vp : vp_in (nI A'.length) (hL (wI h F) r) := by rw [er]; exact vp_in_nI (by omega) (by decide)
        rw [ep]
        refine ⟨r, rfl, b.1, vp, ?_⟩
        refine p_mark (h := wI h F) a P hi ?_
        rw [nI_clamp (by omega), wI_I, ed, nI_le_iff (by omega) (by omega)]
        refine ⟨fun g2 => ?_, fun g2 => ⟨b.1, vp, by rw [er]; exact vp_in_nI (by omega) (by decide), fun h17 e17 => ?_⟩⟩
        · have := out (outT hb (by rw [lowA_snoc, if_neg (by omega)]))
          rw [el] at this
          exact this
        · rw [nI_clamp (by omega), sI_wI, wI_wI, wI_I] at e17
          subst e17
          have em : nI (A'.length + 1) + -1 = nI A'.length := nI_m1 _
          rw [em]
          refine p_ch38 a b ak hrt hrk hp hi hK hKm hlo kk n A' (d :: B) _ (by omega) (by rw [hAB, List.append_assoc]; rfl) (fun q => by rw [h1 q, lowA_snoc, if_pos (by omega)]) (fun q => by rw [hb] at q; cases q) (fun c hc => (tpu_ne hc).trans (hF c hc)) (rwP_k P (tpu_ne hrt)) (by rw [tpu_ne hrk]; exact hkv) (rwG_k rA1 (fun j _ hj => tpu_o (by omega))) (rwG_cons.mpr ⟨tpu_s _ _ _ _, rwG_k rB (fun j hj _ => tpu_o (by omega))⟩)
theorem lcL_lt {lo : Bool} {p N : Nat} : ∀ (L : List lE) (K : List Nat), (∀ e ∈ L, e.1 < N) → (∀ x ∈ K, x < N) → ∀ x ∈ L.foldl (lcS lo p) K, x < N
  | [], K, _, h => h
  | e :: L, K, h1, h2 => by
    refine lcL_lt L _ (fun e' he => h1 e' (List.mem_cons_of_mem _ he)) (fun x hx => ?_)
    unfold lcS at hx
    split at hx
    · unfold lcI at hx
      split at hx
      · have e1 := low_app K e.1
        rcases List.mem_append.mp hx with g | g
        · exact h2 x (by rw [← e1]; exact List.mem_append_left _ g)
        · rcases List.mem_cons.mp g with g | g
          · rw [g]; exact h1 e List.mem_cons_self
          · exact h2 x (by rw [← e1]; exact List.mem_append_right _ g)
      · rcases List.mem_append.mp hx with g | g
        · exact h2 x g
        · rw [List.mem_singleton.mp g]; exact h1 e List.mem_cons_self
    · exact h2 x hx
theorem p_ch6 {h : tpH} {t k r p : Nat} {L : List lE} {lo : Bool} (a : iA h t 41) (b : iA h r 40) (ak : iA h k 40) (hrt : t ≠ r) (hrk : k ≠ r) (hp : p < 40) {kv : Int32} (hlo : kv ≤ 3 ↔ lo = false) {R : Int32 → tpH → Prop} {F0 : Nat → Nat → Int32} (P0 : rwP F0 t L) (hkv : F0 k p = kv)
    (kk : ∀ G, (∀ c, c ≠ r → G c = F0 c) → rwKs G r 0 (lcL lo L p) → R (nI (lcL lo L p).length) (wI h G)) :
    ∀ (n i : Nat) (L1 L2 : List lE) (F : Nat → Nat → Int32), L = L1 ++ L2 → L1.length = i → L2.length < n → (∀ c, c ≠ r → F c = F0 c) → rwKs F r 0 (lcL lo L1 p) → w_Lw_children_6 R n (some t) (some k) (nI p) (some r) (nI (lcL lo L1 p).length) (nI i) (wI h F)
  | 0, i, L1, L2, F, _, _, hn, _, _ => absurd hn (Nat.not_lt_zero _)
  | n + 1, i, L1, L2, F, qL, hi1, hn, hF, rK => by
    have P : rwP F t L := rwP_k P0 (hF t hrt)
    have h40 := P.2.1
    have hlen : L.length = L1.length + L2.length := by rw [qL, List.length_append]
    refine ⟨t, rfl, a.1, by rw [show hL (wI h F) t = 41 from a.2]; exact vp0 (by decide) (by decide), ?_⟩
    rw [show (0 : Int32).toNatClampNeg = 0 from rfl, wI_I, P.1, nI_le_iff (by omega) (by omega)]
    refine ⟨fun g => ?_, fun g => ?_⟩
    · have e2 : L2 = [] := List.eq_nil_of_length_eq_zero (by omega)
      rw [e2, List.append_nil] at qL
      rw [qL] at kk
      exact kk F hF rK
    · match L2, qL, hn, hlen with
      | [], _, _, hlen => simp at hlen; omega
      | e :: L2, qL, hn, hlen =>
        have hi : L[i]? = some e := by rw [qL, ← hi1, List.getElem?_append_right (Nat.le_refl _), Nat.sub_self]; rfl
        have hOK := P.2.2.1 e (List.mem_of_getElem? hi)
        have h40e := hOK.1
        have eL : lcL lo (L1 ++ [e]) p = lcS lo p (lcL lo L1 p) e := by
          unfold lcL
          rw [List.foldl_append]
          rfl
        have go : ∀ G, (∀ c, c ≠ r → G c = F c) → rwKs G r 0 (lcS lo p (lcL lo L1 p) e) → w_Lw_children_6 R n (some t) (some k) (nI p) (some r) (nI (lcS lo p (lcL lo L1 p) e).length) (nI (i + 1)) (wI h G) := fun G g1 g2 => by
          rw [← eL] at g2 ⊢
          exact p_ch6 a b ak hrt hrk hp hlo P0 hkv kk n (i + 1) (L1 ++ [e]) L2 G (by rw [qL, List.append_assoc]; rfl) (by rw [List.length_append, hi1]; rfl) (by rw [List.length_cons] at hn; omega) (fun c hc => (g1 c hc).trans (hF c hc)) g2
        have no : ¬ (e.2.2 = some p ∧ e.1 ≠ p) → w_Lw_children_6 R n (some t) (some k) (nI p) (some r) (nI (lcL lo L1 p).length) (nI (i + 1)) (wI h F) := fun q => by
          have q2 : lcS lo p (lcL lo L1 p) e = lcL lo L1 p := if_neg q
          rw [q2] at go
          exact go F (fun c _ => rfl) rK
        refine p_par (h := wI h F) a P hi ⟨fun g1 => ?_, fun g1 => ?_⟩
        · rw [nI_1]
          exact no (fun q => g1 (by rw [q.1]; rfl))
        · have g2 : e.2.2 = some p := by
            refine nO_inj (fun q hq => ?_) (fun q hq => ?_) g1
            · have := hOK.2.2 q hq; omega
            · rw [← Option.some.inj hq]; omega
          refine p_mark (h := wI h F) a P hi ⟨fun g3 => ?_, fun g3 => ⟨(lcL lo L1 p).length + 1, ?_⟩⟩
          · rw [nI_1]
            exact no (fun q => q.2 (nI_inj (by omega) (by omega) g3))
          · have l1 := lcL_len lo p L1
            have hc : e.2.2 = some p ∧ e.1 ≠ p := ⟨g2, fun q => g3 (by rw [q])⟩
            have q2 : lcS lo p (lcL lo L1 p) e = lcI lo (lcL lo L1 p) e.1 := if_pos hc
            rw [q2, lcI_len] at go
            rw [List.length_cons] at hlen
            exact p_ch38 (K := lcL lo L1 p) a b ak hrt hrk hp hi (by omega) (lcL_lt L1 [] (fun e' he => (P.2.2.1 e' (by rw [qL]; exact List.mem_append_left _ he)).1) (fun x hx => by cases hx)) hlo (F0 := F) go _ (lcL lo L1 p) [] F (Nat.lt_succ_self _) (List.append_nil _).symm (fun _ => rfl) (fun _ => rfl) (fun _ _ => rfl) P (by rw [hF k hrk]; exact hkv) rK (rwG_nil _ _ _ _)
theorem p_children {h : tpH} {t k r p : Nat} {L : List lE} {lo : Bool} (a : iA h t 41) (b : iA h r 40) (ak : iA h k 40) (hrt : t ≠ r) (hrk : k ≠ r) (hp : p < 40) {F : Nat → Nat → Int32} (P : rwP F t L) (hlo : F k p ≤ 3 ↔ lo = false) {R : Int32 → tpH → Prop}
    (kk : ∀ G, (∀ c, c ≠ r → G c = F c) → rwKs G r 0 (lcL lo L p) → R (nI (lcL lo L p).length) (wI h G)) : w_Lw_children (some t) (some k) (nI p) (some r) (wI h F) R :=
  ⟨L.length + 1, p_ch6 a b ak hrt hrk hp hlo P rfl kk (L.length + 1) 0 [] L F rfl rfl (Nat.lt_succ_self _) (fun _ _ => rfl) (rwG_nil _ _ _ _)⟩
end KIDROWS
