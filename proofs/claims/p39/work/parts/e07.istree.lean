section ISTREE
theorem get_un {α : Type} {l : List α} (h : l.Nodup) {i j : Nat} {x : α} (hi : l[i]? = some x) (hj : l[j]? = some x) : i = j := by
  obtain ⟨i1, i2⟩ := List.getElem?_eq_some_iff.mp hi
  obtain ⟨j1, j2⟩ := List.getElem?_eq_some_iff.mp hj
  rcases Nat.lt_trichotomy i j with q | q | q
  · exact absurd (i2.trans j2.symm) (List.pairwise_iff_getElem.mp h i j i1 j1 q)
  · exact q
  · exact absurd (j2.trans i2.symm) (List.pairwise_iff_getElem.mp h j i j1 i1 q)
theorem p_it156 {h : tpH} {a1 a5 : Nat} (b1 : iA h a1 40) (b5 : iA h a5 40) {K : List Nat} (hK : K.length ≤ 40) {F : Nat → Nat → Int32} (r1 : rwKs F a1 0 K) (r5 : rwKs F a5 0 K) {R : Int32 → tpH → Prop} {X : String → tpH → Prop} {K51 : (Option Nat) → (Option Nat) → (Option Nat) → (Option Nat) → (Option Nat) → Int32 → Int32 → tpH → Prop} {t k a9 : Option Nat} {x8 : Int32}
    (kk : K51 t k (some a1) (some a5) a9 1 (x8 + 1) (wI h F)) : ∀ (n j : Nat), j ≤ K.length → K.length < n + j → w_Lw_isTree_156 R X K51 n t k (some a1) (some a5) a9 1 x8 (nI K.length) (nI j) (wI h F)
  | 0, j, h1, h2 => by omega
  | n + 1, j, h1, h2 => by
    refine ⟨fun _ => kk, fun g => ⟨fun _ => kk, fun _ => ?_⟩⟩
    have hj : j < K.length := by
      have : ¬ K.length ≤ j := fun q => g ((nI_le_iff (by omega) (by omega)).mpr q)
      omega
    obtain ⟨x, hx⟩ := ex_at hj
    have e1 := r1 j x hx
    have e5 := r5 j x hx
    rw [Nat.zero_add] at e1 e5
    refine ⟨a1, rfl, b1.1, by rw [show hL (wI h F) a1 = 40 from b1.2]; exact vp_in_nI (by omega) (by decide), a5, rfl, b5.1, by rw [show hL (wI h F) a5 = 40 from b5.2]; exact vp_in_nI (by omega) (by decide), ?_⟩
    rw [nI_clamp (by omega), wI_I, e1, e5, nI_1]
    exact ⟨fun q => absurd rfl q, fun _ => p_it156 b1 b5 hK r1 r5 kk n (j + 1) (by omega) (by omega)⟩
theorem p_it203 {h : tpH} {t a9 : Nat} {L : List lE} {T : mT} (a : iA h t 41) (b9 : iA h a9 41) {F : Nat → Nat → Int32} (P : rwP F t L) (P9 : rwP F a9 (preL T)) (hw : tWF 300 T) (eLL : L.length = (pO T).length) {R : Int32 → tpH → Prop} {X : String → tpH → Prop} (kk : R 1 (wI h F)) :
    ∀ (n j : Nat), 1 ≤ j → j ≤ L.length → L.length < n + j → w_Lw_isTree_203 R X n (some t) (some a9) 1 (nI j) (wI h F)
  | 0, j, _, h1, h2 => by omega
  | n + 1, j, h0, h1, h2 => by
    have l40 := P.2.1
    refine ⟨t, rfl, a.1, by rw [show hL (wI h F) t = 41 from a.2]; exact vp0 (by decide) (by decide), ?_⟩
    rw [show (0 : Int32).toNatClampNeg = 0 from rfl, wI_I, P.1, nI_le_iff (by omega) (by omega)]
    refine ⟨fun _ => ⟨Or.inr rfl, kk⟩, fun g => ⟨fun q => absurd q (by decide), fun _ => ?_⟩⟩
    have hj : j < (pO T).length := by omega
    obtain ⟨m, hm⟩ := ex_at hj
    have hmi : tIn T m = true := (pO_mem hw).mp (List.mem_of_getElem? hm)
    have he : (preL T)[j]? = some (preE T m) := by
      unfold preL
      rw [List.getElem?_map, hm]
      rfl
    refine p_par (h := wI h F) b9 P9 he ?_
    have ex : pO T = (pO T).take j ++ m :: (pO T).drop (j + 1) := by
      obtain ⟨q1, q2⟩ := List.getElem?_eq_some_iff.mp hm
      rw [← q2, List.getElem_cons_drop, List.take_append_drop]
    cases hu : tUp T m with
    | none =>
      have e1 : m = tRt T := (up_rt hw hmi).mp hu
      have h00 : (pO T)[0]? = some (tRt T) := by
        rw [show pO T = tPo T (tRt T) from rfl, tPo_eq hw.1.2.2.2.1]
        rfl
      rw [e1] at hm
      have := get_un (pO_nd hw) hm h00
      omega
    | some p =>
      have hp := pl_up hw ex hu
      obtain ⟨i, hi⟩ := List.mem_iff_getElem?.mp hp
      have hil : i < j := by
        have := (List.getElem?_eq_some_iff.mp hi).1
        rw [List.length_take] at this
        omega
      have hi2 : (pO T)[i]? = some p := by
        rw [List.getElem?_take] at hi
        rw [if_pos hil] at hi
        exact hi
      have hpi : tIn T p = true := (pO_mem hw).mp (List.mem_of_getElem? hi2)
      show w_Lw_place (some a9) (nO (tUp T m)) (wI h F) _
      rw [hu]
      refine p_place (h := wI h F) b9 P9 (m := p) (by have := hw.1.1 p hpi; omega) (fun i' e' hi' he' => ?_) (fun no => absurd rfl (no (preE T p) (List.mem_map_of_mem ((pO_mem hw).mpr hpi))))
      have hi3 : (pO T)[i']? = some p := by
        have h1 := congrArg (fun l => l[i']?) (preL_1 T)
        rw [List.getElem?_map, hi'] at h1
        rw [← he']
        exact h1.symm
      have e2 : i' = i := get_un (pO_nd hw) hi3 hi2
      rw [e2, nI_le_iff (by omega) (by omega), nI_1]
      exact ⟨fun q => by omega, fun _ => p_it203 a b9 P P9 hw eLL kk n (j + 1) (by omega) (by omega) (by omega)⟩
theorem p_it51 {h : tpH} {t k a1 a5 a9 mk : Nat} {L : List lE} {T : mT} {lo : Nat → Bool} (a : iA h t 41) (ak : iA h k 40) (b1 : iA h a1 40) (b5 : iA h a5 40) (b9 : iA h a9 41) (d : (t ≠ a1 ∧ t ≠ a5 ∧ k ≠ a1 ∧ k ≠ a5) ∧ a9 ≠ a1 ∧ a9 ≠ a5 ∧ a1 ≠ a5) {G0 : Nat → Nat → Int32} (P0 : rwP G0 t L) (P90 : rwP G0 a9 (preL T)) (hw : tWF 300 T) (hv : tVa T) (qT : LT lo L T) (hlo : tLo lo T) (hmk : mk ≤ 40) (hTm : ∀ m, tIn T m = true → m < mk) (hk : ∀ m, m < mk → (G0 k m ≤ 3 ↔ lo m = false)) {R : Int32 → tpH → Prop} {X : String → tpH → Prop} (kk : ∀ F, (∀ b, b ≠ a1 → b ≠ a5 → F b = G0 b) → R 1 (wI h F)) :
    ∀ (n j : Nat) (F : Nat → Nat → Int32), j ≤ L.length → L.length < n + j → (∀ b, b ≠ a1 → b ≠ a5 → F b = G0 b) → w_Lw_isTree_51 R X n (some t) (some k) (some a1) (some a5) (some a9) 1 (nI j) (wI h F)
  | 0, j, F, h1, h2, _ => by omega
  | n + 1, j, F, h1, h2, hF => by
    obtain ⟨⟨d1, d2, d3, d4⟩, d5, d6, d7⟩ := d
    have P : rwP F t L := rwP_k P0 (hF t d1 d2)
    have P9 : rwP F a9 (preL T) := rwP_k P90 (hF a9 d5 d6)
    have hLl := LT_len qT hw
    have l40 := P.2.1
    have hrt : 1 ≤ (pO T).length := by
      have := (pO_mem hw).mpr hw.2.1
      exact Nat.succ_le_of_lt (List.length_pos_of_mem this)
    refine ⟨t, rfl, a.1, by rw [show hL (wI h F) t = 41 from a.2]; exact vp0 (by decide) (by decide), ?_⟩
    rw [show (0 : Int32).toNatClampNeg = 0 from rfl, wI_I, P.1, nI_le_iff (by omega) (by omega)]
    have fin : ∃ n, w_Lw_isTree_203 R X n (some t) (some a9) 1 1 (wI h F) := ⟨L.length + 1, p_it203 a b9 P P9 hw hLl (kk F hF) (L.length + 1) 1 (by omega) (by omega) (by omega)⟩
    refine ⟨fun _ => fin, fun g => ⟨fun _ => fin, fun _ => ?_⟩⟩
    obtain ⟨e, he⟩ : ∃ e, L[j]? = some e := ex_at (by omega)
    have hem := List.mem_of_getElem? he
    have hmi : tIn T e.1 = true := (qT.2.1.1 e.1).mpr ⟨e, hem, rfl⟩
    have hm40 := (P.2.2.1 e hem).1
    have T9 := preL_rwT hw hv
    have ev := qT.2.1.2 e hem
    refine p_mark (h := wI h F) a P he (p_pOf (h := wI h F) b9 P9 T9 (by omega) (p_par (h := wI h F) a P he ?_))
    unfold rPa
    rw [if_pos hmi, ev.2]
    refine ⟨fun q => absurd rfl q, fun _ => p_vOf (h := wI h F) b9 P9 T9 (by omega) (p_val (h := wI h F) a P he ?_)⟩
    unfold rVa
    rw [if_pos hmi, ev.1]
    refine ⟨fun q => absurd rfl q, fun _ => ?_⟩
    have hkm : ∀ F' : Nat → Nat → Int32, F' k = G0 k → (F' k e.1 ≤ 3 ↔ lo e.1 = false) := fun F' q => by rw [q]; exact hk e.1 (hTm _ hmi)
    have k1 := LT_kids qT hw.1 hlo hmi
    have k2 := LT_kids (preL_LT hw hv lo) hw.1 hlo hmi
    refine p_children a b1 ak d1 d3 hm40 P (hkm F (hF k d3 d4)) (fun G g1 g2 => ?_)
    have P9' : rwP G a9 (preL T) := rwP_k P9 (g1 a9 d5)
    refine p_children b9 b5 ak d6 d4 hm40 P9' (hkm G ((g1 k d3).trans (hF k d3 d4))) (fun G' g3 g4 => ?_)
    rw [k1] at g2
    rw [k2] at g4
    have g2' : rwKs G' a1 0 (tKi T e.1) := rwG_k g2 (fun q _ _ => by rw [g3 a1 d7])
    have kl : (tKi T e.1).length ≤ 40 := by
      have := lcL_len (lo e.1) e.1 L
      rw [k1] at this
      omega
    rw [k1, k2]
    refine ⟨fun q => absurd q (by decide), fun _ => ⟨fun q => absurd rfl q, fun _ => ⟨(tKi T e.1).length + 1, p_it156 b1 b5 kl g2' g4 ?_ _ 0 (Nat.zero_le _) (Nat.lt_succ_self _)⟩⟩⟩
    rw [nI_1]
    exact p_it51 a ak b1 b5 b9 ⟨⟨d1, d2, d3, d4⟩, d5, d6, d7⟩ P0 P90 hw hv qT hlo hmk hTm hk kk n (j + 1) G' (by omega) (by omega) (fun b q1 q2 => (g3 b q2).trans ((g1 b q1).trans (hF b q1 q2)))
theorem p_isTree {h0 h : tpH} {z mk n i t k : Nat} {kd idn : Nat → Int32} {rt : Nat → Bool} {dr : Option mT} {r : mRe} {T : mT} {L : List lE} (H : cS h0 z mk kd idn rt dr r n) (f0 : hFr h0 h (lwT z) (fun _ _ => False)) (hmk : mk ≤ 40) (hi : r.1[i]? = some T) (hv : tVa T) (a : iA h t 41) (ak : iA h k 40) (ht : t < hZ h) (hk : k < hZ h) (P : rwP (hI h) t L) (qT : LT (loK kd) L T) (hkd : ∀ m, m < mk → (hI h k m ≤ 3 ↔ loK kd m = false)) {X : String → tpH → Prop} {R : Int32 → tpH → Prop} (kk : ∀ h', aFr h h' nT0 3 121 → R 1 h') : w_Lw_isTree (some z) (nI i) (some t) (some k) h X R := by
  have hm := H.1
  have hw := mIn_wf hm i T hi
  have htr := hm.2.2.1 T (List.mem_of_getElem? hi)
  intro a1 h2 e1 e2 a5 h6 e5 e6 a9 h10 e9 e10
  have f2 : aFr h h2 nT0 1 40 := by rw [e2]; exact aFr_n h 40 40 _
  have f6 : aFr h2 h6 nT0 1 40 := by rw [e6]; exact aFr_n h2 40 40 _
  have f10 : aFr h6 h10 nT0 1 41 := by rw [e10]; exact aFr_n h6 41 41 _
  have z2 : hZ h2 = hZ h + 1 := by rw [e2]; rfl
  have z6 : hZ h6 = hZ h + 2 := by rw [e6]; show hZ h2 + 1 = _; rw [z2]
  have z10 : hZ h10 = hZ h + 3 := by rw [e10]; show hZ h6 + 1 = _; rw [z6]
  have F6 : aFr h h6 nT0 2 80 := aFr_tr f2 f6 (fun _ _ _ g => g)
  have F : aFr h h10 nT0 3 121 := aFr_tr F6 f10 (fun _ _ _ g => g)
  have b1 : iA h10 a1 40 := aFr_iA f10 (by omega) (aFr_iA f6 (by omega) (by rw [e1, e2]; exact iA_n h 40 40))
  have b5 : iA h10 a5 40 := aFr_iA f10 (by omega) (by rw [e5, e6]; exact iA_n h2 40 40)
  have b9 : iA h10 a9 41 := by rw [e9, e10]; exact iA_n h6 41 41
  have a' := aFr_iA F ht a
  have ak' := aFr_iA F hk ak
  have P' : rwP (hI h10) t L := rwP_k P (aFr_I F ht (fun _ q => q))
  have f0' : hFr h0 h10 (lwT z) (fun _ _ => False) := hFr_mono (hFr_tr f0 F.1) (fun b j _ g => g.elim id (fun q => q.elim)) (fun b j _ g => g.elim id id)
  have H1 := cS_fr H f0' (fun b k _ g => g)
  have hP := H1.2.1
  have hi31 : i < 40 := by
    have h1 := (List.getElem?_eq_some_iff.mp hi).1
    have h2 := hP.2.2.2.2.1.2.1
    omega
  have g3 : gSize r.1 (nI i) = some (nI (pO T).length) := by
    unfold gSize
    rw [lstAt_n _ (by omega), hi, pO_len hw]
    rfl
  refine ⟨z, rfl, hP.1.1, p_TP_size hP.1 hP.2.2.2.2.1 (mIn_wf hm) (fun q => by rw [g3] at q; cases q) (fun v hv1 => ?_)⟩
  rw [g3] at hv1
  cases hv1
  refine ⟨t, rfl, a'.1, by rw [a'.2]; exact vp0 (by decide) (by decide), ?_⟩
  rw [show (0 : Int32).toNatClampNeg = 0 from rfl, P'.1, LT_len qT hw]
  refine ⟨fun q => absurd rfl q, fun _ => ⟨fun q => absurd q (by decide), fun _ => ?_⟩⟩
  have zz := H.2.2.1
  have z0 := f0.1
  refine p_reads H hmk hi hv b9 (Or.inr (by omega)) f0' (fun G g1 g2 => ⟨L.length + 1, ?_⟩)
  have d : (t ≠ a1 ∧ t ≠ a5 ∧ k ≠ a1 ∧ k ≠ a5) ∧ a9 ≠ a1 ∧ a9 ≠ a5 ∧ a1 ≠ a5 := by omega
  refine p_it51 (mk := mk) (lo := loK kd) a' ak' b1 b5 b9 d (rwP_k P' (g1 t (by omega))) g2 hw hv qT htr.2.2 hmk (fun m hq => (htr.2.1 m hq).1) (fun m hq => ?_) (fun F' q => kk _ ?_) _ 0 G (Nat.zero_le _) (Nat.lt_succ_self _) (fun _ _ _ => rfl)
  · rw [g1 k (by omega), aFr_I F hk (fun _ q => q)]
    exact hkd m hq
  · refine aFr_tr F (k' := 0) (u' := 0) (T' := fun b _ => b = a1 ∨ b = a5 ∨ b = a9) (aFr_w (h := h10) (F := hI h10) (fun b j hb => ?_)) (fun x j hx g => by omega)
    rw [q b (by omega) (by omega), g1 b (by omega)]
end ISTREE
