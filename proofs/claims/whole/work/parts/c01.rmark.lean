section RMARK
/-! the reference merges: what stands while it does -/
def RC (h : tpH) (Q q mk s1 s2 s3 R0 : Nat) (b l r : mT) : Prop := (lMd h Q q ∧ Q < q) ∧ (s1 < 40 ∧ s2 < 40 ∧ s3 < 40) ∧ mgH mk R0 b l r
def RFm (F : Nat → Nat → Int32) (Q q mk s1 s2 s3 : Nat) (kd idn po : Nat → Int32) (b l r : mT) : Prop := MaM F Q q mk kd idn ∧ PoM F q po ∧ MtP F q s1 b ∧ MtP F q s2 l ∧ MtP F q s3 r
def rfT (Q q b j : Nat) : Prop := (b = Q ∧ (j = 24 ∨ j = 52 ∨ j = 54)) ∨ (b = q + 2 ∧ j = 41) ∨ (q + 3 ≤ b ∧ b ≤ q + 6 ∧ 12300 ≤ j) ∨ b = q + 19 ∨ (q + 24 ≤ b ∧ b < q + 46)
def rFr (Q q : Nat) (F G : Nat → Nat → Int32) : Prop := ∀ b j, ¬ rfT Q q b j → G b j = F b j
theorem rFr_tr {Q q : Nat} {F G K : Nat → Nat → Int32} (a : rFr Q q F G) (c : rFr Q q G K) : rFr Q q F K := fun b j e => (c b j e).trans (a b j e)
variable {h : tpH} {Q q mk s1 s2 s3 R0 : Nat} {kd idn po : Nat → Int32} {b l r : mT}
theorem RFm_fr (X : RC h Q q mk s1 s2 s3 R0 b l r) {F G : Nat → Nat → Int32} (H : RFm F Q q mk s1 s2 s3 kd idn po b l r) (f : rFr Q q F G) : RFm G Q q mk s1 s2 s3 kd idn po b l r := by
  obtain ⟨⟨M, hQ⟩, ⟨i1, i2, i3⟩, ⟨w1, w2, w3⟩, _⟩ := X
  obtain ⟨H1, H2, H3, H4, H5⟩ := H
  have tr : ∀ {s : Nat} {t : mT}, tWF 300 t → s < 40 → MtP F q s t → MtP G q s t := fun hw hs g => MtP_k hw g (f _ _ (by unfold rfT; omega)) (fun c c1 c2 j j1 j2 => f _ _ (by unfold rfT; omega))
  exact ⟨MaM_fr H1 (f _ _ (by unfold rfT; omega)) (fun c hc => funext fun j => f _ _ (by unfold rfT; omega)), fun k hk => (f _ _ (by unfold rfT; omega)).trans (H2 k hk), tr w1 i1 H3, tr w2 i2 H4, tr w3 i3 H5⟩
theorem rc_has (M : lMd h Q q) {s : Nat} (hs : s < 42) (hk : mk ≤ 300) {F : Nat → Nat → Int32} (hM : MaM F Q q mk kd idn) {t : mT} (H : MtP F q s t) (hw : tWF 300 t) (ht : ∀ m, tIn t m = true → m < mk) {m : Nat} (hm : m < mk) {R : Int32 → tpH → Prop} (kk : R (if tIn t m = true then 1 else 0) (wI h F)) : w_Md_has Q (nI s) (nI m) (wI h F) R := by
  refine p_hasO (o := some m) M hs hk hM.1 H hw ht (fun x e => by rw [← Option.some.inj e]; exact hm) (fun x e hx => ?_) (fun g => ?_)
  · rw [← Option.some.inj e] at hx
    rw [if_pos hx] at kk
    exact kk
  · rw [g m rfl, if_neg Bool.false_ne_true] at kk
    exact kk
theorem up_e {t u : mT} (ht : tWF 300 t) (hu : tWF 300 u) {m : Nat} (h1 : tIn t m = true) (h2 : tIn u m = true) : nO (tUp t m) = nO (tUp u m) ↔ tUp t m = tUp u m :=
  ⟨fun g => nO_inj (fun k hk => by have := ht.1.1 k (ht.1.2.2.2.2 m k h1 hk); omega) (fun k hk => by have := hu.1.1 k (hu.1.2.2.2.2 m k h2 hk); omega) g, fun g => by rw [g]⟩
def lcFr (Q q : Nat) (F G : Nat → Nat → Int32) : Prop := ∀ b j, ¬ ((b = Q ∧ j = 24) ∨ b = q + 19) → G b j = F b j
theorem li_r {F G : Nat → Nat → Int32} (f : lcFr Q q F G) : rFr Q q F G := fun c j hc => f c j (fun g => hc (by unfold rfT; omega))
theorem p_Mlist (M : lMd h Q q) (hQ : Q < q) {F : Nat → Nat → Int32} {cf : List (Nat × Nat)} (C : CfM F Q q cf) (hc : cf.length < 92000) {k m : Nat} {R : tpH → Prop} (kk : ∀ G, CfM G Q q (cf ++ [(k, m)]) → lcFr Q q F G → R (wI h G)) : w_Md_list Q (nI k) (nI m) (wI h F) R := by
  obtain ⟨a1, a2, a3⟩ := md_f M (j := 19) (kd := 15) (n := 92000) (f := 25) (by decide)
  have e24 : hI (wI h F) Q 24 = nI cf.length := C.1
  refine ⟨M.1, q + 19, a3, a1, by rw [wI_L, a2, e24]; exact vp_in_nI (by omega) (by decide), fun h6 e6 h8 e8 => ?_⟩
  rw [e24, nI_clamp (by omega), ix_e, sI_wI, wI_wI, wI_I] at e6
  subst e6
  have f24 : hI (wI h (tpu F (q + 19) cf.length (nI (300 * k + m)))) Q 24 + 1 = nI (cf.length + 1) := by
    rw [wI_I, tpu_o (by omega), C.1, nI_1]
  rw [f24, sI_wI, wI_wI, wI_I] at e8
  subst e8
  refine kk _ ⟨by rw [tpu_s, List.length_append]; rfl, fun i e hi => ?_⟩ (fun c j hc => by rw [tpu_o (by omega), tpu_o (by omega)])
  rw [tpu_o (by omega)]
  by_cases ci : i < cf.length
  · rw [List.getElem?_append_left ci] at hi
    rw [tpu_o (by omega)]
    exact C.2 i e hi
  · rw [List.getElem?_append_right (by omega)] at hi
    have hi0 : i = cf.length := by
      have h1 := (List.getElem?_eq_some_iff.mp hi).1
      have h2 : i - cf.length < 1 := h1
      omega
    subst hi0
    rw [Nat.sub_self] at hi
    have he : (k, m) = e := Option.some.inj hi
    rw [tpu_s, ← he]
/-! is it touched -/
theorem p_Mt45 (M : lMd h Q q) (hk : mk ≤ 300) {F : Nat → Nat → Int32} (hM : MaM F Q q mk kd idn) {s : Nat} (hs1 : s1 < 42) (hs : s < 42) (B : MtP F q s1 b) (hwb : tWF 300 b) (hb : ∀ m, tIn b m = true → m < mk) {m : Nat} (m3 : m < 300) {R : Int32 → tpH → Prop} : ∀ (n : Nat) (L : List Nat) (v : Int32), seg (fun y => F (q + 6) (300 * s + y)) v L (-1) → (∀ x ∈ L, x < mk) → L.length < n → R (if (L.all (fun k => tIn b k && decide (tUp b k = some m))) = true then 0 else 1) (wI h F) → w_Md_isTouched_45 R n Q (nI s1) (nI s) (nI m) 0 v (wI h F)
  | 0, L, v, hv, h3, hn, kk => by omega
  | n + 1, [], v, hv, h3, hn, kk => by
    have hv : v = -1 := hv
    subst hv
    exact ⟨fun _ => ⟨Or.inl rfl, kk⟩, fun e => absurd rfl e⟩
  | n + 1, x :: L, v, hv, h3, hn, kk => by
    obtain ⟨e, hL⟩ := hv
    have hx := h3 x (List.mem_cons_self)
    have hn' : L.length < n := by simpa using hn
    subst e
    rw [List.all_cons] at kk
    have next : ∀ d : Int32, w_Md_isTouched_45 R n Q (nI s1) (nI s) (nI m) d (F (q + 6) (300 * s + x)) (wI h F) → w_Md_isTouched_82 R (w_Md_isTouched_45 R n) Q (nI s1) (nI s) (nI m) (nI x) d (wI h F) := fun d g => by
      refine ⟨M.1, ?_⟩
      rw [e_Md_nextIn M hs (by omega)]
      exact g
    have stop : (tIn b x && decide (tUp b x = some m)) = false → w_Md_isTouched_82 R (w_Md_isTouched_45 R n) Q (nI s1) (nI s) (nI m) (nI x) 1 (wI h F) := fun e => by
      rw [e, Bool.false_and, if_neg Bool.false_ne_true] at kk
      refine next 1 ?_
      obtain ⟨n', rfl⟩ : ∃ n', n = n' + 1 := ⟨n - 1, by omega⟩
      exact ⟨fun _ => ⟨Or.inr rfl, kk⟩, fun _ => ⟨fun _ => ⟨Or.inr rfl, kk⟩, fun g => absurd g (by decide)⟩⟩
    refine ⟨fun g => absurd g (nI_ne_m (by omega)), fun _ => ⟨fun g => absurd rfl g, fun _ => ⟨M.1, rc_has M hs1 hk hM B hwb hb hx ?_⟩⟩⟩
    cases ei : tIn b x with
    | false =>
      rw [if_neg Bool.false_ne_true]
      exact ⟨fun _ => stop (by rw [ei]; rfl), fun g => absurd rfl g⟩
    | true =>
      rw [if_pos rfl]
      refine ⟨fun g => absurd g (by decide), fun _ => ⟨M.1, ?_⟩⟩
      rw [e_Md_parentIn M hs1 (by omega), mt_up B hwb ei]
      refine ⟨fun g => next 0 ?_, fun g => stop ?_⟩
      · have eu := (up_i hwb ei m3).mp g
        rw [ei, decide_eq_true eu, Bool.true_and, Bool.true_and] at kk
        exact p_Mt45 M hk hM hs1 hs B hwb hb m3 n L _ hL (fun y hy => h3 y (List.mem_cons_of_mem _ hy)) hn' kk
      · rw [ei, Bool.true_and]
        exact decide_eq_false (fun eu => g ((up_i hwb ei m3).mpr eu))
theorem p_Mtouch (M : lMd h Q q) (hk : mk ≤ 300) {F : Nat → Nat → Int32} (hM : MaM F Q q mk kd idn) {s : Nat} {t : mT} (hs1 : s1 < 42) (hs : s < 42) (B : MtP F q s1 b) (T : MtP F q s t) (hwb : tWF 300 b) (hwt : tWF 300 t) (hb : ∀ m, tIn b m = true → m < mk) (ht : ∀ m, tIn t m = true → m < mk) {m : Nat} (hbm : tIn b m = true) (htm : tIn t m = true) {R : Int32 → tpH → Prop} (kk : R (if mgTch b t m = true then 1 else 0) (wI h F)) : w_Md_isTouched Q (nI s1) (nI s) (nI m) (wI h F) R := by
  have m3 := hwb.1.1 m hbm
  have N := T.1 m htm
  have k3 : ∀ x ∈ tKi t m, x < mk := fun x hx => ht x ((hwt.1.2.1 x m).mp hx).1
  have start : ∀ d : Int32, (∃ n, w_Md_isTouched_45 R n Q (nI s1) (nI s) (nI m) d (F (q + 5) (300 * s + m)) (wI h F)) → w_Md_isTouched_35 R Q (nI s1) (nI s) (nI m) d (wI h F) := fun d g => by
    refine ⟨M.1, ?_⟩
    rw [e_Md_firstIn M hs m3]
    exact g
  have stop : mgTch b t m = true → w_Md_isTouched_35 R Q (nI s1) (nI s) (nI m) 1 (wI h F) := fun e => by
    rw [e, if_pos rfl] at kk
    exact start 1 ⟨1, fun _ => ⟨Or.inr rfl, kk⟩, fun _ => ⟨fun _ => ⟨Or.inr rfl, kk⟩, fun g => absurd g (by decide)⟩⟩
  refine ⟨M.1, ?_⟩
  rw [e_Md_valueIn M hs m3]
  refine ⟨M.1, ?_⟩
  rw [e_Md_valueIn M hs1 m3, N.1, (B.1 m hbm).1]
  refine ⟨fun g => stop ?_, fun ev => ⟨M.1, ?_⟩⟩
  · unfold mgTch
    rw [decide_eq_false g]
    rfl
  rw [e_Md_parentIn M hs m3]
  refine ⟨M.1, ?_⟩
  rw [e_Md_parentIn M hs1 m3, mt_up T hwt htm, mt_up B hwb hbm]
  refine ⟨fun g => start 0 ⟨(tKi t m).length + 1, p_Mt45 M hk hM hs1 hs B hwb hb m3 _ (tKi t m) _ N.2.2 k3 (Nat.lt_succ_self _) ?_⟩, fun g => stop ?_⟩
  · have eu := (up_e hwt hwb htm hbm).mp g
    have e : mgTch b t m = !((tKi t m).all (fun k => tIn b k && decide (tUp b k = some m))) := by
      unfold mgTch
      rw [decide_eq_true ev, decide_eq_true eu]
      rfl
    rw [e] at kk
    cases q : (tKi t m).all (fun k => tIn b k && decide (tUp b k = some m)) with
    | true => rw [q] at kk; exact kk
    | false => rw [q] at kk; exact kk
  · unfold mgTch
    rw [decide_eq_false (fun e => g ((up_e hwt hwb htm hbm).mpr e)), Bool.and_false]
    rfl
/-! it comes in -/
theorem p_Mcomes63 (X : RC h Q q mk s1 s2 s3 R0 b l r) {F : Nat → Nat → Int32} (H : RFm F Q q mk s1 s2 s3 kd idn po b l r) {cf : List (Nat × Nat)} (C : CfM F Q q cf) (hc : cf.length < 92000) (hpo : po 0 = 0 ∨ po 0 = 1 ∨ po 0 = 2) {s w : Nat} {t : mT} {c1 c2 : Int32} (hs : s < 42) (T : MtP F q s t) (hwt : tWF 300 t) (ht : ∀ m, tIn t m = true → m < mk) {m : Nat} (hbm : tIn b m = true) (htm : tIn t m = true) (hw : (w = 1 ∧ c1 = 1 ∧ c2 = 0) ∨ (w = 2 ∧ c1 = 0 ∧ c2 = 1)) {R : Int32 → tpH → Prop} (kk : ∀ G, CfM G Q q (cf ++ (mg1 po b t (nI w) m).2) → lcFr Q q F G → R (if (mg1 po b t (nI w) m).1.isSome = true then 1 else 0) (wI h G)) : w_Md_comesIn_63 R Q (nI m) c1 c2 (nI s) (nI s1) (some Q) (wI h F) := by
  obtain ⟨⟨M, hQ⟩, ⟨i1, i2, i3⟩, ⟨w1, w2, w3⟩, _, hk, b1, b2, b3⟩ := X
  obtain ⟨H1, H2, H3, H4, H5⟩ := H
  obtain ⟨a1, a2, a3⟩ := md_f M (j := 18) (kd := 15) (n := 6) (f := 23) (by decide)
  refine ⟨Q, rfl, M.1, p_Mtouch M hk H1 (by omega) hs H3 T w1 hwt b1 ht hbm htm ?_⟩
  unfold mg1 at kk
  rw [if_pos hbm] at kk
  cases e : mgTch b t m with
  | false =>
    rw [e, if_neg Bool.false_ne_true] at kk
    rw [if_neg Bool.false_ne_true]
    refine ⟨fun g => absurd rfl g, fun _ => ?_⟩
    have := kk F (by rw [List.append_nil]; exact C) (fun _ _ _ => rfl)
    exact this
  | true =>
    rw [e, if_pos rfl] at kk
    rw [if_pos rfl]
    refine ⟨fun _ => ⟨M.1, ?_⟩, fun g => absurd g (by decide)⟩
    show w_Md_list Q (nI 0) (nI m) (wI h F) _
    refine p_Mlist M hQ C hc (fun G CG f => ?_)
    have kk := kk G CG f
    have ep : hI (wI h G) (q + 18) (0 : Int32).toNatClampNeg = po 0 := by
      show G (q + 18) 0 = po 0
      rw [f _ _ (by omega)]
      exact H2 0 (by decide)
    have v0 : vp_in (0 : Int32) (hL (wI h G) (q + 18)) := by rw [wI_L, a2]; exact vp_in_nI (n := 0) (by decide) (by decide)
    refine ⟨M.1, q + 18, a3, a1, v0, ?_⟩
    rw [ep]
    refine ⟨fun g => ?_, fun g => ⟨v0, fun g1 => ?_, fun g1 => ?_⟩⟩
    · rw [if_pos (Or.inl g)] at kk
      exact kk
    · have g2 : po 0 = 2 := by
        rcases hpo with q | q | q
        · exact absurd q g
        · exact absurd q g1
        · exact q
      rcases hw with ⟨q1, q2, q3⟩ | ⟨q1, q2, q3⟩
      · rw [q1, g2, if_neg (by decide : ¬ ((2 : Int32) = 0 ∨ (2 : Int32) = nI 1))] at kk
        have kk : R 0 (wI h G) := kk
        exact ⟨fun _ => kk, fun z => absurd q3 z⟩
      · rw [if_pos (Or.inr (by rw [q1, g2]; rfl))] at kk
        exact ⟨fun z => absurd (q3.symm.trans z) (by decide), fun _ => kk⟩
    · rcases hw with ⟨q1, q2, q3⟩ | ⟨q1, q2, q3⟩
      · rw [if_pos (Or.inr (by rw [q1, g1]; rfl))] at kk
        exact ⟨fun z => absurd (q2.symm.trans z) (by decide), fun _ => kk⟩
      · rw [q1, g1, if_neg (by decide : ¬ ((1 : Int32) = 0 ∨ (1 : Int32) = nI 2))] at kk
        have kk : R 0 (wI h G) := kk
        exact ⟨fun _ => kk, fun z => absurd q2 z⟩
theorem p_Mcomes (X : RC h Q q mk s1 s2 s3 R0 b l r) {F : Nat → Nat → Int32} (H : RFm F Q q mk s1 s2 s3 kd idn po b l r) {cf : List (Nat × Nat)} (C : CfM F Q q cf) (hc : cf.length < 92000) (hpo : po 0 = 0 ∨ po 0 = 1 ∨ po 0 = 2) {m : Nat} (hm : m < mk) {R : Int32 → tpH → Prop} (kk : ∀ G, CfM G Q q (cf ++ (if (tIn l m && tIn r m) = true then [] else (mgD po b l r m).2)) → lcFr Q q F G → R (if (mgD po b l r m).1.isSome = true then 1 else 0) (wI h G)) : w_Md_comesIn Q (nI s1) (nI s2) (nI s3) (nI m) (wI h F) R := by
  obtain ⟨⟨M, hQ⟩, ⟨i1, i2, i3⟩, ⟨w1, w2, w3⟩, _, hk, b1, b2, b3⟩ := id X
  obtain ⟨H1, H2, H3, H4, H5⟩ := id H
  refine ⟨M.1, rc_has M (by omega) hk H1 H4 w2 b2 hm ⟨M.1, rc_has M (by omega) hk H1 H5 w3 b3 hm ⟨M.1, rc_has M (by omega) hk H1 H3 w1 b1 hm ?_⟩⟩⟩
  have k0 := kk F
  have nil : ∀ c : Int32, (if (tIn l m && tIn r m) = true then [] else (mgD po b l r m).2) = [] → (if (mgD po b l r m).1.isSome = true then 1 else 0) = c → R c (wI h F) := fun c e1 e2 => by
    have := k0 (by rw [e1, List.append_nil]; exact C) (fun _ _ _ => rfl)
    rw [e2] at this
    exact this
  unfold mgD at nil kk
  cases el : tIn l m with
  | true =>
    cases er : tIn r m with
    | true =>
      rw [el, er] at nil
      have k1 : R 1 (wI h F) := nil 1 rfl rfl
      rw [if_pos rfl]
      exact ⟨fun _ => ⟨fun _ => k1, fun g => absurd (show (1 : Int32) = 0 from g) (by decide)⟩, fun _ => ⟨fun g => absurd rfl g, fun _ => ⟨fun _ => k1, fun g => absurd (show (1 : Int32) = 0 from g) (by decide)⟩⟩⟩
    | false =>
      rw [el, er] at nil kk
      rw [if_pos rfl, if_neg Bool.false_ne_true]
      cases eb : tIn b m with
      | true =>
        rw [if_pos rfl]
        exact ⟨fun g => absurd g (by decide), fun _ => ⟨fun _ => ⟨fun g => absurd g (by decide), fun _ => p_Mcomes63 X H C hc hpo (w := 1) (by omega) H4 w2 b2 eb el (Or.inl ⟨rfl, rfl, rfl⟩) kk⟩, fun g => absurd g (by decide)⟩⟩
      | false =>
        rw [if_neg Bool.false_ne_true]
        have k1 : R 1 (wI h F) := nil 1 (by unfold mg1; rw [eb]; rfl) (by unfold mg1; rw [eb]; rfl)
        exact ⟨fun _ => ⟨fun _ => k1, fun g => absurd (show (1 : Int32) = 0 from g) (by decide)⟩, fun g => absurd rfl g⟩
  | false =>
    cases er : tIn r m with
    | true =>
      rw [el, er] at nil kk
      rw [if_pos rfl, if_neg Bool.false_ne_true]
      cases eb : tIn b m with
      | true =>
        rw [if_pos rfl]
        exact ⟨fun g => absurd g (by decide), fun _ => ⟨fun _ => ⟨fun _ => p_Mcomes63 X H C hc hpo (w := 2) (by omega) H5 w3 b3 eb er (Or.inr ⟨rfl, rfl, rfl⟩) kk, fun g => absurd rfl g⟩, fun g => absurd g (by decide)⟩⟩
      | false =>
        rw [if_neg Bool.false_ne_true]
        have k1 : R 1 (wI h F) := nil 1 (by unfold mg1; rw [eb]; rfl) (by unfold mg1; rw [eb]; rfl)
        exact ⟨fun _ => ⟨fun g => absurd rfl g, fun _ => ⟨fun g => absurd (show (1 : Int32) = 0 from g) (by decide), fun _ => k1⟩⟩, fun g => absurd rfl g⟩
    | false =>
      rw [el, er] at nil
      have k1 : R 0 (wI h F) := nil 0 rfl rfl
      rw [if_neg Bool.false_ne_true]
      exact ⟨fun _ => ⟨fun g => absurd rfl g, fun _ => ⟨fun _ => k1, fun g => absurd rfl g⟩⟩, fun _ => ⟨fun g => absurd rfl g, fun _ => ⟨fun g => absurd rfl g, fun _ => ⟨fun _ => k1, fun g => absurd rfl g⟩⟩⟩⟩
/-! it is decided -/
theorem p_Mdec (X : RC h Q q mk s1 s2 s3 R0 b l r) {F : Nat → Nat → Int32} (H : RFm F Q q mk s1 s2 s3 kd idn po b l r) {cf : List (Nat × Nat)} (C : CfM F Q q cf) (hc : cf.length < 92000) {k m : Nat} (hk : k < 6) {hb q1 q2 q3 : Bool} {v xb xl xr : Int32} (hv : v = if hb = true then 1 else 0) (g1 : xl = xr ↔ q1 = true) (g2 : hb = true → (xr = xb ↔ q2 = true)) (g3 : hb = true → (xl = xb ↔ q3 = true)) {R : Int32 → tpH → Prop} (kk : ∀ G, CfM G Q q (cf ++ (if (chS (po k) hb q1 q2 q3).2 = true then [(k, m)] else [])) → lcFr Q q F G → R (pk3 (chS (po k) hb q1 q2 q3).1 xl xr xb) (wI h G)) : w_Md_decided Q (nI k) (nI m) v xb xl xr (wI h F) R := by
  obtain ⟨⟨M, hQ⟩, _⟩ := id X
  obtain ⟨H1, H2, H3, H4, H5⟩ := id H
  obtain ⟨a1, a2, a3⟩ := md_f M (j := 18) (kd := 15) (n := 6) (f := 23) (by decide)
  have same : (chS (po k) hb q1 q2 q3).2 = false → R (pk3 (chS (po k) hb q1 q2 q3).1 xl xr xb) (wI h F) := fun e => by
    have q := kk F
    rw [e, if_neg Bool.false_ne_true, List.append_nil] at q
    exact q C (fun _ _ _ => rfl)
  have v0 : v = 0 ↔ hb = false := by
    rw [hv]
    cases hb <;> simp
  have c35 : chS (po k) hb q1 q2 q3 = (if po k = 2 then 1 else if po k = 1 ∨ hb = false then 0 else 2, true) → w_Md_decided_35 R Q (nI k) (nI m) v xb xl xr (wI h F) := fun e => by
    refine ⟨M.1, p_Mlist M hQ C hc (fun G CG f => ?_)⟩
    have kv := kk G
    rw [e] at kv
    have kv := kv CG f
    have ep : hI (wI h G) (q + 18) (nI k).toNatClampNeg = po k := by
      rw [nI_clamp (by omega)]
      show G (q + 18) k = po k
      rw [f _ _ (by omega)]
      exact H2 k hk
    refine ⟨M.1, q + 18, a3, a1, by rw [wI_L, a2]; exact vp_in_nI hk (by decide), ?_⟩
    rw [ep]
    by_cases c2 : po k = 2
    · rw [if_pos c2] at kv
      exact ⟨fun g => absurd c2 g, fun _ => kv⟩
    · rw [if_neg c2] at kv
      refine ⟨fun _ => ⟨fun g => ?_, fun g => ⟨fun q => ?_, fun q => ?_⟩⟩, fun g => absurd g c2⟩
      · rw [if_pos (Or.inl g)] at kv
        exact kv
      · rw [if_neg (fun z => z.elim g (fun z => q (v0.mpr z)))] at kv
        exact kv
      · rw [if_pos (Or.inr (v0.mp q))] at kv
        exact kv
  refine ⟨fun e => ?_, fun ne => ?_⟩
  · have h1 := g1.mp e
    have hs : chS (po k) hb q1 q2 q3 = (0, false) := by
      unfold chS
      rw [h1, Bool.true_or, if_pos rfl]
    rw [hs] at same
    exact same rfl
  · have h1 : q1 = false := by
      cases q : q1 with
      | false => rfl
      | true => exact absurd (g1.mpr q) ne
    have c21 : (hb = true → q2 = false) → w_Md_decided_21 R Q (nI k) (nI m) v xb xl xr (wI h F) := fun hq2 => by
      cases eb : hb with
      | false =>
        refine ⟨fun _ => c35 ?_, fun g => absurd (v0.mpr eb) g⟩
        rw [eb, h1]
        rfl
      | true =>
        have h2 := hq2 eb
        have nv : ¬ v = 0 := fun g => by rw [v0.mp g] at eb; cases eb
        refine ⟨fun g => absurd g nv, fun _ => ⟨fun n3 => c35 ?_, fun e3 => ?_⟩⟩
        · have h3 : q3 = false := by
            cases q : q3 with
            | false => rfl
            | true => exact absurd ((g3 eb).mpr q) n3
          rw [eb, h1, h2, h3]
          rfl
        · have h3 := (g3 eb).mp e3
          have hs : chS (po k) hb q1 q2 q3 = (1, false) := by rw [eb, h1, h2, h3]; rfl
          rw [hs] at same
          exact same rfl
    refine ⟨fun z => c21 (fun e => by rw [v0.mp z] at e; cases e), fun z => ⟨fun n2 => c21 (fun eb => ?_), fun e2 => ?_⟩⟩
    · cases q : q2 with
      | false => rfl
      | true => exact absurd ((g2 eb).mpr q) n2
    · have eb : hb = true := by
        cases q : hb with
        | true => rfl
        | false => exact absurd (v0.mpr q) z
      have h2 := (g2 eb).mp e2
      have hs : chS (po k) hb q1 q2 q3 = (0, false) := by
        unfold chS
        rw [eb, h2, h1]
        rfl
      rw [hs] at same
      exact same rfl
end RMARK
