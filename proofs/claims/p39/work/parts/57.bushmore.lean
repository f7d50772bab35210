section PBUSHM
theorem e_Ma_isLoose {h : tpH} {k : Nat} (l : lMa h k) (F : Nat → Nat → Int32) (i : Int32) (R : Int32 → tpH → Prop) : w_Ma_isLoose k i (wI h F) R = R (if rAt (F (k + 2)) 300 i < 4 then 0 else 1) (wI h F) := by
  obtain ⟨l0, ⟨a1, b1⟩, -⟩ := l
  unfold w_Ma_isLoose
  simp only [wI_T, wI_R, l0, a1, b1.1, Option.some.injEq, exists_eq_left', true_and, e_at b1 n300]
  by_cases c : rAt (F (k + 2)) 300 i < 4 <;> simp [c]
def uMake (F : Nat → Nat → Int32) (k : Nat) (a b : Int32) : Nat → Nat → Int32 :=
  rPut (rPut (tpu F k 2 (F k 2 + 1)) (k + 2) 300 (F k 2) a) (k + 4) 300 (F k 2) b
theorem e_Ma_make {h : tpH} {k : Nat} (l : lMa h k) (F : Nat → Nat → Int32) (a b : Int32) (R : Int32 → tpH → Prop) : w_Ma_make k a b (wI h F) R = R (F k 2) (wI h (uMake F k a b)) := by
  obtain ⟨l0, ⟨a1, b1⟩, ⟨a2, b2⟩⟩ := l
  unfold w_Ma_make uMake
  simp only [wI_T, wI_R, wI_I, l0, a1, b1.1, a2, b2.1, Option.some.injEq, exists_eq_left', true_and, forall_eq, sI_w, e_put b1 n300, e_put b2 n300]
def hgA (lo : Bool) (l : List Nat) (m : Nat) (A : List Nat) : List Nat := if lo = true then lowA l m else A
def hgB (lo : Bool) (l : List Nat) (m : Nat) (B : List Nat) : List Nat := if lo = true then lowB l m else B
theorem hg_app {lo : Bool} {l : List Nat} {m : Nat} {A B : List Nat} (h : l = A ++ B) : l = hgA lo l m A ++ hgB lo l m B := by
  unfold hgA hgB
  cases lo
  · exact h
  · exact (low_app l m).symm
theorem p_Bu_hang {h : tpH} {d k : Nat} (l : lBu h d (some k)) (lm : lMa h k) {F : Nat → Nat → Int32} {t : mT} (hB : BuL F d t) (hw : fWF 300 t) {p m : Nat} (hp : tIn t p = true) (hm : m < 300) {A : List Nat} {lo : Bool} (hlo : F (k + 2) p < 4 ↔ lo = false) {R : tpH → Prop}
    (g : R (wI h (uHang F d (nI m) (nI p) (lastO (hgA lo (tKi t p) m A))))) : w_Bu_hang d (nI m) (nI p) (lastO A) (wI h F) R := by
  unfold w_Bu_hang
  simp only [wI_T, wI_R, l.1, l.2.1, lm.1, Option.some.injEq, exists_eq_left', true_and, e_Ma_isLoose lm]
  rw [rAt_n (hw.1 p hp) n300]
  cases lo with
  | false =>
    rw [if_pos (hlo.mpr rfl)]
    exact ⟨fun _ => (e_Bu_hang_21 l _ _ _ _ _).mpr g, fun e => absurd rfl e⟩
  | true =>
    rw [if_neg (fun e => by have := hlo.mp e; simp at this)]
    refine ⟨fun e => by simp at e, fun _ => ?_⟩
    exact p_Bu_lowerChild l hB hw hp hm ((e_Bu_hang_21 l _ _ _ _ _).mpr g)
def upV (t : mT) (V : List Nat) (c : Nat) : Prop := V.Nodup ∧ ∀ v ∈ V, tIn t v = true ∧ v ∈ tPo t c ∧ v ≠ c
theorem upV_bd {t : mT} (hw : fWF 300 t) {V : List Nat} {c : Nat} (hc : tIn t c = true) (h : upV t V c) : V.length + 1 ≤ tCn t := by
  have h1 : (c :: V).length ≤ tCn t := nd_len (List.nodup_cons.mpr ⟨fun e => (h.2 c e).2.2 rfl, h.1⟩) (fun x hx => by
    refine List.mem_filter.mpr ?_
    have hi : tIn t x = true := by
      rcases List.mem_cons.mp hx with e | e
      · rw [e]; exact hc
      · exact (h.2 x e).1
    exact ⟨List.mem_range.mpr (hw.1 x hi), hi⟩)
  simpa using h1
theorem upV_st {t : mT} (hw : fWF 300 t) {V : List Nat} {c p : Nat} (hk : c ∈ tKi t p) (h : upV t V c) : upV t (c :: V) p := by
  have hr := hw.2.2.2.1
  obtain ⟨rk, hrk⟩ := id hr
  refine ⟨List.nodup_cons.mpr ⟨fun e => (h.2 c e).2.2 rfl, h.1⟩, fun v hv => ?_⟩
  have h1 := hrk c p hk
  have hvc : tIn t v = true ∧ v ∈ tPo t c := by
    rcases List.mem_cons.mp hv with e | e
    · rw [e]; exact ⟨(fKi_in hw hk).1, tPo_self hr c⟩
    · exact ⟨(h.2 v e).1, (h.2 v e).2.1⟩
  have h2 := tPo_rk hr hrk c hvc.2
  exact ⟨hvc.1, (tPo_mem hr).mpr (Or.inr ⟨c, hk, hvc.2⟩), fun e => by rw [e] at h2; omega⟩
theorem p_isW {h : tpH} {d : Nat} {x : Option Nat} (l : lBu h d x) {F : Nat → Nat → Int32} {t : mT} (hB : BuL F d t) (hw : fWF 300 t) {top : Nat} (ht : top < 300) {R : Int32 → tpH → Prop} : ∀ (n : Nat) (V : List Nat) (o : Option Nat), (∀ c, o = some c → tIn t c = true ∧ upV t V c) → V.length ≤ tCn t → tCn t < n + V.length → R (if ∃ c, o = some c ∧ c ∈ tPo t top then 1 else 0) (wI h F) → w_Bu_isWithin_5 R n d (nI top) (nO o) (nI V.length) (wI h F) := by
  obtain ⟨l0, -, -, -, ⟨a3, b3⟩, -⟩ := l
  have hC := hB.1
  have hC3 := tCn_le t
  intro n
  induction n with
  | zero => intro V o _ h1 h2; omega
  | succ n ih =>
    intro V o ho hV hn k
    show b_Bu_isWithin_5 R (w_Bu_isWithin_5 R n) d (nI top) (nO o) (nI V.length) (wI h F)
    unfold b_Bu_isWithin_5
    simp only [wI_T, wI_R, wI_I, l0, a3, b3.1, Option.some.injEq, exists_eq_left', true_and, e_at b3 n300, hC]
    rw [nI3_le (by omega) (by omega)]
    cases o with
    | none =>
      rw [if_neg (by simp)] at k
      exact ⟨fun _ => k, fun _ => ⟨fun _ => k, fun e => absurd rfl e⟩⟩
    | some c =>
      obtain ⟨hc, hu⟩ := ho c rfl
      have hb := upV_bd hw hc hu
      have hc3 := hw.1 c hc
      refine ⟨fun e => by omega, fun _ => ⟨fun e => absurd e (nI_ne_m (by omega)), fun _ => ⟨fun e => ?_, fun e => ?_⟩⟩⟩
      · have hct : c ≠ top := fun e2 => e (by rw [e2]; rfl)
        show w_Bu_isWithin_5 R n d (nI top) (rAt (F (d + 6)) 300 (nI c)) (nI V.length + 1) (wI h F)
        rw [rAt_n hc3 n300, (hB.2 c hc).2.1, nI_1]
        refine ih (c :: V) (tUp t c) (fun p hp => ?_) (by simpa using hb) (by simp; omega) ?_
        · have hk : c ∈ tKi t p := (hw.2.1 c p).mpr ⟨hc, hp⟩
          exact ⟨fKi_p hw hk, upV_st hw hk hu⟩
        · have e3 : (∃ p, tUp t c = some p ∧ p ∈ tPo t top) ↔ ∃ q, some c = some q ∧ q ∈ tPo t top := by
            constructor
            · rintro ⟨p, hp, hpt⟩
              exact ⟨c, rfl, tPo_kid hw.2.2.2.1 ((hw.2.1 c p).mpr ⟨hc, hp⟩) _ hpt⟩
            · rintro ⟨q, e4, hq⟩
              rw [← Option.some.inj e4] at hq
              rcases tPo_up hw.2.2.2.1 _ hq with e5 | ⟨p, hp, hpt⟩
              · exact absurd e5 hct
              · exact ⟨p, (fKi_in hw hp).2, hpt⟩
          by_cases c4 : ∃ q, some c = some q ∧ q ∈ tPo t top
          · rw [if_pos (e3.mpr c4)]; rw [if_pos c4] at k; exact k
          · rw [if_neg (fun e => c4 (e3.mp e))]; rw [if_neg c4] at k; exact k
      · have e2 : c = top := nI_inj (by omega) (by omega) e
        rw [if_pos ⟨c, rfl, by rw [e2]; exact tPo_self hw.2.2.2.1 _⟩] at k
        exact k
theorem p_Bu_isWithin {h : tpH} {d : Nat} {x : Option Nat} (l : lBu h d x) {F : Nat → Nat → Int32} {t : mT} (hB : BuL F d t) (hw : fWF 300 t) {m top : Nat} (hm : tIn t m = true) (ht : top < 300) {R : Int32 → tpH → Prop} (k : R (if m ∈ tPo t top then 1 else 0) (wI h F)) : w_Bu_isWithin d (nI m) (nI top) (wI h F) R := by
  refine ⟨tCn t + 1, p_isW l hB hw ht _ [] (some m) (fun c e => ?_) (Nat.zero_le _) (by simp) ?_⟩
  · rw [← Option.some.inj e]
    exact ⟨hm, List.nodup_nil, fun v hv => by simp at hv⟩
  · by_cases c : m ∈ tPo t top
    · rw [if_pos ⟨m, rfl, c⟩]; rw [if_pos c] at k; exact k
    · rw [if_neg (fun ⟨q, e, hq⟩ => c (by rw [Option.some.inj e]; exact hq))]; rw [if_neg c] at k; exact k
theorem tAu_ex {t : mT} (hr : tRk t) {m : Nat} : ∀ top, m ∈ tPo t top → ∃ A L, tPo t top = A ++ (tPo t m ++ L) := by
  refine tKi_ind hr (fun top ih hm => ?_)
  rcases (tPo_mem hr).mp hm with e | ⟨c, hc, hmc⟩
  · exact ⟨[], [], by rw [e]; simp⟩
  · obtain ⟨A, L, e⟩ := ih c hc hmc
    obtain ⟨K1, K2, e2⟩ := List.append_of_mem hc
    refine ⟨top :: (K1.flatMap (tPo t) ++ A), L ++ K2.flatMap (tPo t), ?_⟩
    rw [tPo_eq hr top, e2]
    simp [List.flatMap_append, e, List.append_assoc]
theorem p_nxt {h : tpH} {d : Nat} {x : Option Nat} (l : lBu h d x) {F : Nat → Nat → Int32} {t : mT} (hB : BuL F d t) (hw : fWF 300 t) {top : Nat} (ht : tIn t top = true) {R : Int32 → tpH → Prop} : ∀ (n : Nat) (V : List Nat) (c : Nat) (A L : List Nat), tPo t top = A ++ (tPo t c ++ L) → tIn t c = true → upV t V c → tCn t < n + V.length → R (headO L) (wI h F) → w_Bu_nextInOrder_26 R n d (nI top) (nI c) (nI V.length) (wI h F) := by
  obtain ⟨l0, -, -, -, ⟨a3, b3⟩, -, -, -, ⟨a7, b7⟩⟩ := l
  have hC := hB.1
  have hC3 := tCn_le t
  have hr := hw.2.2.2.1
  have ht3 := hw.1 top ht
  intro n
  induction n with
  | zero =>
    intro V c A L _ hc hu h2
    have hb := upV_bd hw hc hu
    omega
  | succ n ih =>
    intro V c A L hA hc hu hn k
    have hb := upV_bd hw hc hu
    have hc3 := hw.1 c hc
    show b_Bu_nextInOrder_26 R (w_Bu_nextInOrder_26 R n) d (nI top) (nI c) (nI V.length) (wI h F)
    unfold b_Bu_nextInOrder_26
    simp only [wI_T, wI_R, wI_I, l0, a3, b3.1, a7, b7.1, Option.some.injEq, exists_eq_left', true_and, e_at b3 n300, e_at b7 n300, hC]
    rw [nI3_le (by omega) (by omega)]
    refine ⟨fun e => by omega, fun _ => ⟨fun e => absurd e (nI_ne_m (by omega)), fun _ => ⟨fun e => ?_, fun e => ?_⟩⟩⟩
    · have e2 : c = top := nI_inj (by omega) (by omega) e
      have h1 := congrArg List.length hA
      rw [e2, List.length_append, List.length_append] at h1
      have h2 : L = [] := List.eq_nil_of_length_eq_zero (by omega)
      rw [h2] at k
      exact k
    · have hct : c ≠ top := fun e2 => e (by rw [e2])
      have hct2 : c ∈ tPo t top := by rw [hA]; exact List.mem_append_right _ (List.mem_append_left _ (tPo_self hr c))
      rcases tPo_up hr top hct2 with e5 | ⟨p, hp, hpt⟩
      · exact absurd e5 hct
      · obtain ⟨K1, K2, e2⟩ := List.append_of_mem hp
        obtain ⟨A', L', e6⟩ := tAu_ex hr top hpt
        have hpi := fKi_p hw hp
        have hsg := (hB.2 p hpi).2.2.1
        rw [e2] at hsg
        rw [rAt_n hc3 n300, rAt_n hc3 n300, seg_mid hsg, (hB.2 c hc).2.1, (fKi_in hw hp).2]
        have hL : L = K2.flatMap (tPo t) ++ L' := by
          have hn1 := tPo_nodup hw top
          have hA2 := hA
          rw [tPo_eq hr c] at hA2
          have e7 : tPo t top = (A' ++ (p :: K1.flatMap (tPo t))) ++ c :: ((tKi t c).flatMap (tPo t) ++ (K2.flatMap (tPo t) ++ L')) := by
            rw [e6, tPo_eq hr p, e2]
            simp [List.flatMap_append, List.append_assoc, tPo_eq hr c]
          have hA3 : tPo t top = A ++ c :: ((tKi t c).flatMap (tPo t) ++ L) := by rw [hA2]; simp
          rw [hA3] at hn1
          exact List.append_cancel_left (nd_split hn1 (hA3.symm.trans e7)).2
        cases K2 with
        | nil =>
          refine ⟨fun _ => ?_, fun e => absurd rfl e⟩
          have hL : L = L' := hL
          rw [nI_1]
          refine ih (c :: V) p A' L' e6 hpi (upV_st hw hp hu) (by simp; omega) ?_
          rw [← hL]; exact k
        | cons y K2 =>
          have hy3 := hw.1 y (fKi_in hw (p := p) (by rw [e2]; simp)).1
          refine ⟨fun e => absurd e (nI_ne_m (by omega)), fun _ => ?_⟩
          have e8 : headO L = nI y := by rw [hL, List.flatMap_cons, tPo_eq hr y]; rfl
          rw [e8] at k
          exact k
theorem p_Bu_nextInOrder {h : tpH} {d : Nat} {x : Option Nat} (l : lBu h d x) {F : Nat → Nat → Int32} {t : mT} (hB : BuL F d t) (hw : fWF 300 t) {top m : Nat} (ht : tIn t top = true) {A L : List Nat} (hA : tPo t top = A ++ m :: L) {R : Int32 → tpH → Prop} (k : R (headO L) (wI h F)) : w_Bu_nextInOrder d (nI m) (nI top) (wI h F) R := by
  have hl := @p_nxt h d x l F t hB hw top ht R
  have hr := hw.2.2.2.1
  have hmt : m ∈ tPo t top := by rw [hA]; simp
  have hmi := tPo_in hw ht m hmt
  have hm3 := hw.1 m hmi
  obtain ⟨A', L', e6⟩ := tAu_ex hr top hmt
  have hL : L = (tKi t m).flatMap (tPo t) ++ L' := by
    have hn1 := tPo_nodup hw top
    have e7 : tPo t top = A' ++ m :: ((tKi t m).flatMap (tPo t) ++ L') := by rw [e6, tPo_eq hr m]; simp
    rw [hA] at hn1
    exact (nd_split hn1 (hA.symm.trans e7)).2
  obtain ⟨l0, -, -, -, -, ⟨a4, b4⟩, -⟩ := l
  unfold w_Bu_nextInOrder
  simp only [wI_T, wI_R, wI_I, l0, a4, b4.1, Option.some.injEq, exists_eq_left', true_and, e_at b4 n300]
  rw [rAt_n hm3 n300]
  have hsg := seg_head (hB.2 m hmi).2.2.1
  rw [hsg]
  cases e : tKi t m with
  | nil =>
    rw [e] at hL
    refine ⟨fun _ => ⟨tCn t + 1, hl _ [] m A' L' e6 hmi ⟨List.nodup_nil, fun v hv => by simp at hv⟩ (by simp) ?_⟩, fun e => absurd rfl e⟩
    have hL : L = L' := hL
    rw [← hL]; exact k
  | cons y K2 =>
    have hy3 := hw.1 y (fKi_in hw (p := m) (by rw [e]; simp)).1
    refine ⟨fun e => absurd e (nI_ne_m (by omega)), fun _ => ?_⟩
    have e8 : headO L = nI y := by rw [hL, e, List.flatMap_cons, tPo_eq hr y]; rfl
    rw [e8] at k
    exact k
end PBUSHM
