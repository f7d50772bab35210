section TOUCH
def vT (fr : List mT) (vs : List mV) (i : Nat) : Option mT := (vs[i]?).bind (fun e => fr[e.1]?)
def hsV (fr : List mT) (vs : List mV) (m j i : Nat) : Bool := match vT fr vs j with
  | none => false
  | some u => match vT fr vs i with
    | none => false
    | some t => hsB u t m
def pwO (fr : List mT) (vs : List mV) (m i : Nat) (o : Option Nat) : Bool := match o with
  | none => false
  | some j => hsV fr vs m j i
def pwS (fr : List mT) (vs : List mV) (m i : Nat) : Option Nat := match vs[i]? with
  | none => none
  | some e => if pwO fr vs m i e.2.1 = true then e.2.1 else if pwO fr vs m i e.2.2 = true then e.2.2 else none
def tch (fr : List mT) (vs : List mV) (m : Nat) : Nat → Nat → Nat
  | 0, i => i
  | n + 1, i => match pwS fr vs m i with
    | none => i
    | some j => tch fr vs m n j
def gTouch (fr : List mT) (vs : List mV) (mk : Nat) (x y : Int32) : Option Int32 := (lstAt vs x).bind (fun e => if 0 ≤ y.toInt ∧ y.toInt < mk then some (match fr[e.1]? with
  | none => -1
  | some t => if tIn t y.toInt.toNat = true then nI (tch fr vs y.toInt.toNat 30 x.toInt.toNat) else -1) else none)
/-- what holds of the versions -/
def vsT (fr : List mT) (vs : List mV) : Prop := vs.length ≤ 30 ∧ vsO vs ∧ ∀ (i : Nat) (e : mV), vs[i]? = some e → e.1 < fr.length
theorem pwS_lt {fr : List mT} {vs : List mV} (hv : vsO vs) {m i j : Nat} (h : pwS fr vs m i = some j) : j < i := by
  unfold pwS at h
  cases e : vs[i]? with
  | none => rw [e] at h; simp at h
  | some e0 =>
    rw [e] at h
    have g := hv i e0 e
    have h : (if pwO fr vs m i e0.2.1 = true then e0.2.1 else if pwO fr vs m i e0.2.2 = true then e0.2.2 else none) = some j := h
    by_cases c1 : pwO fr vs m i e0.2.1 = true
    · rw [if_pos c1] at h; exact g.1 j h
    · rw [if_neg c1] at h
      by_cases c2 : pwO fr vs m i e0.2.2 = true
      · rw [if_pos c2] at h; exact g.2 j h
      · rw [if_neg c2] at h; simp at h
theorem pwS_in {fr : List mT} {vs : List mV} {m i j : Nat} (h : pwS fr vs m i = some j) : ∃ u, vT fr vs j = some u ∧ tIn u m = true := by
  have key : ∀ o, pwO fr vs m i o = true → o = some j → ∃ u, vT fr vs j = some u ∧ tIn u m = true := fun o ho eo => by
    subst eo
    have ho : (match vT fr vs j with
      | none => false
      | some u => match vT fr vs i with
        | none => false
        | some t => hsB u t m) = true := ho
    cases e1 : vT fr vs j with
    | none => rw [e1] at ho; simp at ho
    | some u =>
      rw [e1] at ho
      have ho : (match vT fr vs i with
        | none => false
        | some t => hsB u t m) = true := ho
      cases e2 : vT fr vs i with
      | none => rw [e2] at ho; simp at ho
      | some t =>
        rw [e2] at ho
        exact ⟨u, rfl, (hsB_iff.mp ho).1⟩
  unfold pwS at h
  cases e : vs[i]? with
  | none => rw [e] at h; simp at h
  | some e0 =>
    rw [e] at h
    have h : (if pwO fr vs m i e0.2.1 = true then e0.2.1 else if pwO fr vs m i e0.2.2 = true then e0.2.2 else none) = some j := h
    by_cases c1 : pwO fr vs m i e0.2.1 = true
    · rw [if_pos c1] at h; exact key _ c1 h
    · rw [if_neg c1] at h
      by_cases c2 : pwO fr vs m i e0.2.2 = true
      · rw [if_pos c2] at h; exact key _ c2 h
      · rw [if_neg c2] at h; simp at h
theorem tch_st {fr : List mT} {vs : List mV} (hv : vsO vs) {m : Nat} : ∀ (n n' i : Nat), i ≤ n → i ≤ n' → tch fr vs m n i = tch fr vs m n' i
  | 0, n', i, h1, h2 => by
    have e : i = 0 := by omega
    subst e
    cases n' with
    | zero => rfl
    | succ n' =>
      show 0 = (match pwS fr vs m 0 with
        | none => 0
        | some j => tch fr vs m n' j)
      cases e : pwS fr vs m 0 with
      | none => rfl
      | some j => exact absurd (pwS_lt hv e) (by omega)
  | n + 1, 0, i, h1, h2 => by
    have e : i = 0 := by omega
    subst e
    show (match pwS fr vs m 0 with
        | none => 0
        | some j => tch fr vs m n j) = 0
    cases e : pwS fr vs m 0 with
    | none => rfl
    | some j => exact absurd (pwS_lt hv e) (by omega)
  | n + 1, n' + 1, i, h1, h2 => by
    show (match pwS fr vs m i with
        | none => i
        | some j => tch fr vs m n j) = (match pwS fr vs m i with
        | none => i
        | some j => tch fr vs m n' j)
    cases e : pwS fr vs m i with
    | none => rfl
    | some j =>
      have := pwS_lt hv e
      exact tch_st hv n n' j (by omega) (by omega)
/-! the one side -/
theorem p_treeOfV {h : tpH} {o p D : Nat} (l : lTP h o p) {fr : List mT} (hF : FoP h (hI h) o p D fr) {vs : List mV} (hV : HiP (hI h) p vs) (hT : vsT fr vs) {i : Nat} (hi : i < vs.length) {X : String → tpH → Prop} {R : Option Nat → tpH → Prop}
    (kk : ∀ t a mk, vT fr vs i = some t → (∃ j : Nat, fr[j]? = some t) → lTr h a (pO t).length mk → TrP (hI h) a t mk → mk ≤ 300 → (∀ m, tIn t m = true → m < mk) → R (some a) h) : w_TP_treeOfVersion o (nI i) h X R := by
  have l9 := lTP_hiL l
  have h3 := hT.1
  have ei := List.getElem?_eq_getElem hi
  have hlt := hT.2.2 i _ ei
  have h40 := hF.2.1
  refine ⟨l.1, p + 90, lTP_hi l, l9.1, l9.1, p + 91, l9.2.1.1, l9.2.1.2.1, p_at l9.2.1.2 (by decide) ⟨l.1, ?_⟩⟩
  rw [rAt_n (by omega) (by decide)]
  show w_TP_needTree o (hI h (p + 92) i) h X _
  rw [(hV.2 i _ ei).1]
  refine p_tree l hF (fun e => ?_) (fun j t a mk e hj hl ha b1 b2 b3 b4 b5 => kk t a mk ?_ ⟨j, hj⟩ b1 b2 b3 b4)
  · rw [lstAt_n fr (by omega), List.getElem?_eq_getElem hlt] at e
    simp at e
  · rw [lstAt_n fr (by omega)] at hl
    unfold vT
    rw [ei]
    exact hl
theorem p_hFirst {h : tpH} {o p : Nat} (l : lTP h o p) {vs : List mV} (hV : HiP (hI h) p vs) (h3 : vs.length ≤ 30) {i : Nat} {e : mV} (hi : vs[i]? = some e) {R : Int32 → tpH → Prop} (k : R (nO e.2.1) h) : w_Hi_firstOf (p + 90) (nI i) h R := by
  have l9 := lTP_hiL l
  have hil := (List.getElem?_eq_some_iff.mp hi).1
  refine ⟨l9.1, p + 93, l9.2.2.1.1, l9.2.2.1.2.1, p_at l9.2.2.1.2 (by decide) ?_⟩
  rw [rAt_n (by omega) (by decide)]
  show R (hI h (p + 94) i) h
  rw [(hV.2 i e hi).2.1]
  exact k
theorem p_hSecond {h : tpH} {o p : Nat} (l : lTP h o p) {vs : List mV} (hV : HiP (hI h) p vs) (h3 : vs.length ≤ 30) {i : Nat} {e : mV} (hi : vs[i]? = some e) {R : Int32 → tpH → Prop} (k : R (nO e.2.2) h) : w_Hi_secondOf (p + 90) (nI i) h R := by
  have l9 := lTP_hiL l
  have hil := (List.getElem?_eq_some_iff.mp hi).1
  refine ⟨l9.1, p + 95, l9.2.2.2.1.1, l9.2.2.2.1.2.1, p_at l9.2.2.2.1.2 (by decide) ?_⟩
  rw [rAt_n (by omega) (by decide)]
  show R (hI h (p + 96) i) h
  rw [(hV.2 i e hi).2.2]
  exact k
theorem p_pWS {h : tpH} {o p D : Nat} (l : lTP h o p) {fr : List mT} (hF : FoP h (hI h) o p D fr) (hw : ∀ (i : Nat) (t : mT), fr[i]? = some t → tWF 300 t) {vs : List mV} (hV : HiP (hI h) p vs) (hT : vsT fr vs) {i m : Nat} (hi : i < vs.length) (hm : m < 300) {X : String → tpH → Prop} {R : Int32 → tpH → Prop} (k : R (nO (pwS fr vs m i)) h) : w_TP_parentWithSame o (nI i) (nI m) h X R := by
  have h3 := hT.1
  have ei := List.getElem?_eq_getElem hi
  generalize vs[i] = e0 at ei
  have g := hT.2.1 i e0 ei
  unfold pwS at k
  rw [ei] at k
  have k : R (nO (if pwO fr vs m i e0.2.1 = true then e0.2.1 else if pwO fr vs m i e0.2.2 = true then e0.2.2 else none)) h := k
  refine ⟨l.1, p_treeOfV l hF hV hT hi (fun t a mk ht ⟨jt, hjt⟩ b1 b2 b3 b4 => ⟨l.1, p + 90, lTP_hi l, (lTP_hiL l).1, p_hFirst l hV h3 ei ?_⟩)⟩
  have hwt := hw jt t hjt
  have two : ¬ pwO fr vs m i e0.2.1 = true → w_TP_parentWithSame_39 R X o (nI i) (nI m) (some a) h := fun n1 => by
    rw [if_neg n1] at k
    refine ⟨l.1, p + 90, lTP_hi l, (lTP_hiL l).1, p_hSecond l hV h3 ei ?_⟩
    cases es : e0.2.2 with
    | none =>
      rw [es] at k
      exact ⟨fun _ => k, fun e => absurd rfl e⟩
    | some s =>
      have hs := g.2 s es
      refine ⟨fun e => absurd e (nI_ne_m (by omega)), fun _ => ⟨l.1, ?_⟩⟩
      show w_TP_treeOfVersion o (nI s) h X _
      refine p_treeOfV l hF hV hT (by omega) (fun u a' mk' hu ⟨ju, hju⟩ c1 c2 c3 c4 => ⟨a', rfl, c1.1, ?_⟩)
      show w_Tr_hasSame a' (some a) (nI m) (wI h (hI h)) _
      rw [p_Tr_hasSame c1 c3 b1 b3 c2 b2 (hw ju u hju) hwt c4 b4 hm]
      have ev : pwO fr vs m i (some s) = hsB u t m := by
        show (match vT fr vs s with
          | none => false
          | some u => match vT fr vs i with
            | none => false
            | some t => hsB u t m) = _
        rw [hu, ht]
      rw [es, ev] at k
      by_cases c : hsB u t m = true
      · rw [if_pos c] at k ⊢
        exact ⟨fun e => absurd e (by decide), fun _ => k⟩
      · rw [if_neg c] at k ⊢
        exact ⟨fun _ => k, fun e => absurd rfl e⟩
  cases ef : e0.2.1 with
  | none =>
    refine ⟨fun _ => two (by rw [ef]; intro e; exact Bool.noConfusion e), fun e => absurd rfl e⟩
  | some f =>
    have hf := g.1 f ef
    refine ⟨fun e => absurd e (nI_ne_m (by omega)), fun _ => ⟨l.1, ?_⟩⟩
    show w_TP_treeOfVersion o (nI f) h X _
    refine p_treeOfV l hF hV hT (by omega) (fun u a' mk' hu ⟨ju, hju⟩ c1 c2 c3 c4 => ⟨a', rfl, c1.1, ?_⟩)
    show w_Tr_hasSame a' (some a) (nI m) (wI h (hI h)) _
    rw [p_Tr_hasSame c1 c3 b1 b3 c2 b2 (hw ju u hju) hwt c4 b4 hm]
    have ev : pwO fr vs m i (some f) = hsB u t m := by
      show (match vT fr vs f with
        | none => false
        | some u => match vT fr vs i with
          | none => false
          | some t => hsB u t m) = _
      rw [hu, ht]
    rw [ef, ev] at k two
    by_cases c : hsB u t m = true
    · rw [if_pos c] at k ⊢
      exact ⟨fun e => absurd e (by decide), fun _ => k⟩
    · rw [if_neg c]
      exact ⟨fun _ => two c, fun e => absurd rfl e⟩
theorem p_tch29 {h : tpH} {o p D : Nat} (l : lTP h o p) {fr : List mT} (hF : FoP h (hI h) o p D fr) (hw : ∀ (i : Nat) (t : mT), fr[i]? = some t → tWF 300 t) {vs : List mV} (hV : HiP (hI h) p vs) (hT : vsT fr vs) {m : Nat} (hm : m < 300) {X : String → tpH → Prop} {R : Int32 → tpH → Prop} :
    ∀ (n c i : Nat), i < vs.length → c ≤ 30 → 30 < n + c → R (nI (tch fr vs m (30 - c) i)) h → w_TP_touched_29 R X n o (nI m) (nI i) (nI c) h
  | 0, c, i, h1, h2, h3, k => by omega
  | n + 1, c, i, h1, h2, h3, k => by
    have e30 : (30 : Int32) = nI 30 := rfl
    show b_TP_touched_29 R X (w_TP_touched_29 R X n) o (nI m) (nI i) (nI c) h
    refine ⟨fun e => ?_, fun e => ⟨l.1, p_pWS l hF hw hV hT h1 hm ?_⟩⟩
    · rw [e30] at e
      have := (nI_le_iff (by omega) (by omega)).mp e
      have ec : 30 - c = 0 := by omega
      rw [ec] at k
      exact k
    · have hc : c < 30 := by
        refine Classical.byContradiction fun g => e ?_
        rw [e30]
        exact (nI_le_iff (by omega) (by omega)).mpr (by omega)
      obtain ⟨d, hd⟩ : ∃ d, 30 - c = d + 1 := ⟨29 - c, by omega⟩
      rw [hd] at k
      have k : R (nI (match pwS fr vs m i with
        | none => i
        | some j => tch fr vs m d j)) h := k
      cases ep : pwS fr vs m i with
      | none =>
        rw [ep] at k
        exact ⟨fun g => absurd rfl g, fun _ => k⟩
      | some j =>
        rw [ep] at k
        have hj := pwS_lt hT.2.1 ep
        refine ⟨fun _ => ?_, fun g => absurd g (nI_ne_m (by have := hT.1; omega))⟩
        rw [nI_1]
        exact p_tch29 l hF hw hV hT hm n (c + 1) j (by omega) (by omega) (by omega) (by rw [show 30 - (c + 1) = d by omega]; exact k)
theorem p_TP_touched {h : tpH} {o p D mk : Nat} (l : lTP h o p) (h2 : hI h p 2 = nI mk) (hk : mk ≤ 300) {fr : List mT} (hF : FoP h (hI h) o p D fr) (hw : ∀ (i : Nat) (t : mT), fr[i]? = some t → tWF 300 t) {vs : List mV} (hV : HiP (hI h) p vs) (hT : vsT fr vs) {x y : Int32} {X : String → tpH → Prop} {R : Int32 → tpH → Prop} (x1 : gTouch fr vs mk x y = none → X "java/lang/IndexOutOfBoundsException" (nC h 0 0 6)) (kk : ∀ v, gTouch fr vs mk x y = some v → R v h) : w_TP_touched o x y h X R := by
  unfold gTouch at x1 kk
  have h3 := hT.1
  refine ⟨l.1, p_TP_needVersion l hV h3 (fun e => x1 (by rw [e]; rfl)) (fun i e ex hi hl => ⟨l.1, p_TP_needMade l h2 hk (fun g => x1 (by rw [hl]; exact if_neg g)) (fun m ey hm gy em => ⟨l.1, ?_⟩)⟩)⟩
  have hil := (List.getElem?_eq_some_iff.mp hi).1
  rw [hl] at kk
  have kv := kk _ (if_pos gy)
  have exi : x.toInt.toNat = i := by rw [ex, nI_toInt (by omega)]; omega
  rw [em, exi] at kv
  rw [ex, ey]
  refine p_treeOfV l hF hV hT hil (fun t a mk' ht ⟨jt, hjt⟩ b1 b2 b3 b4 => ⟨a, rfl, b1.1, ?_⟩)
  have hft : fr[e.1]? = some t := by
    unfold vT at ht
    rw [hi] at ht
    exact ht
  rw [hft] at kv
  have kv : R (if tIn t m = true then nI (tch fr vs m 30 i) else -1) h := kv
  have hwt := hw jt t hjt
  show w_Tr_holds a (nI m) (wI h (hI h)) _
  rw [e_Tr_holds b1 (pO_le hwt) b3, tr_pl b2 b3 b4 (by omega)]
  by_cases c : tIn t m = true
  · have := pl_lt hwt c
    have := pO_le hwt
    rw [if_pos c] at kv ⊢
    rw [if_neg (nI_ne_m (by omega))]
    exact ⟨fun _ => ⟨31, p_tch29 l hF hw hV hT (by omega) 31 0 i hil (by omega) (by omega) kv⟩, fun g => absurd g (by decide)⟩
  · rw [if_neg c] at kv ⊢
    rw [if_pos rfl]
    exact ⟨fun g => absurd rfl g, fun _ => kv⟩
end TOUCH
