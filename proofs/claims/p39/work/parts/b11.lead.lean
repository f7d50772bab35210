section MLEAD
variable {x p D z0 mk e0 e1 a1 k1 a2 k2 a3 k3 : Nat} {kd idn po : Nat → Int32} {b l r : mT}
theorem p_leader {h : tpH} {s : mgS} {q n : Nat} {cf : List (Nat × Nat)} (H : MG h x p D z0 mk e0 e1 a1 k1 a2 k2 a3 k3 kd idn po b l r) (C : cfL h p z0 e0 e1 cf n) (hn : 1 ≤ n ∧ n ≤ 184001) (hc : cf.length < 92000) (K7 : rwK (hI h) (p + 80) (shL b s q)) (K8 : rwK (hI h) (p + 82) (sdL l b s q)) (K9 : rwK (hI h) (p + 84) (sdL r b s q)) {R : Option Nat → tpH → Prop} (kk : ∀ h' n' rr, (rr = p + 80 ∨ rr = p + 82 ∨ rr = p + 84) → rwK (hI h') rr (ldP po b l r s q).1 → MG h' x p D z0 mk e0 e1 a1 k1 a2 k2 a3 k3 kd idn po b l r → cfL h' p z0 e0 e1 (cf ++ (if (ldP po b l r s q).2 = true then [(5, q)] else [])) n' → n ≤ n' ∧ n' ≤ 184001 → hFr h h' (cfT p z0 e0 e1) (cfU p) → hZ h' ≤ hZ h + (n' - n) → hU h' ≤ hU h + 4 * (n' - n) → R (some rr) h') : w_Mg_leader (p + 69) (some a1) (nI q) h R := by
  obtain ⟨X, B, Lt, Rt⟩ := id H
  obtain ⟨g0, _, _, _, _, _, _, ⟨r7, w7⟩, ⟨r8, w8⟩, ⟨r9, w9⟩⟩ := mgRw X.1.1
  have wb := B.2.2.2.1
  have wl := Lt.2.2.2.1
  have wr := Rt.2.2.2.1
  have E := X.1.2.2.1
  unfold cfE at E
  have len : ∀ {t : mT}, tWF 300 t → (sdL t b s q).length ≤ 300 := fun {t} w => by
    have h1 := ki_len w.1 q
    have h2 := tCn_le t
    have h3 := List.length_filter_le (fun m => decide (m ∈ shL b s q)) (tKi t q)
    show ((tKi t q).filter (fun m => decide (m ∈ shL b s q))).length ≤ 300
    omega
  have mb : ∀ {t : mT}, tWF 300 t → ∀ m ∈ sdL t b s q, tIn b m = true := fun {t} w m hm => ((shL_iff wb.1).mp ((sdL_iff w.1).mp hm).2).1.1
  have m3 : ∀ {t : mT}, tWF 300 t → ∀ m ∈ sdL t b s q, m < 300 := fun {t} w m hm => wb.1.1 m (mb w m hm)
  have fin0 : ∀ rr, (rr = p + 80 ∨ rr = p + 82 ∨ rr = p + 84) → rwK (hI h) rr (ldP po b l r s q).1 → (ldP po b l r s q).2 = false → R (some rr) h := fun rr h1 h2 h3 => by
    refine kk h n rr h1 h2 H ?_ ⟨Nat.le_refl _, hn.2⟩ ⟨Nat.le_refl _, fun _ _ => ⟨rfl, rfl, rfl, rfl, fun _ _ => rfl, fun _ _ => rfl⟩⟩ (by omega) (by omega)
    rw [h3, if_neg Bool.false_ne_true, List.append_nil]
    exact C
  refine ⟨g0, ?_⟩
  rw [r8]
  refine p_turned B (mb wl) (len wl) w8 K8 (fun t8 => ⟨fun _ => ⟨g0, ?_⟩, fun g => absurd g (by decide)⟩) (fun t8 => ⟨fun g => absurd rfl g, fun _ => ⟨g0, ?_⟩⟩)
  · rw [r9]
    have st1 : ∀ A : List Nat × Bool, (trnB (pl b) (sdL r b s q) = false ∨ sdL l b s q = sdL r b s q) → ldP po b l r s q = (sdL l b s q, false) := fun _ g => by
      unfold ldP
      rw [t8, if_neg (by decide), if_pos g]
    refine p_turned B (mb wr) (len wr) w9 K9 (fun t9 => ⟨fun g => absurd g (by decide), fun _ => ⟨g0, p + 82, r8, w8.1, ?_⟩⟩) (fun t9 => ⟨fun _ => ⟨g0, ?_⟩, fun g => absurd rfl g⟩)
    · rw [r9]
      refine p_hsp w8 w9 K8 K9 (len wl) (len wr) (m3 wl) (m3 wr) (fun eq => ⟨fun g => absurd g (by decide), fun _ => ⟨g0, ?_⟩⟩) (fun ne => ⟨fun _ => ⟨g0, ?_⟩, fun g => absurd rfl g⟩)
      · rw [r8]
        have e := st1 ([], false) (Or.inr eq)
        exact fin0 (p + 82) (by omega) (by rw [e]; exact K8) (by rw [e])
      · have e : ldP po b l r s q = (if po 5 = 1 then sdL l b s q else if po 5 = 2 then sdL r b s q else shL b s q, true) := by
          unfold ldP
          rw [t8, t9, if_neg (by decide), if_neg (fun z => z.elim (fun y => absurd y (by decide)) ne)]
        rw [e] at kk
        show w_Mg_list (p + 69) (nI 5) (nI q) h _
        refine p_mgL H C hn hc (fun h' n' v1 v2 v3 v4 v5 v6 => ?_)
        have z1 := X.1.2.2.2
        have kp : ∀ c, p + 79 ≤ c → c < p + 86 → hI h' c = hI h c := fun c c1 c2 => funext fun j => (v4.2 c (by omega)).2.2.2.2.1 j (fun g => by unfold cfT at g; omega)
        obtain ⟨g0', _, _, _, _, _, _, ⟨r7', w7'⟩, ⟨r8', w8'⟩, ⟨r9', w9'⟩⟩ := mgRw v1.1.1.1
        obtain ⟨_, _, _, _, _, r2', w2'⟩ := lTP_mgL v1.1.1.1
        refine ⟨g0', p + 70, r2', w2'.1, ?_⟩
        show w_Ro_at (p + 70) (nI 5) h' _
        refine p_at w2' (by decide) ?_
        rw [rAt_n (by decide) (by decide), v1.1.2.2.2 5 (by decide)]
        refine ⟨fun n1 => ⟨fun n2 => ⟨g0', ?_⟩, fun e2 => ⟨g0', ?_⟩⟩, fun e1' => ⟨g0', ?_⟩⟩
        · rw [r7']
          refine kk h' n' (p + 80) (by omega) ?_ v1 v2 v3 v4 v5 v6
          show rwK (hI h') (p + 80) (if po 5 = 1 then sdL l b s q else if po 5 = 2 then sdL r b s q else shL b s q)
          rw [if_neg n1, if_neg n2]
          exact rwK_k K7 (fun c hc' => kp c (by omega) (by omega))
        · rw [r9']
          refine kk h' n' (p + 84) (by omega) ?_ v1 v2 v3 v4 v5 v6
          show rwK (hI h') (p + 84) (if po 5 = 1 then sdL l b s q else if po 5 = 2 then sdL r b s q else shL b s q)
          rw [if_neg n1, if_pos e2]
          exact rwK_k K9 (fun c hc' => kp c (by omega) (by omega))
        · rw [r8']
          refine kk h' n' (p + 82) (by omega) ?_ v1 v2 v3 v4 v5 v6
          show rwK (hI h') (p + 82) (if po 5 = 1 then sdL l b s q else if po 5 = 2 then sdL r b s q else shL b s q)
          rw [if_pos e1']
          exact rwK_k K8 (fun c hc' => kp c (by omega) (by omega))
    · rw [r8]
      have e := st1 ([], false) (Or.inl t9)
      exact fin0 (p + 82) (by omega) (by rw [e]; exact K8) (by rw [e])
  · rw [r9]
    have e : ldP po b l r s q = (sdL r b s q, false) := by
      unfold ldP
      rw [if_pos t8]
    exact fin0 (p + 84) (by omega) (by rw [e]; exact K9) (by rw [e])
def FK (R0 : Nat) (s : mgS) (K : Nat → List Nat) : mT := (R0, sWo s, K, fun m => match sUp s m with
  | some q => if m ∈ K q then some q else none
  | none => none, sIn s)
theorem FK_up {R0 : Nat} {s : mgS} {K : Nat → List Nat} (hK : ∀ q, kOK s q (K q)) {m q : Nat} : tUp (FK R0 s K) m = some q ↔ m ∈ K q := by
  show (match sUp s m with
    | some q => if m ∈ K q then some q else none
    | none => none) = some q ↔ _
  cases e : sUp s m with
  | none =>
    refine ⟨fun g => (by cases g), fun g => ?_⟩
    have := (hK q).2 m g
    rw [e] at this
    cases this
  | some y =>
    constructor
    · intro g
      have g : (if m ∈ K y then some y else none) = some q := g
      by_cases c : m ∈ K y
      · rw [if_pos c] at g
        rw [← Option.some.inj g]
        exact c
      · rw [if_neg c] at g
        cases g
    · intro g
      have ey := (hK q).2 m g
      rw [e] at ey
      have ey : y = q := Option.some.inj ey
      show (if m ∈ K y then some y else none) = some q
      rw [ey, if_pos g]
theorem FK_no {R0 : Nat} {s : mgS} {K : Nat → List Nat} {m q : Nat} (hu : sUp s m = some q) (hm : m ∉ K q) : tUp (FK R0 s K) m = none := by
  show (match sUp s m with
    | some q => if m ∈ K q then some q else none
    | none => none) = none
  rw [hu]
  exact if_neg hm
theorem FK_wf {R0 : Nat} (HH : mgH mk R0 b l r) {s : mgS} (I : mgI mk R0 po b l r s) (Eg : mgE mk s) {K : Nat → List Nat} (hK : ∀ q, kOK s q (K q)) : fWF 300 (FK R0 s K) := by
  obtain ⟨rk, hrk⟩ := mg_rk HH I Eg
  refine ⟨fun m hm => ?_, fun m q => ⟨fun g => ?_, fun g => (FK_up hK).mp g.2⟩, fun q => (hK q).1, ⟨rk, fun m q g => hrk m q ((hK q).2 m g)⟩, fun m q _ g => ?_⟩
  · have := (I.1 m hm).1
    have := HH.2.2.1
    omega
  · refine ⟨?_, (FK_up hK).mpr g⟩
    show sIn s m = true
    cases e : sIn s m with
    | true => rfl
    | false =>
      have := (hK q).2 m g
      rw [I.2.1 m e] at this
      cases this
  · exact Eg.1 m q ((hK q).2 m ((FK_up hK).mp g))
theorem FK_hng {R0 : Nat} {s : mgS} {K : Nat → List Nat} {lo : Bool} {m q k : Nat} (hu : sUp s m = some q) : tHng (FK R0 s K) m q (inKids lo (K q) m k) = FK R0 s (mU K q (inKids lo (K q) m k)) := by
  have e : (mU (tUp (FK R0 s K)) m (some q)) = tUp (FK R0 s (mU K q (inKids lo (K q) m k))) := by
    funext y
    show (if y = m then some q else (match sUp s y with
      | some q => if y ∈ K q then some q else none
      | none => none)) = (match sUp s y with
      | some z => if y ∈ (mU K q (inKids lo (K q) m k)) z then some z else none
      | none => none)
    by_cases c : y = m
    · rw [if_pos c, c, hu]
      show some q = if m ∈ (mU K q (inKids lo (K q) m k)) q then some q else none
      rw [mU_s, if_pos (in_mem.mpr (Or.inl rfl))]
    · rw [if_neg c]
      cases eu : sUp s y with
      | none => rfl
      | some z =>
        show (if y ∈ K z then some z else none) = (if y ∈ (mU K q (inKids lo (K q) m k)) z then some z else none)
        by_cases cz : z = q
        · rw [cz, mU_s]
          by_cases cy : y ∈ K q
          · rw [if_pos cy, if_pos (in_mem.mpr (Or.inr cy))]
          · rw [if_neg cy, if_neg (fun g => (in_mem.mp g).elim c cy)]
        · rw [mU_n _ _ cz]
  show (R0, sWo s, mU K q (inKids lo (K q) m k), mU (tUp (FK R0 s K)) m (some q), sIn s) = (R0, sWo s, mU K q (inKids lo (K q) m k), tUp (FK R0 s (mU K q (inKids lo (K q) m k))), sIn s)
  rw [e]
theorem mU_OK {s : mgS} {K : Nat → List Nat} (hK : ∀ q, kOK s q (K q)) {q : Nat} {L : List Nat} (hL : kOK s q L) : ∀ z, kOK s z ((mU K q L) z) := fun z => by
  by_cases c : z = q
  · rw [c, mU_s]; exact hL
  · rw [mU_n _ _ c]; exact hK z
end MLEAD
