section FAM
theorem e_Ma_agree {h : tpH} {k : Nat} (l : lMa h k) (F : Nat → Nat → Int32) (i j : Int32) (R : Int32 → tpH → Prop) : w_Ma_agree k i j (wI h F) R = R (if rAt (F (k + 2)) 300 i = rAt (F (k + 2)) 300 j ∧ rAt (F (k + 4)) 300 i = rAt (F (k + 4)) 300 j then 1 else 0) (wI h F) := by
  obtain ⟨l0, ⟨a1, b1⟩, ⟨a2, b2⟩⟩ := l
  unfold w_Ma_agree
  simp only [wI_T, wI_R, l0, a1, b1.1, a2, b2.1, Option.some.injEq, exists_eq_left', true_and, e_at b1 n300, e_at b2 n300]
  by_cases c : rAt (F (k + 2)) 300 i = rAt (F (k + 2)) 300 j <;> by_cases c2 : rAt (F (k + 4)) 300 i = rAt (F (k + 4)) 300 j <;> simp [c, c2]
noncomputable def zi (t u : mT) (z : Nat) : Nat := if z < 300 then pl t z else 300 + pl u (z - 300)
def zm (z : Nat) : Nat := if z < 300 then z else z - 300
def zin (t u : mT) (z : Nat) : Prop := (z < 300 ∧ tIn t z = true) ∨ (300 ≤ z ∧ tIn u (z - 300) = true)
/-- families: nodes SL are sorted, into nf families; each has a node that stands for it, and a run -/
def FamI (F : Nat → Nat → Int32) (d : Nat) (kd idn : Nat → Int32) (t u : mT) (SL : List Nat) (nf ru : Nat) (fam rep : Nat → Nat) (RL : Nat → List Nat) (rs : Nat → Nat) : Prop :=
  (F d 7 = nI nf ∧ F d 8 = nI ru ∧ nf ≤ SL.length ∧ ru ≤ (SL.flatMap (zK t u)).length) ∧
  (∀ z ∈ SL, zin t u z ∧ (∀ c ∈ zK t u z, c ∈ SL) ∧ fam z < nf ∧ F (d + 2) (zi t u z) = nI (fam z) ∧ akN kd idn t u z (rep (fam z))) ∧
  (∀ f, f < nf → (rep f ∈ SL ∧ fam (rep f) = f) ∧ (F (d + 4) f = nI (zm (rep f)) ∧ F (d + 6) f = (zL kd idn t u (rep f)).2.2 ∧ F (d + 8) f = nI (rs f) ∧ F (d + 10) f = nI (RL f).length) ∧ rs f + (RL f).length ≤ ru ∧ rnP F (d + 12) (rs f) (RL f) ∧
    (RL f).Perm ((zK t u (rep f)).map fam) ∧ (zlo kd (rep f) = true → (RL f).Pairwise (· ≤ ·)) ∧ (zlo kd (rep f) = false → RL f = (zK t u (rep f)).map fam)) ∧
  (∀ f g, f < nf → g < nf → akN kd idn t u (rep f) (rep g) → f = g) ∧ SL.Nodup
theorem fam_iff {F : Nat → Nat → Int32} {d : Nat} {kd idn : Nat → Int32} {t u : mT} {SL : List Nat} {nf ru : Nat} {fam rep : Nat → Nat} {RL : Nat → List Nat} {rs : Nat → Nat} (H : FamI F d kd idn t u SL nf ru fam rep RL rs) {a b : Nat} (ha : a ∈ SL) (hb : b ∈ SL) : fam a = fam b ↔ akN kd idn t u a b := by
  obtain ⟨_, H2, _, H4, _⟩ := H
  obtain ⟨_, _, a1, _, a2⟩ := H2 a ha
  obtain ⟨_, _, b1, _, b2⟩ := H2 b hb
  constructor
  · intro e
    rw [← e] at b2
    exact akN_trans a2 (akN_symm b2)
  · intro e
    exact H4 _ _ a1 b1 (akN_trans (akN_symm a2) (akN_trans e b2))
/-- a run of a node against the run of a family -/
theorem run_iff {F : Nat → Nat → Int32} {d : Nat} {kd idn : Nat → Int32} {t u : mT} {SL : List Nat} {nf ru : Nat} {fam rep : Nat → Nat} {RL : Nat → List Nat} {rs : Nat → Nat} (H : FamI F d kd idn t u SL nf ru fam rep RL rs) (hw : fWF 300 t) (hu : fWF 300 u) {z : Nat} (hk : ∀ c ∈ zK t u z, c ∈ SL) {RC : List Nat} (p1 : RC.Perm ((zK t u z).map fam)) (p2 : zlo kd z = true → RC.Pairwise (· ≤ ·)) (p3 : zlo kd z = false → RC = (zK t u z).map fam) {f : Nat} (hf : f < nf) (hl : zL kd idn t u z = zL kd idn t u (rep f)) : RL f = RC ↔ akN kd idn t u z (rep f) := by
  obtain ⟨_, H2, H3, _, _⟩ := id H
  obtain ⟨⟨r1, r2⟩, _, _, _, q1, q2, q3⟩ := H3 f hf
  have hkr := (H2 _ r1).2.1
  have elo := zlo_L _ _ hl
  rw [akN_iff hw hu]
  have ff : ∀ a ∈ zK t u z, ∀ b ∈ zK t u (rep f), (fam a = fam b ↔ akN kd idn t u a b) := fun a ha b hb => fam_iff H (hk a ha) (hkr b hb)
  cases cl : zlo kd z with
  | true =>
    rw [cl] at elo
    constructor
    · intro e
      refine ⟨hl, fun _ => (pm_map ff).mpr ?_, fun g => by simp at g⟩
      rw [e] at q1
      exact p1.symm.trans q1
    · intro e
      have := (pm_map ff).mp (e.2.1 rfl)
      exact List.Perm.eq_of_pairwise (fun a b _ _ h1 h2 => Nat.le_antisymm h1 h2) (q2 elo.symm) (p2 cl) ((q1.trans this.symm).trans p1.symm)
  | false =>
    rw [cl] at elo
    rw [q3 elo.symm, p3 cl]
    have key : ∀ (A B : List Nat), (∀ a ∈ A, ∀ b ∈ B, (fam a = fam b ↔ akN kd idn t u a b)) → (B.map fam = A.map fam ↔ all2 (akN kd idn t u) A B) := by
      intro A
      induction A with
      | nil => intro B _; cases B with
        | nil => exact ⟨fun _ => trivial, fun _ => rfl⟩
        | cons b B => exact ⟨fun h => by simp at h, fun h => h.elim⟩
      | cons a A ih => intro B m; cases B with
        | nil => exact ⟨fun h => by simp at h, fun h => h.elim⟩
        | cons b B =>
          rw [List.map_cons, List.map_cons, List.cons.injEq, ih B (fun x hx y hy => m x (List.mem_cons_of_mem _ hx) y (List.mem_cons_of_mem _ hy))]
          show (fam b = fam a ∧ _) ↔ (akN kd idn t u a b ∧ _)
          rw [eq_comm, m a List.mem_cons_self b List.mem_cons_self]
    rw [key _ _ ff]
    exact ⟨fun e => ⟨hl, fun g => by simp at g, fun _ => e⟩, fun e => e.2.2 rfl⟩
theorem p_hr12 {h : tpH} {d ru rs0 : Nat} {x : Option Nat} (l : lLi h d x) {F : Nat → Nat → Int32} (h8 : F d 8 = nI ru) {RL RC : List Nat} (h1 : rnP F (d + 12) rs0 RL) (h2 : rnP F (d + 12) ru RC) (hl : RL.length = RC.length) (b1 : rs0 + RL.length ≤ 600) (b2 : ru + RC.length ≤ 600) (hb : ∀ c ∈ RL ++ RC, c < 600) {R : Int32 → tpH → Prop} (k1 : RL = RC → R 1 (wI h F)) (k0 : RL ≠ RC → R 0 (wI h F)) :
    ∀ (n : Nat) (A X Y : List Nat), RL = A ++ X → RC = A ++ Y → X.length < n → w_Li_hasRun_12 R n d (nI RC.length) (nI rs0) (nI A.length) (wI h F)
  | 0, A, X, Y, e1, e2, hn => by omega
  | n + 1, A, X, Y, e1, e2, hn => by
    obtain ⟨t0, _, _, _, _, _, _, ⟨r1, r2⟩⟩ := id l
    have lX : RL.length = A.length + X.length := by rw [e1, List.length_append]
    have lY : RC.length = A.length + Y.length := by rw [e2, List.length_append]
    cases X with
    | nil =>
      have : Y = [] := List.length_eq_zero_iff.mp (by simp at lX; omega)
      subst this
      refine ⟨fun _ => k1 (by rw [e1, e2]), fun g => absurd ((nI_le_iff (by omega) (by simp at lX; omega)).mpr (by simp at lX; omega)) g⟩
    | cons a X =>
      cases Y with
      | nil => simp at lX lY; omega
      | cons c Y =>
        rw [List.length_cons] at lX lY
        have ha : a < 600 := hb a (by rw [e1]; simp)
        have hc : c < 600 := hb c (by rw [e2]; simp)
        refine ⟨fun g => absurd ((nI_le_iff (by omega) (by omega)).mp g) (by omega), fun _ => ⟨t0, d + 11, r1, r2.1, p_at (rwL_w r2) (by decide) ⟨t0, d + 11, r1, r2.1, p_at (rwL_w r2) (by decide) ?_⟩⟩⟩
        have ea : rAt (hI (wI h F) (d + 12)) 600 (nI rs0 + nI A.length) = nI a := by
          rw [nI_add, rAt_n (by omega) (by decide)]
          exact h1 A.length a (by rw [e1]; simp)
        have ec : rAt (hI (wI h F) (d + 12)) 600 (hI (wI h F) d 8 + nI A.length) = nI c := by
          have : hI (wI h F) d 8 = nI ru := h8
          rw [this, nI_add, rAt_n (by omega) (by decide)]
          exact h2 A.length c (by rw [e2]; simp)
        rw [ea, ec]
        refine ⟨fun g => ?_, fun g => k0 (fun e => g ?_)⟩
        · have : a = c := nI_inj (by omega) (by omega) g
          subst this
          have ih := p_hr12 l h8 h1 h2 hl b1 b2 hb k1 k0 n (A ++ [a]) X Y (by rw [e1]; simp) (by rw [e2]; simp) (by simp at hn; omega)
          rw [List.length_append] at ih
          rw [nI_1]
          exact ih
        · rw [e1, e2] at e
          have := List.append_cancel_left e
          simp only [List.cons.injEq] at this
          rw [this.1]
theorem p_kf3 {h : tpH} {d p mk : Nat} (l : lLi h d (some p)) (lm : lMa h p) {F : Nat → Nat → Int32} {kd idn : Nat → Int32} (hM : MaP F p mk kd idn) (hk : mk ≤ 300) {t u : mT} {SL : List Nat} {nf ru : Nat} {fam rep : Nat → Nat} {RL : Nat → List Nat} {rs : Nat → Nat} (H : FamI F d kd idn t u SL nf ru fam rep RL rs) (hw : fWF 300 t) (hu : fWF 300 u) (hnf : nf ≤ 600) (hz : ∀ z ∈ SL, zm z < mk) {z x : Nat} (hx : x < mk) (hzl : zL kd idn t u z = (kd x, idn x, (zL kd idn t u z).2.2)) (hkk : ∀ c ∈ zK t u z, c ∈ SL) {RC : List Nat} (hRC : rnP F (d + 12) ru RC) (hru : ru + RC.length ≤ 600) (p1 : RC.Perm ((zK t u z).map fam)) (p2 : zlo kd z = true → RC.Pairwise (· ≤ ·)) (p3 : zlo kd z = false → RC = (zK t u z).map fam) {R : Int32 → tpH → Prop} (k1 : ∀ f, f < nf → akN kd idn t u z (rep f) → R (nI f) (wI h F)) (k0 : (∀ f, f < nf → ¬ akN kd idn t u z (rep f)) → R (-1) (wI h F)) :
    ∀ (n f : Nat), f ≤ nf → nf < n + f → (∀ g, g < f → ¬ akN kd idn t u z (rep g)) → w_Li_knownFamily_3 R n d (nI x) (zL kd idn t u z).2.2 (nI RC.length) (nI f) (wI h F)
  | 0, f, h1, h2, h3 => by omega
  | n + 1, f, h1, h2, h3 => by
    obtain ⟨t0, x0, _, ⟨m1, m2⟩, ⟨w1, w2⟩, ⟨f1, f2⟩, ⟨c1, c2⟩, _⟩ := id l
    have e7 : hI (wI h F) d 7 = nI nf := H.1.1
    have hru6 := H.1.2.2.2
    refine ⟨t0, ?_⟩
    rw [e7]
    refine ⟨fun g => ?_, fun g => ?_⟩
    · have := (nI_le_iff (by omega) (by omega)).mp g
      exact k0 (fun g hg => h3 g (by omega))
    · have hf : f < nf := by
        refine Classical.byContradiction fun q => g ((nI_le_iff (by omega) (by omega)).mpr (by omega))
      obtain ⟨⟨r1, r2⟩, ⟨v1, v2, v3, v4⟩, v5, v6, q1, q2, q3⟩ := H.2.2.1 f hf
      have nxt : ¬ akN kd idn t u z (rep f) → w_Li_knownFamily_3 R n d (nI x) (zL kd idn t u z).2.2 (nI RC.length) (nI f + 1) (wI h F) := fun q => by
        rw [nI_1]
        refine p_kf3 l lm hM hk H hw hu hnf hz hx hzl hkk hRC hru p1 p2 p3 k1 k0 n (f + 1) (by omega) (by omega) (fun g hg => ?_)
        by_cases c : g = f
        · rw [c]; exact q
        · exact h3 g (by omega)
      have hrm := hz _ r1
      have rl6 : (RL f).length ≤ 600 := by omega
      have hrepL : zL kd idn t u (rep f) = (kd (zm (rep f)), idn (zm (rep f)), (zL kd idn t u (rep f)).2.2) := by
        unfold zL zm
        by_cases c : rep f < 300
        · rw [if_pos c, if_pos c]
        · rw [if_neg c, if_neg c]
      refine ⟨d + 5, w1, w2.1, p_at (rwL_w w2) (by decide) ?_⟩
      have ew : rAt (hI (wI h F) (d + 6)) 600 (nI f) = (zL kd idn t u (rep f)).2.2 := by rw [rAt_n (by omega) (by decide)]; exact v2
      rw [ew]
      refine ⟨fun q => nxt (fun a => q ?_), fun qw => ⟨t0, d + 9, c1, c2.1, p_at (rwL_w c2) (by decide) ?_⟩⟩
      · have := ((akN_iff hw hu _ _).mp a).1
        rw [this]
      · have ec : rAt (hI (wI h F) (d + 10)) 600 (nI f) = nI (RL f).length := by rw [rAt_n (by omega) (by decide)]; exact v4
        rw [ec]
        have klen : akN kd idn t u z (rep f) → (RL f).length = RC.length := fun a => by
          rw [q1.length_eq, p1.length_eq, List.length_map, List.length_map]
          have a' := (akN_iff hw hu _ _).mp a
          cases cl : zlo kd z with
          | true => exact (pm_len (a'.2.1 cl)).symm
          | false => exact (all2_len (a'.2.2 cl)).symm
        refine ⟨fun q => nxt (fun a => q (by rw [klen a])), fun qc => ⟨t0, d + 3, m1, m2.1, p_at (rwL_w m2) (by decide) ⟨p, x0, lm.1, ?_⟩⟩⟩
        have em : rAt (hI (wI h F) (d + 4)) 600 (nI f) = nI (zm (rep f)) := by rw [rAt_n (by omega) (by decide)]; exact v1
        have hlen : (RL f).length = RC.length := nI_inj (by omega) (by omega) qc
        have z3 : zm (rep f) < 300 := by omega
        have x3 : x < 300 := by omega
        rw [em, e_Ma_agree lm, rAt_n z3 n300, rAt_n z3 n300, rAt_n x3 n300, rAt_n x3 n300, (hM.2 _ hrm).1, (hM.2 _ hrm).2, (hM.2 x hx).1, (hM.2 x hx).2]
        by_cases ag : kd (zm (rep f)) = kd x ∧ idn (zm (rep f)) = idn x
        · rw [if_pos ag]
          have hl : zL kd idn t u z = zL kd idn t u (rep f) := by
            rw [hzl, hrepL, ag.1, ag.2, ← qw]
          have rI := run_iff H hw hu hkk p1 p2 p3 hf hl
          refine ⟨fun q => absurd q (by decide), fun _ => ⟨t0, t0, d + 7, f1, f2.1, p_at (rwL_w f2) (by decide) ?_⟩⟩
          have ef : rAt (hI (wI h F) (d + 8)) 600 (nI f) = nI (rs f) := by rw [rAt_n (by omega) (by decide)]; exact v3
          rw [ef]
          refine ⟨(RL f).length + 1, p_hr12 l H.1.2.1 v6 hRC hlen (by omega) hru (fun c hc => ?_) (fun e => ⟨fun q => absurd q (by decide), fun _ => k1 f hf (rI.mp e)⟩) (fun e => ⟨fun _ => nxt (fun a => e (rI.mpr a)), fun q => absurd rfl q⟩) _ [] (RL f) RC rfl rfl (Nat.lt_succ_self _)⟩
          have fb : ∀ (l : List Nat) (K : List Nat), l.Perm (K.map fam) → (∀ c ∈ K, c ∈ SL) → ∀ c ∈ l, c < 600 := fun l K pp hK c hc => by
            obtain ⟨y, hy, e⟩ := List.mem_map.mp (pp.mem_iff.mp hc)
            have := (H.2.1 y (hK y hy)).2.2.1
            omega
          rcases List.mem_append.mp hc with q | q
          · exact fb _ _ q1 (H.2.1 _ r1).2.1 c q
          · exact fb _ _ p1 hkk c q
        · rw [if_neg ag]
          exact ⟨fun _ => nxt (fun a => ag (by
            have := ((akN_iff hw hu _ _).mp a).1
            rw [hzl, hrepL] at this
            simp only [Prod.mk.injEq] at this
            exact ⟨this.1.symm, this.2.1.symm⟩)), fun q => absurd rfl q⟩
end FAM
