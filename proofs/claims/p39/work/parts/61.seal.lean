section PSEAL
theorem rn_at (F : Nat → Nat → Int32) {c n m : Nat} {v : Int32} (hm : m < n) (hn : n ≤ 300) : rPut F c n (nI m) v c = mU (F c) m v := by
  rw [rPut_n hm (by omega)]
  funext k
  simp only [tpu, mU]
  by_cases e : k = m <;> simp [e]
theorem nI_dn {i : Nat} (h : 0 < i) : nI i + (-1) = nI (i - 1) := by
  have e : nI i = nI (i - 1) + 1 := by rw [nI_1]; congr 1; omega
  rw [e, Int32.add_assoc]
  have e2 : (1 : Int32) + (-1) = 0 := by decide
  rw [e2, Int32.add_zero]
def FtP (F : Nat → Nat → Int32) (a : Nat) (t : mT) (mk : Nat) (A : List Nat) : Prop :=
  (∀ x ∈ A, F (a + 2) (pl t x) = nI x ∧ F (a + 4) (pl t x) = tWo t x ∧ F (a + 6) (pl t x) = nO ((tUp t x).map (pl t)) ∧ F (a + 8) (pl t x) = nI (pl t x + 1) ∧ F (a + 10) (pl t x) = nI (rkO t x)) ∧
  (∀ p, tIn t p = true → F (a + 14) (pl t p) = nI (cK t p A)) ∧ (∀ m, m < mk → F (a + 18) m = if m ∈ A then nI (pl t m) else -1)
theorem uFill_at (F : Nat → Nat → Int32) {a n mk i m : Nat} {w p u r : Int32} (hn : n ≤ 300) (hk : mk ≤ 300) (hi : i < n) (hm : m < mk) (hu : rAt (F (a + 18)) mk p = u) (hr : (if u = -1 then 0 else rAt (F (a + 14)) n u) = r) :
    uFill F a n mk (nI i) (nI m) w p (a + 2) = mU (F (a + 2)) i (nI m) ∧ uFill F a n mk (nI i) (nI m) w p (a + 4) = mU (F (a + 4)) i w ∧ uFill F a n mk (nI i) (nI m) w p (a + 6) = mU (F (a + 6)) i u ∧
    uFill F a n mk (nI i) (nI m) w p (a + 8) = mU (F (a + 8)) i (nI (i + 1)) ∧ uFill F a n mk (nI i) (nI m) w p (a + 10) = mU (F (a + 10)) i r ∧
    uFill F a n mk (nI i) (nI m) w p (a + 14) = rPut F (a + 14) n u (r + 1) (a + 14) ∧ uFill F a n mk (nI i) (nI m) w p (a + 18) = mU (F (a + 18)) m (nI i) ∧
    (∀ b, b ≠ a + 2 → b ≠ a + 4 → b ≠ a + 6 → b ≠ a + 8 → b ≠ a + 10 → b ≠ a + 14 → b ≠ a + 18 → uFill F a n mk (nI i) (nI m) w p b = F b) := by
  have e : uFill F a n mk (nI i) (nI m) w p = rPut (rPut (rPut (rPut (rPut (rPut (rPut F (a + 2) n (nI i) (nI m)) (a + 4) n (nI i) w) (a + 6) n (nI i) u) (a + 10) n (nI i) r) (a + 8) n (nI i) (nI (i + 1))) (a + 14) n u (r + 1)) (a + 18) mk (nI m) (nI i) := by
    subst hu
    subst hr
    unfold uFill
    rw [nI_1]
  have hx : ∀ (G G' : Nat → Nat → Int32) (c : Nat) (j v : Int32), G c = G' c → rPut G c n j v c = rPut G' c n j v c := by
    intro G G' c j v h
    unfold rPut
    split
    · exact h
    · split
      · exact h
      · rw [tpu_row, tpu_row, h]
  rw [e]
  refine ⟨?_, ?_, ?_, ?_, ?_, ?_, ?_, fun b h2 h4 h6 h8 h10 h14 h18 => ?_⟩
  · rw [rw_ne _ (by omega), rw_ne _ (by omega), rw_ne _ (by omega), rw_ne _ (by omega), rw_ne _ (by omega), rw_ne _ (by omega), rn_at _ hi hn]
  · rw [rw_ne _ (by omega), rw_ne _ (by omega), rw_ne _ (by omega), rw_ne _ (by omega), rw_ne _ (by omega), rn_at _ hi hn, rw_ne _ (by omega)]
  · rw [rw_ne _ (by omega), rw_ne _ (by omega), rw_ne _ (by omega), rw_ne _ (by omega), rn_at _ hi hn, rw_ne _ (by omega), rw_ne _ (by omega)]
  · rw [rw_ne _ (by omega), rw_ne _ (by omega), rn_at _ hi hn, rw_ne _ (by omega), rw_ne _ (by omega), rw_ne _ (by omega), rw_ne _ (by omega)]
  · rw [rw_ne _ (by omega), rw_ne _ (by omega), rw_ne _ (by omega), rn_at _ hi hn, rw_ne _ (by omega), rw_ne _ (by omega), rw_ne _ (by omega)]
  · rw [rw_ne _ (by omega)]
    refine hx _ _ _ _ _ ?_
    rw [rw_ne _ (by omega), rw_ne _ (by omega), rw_ne _ (by omega), rw_ne _ (by omega), rw_ne _ (by omega)]
  · rw [rn_at _ hm hk, rw_ne _ (by omega), rw_ne _ (by omega), rw_ne _ (by omega), rw_ne _ (by omega), rw_ne _ (by omega), rw_ne _ (by omega)]
  · rw [rw_ne _ h18, rw_ne _ h14, rw_ne _ h8, rw_ne _ h10, rw_ne _ h6, rw_ne _ h4, rw_ne _ h2]
theorem ft_st {F : Nat → Nat → Int32} {a mk : Nat} {t : mT} (hw : tWF 300 t) (hmk : ∀ m, tIn t m = true → m < mk) (hk : mk ≤ 300) {A B : List Nat} {m : Nat} (e : pO t = A ++ m :: B) (H0 : FtP F a t mk A) :
    FtP (uFill F a (pO t).length mk (nI A.length) (nI m) (tWo t m) (nO (tUp t m))) a t mk (A ++ [m]) ∧ (∀ b, b ≠ a + 2 → b ≠ a + 4 → b ≠ a + 6 → b ≠ a + 8 → b ≠ a + 10 → b ≠ a + 14 → b ≠ a + 18 → uFill F a (pO t).length mk (nI A.length) (nI m) (tWo t m) (nO (tUp t m)) b = F b) := by
  have hn : (pO t).length ≤ 300 := by rw [pO_len hw]; exact tCn_le t
  have hmi : tIn t m = true := (pO_mem hw).mp (by rw [e]; simp)
  have hi : A.length < (pO t).length := by rw [e]; simp
  have hpl : pl t m = A.length := pl_mid hw e
  have hAi : ∀ x ∈ A, tIn t x = true := fun x hx => (pO_mem hw).mp (by rw [e]; exact List.mem_append_left _ hx)
  have hmA : m ∉ A := fun h => by
    have h2 := pO_nd hw
    rw [e] at h2
    exact (List.nodup_append.mp h2).2.2 m h m List.mem_cons_self rfl
  have hne : ∀ x ∈ A, pl t x ≠ A.length := fun x hx h => hmA (by rw [← pl_inj hw (hAi x hx) hmi (by rw [h, hpl])]; exact hx)
  obtain ⟨f1, f2, f3⟩ := H0
  have hu : rAt (F (a + 18)) mk (nO (tUp t m)) = nO ((tUp t m).map (pl t)) := by
    cases eu : tUp t m with
    | none => exact rAt_m
    | some p =>
      have hpA := pl_up hw e eu
      have hp3 := hmk p (hAi p hpA)
      show rAt (F (a + 18)) mk (nI p) = nI (pl t p)
      rw [rAt_n hp3 (by omega), f3 p hp3, if_pos hpA]
  have hr : (if nO ((tUp t m).map (pl t)) = -1 then 0 else rAt (F (a + 14)) (pO t).length (nO ((tUp t m).map (pl t)))) = nI (rkO t m) := by
    cases eu : tUp t m with
    | none =>
      show (if (-1 : Int32) = -1 then 0 else _) = _
      rw [if_pos rfl]
      unfold rkO
      rw [eu]
      exact nI_0.symm
    | some p =>
      have hpA := pl_up hw e eu
      have hpl2 := pl_lt hw (hAi p hpA)
      show (if nI (pl t p) = -1 then 0 else rAt (F (a + 14)) (pO t).length (nI (pl t p))) = _
      rw [if_neg (nI_ne_m (by omega)), rAt_n hpl2 (by omega), f2 p (hAi p hpA), cK_rk hw e eu]
  obtain ⟨r2, r4, r6, r8, r10, r14, r18, ro⟩ := uFill_at F (a := a) (w := tWo t m) hn hk hi (hmk m hmi) hu hr
  refine ⟨?_, ro⟩
  unfold FtP
  rw [r2, r4, r6, r8, r10, r14, r18]
  refine ⟨fun x hx => ?_, fun p hp => ?_, fun x hx => ?_⟩
  · rcases List.mem_append.mp hx with h | h
    · simp only [mU_n _ _ (hne x h)]
      exact f1 x h
    · have h : x = m := by simpa using h
      rw [h, hpl]
      simp only [mU_s]
      exact ⟨trivial, trivial, trivial, trivial, trivial⟩
  · rw [cK_snoc]
    cases eu : tUp t m with
    | none =>
      show rPut F (a + 14) (pO t).length (-1) _ (a + 14) (pl t p) = _
      rw [rPut_m, f2 p hp, if_neg (by simp), Nat.add_zero]
    | some q =>
      have hqA := pl_up hw e eu
      have hql := pl_lt hw (hAi q hqA)
      show rPut F (a + 14) (pO t).length (nI (pl t q)) _ (a + 14) (pl t p) = _
      rw [rn_at _ hql hn]
      by_cases c : p = q
      · rw [c, mU_s, if_pos rfl, nI_1, cK_rk hw e eu]
      · rw [mU_n _ _ (fun h => c (pl_inj hw hp (hAi q hqA) h)), f2 p hp, if_neg (fun h => c (Option.some.inj h).symm), Nat.add_zero]
  · by_cases c : x = m
    · rw [c, mU_s, if_pos (by simp), hpl]
    · rw [mU_n _ _ c, f3 x hx]
      have e3 : x ∈ A ++ [m] ↔ x ∈ A := by simp [c]
      by_cases c2 : x ∈ A
      · rw [if_pos c2, if_pos (e3.mpr c2)]
      · rw [if_neg c2, if_neg (fun h => c2 (e3.mp h))]
def kF (t : mT) : List Nat → Nat
  | [] => 0
  | x :: l => (tKi t x).length + kF t l
theorem kF_app (t : mT) : ∀ (A B : List Nat), kF t (A ++ B) = kF t A + kF t B
  | [], B => by simp [kF]
  | x :: A, B => by
    show (tKi t x).length + kF t (A ++ B) = (tKi t x).length + kF t A + kF t B
    rw [kF_app t A B]; omega
theorem kF_fm (t : mT) : ∀ (A : List Nat), kF t A = (A.flatMap (tKi t)).length
  | [] => rfl
  | x :: A => by
    rw [List.flatMap_cons, List.length_append, ← kF_fm t A]; rfl
theorem kF_le {N : Nat} {t : mT} (hw : tWF N t) : kF t (pO t) ≤ (pO t).length := by
  rw [kF_fm]
  refine nd_len (fm_nodup (pO_nd hw) (fun x _ => hw.1.2.2.1 x) (fun x _ y _ hne z hz hzy => hne (tUp_of hw.1 hz hzy))) (fun x hx => ?_)
  obtain ⟨y, _, hxy⟩ := List.mem_flatMap.mp hx
  exact (pO_mem hw).mpr (fKi_in hw.1 hxy).1
noncomputable def kfO (t : mT) (m : Nat) : Nat := kF t ((pO t).take (pl t m))
theorem kfO_mid {N : Nat} {t : mT} (hw : tWF N t) {m : Nat} {A B : List Nat} (e : pO t = A ++ m :: B) : kfO t m = kF t A := by
  unfold kfO
  rw [pl_mid hw e, e, List.take_left']
  rfl
theorem kfO_le {N : Nat} {t : mT} (hw : tWF N t) {m : Nat} (hm : tIn t m = true) : kfO t m + (tKi t m).length ≤ (pO t).length := by
  obtain ⟨A, B, e⟩ := pO_split hw hm
  have h1 := kF_le hw
  rw [kfO_mid hw e]
  have h2 : kF t (pO t) = kF t A + ((tKi t m).length + kF t B) := by rw [e, kF_app]; rfl
  omega
/-- earlier places list their children earlier -/
theorem kfO_lt {N : Nat} {t : mT} (hw : tWF N t) {m k : Nat} (hm : tIn t m = true) (hk : tIn t k = true) (h : pl t m < pl t k) : kfO t m + (tKi t m).length ≤ kfO t k := by
  obtain ⟨A, B, e⟩ := pO_split hw hm
  obtain ⟨A', B', e'⟩ := pO_split hw hk
  rw [pl_mid hw e, pl_mid hw e'] at h
  rw [kfO_mid hw e, kfO_mid hw e']
  have h1 : A' = (pO t).take A'.length := by rw [e', List.take_left']; rfl
  have h2 : A' = A ++ m :: (B.take (A'.length - A.length - 1)) := by
    have h3 : (pO t).take A'.length = A ++ m :: (B.take (A'.length - A.length - 1)) := by
      rw [e, List.take_append, List.take_of_length_le (by omega), show A'.length - A.length = (A'.length - A.length - 1) + 1 by omega, List.take_succ_cons]
      simp
    exact h1.trans h3
  rw [h2, kF_app]
  show _ ≤ kF t A + ((tKi t m).length + _)
  omega
theorem rkO_mid {N : Nat} {t : mT} (hw : tWF N t) {p k : Nat} {K1 K2 : List Nat} (e : tKi t p = K1 ++ k :: K2) : rkO t k = K1.length := by
  have hk : k ∈ tKi t p := by rw [e]; simp
  unfold rkO
  rw [(fKi_in hw.1 hk).2]
  show (tKi t p).idxOf k = _
  have hn := hw.1.2.2.1 p
  rw [e] at hn ⊢
  exact ix_mid (fun h => (List.nodup_append.mp hn).2.2 k h k List.mem_cons_self rfl)
theorem rkO_lt {N : Nat} {t : mT} (hw : tWF N t) {p k : Nat} (hk : k ∈ tKi t p) : rkO t k < (tKi t p).length := by
  obtain ⟨K1, K2, e⟩ := List.append_of_mem hk
  rw [rkO_mid hw e, e]; simp
/-- children are listed at places of their own -/
theorem kid_inj {N : Nat} {t : mT} (hw : tWF N t) {p q k j : Nat} (hk : k ∈ tKi t p) (hj : j ∈ tKi t q) (h : kfO t p + rkO t k = kfO t q + rkO t j) : k = j := by
  have hp := fKi_p hw.1 hk
  have hq := fKi_p hw.1 hj
  have h1 := rkO_lt hw hk
  have h2 := rkO_lt hw hj
  rcases Nat.lt_trichotomy (pl t p) (pl t q) with c | c | c
  · have := kfO_lt hw hp hq c; omega
  · have e := pl_inj hw hp hq c
    subst e
    obtain ⟨K1, K2, e⟩ := List.append_of_mem hk
    obtain ⟨J1, J2, e'⟩ := List.append_of_mem hj
    rw [rkO_mid hw e, rkO_mid hw e'] at h
    have h3 := List.append_inj_right (e.symm.trans e') (by omega)
    exact (List.cons.inj h3).1
  · have := kfO_lt hw hq hp c; omega
end PSEAL
