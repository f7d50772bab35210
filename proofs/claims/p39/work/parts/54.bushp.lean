section PBUSHP
def nodeP (F : Nat → Nat → Int32) (d : Nat) (t : mT) (m : Nat) : Prop :=
  F (d + 4) m = tWo t m ∧ F (d + 6) m = nO (tUp t m) ∧ seg (F (d + 14)) (F (d + 8) m) (tKi t m) (-1) ∧ seg (F (d + 12)) (F (d + 10) m) (tKi t m).reverse (-1) ∧
  (tUp t m = none → F (d + 12) m = -1 ∧ F (d + 14) m = -1)
/-- a bush's cells show the forest; its root field stands by itself -/
def BuP (F : Nat → Nat → Int32) (d : Nat) (t : mT) : Prop :=
  F d 9 = nI (tCn t) ∧ (∀ m, m < 300 → F (d + 2) m = if tIn t m = true then 1 else 0) ∧ (∀ m, tIn t m = true → nodeP F d t m)
theorem BuP_k {F G : Nat → Nat → Int32} {d : Nat} {t : mT} (h : BuP F d t) (hk : ∀ b, d ≤ b → b < d + 15 → G b = F b) : BuP G d t := by
  have k0 := hk d (by omega) (by omega)
  have k2 := hk (d + 2) (by omega) (by omega)
  have k4 := hk (d + 4) (by omega) (by omega)
  have k6 := hk (d + 6) (by omega) (by omega)
  have k8 := hk (d + 8) (by omega) (by omega)
  have k10 := hk (d + 10) (by omega) (by omega)
  have k12 := hk (d + 12) (by omega) (by omega)
  have k14 := hk (d + 14) (by omega) (by omega)
  unfold BuP nodeP
  rw [k0, k2, k4, k6, k8, k10, k12, k14]
  exact h
theorem bu_has {F : Nat → Nat → Int32} {d : Nat} {t : mT} (h : BuP F d t) {m : Nat} (hm : m < 300) : rAt (F (d + 2)) 300 (nI m) = if tIn t m = true then 1 else 0 := by
  rw [rAt_n hm n300]; exact h.2.1 m hm
theorem seg_heads {nx : Nat → Int32} {s : Int32} {l : List Nat} (h : seg nx s l (-1)) : s = headO l := seg_head h
theorem headO_rev (l : List Nat) : headO l.reverse = lastO l := by simp [headO, lastO]
/-- sprout -/
theorem rw_at (F : Nat → Nat → Int32) {c m : Nat} {v : Int32} (hm : m < 300) : rPut F c 300 (nI m) v c = mU (F c) m v := by
  rw [rPut_n hm n300]
  funext k
  simp only [tpu, mU]
  by_cases e : k = m <;> simp [e]
theorem rw_aO (F : Nat → Nat → Int32) {c m : Nat} {v : Int32} (hm : m < 300) : rPut F c 300 (nO (some m)) v c = mU (F c) m v := rw_at F hm
theorem rw_ne (F : Nat → Nat → Int32) {c n b : Nat} {i v : Int32} (h : b ≠ c) : rPut F c n i v b = F b := by
  unfold rPut
  split
  · rfl
  · split
    · rfl
    · exact tpu_ne h
theorem spr_at (F : Nat → Nat → Int32) {d m : Nat} {w : Int32} (hm : m < 300) :
    uSprout F d (nI m) w (d + 2) = mU (F (d + 2)) m 1 ∧ uSprout F d (nI m) w (d + 4) = mU (F (d + 4)) m w ∧ uSprout F d (nI m) w (d + 6) = mU (F (d + 6)) m (-1) ∧
    uSprout F d (nI m) w (d + 8) = mU (F (d + 8)) m (-1) ∧ uSprout F d (nI m) w (d + 10) = mU (F (d + 10)) m (-1) ∧ uSprout F d (nI m) w (d + 12) = mU (F (d + 12)) m (-1) ∧
    uSprout F d (nI m) w (d + 14) = mU (F (d + 14)) m (-1) ∧ uSprout F d (nI m) w d = mU (F d) 9 (F d 9 + 1) ∧ (∀ b, b ≠ d → b ≠ d + 2 → b ≠ d + 4 → b ≠ d + 6 → b ≠ d + 8 → b ≠ d + 10 → b ≠ d + 12 → b ≠ d + 14 → uSprout F d (nI m) w b = F b) := by
  unfold uSprout
  refine ⟨?_, ?_, ?_, ?_, ?_, ?_, ?_, ?_, fun b h0 h2 h4 h6 h8 h10 h12 h14 => ?_⟩
  · rw [tpu_ne (by omega), rw_ne _ (by omega), rw_ne _ (by omega), rw_ne _ (by omega), rw_ne _ (by omega), rw_ne _ (by omega), rw_ne _ (by omega), rw_at _ hm]
  · rw [tpu_ne (by omega), rw_ne _ (by omega), rw_ne _ (by omega), rw_ne _ (by omega), rw_ne _ (by omega), rw_ne _ (by omega), rw_at _ hm, rw_ne _ (by omega)]
  · rw [tpu_ne (by omega), rw_ne _ (by omega), rw_ne _ (by omega), rw_ne _ (by omega), rw_ne _ (by omega), rw_at _ hm, rw_ne _ (by omega), rw_ne _ (by omega)]
  · rw [tpu_ne (by omega), rw_ne _ (by omega), rw_ne _ (by omega), rw_ne _ (by omega), rw_at _ hm, rw_ne _ (by omega), rw_ne _ (by omega), rw_ne _ (by omega)]
  · rw [tpu_ne (by omega), rw_ne _ (by omega), rw_ne _ (by omega), rw_at _ hm, rw_ne _ (by omega), rw_ne _ (by omega), rw_ne _ (by omega), rw_ne _ (by omega)]
  · rw [tpu_ne (by omega), rw_ne _ (by omega), rw_at _ hm, rw_ne _ (by omega), rw_ne _ (by omega), rw_ne _ (by omega), rw_ne _ (by omega), rw_ne _ (by omega)]
  · rw [tpu_ne (by omega), rw_at _ hm, rw_ne _ (by omega), rw_ne _ (by omega), rw_ne _ (by omega), rw_ne _ (by omega), rw_ne _ (by omega), rw_ne _ (by omega)]
  · have e : ∀ i v, rPut (rPut (rPut (rPut (rPut (rPut (rPut F (d + 2) 300 i 1) (d + 4) 300 i v) (d + 6) 300 i (-1)) (d + 8) 300 i (-1)) (d + 10) 300 i (-1)) (d + 12) 300 i (-1)) (d + 14) 300 i (-1) d = F d := by
      intro i v
      rw [rw_ne _ (by omega), rw_ne _ (by omega), rw_ne _ (by omega), rw_ne _ (by omega), rw_ne _ (by omega), rw_ne _ (by omega), rw_ne _ (by omega)]
    funext k
    simp only [tpu, mU, e]
    by_cases c : k = 9 <;> simp [c]
  · rw [tpu_ne h0, rw_ne _ h14, rw_ne _ h12, rw_ne _ h10, rw_ne _ h8, rw_ne _ h6, rw_ne _ h4, rw_ne _ h2]
theorem bu_spr {F : Nat → Nat → Int32} {d N : Nat} {t : mT} (h : BuP F d t) (hw : fWF N t) {m : Nat} {w : Int32} (hm : m < 300) (hi : tIn t m = false) : BuP (uSprout F d (nI m) w) d (tSpr t m w) := by
  obtain ⟨s2, s4, s6, s8, s10, s12, s14, s0, -⟩ := spr_at F (d := d) (w := w) hm
  unfold BuP nodeP
  rw [s2, s4, s6, s8, s10, s12, s14, s0]
  refine ⟨?_, fun x hx => ?_, fun x hx => ?_⟩
  · rw [mU_s, h.1, tCn_spr hw hi hm, nI_1]
  · show _ = if mU (tIn t) m true x = true then 1 else 0
    by_cases e : x = m
    · subst e; rw [mU_s, mU_s]; rfl
    · rw [mU_n _ _ e, mU_n _ _ e]; exact h.2.1 x hx
  · have hx : mU (tIn t) m true x = true := hx
    show _ = mU (tWo t) m w x ∧ _ = nO (mU (tUp t) m none x) ∧ seg _ _ (mU (tKi t) m [] x) (-1) ∧ seg _ _ (mU (tKi t) m [] x).reverse (-1) ∧ (mU (tUp t) m none x = none → _)
    by_cases e : x = m
    · subst e
      simp only [mU_s]
      exact ⟨trivial, rfl, rfl, rfl, fun _ => ⟨trivial, trivial⟩⟩
    · simp only [mU_n _ _ e] at hx ⊢
      obtain ⟨g1, g2, g3, g4, g5⟩ := h.2.2 x hx
      have hk : ∀ y ∈ tKi t x, y ≠ m := fun y hy e => by
        have := (fKi_in hw hy).1
        rw [e, hi] at this; simp at this
      refine ⟨g1, g2, seg_congr (fun y hy => mU_n _ _ (hk y hy)) g3, seg_congr (fun y hy => mU_n _ _ (hk y (List.mem_reverse.mp hy))) g4, g5⟩
def oU (f : Nat → Int32) (o : Option Nat) (v : Int32) : Nat → Int32 := match o with
  | none => f
  | some k => mU f k v
def oN (f : Nat → Int32) (o : Option Nat) (p : Nat) (v : Int32) : Nat → Int32 := match o with
  | none => mU f p v
  | some _ => f
theorem joi_at (F : Nat → Nat → Int32) {d p : Nat} {b a : Option Nat} (hp : p < 300) (hb : ∀ k, b = some k → k < 300) (ha : ∀ k, a = some k → k < 300) :
    uJoin F d (nI p) (nO b) (nO a) (d + 8) = oN (F (d + 8)) b p (nO a) ∧ uJoin F d (nI p) (nO b) (nO a) (d + 14) = oU (F (d + 14)) b (nO a) ∧
    uJoin F d (nI p) (nO b) (nO a) (d + 10) = oN (F (d + 10)) a p (nO b) ∧ uJoin F d (nI p) (nO b) (nO a) (d + 12) = oU (F (d + 12)) a (nO b) ∧
    (∀ c, c ≠ d + 8 → c ≠ d + 10 → c ≠ d + 12 → c ≠ d + 14 → uJoin F d (nI p) (nO b) (nO a) c = F c) := by
  have hm : ∀ k : Nat, k < 300 → ¬ nO (some k) = -1 := fun k hk => nI_ne_m (by omega)
  have hn : nO none = -1 := rfl
  unfold uJoin
  cases b with
  | none =>
    cases a with
    | none =>
      rw [if_pos hn, if_pos hn]
      refine ⟨?_, ?_, ?_, ?_, fun c h8 h10 h12 h14 => ?_⟩
      · rw [rw_ne _ (by omega), rw_at _ hp]; rfl
      · rw [rw_ne _ (by omega), rw_ne _ (by omega)]; rfl
      · rw [rw_at _ hp, rw_ne _ (by omega)]; rfl
      · rw [rw_ne _ (by omega), rw_ne _ (by omega)]; rfl
      · rw [rw_ne _ h10, rw_ne _ h8]
    | some a =>
      have h2 := ha a rfl
      rw [if_pos hn, if_neg (hm a h2)]
      refine ⟨?_, ?_, ?_, ?_, fun c h8 h10 h12 h14 => ?_⟩
      · rw [rw_ne _ (by omega), rw_at _ hp]; rfl
      · rw [rw_ne _ (by omega), rw_ne _ (by omega)]; rfl
      · rw [rw_ne _ (by omega), rw_ne _ (by omega)]; rfl
      · rw [rw_aO _ h2, rw_ne _ (by omega)]; rfl
      · rw [rw_ne _ h12, rw_ne _ h8]
  | some b =>
    have h1 := hb b rfl
    cases a with
    | none =>
      rw [if_pos hn, if_neg (hm b h1)]
      refine ⟨?_, ?_, ?_, ?_, fun c h8 h10 h12 h14 => ?_⟩
      · rw [rw_ne _ (by omega), rw_ne _ (by omega)]; rfl
      · rw [rw_ne _ (by omega), rw_aO _ h1]; rfl
      · rw [rw_at _ hp, rw_ne _ (by omega)]; rfl
      · rw [rw_ne _ (by omega), rw_ne _ (by omega)]; rfl
      · rw [rw_ne _ h10, rw_ne _ h14]
    | some a =>
      have h2 := ha a rfl
      rw [if_neg (hm b h1), if_neg (hm a h2)]
      refine ⟨?_, ?_, ?_, ?_, fun c h8 h10 h12 h14 => ?_⟩
      · rw [rw_ne _ (by omega), rw_ne _ (by omega)]; rfl
      · rw [rw_ne _ (by omega), rw_aO _ h1]; rfl
      · rw [rw_ne _ (by omega), rw_ne _ (by omega)]; rfl
      · rw [rw_aO _ h2, rw_ne _ (by omega)]; rfl
      · rw [rw_ne _ h12, rw_ne _ h14]
theorem seg_mid {nx : Nat → Int32} {s : Int32} {A B : List Nat} {m : Nat} (h : seg nx s (A ++ m :: B) (-1)) : nx m = headO B := by
  obtain ⟨q, -, h2⟩ := seg_app.mp h
  exact seg_head h2.2
theorem getL_mem {A : List Nat} {b : Nat} (h : A.getLast? = some b) : b ∈ A := List.mem_of_getLast? h
theorem getH_mem {A : List Nat} {b : Nat} (h : A.head? = some b) : b ∈ A := List.mem_of_head? h
/-- hang: m comes in behind A and ahead of B -/
theorem bu_hng {F : Nat → Nat → Int32} {d : Nat} {t : mT} (h : BuP F d t) (hw : fWF 300 t) {m p : Nat} {A B : List Nat} (hm : tIn t m = true) (hu : tUp t m = none) (hp : tIn t p = true) (hk : tKi t p = A ++ B) :
    BuP (uHang F d (nI m) (nI p) (lastO A)) d (tHng t m p (A ++ m :: B)) ∧ (∀ b, b ≠ d + 6 → b ≠ d + 8 → b ≠ d + 10 → b ≠ d + 12 → b ≠ d + 14 → uHang F d (nI m) (nI p) (lastO A) b = F b) := by
  have hm3 := hw.1 m hm
  have hp3 := hw.1 p hp
  obtain ⟨g1, g2, g3, g4, g5⟩ := h.2.2 p hp
  rw [hk] at g3 g4
  have hmk : ∀ q, m ∉ tKi t q := fun q h => by have := (fKi_in hw h).2; rw [hu] at this; simp at this
  have hnd := hw.2.2.1 p
  have hmp := hmk p
  rw [hk] at hnd hmp
  have kk : ∀ x ∈ A ++ B, x ∈ tKi t p := fun x hx => by rw [hk]; exact hx
  have hA3 : ∀ k, A.getLast? = some k → k < 300 := fun k e => hw.1 k (fKi_in hw (kk k (List.mem_append_left _ (getL_mem e)))).1
  have hB3 : ∀ k, B.head? = some k → k < 300 := fun k e => hw.1 k (fKi_in hw (kk k (List.mem_append_right _ (getH_mem e)))).1
  have hm3' : ∀ k, some m = some k → k < 300 := fun k e => by rw [← Option.some.inj e]; exact hm3
  -- what stands behind
  have haf : (if lastO A = -1 then rAt (F (d + 8)) 300 (nI p) else rAt (F (d + 14)) 300 (lastO A)) = headO B := by
    rcases list_snoc (A := A) with rfl | ⟨A', b, rfl⟩
    · rw [lastO_nil, if_pos rfl, rAt_n hp3 n300]
      exact seg_head g3
    · have hb3 := hA3 b (by simp)
      rw [lastO_app, if_neg (nI_ne_m (by omega)), rAt_n hb3 n300]
      rw [List.append_assoc] at g3
      exact seg_mid g3
  have eU : uHang F d (nI m) (nI p) (lastO A) = uJoin (uJoin (rPut F (d + 6) 300 (nI m) (nI p)) d (nI p) (nO A.getLast?) (nO (some m))) d (nI p) (nO (some m)) (nO B.head?) := by
    show uJoin (uJoin (rPut F (d + 6) 300 (nI m) (nI p)) d (nI p) (lastO A) (nI m)) d (nI p) (nI m) (if lastO A = -1 then rAt (F (d + 8)) 300 (nI p) else rAt (F (d + 14)) 300 (lastO A)) = _
    rw [haf]; rfl
  obtain ⟨i8, i14, i10, i12, io⟩ := joi_at (rPut F (d + 6) 300 (nI m) (nI p)) (d := d) hp3 hA3 hm3'
  obtain ⟨j8, j14, j10, j12, jo⟩ := joi_at (uJoin (rPut F (d + 6) 300 (nI m) (nI p)) d (nI p) (nO A.getLast?) (nO (some m))) (d := d) hp3 hm3' hB3
  rw [i8, rw_ne _ (by omega)] at j8
  rw [i14, rw_ne _ (by omega)] at j14
  rw [i10, rw_ne _ (by omega)] at j10
  rw [i12, rw_ne _ (by omega)] at j12
  have j0 := jo d (by omega) (by omega) (by omega) (by omega)
  have j2 := jo (d + 2) (by omega) (by omega) (by omega) (by omega)
  have j4 := jo (d + 4) (by omega) (by omega) (by omega) (by omega)
  have j6 := jo (d + 6) (by omega) (by omega) (by omega) (by omega)
  rw [io _ (by omega) (by omega) (by omega) (by omega), rw_ne _ (by omega)] at j0 j2 j4
  rw [io _ (by omega) (by omega) (by omega) (by omega), rw_at _ hm3] at j6
  refine ⟨?_, fun b h6 h8 h10 h12 h14 => by rw [eU, jo b h8 h10 h12 h14, io b h8 h10 h12 h14, rw_ne _ h6]⟩
  rw [eU]
  unfold BuP nodeP
  rw [j0, j2, j4, j6, j8, j10, j12, j14]
  refine ⟨h.1, h.2.1, fun x hx => ?_⟩
  obtain ⟨q1, q2, q3, q4, q5⟩ := h.2.2 x hx
  -- the rows at other places
  have a14 : ∀ y, y ≠ m → A.getLast? ≠ some y → oU (oU (F (d + 14)) A.getLast? (nO (some m))) (some m) (nO B.head?) y = F (d + 14) y := by
    intro y h1 h2
    show mU _ m _ y = _
    rw [mU_n _ _ h1]
    cases e : A.getLast? with
    | none => rfl
    | some b => exact mU_n _ _ (fun e2 => h2 (by rw [e, e2]))
  have a12 : ∀ y, y ≠ m → B.head? ≠ some y → oU (oU (F (d + 12)) (some m) (nO A.getLast?)) B.head? (nO (some m)) y = F (d + 12) y := by
    intro y h1 h2
    cases e : B.head? with
    | none => exact mU_n _ _ h1
    | some b =>
      show mU (mU _ m _) b _ y = _
      rw [mU_n _ _ (fun e2 => h2 (by rw [e, e2])), mU_n _ _ h1]
  refine ⟨q1, ?_, ?_, ?_, ?_⟩
  · show mU (F (d + 6)) m (nI p) x = nO (mU (tUp t) m (some p) x)
    by_cases e : x = m
    · rw [e, mU_s, mU_s]; rfl
    · rw [mU_n _ _ e, mU_n _ _ e]; exact q2
  · show seg _ _ (mU (tKi t) p (A ++ m :: B) x) (-1)
    by_cases e : x = p
    · subst e
      rw [mU_s]
      refine seg_ins g3 hmp hnd (mU_s _ _ _) (fun b hb => ?_) a14 ?_
      · show mU _ m _ b = _
        have hbm : b ≠ m := fun e => hmp (List.mem_append_left _ (by rw [← e]; exact getL_mem hb))
        rw [mU_n _ _ hbm, hb]
        exact mU_s _ _ _
      · cases e : A.getLast? with
        | none =>
          rw [if_pos (List.getLast?_eq_none_iff.mp e)]
          exact mU_s _ _ _
        | some b =>
          have hne : A ≠ [] := fun e2 => by rw [e2] at e; simp at e
          rw [if_neg hne]; rfl
    · rw [mU_n _ _ e]
      have e8 : oN (oN (F (d + 8)) A.getLast? p (nO (some m))) (some m) p (nO B.head?) x = F (d + 8) x := by
        show oN (F (d + 8)) A.getLast? p (nO (some m)) x = _
        cases A.getLast? with
        | none => exact mU_n _ _ e
        | some b => rfl
      rw [e8]
      refine seg_congr (fun y hy => a14 y (fun e2 => hmk x (by rw [← e2]; exact hy)) (fun e2 => e (tUp_of hw hy (kk y (List.mem_append_left _ (getL_mem e2)))))) q3
  · show seg _ _ (mU (tKi t) p (A ++ m :: B) x).reverse (-1)
    by_cases e : x = p
    · subst e
      rw [mU_s]
      have eR : (A ++ m :: B).reverse = B.reverse ++ m :: A.reverse := by simp
      rw [eR]
      rw [List.reverse_append] at g4
      refine seg_ins g4 (by simpa [or_comm] using hmp) (by rw [← List.reverse_append]; exact (List.reverse_perm _).nodup_iff.mpr hnd) ?_ (fun b hb => ?_) (fun y h1 h2 => a12 y h1 (by rw [List.getLast?_reverse] at h2; exact h2)) ?_
      · rw [headO_rev]
        cases e : B.head? with
        | none => exact mU_s _ _ _
        | some b =>
          have hbm : m ≠ b := fun e2 => hmp (List.mem_append_right _ (by rw [e2]; exact getH_mem e))
          show mU (mU _ m _) b _ m = _
          rw [mU_n _ _ hbm, mU_s]; rfl
      · rw [List.getLast?_reverse] at hb
        rw [hb]
        exact mU_s _ _ _
      · cases e : B.head? with
        | none =>
          have hne : B = [] := List.head?_eq_none_iff.mp e
          rw [if_pos (by rw [hne]; rfl)]
          exact mU_s _ _ _
        | some b =>
          have hne : B.reverse ≠ [] := fun e2 => by rw [List.reverse_eq_nil_iff.mp e2] at e; simp at e
          rw [if_neg hne]; rfl
    · rw [mU_n _ _ e]
      have e10 : oN (oN (F (d + 10)) (some m) p (nO A.getLast?)) B.head? p (nO (some m)) x = F (d + 10) x := by
        show oN (F (d + 10)) B.head? p (nO (some m)) x = _
        cases B.head? with
        | none => exact mU_n _ _ e
        | some b => rfl
      rw [e10]
      refine seg_congr (fun y hy => ?_) q4
      have hy := List.mem_reverse.mp hy
      exact a12 y (fun e2 => hmk x (by rw [← e2]; exact hy)) (fun e2 => e (tUp_of hw hy (kk y (List.mem_append_right _ (getH_mem e2)))))
  · intro hx2
    have hx2 : mU (tUp t) m (some p) x = none := hx2
    have e : x ≠ m := fun e => by rw [e, mU_s] at hx2; simp at hx2
    rw [mU_n _ _ e] at hx2
    have hnk : ∀ y ∈ A ++ B, y ≠ x := fun y hy e => by
      have := (fKi_in hw (kk y hy)).2
      rw [e, hx2] at this; simp at this
    rw [a12 x e (fun e2 => hnk x (List.mem_append_right _ (getH_mem e2)) rfl), a14 x e (fun e2 => hnk x (List.mem_append_left _ (getL_mem e2)) rfl)]
    exact q5 hx2
end PBUSHP
