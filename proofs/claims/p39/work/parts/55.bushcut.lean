section PBUSHC
theorem erase_mid {m : Nat} {A B : List Nat} (h : m ∉ A) : (A ++ m :: B).erase m = A ++ B := by
  rw [List.erase_append_right _ h, List.erase_cons_head]
/-- cut: a child goes out from between A and B -/
theorem bu_cut {F : Nat → Nat → Int32} {d : Nat} {t : mT} (h : BuP F d t) (hw : fWF 300 t) {m p : Nat} {A B : List Nat} (hk : tKi t p = A ++ m :: B) :
    BuP (uCut F d (nI m)) d (tCut t m) ∧ (∀ b, b ≠ d + 6 → b ≠ d + 8 → b ≠ d + 10 → b ≠ d + 12 → b ≠ d + 14 → uCut F d (nI m) b = F b) := by
  have hmk : m ∈ tKi t p := by rw [hk]; simp
  obtain ⟨hm, hu⟩ := fKi_in hw hmk
  have hp := fKi_p hw hmk
  have hm3 := hw.1 m hm
  have hp3 := hw.1 p hp
  obtain ⟨g1, g2, g3, g4, g5⟩ := h.2.2 p hp
  obtain ⟨r1, r2, -, -, -⟩ := h.2.2 m hm
  have hnd := hw.2.2.1 p
  rw [hk] at g3 g4 hnd
  obtain ⟨hA0, hB0, hd⟩ := List.nodup_append.mp hnd
  have hmA : m ∉ A := fun e => hd m e m List.mem_cons_self rfl
  have hmB : m ∉ B := (List.nodup_cons.mp hB0).1
  have eR : (A ++ m :: B).reverse = B.reverse ++ m :: A.reverse := by simp
  rw [eR] at g4
  have kk : ∀ x ∈ A ++ B, x ∈ tKi t p := fun x hx => by
    rw [hk]
    rcases List.mem_append.mp hx with e | e
    · exact List.mem_append_left _ e
    · exact List.mem_append_right _ (List.mem_cons_of_mem _ e)
  have hA3 : ∀ k, A.getLast? = some k → k < 300 := fun k e => hw.1 k (fKi_in hw (kk k (List.mem_append_left _ (getL_mem e)))).1
  have hB3 : ∀ k, B.head? = some k → k < 300 := fun k e => hw.1 k (fKi_in hw (kk k (List.mem_append_right _ (getH_mem e)))).1
  have b1 : F (d + 14) m = nO B.head? := seg_mid g3
  have b2 : F (d + 12) m = nO A.getLast? := by rw [seg_mid g4, headO_rev]; rfl
  have b3 : F (d + 6) m = nI p := by rw [r2, hu]; rfl
  have eU : uCut F d (nI m) = rPut (rPut (rPut (uJoin F d (nI p) (nO A.getLast?) (nO B.head?)) (d + 6) 300 (nI m) (-1)) (d + 12) 300 (nI m) (-1)) (d + 14) 300 (nI m) (-1) := by
    unfold uCut
    rw [rAt_n hm3 n300, rAt_n hm3 n300, rAt_n hm3 n300, b1, b2, b3]
  obtain ⟨j8, j14, j10, j12, jo⟩ := joi_at F (d := d) hp3 hA3 hB3
  have jn : ∀ b, b ≠ d + 6 → b ≠ d + 12 → b ≠ d + 14 → uCut F d (nI m) b = uJoin F d (nI p) (nO A.getLast?) (nO B.head?) b := fun b h6 h12 h14 => by
    rw [eU, rw_ne _ h14, rw_ne _ h12, rw_ne _ h6]
  have k0 := jn d (by omega) (by omega) (by omega)
  have k2 := jn (d + 2) (by omega) (by omega) (by omega)
  have k4 := jn (d + 4) (by omega) (by omega) (by omega)
  have k8 := jn (d + 8) (by omega) (by omega) (by omega)
  have k10 := jn (d + 10) (by omega) (by omega) (by omega)
  have k6 : uCut F d (nI m) (d + 6) = mU (F (d + 6)) m (-1) := by rw [eU, rw_ne _ (by omega), rw_ne _ (by omega), rw_at _ hm3, jo _ (by omega) (by omega) (by omega) (by omega)]
  have k12 : uCut F d (nI m) (d + 12) = mU (oU (F (d + 12)) B.head? (nO A.getLast?)) m (-1) := by rw [eU, rw_ne _ (by omega), rw_at _ hm3, rw_ne _ (by omega), j12]
  have k14 : uCut F d (nI m) (d + 14) = mU (oU (F (d + 14)) A.getLast? (nO B.head?)) m (-1) := by rw [eU, rw_at _ hm3, rw_ne _ (by omega), rw_ne _ (by omega), j14]
  rw [jo _ (by omega) (by omega) (by omega) (by omega)] at k0 k2 k4
  rw [j8] at k8
  rw [j10] at k10
  refine ⟨?_, fun b h6 h8 h10 h12 h14 => by rw [jn b h6 h12 h14, jo b h8 h10 h12 h14]⟩
  unfold BuP nodeP
  rw [k0, k2, k4, k6, k8, k10, k12, k14]
  have a14 : ∀ y, y ≠ m → A.getLast? ≠ some y → mU (oU (F (d + 14)) A.getLast? (nO B.head?)) m (-1) y = F (d + 14) y := by
    intro y h1 h2
    rw [mU_n _ _ h1]
    cases e : A.getLast? with
    | none => rfl
    | some b => exact mU_n _ _ (fun e2 => h2 (by rw [e, e2]))
  have a12 : ∀ y, y ≠ m → B.head? ≠ some y → mU (oU (F (d + 12)) B.head? (nO A.getLast?)) m (-1) y = F (d + 12) y := by
    intro y h1 h2
    rw [mU_n _ _ h1]
    cases e : B.head? with
    | none => rfl
    | some b => exact mU_n _ _ (fun e2 => h2 (by rw [e, e2]))
  refine ⟨h.1, h.2.1, fun x hx => ?_⟩
  obtain ⟨q1, q2, q3, q4, q5⟩ := h.2.2 x hx
  refine ⟨q1, ?_, ?_, ?_, ?_⟩
  · show mU (F (d + 6)) m (-1) x = nO (mU (tUp t) m none x)
    by_cases e : x = m
    · rw [e, mU_s, mU_s]; rfl
    · rw [mU_n _ _ e, mU_n _ _ e]; exact q2
  · show seg _ _ ((tKi t x).erase m) (-1)
    by_cases e : x = p
    · subst e
      rw [hk, erase_mid hmA]
      refine seg_del g3 hnd (fun b hb => ?_) a14 ?_
      · rw [mU_n _ _ (fun e => hmA (by rw [← e]; exact getL_mem hb)), hb]
        exact mU_s _ _ _
      · cases e : A.getLast? with
        | none =>
          rw [if_pos (List.getLast?_eq_none_iff.mp e)]
          exact mU_s _ _ _
        | some b =>
          have hne : A ≠ [] := fun e2 => by rw [e2] at e; simp at e
          rw [if_neg hne]; rfl
    · have e1 : m ∉ tKi t x := fun e2 => e (tUp_of hw e2 hmk)
      rw [List.erase_of_not_mem e1]
      have e8 : oN (F (d + 8)) A.getLast? p (nO B.head?) x = F (d + 8) x := by
        cases A.getLast? with
        | none => exact mU_n _ _ e
        | some b => rfl
      rw [e8]
      refine seg_congr (fun y hy => a14 y (fun e2 => e1 (by rw [← e2]; exact hy)) (fun e2 => e (tUp_of hw hy (kk y (List.mem_append_left _ (getL_mem e2)))))) q3
  · show seg _ _ ((tKi t x).erase m).reverse (-1)
    by_cases e : x = p
    · subst e
      rw [hk, erase_mid hmA, List.reverse_append]
      refine seg_del g4 (by rw [← eR]; exact (List.reverse_perm _).nodup_iff.mpr hnd) (fun b hb => ?_) (fun y h1 h2 => a12 y h1 (by rw [List.getLast?_reverse] at h2; exact h2)) ?_
      · rw [List.getLast?_reverse] at hb
        rw [mU_n _ _ (fun e => hmB (by rw [← e]; exact getH_mem hb)), hb, headO_rev]
        exact mU_s _ _ _
      · rw [headO_rev]
        cases e : B.head? with
        | none =>
          have hne : B = [] := List.head?_eq_none_iff.mp e
          rw [if_pos (by rw [hne]; rfl)]
          exact mU_s _ _ _
        | some b =>
          have hne : B.reverse ≠ [] := fun e2 => by rw [List.reverse_eq_nil_iff.mp e2] at e; simp at e
          rw [if_neg hne]; rfl
    · have e1 : m ∉ tKi t x := fun e2 => e (tUp_of hw e2 hmk)
      rw [List.erase_of_not_mem e1]
      have e10 : oN (F (d + 10)) B.head? p (nO A.getLast?) x = F (d + 10) x := by
        cases B.head? with
        | none => exact mU_n _ _ e
        | some b => rfl
      rw [e10]
      refine seg_congr (fun y hy => ?_) q4
      have hy := List.mem_reverse.mp hy
      exact a12 y (fun e2 => e1 (by rw [← e2]; exact hy)) (fun e2 => e (tUp_of hw hy (kk y (List.mem_append_right _ (getH_mem e2)))))
  · intro hx2
    have hx2 : mU (tUp t) m none x = none := hx2
    by_cases e : x = m
    · rw [e, mU_s, mU_s]; exact ⟨rfl, rfl⟩
    · rw [mU_n _ _ e] at hx2
      have hnk : ∀ y ∈ A ++ B, y ≠ x := fun y hy e => by
        have := (fKi_in hw (kk y hy)).2
        rw [e, hx2] at this; simp at this
      rw [a12 x e (fun e2 => hnk x (List.mem_append_right _ (getH_mem e2)) rfl), a14 x e (fun e2 => hnk x (List.mem_append_left _ (getL_mem e2)) rfl)]
      exact q5 hx2
theorem rw_self {F : Nat → Nat → Int32} {c m : Nat} {v : Int32} (hm : m < 300) (h : F c m = v) : rPut F c 300 (nI m) v = F := by
  rw [rPut_n hm n300]
  funext b k
  simp only [tpu]
  by_cases e : b = c ∧ k = m
  · rw [if_pos e, e.1, e.2, h]
  · rw [if_neg e]
/-- cut of a mark that hangs nowhere: nothing moves -/
theorem bu_cut0 {F : Nat → Nat → Int32} {d : Nat} {t : mT} (h : BuP F d t) (hw : fWF 300 t) {m : Nat} (hm : tIn t m = true) (hu : tUp t m = none) : uCut F d (nI m) = F := by
  have hm3 := hw.1 m hm
  obtain ⟨r1, r2, -, -, r5⟩ := h.2.2 m hm
  obtain ⟨r3, r4⟩ := r5 hu
  rw [hu] at r2
  unfold uCut
  rw [rAt_n hm3 n300, rAt_n hm3 n300, rAt_n hm3 n300, r2, r3, r4]
  have e : uJoin F d (nO none) (-1) (-1) = F := by
    unfold uJoin
    rw [if_pos rfl, if_pos rfl]
    show rPut (rPut F (d + 8) 300 (-1) (-1)) (d + 10) 300 (-1) (-1) = F
    rw [rPut_m, rPut_m]
  have r2 : F (d + 6) m = -1 := r2
  rw [e, rw_self hm3 r2, rw_self hm3 r3, rw_self hm3 r4]
end PBUSHC
