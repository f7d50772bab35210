section RUNS
/-- a list of numbers in a row, from a place on -/
def rnP (F : Nat → Nat → Int32) (c k : Nat) (l : List Nat) : Prop := ∀ (i x : Nat), l[i]? = some x → F c (k + i) = nI x
theorem rnP_app {F : Nat → Nat → Int32} {c k : Nat} {A B : List Nat} (h1 : rnP F c k A) (h2 : rnP F c (k + A.length) B) : rnP F c k (A ++ B) := fun i x hi => by
  by_cases g : i < A.length
  · rw [List.getElem?_append_left g] at hi; exact h1 i x hi
  · rw [List.getElem?_append_right (by omega)] at hi
    have := h2 _ x hi
    rw [show k + A.length + (i - A.length) = k + i by omega] at this
    exact this
theorem rnP_l {F : Nat → Nat → Int32} {c k : Nat} {A B : List Nat} (h : rnP F c k (A ++ B)) : rnP F c k A := fun i x hi => by
  have := (List.getElem?_eq_some_iff.mp hi).1
  exact h i x (by rw [List.getElem?_append_left this]; exact hi)
theorem rnP_r {F : Nat → Nat → Int32} {c k : Nat} {A B : List Nat} (h : rnP F c k (A ++ B)) : rnP F c (k + A.length) B := fun i x hi => by
  have := h (A.length + i) x (by rw [List.getElem?_append_right (by omega), show A.length + i - A.length = i by omega]; exact hi)
  rw [show k + A.length + i = k + (A.length + i) by omega]
  exact this
theorem rnP_fr {F G : Nat → Nat → Int32} {c k : Nat} {l : List Nat} (h : rnP F c k l) (hk : ∀ j, k ≤ j → j < k + l.length → G c j = F c j) : rnP G c k l := fun i x hi => by
  have := (List.getElem?_eq_some_iff.mp hi).1
  rw [hk (k + i) (by omega) (by omega)]; exact h i x hi
/-- where a number goes among sorted ones -/
def inA (l : List Nat) (m : Nat) : List Nat := (l.reverse.dropWhile (fun c => decide (m < c))).reverse
def inB (l : List Nat) (m : Nat) : List Nat := (l.reverse.takeWhile (fun c => decide (m < c))).reverse
theorem in_app (l : List Nat) (m : Nat) : inA l m ++ inB l m = l := by
  unfold inA inB
  rw [← List.reverse_append, List.takeWhile_append_dropWhile, List.reverse_reverse]
theorem inB_gt {l : List Nat} {m : Nat} : ∀ x ∈ inB l m, m < x := fun x hx => by
  unfold inB at hx
  have := tw_all _ x (List.mem_reverse.mp hx)
  simpa using this
theorem inA_last {l : List Nat} {m : Nat} {A : List Nat} {c : Nat} (h : inA l m = A ++ [c]) : c ≤ m := by
  unfold inA at h
  have h2 : l.reverse.dropWhile (fun c => decide (m < c)) = c :: A.reverse := by
    have := congrArg List.reverse h
    rw [List.reverse_reverse, List.reverse_append] at this
    exact this
  have := dw_hd _ c _ h2
  have := of_decide_eq_false this
  omega
theorem in_sorted {l : List Nat} {m : Nat} (h : l.Pairwise (· ≤ ·)) : (inA l m ++ m :: inB l m).Pairwise (· ≤ ·) := by
  have e := in_app l m
  rw [← e] at h
  obtain ⟨h1, h2, h3⟩ := List.pairwise_append.mp h
  have hA : ∀ x ∈ inA l m, x ≤ m := fun x hx => by
    rcases list_snoc (A := inA l m) with g | ⟨A0, c, g⟩
    · rw [g] at hx; simp at hx
    · have hc := inA_last g
      rw [g] at hx h1
      rcases List.mem_append.mp hx with q | q
      · have := (List.pairwise_append.mp h1).2.2 x q c (by simp)
        omega
      · have : x = c := by simpa using q
        omega
  refine List.pairwise_append.mpr ⟨h1, List.pairwise_cons.mpr ⟨fun y hy => Nat.le_of_lt (inB_gt y hy), h2⟩, fun x hx y hy => ?_⟩
  rcases List.mem_cons.mp hy with g | g
  · rw [g]; exact hA x hx
  · have := inB_gt y g
    have := hA x hx
    omega
/-- the list with a number laid down -/
def ldN (so : Bool) (l : List Nat) (m : Nat) : List Nat := if so = true then inA l m ++ m :: inB l m else l ++ [m]
theorem ldN_perm (so : Bool) (l : List Nat) (m : Nat) : (ldN so l m).Perm (l ++ [m]) := by
  unfold ldN
  cases so with
  | false => exact List.Perm.refl _
  | true =>
    rw [if_pos rfl]
    have e := in_app l m
    have p : (inA l m ++ m :: inB l m).Perm (m :: (inA l m ++ inB l m)) := List.perm_middle
    rw [e] at p
    exact p.trans (List.perm_append_singleton m l).symm
theorem ldN_len (so : Bool) (l : List Nat) (m : Nat) : (ldN so l m).length = l.length + 1 := by
  rw [(ldN_perm so l m).length_eq, List.length_append]; rfl
theorem p_ld6 {h : tpH} {d : Nat} {x : Option Nat} (l : lLi h d x) {m k : Nat} (hm : m < 600) {ls : List Nat} (hls : ∀ c ∈ ls, c < 600) (hk : k + ls.length < 600) {F0 : Nat → Nat → Int32} (h0 : rnP F0 (d + 12) k ls) {R : tpH → Prop} (kk : ∀ G, rnP G (d + 12) k (ldN true ls m) → (∀ b j, ¬ (b = d + 12 ∧ k ≤ j ∧ j ≤ k + ls.length) → G b j = F0 b j) → R (wI h G)) :
    ∀ (n : Nat) (A B : List Nat) (F : Nat → Nat → Int32), ls = A ++ B → (∀ c ∈ B, m < c) → (∀ j, j < k + A.length ∨ k + ls.length < j → F (d + 12) j = F0 (d + 12) j) → rnP F (d + 12) (k + A.length + 1) B → (∀ b, b ≠ d + 12 → F b = F0 b) → A.length < n → w_Li_layDown_6 R n d (nI m) (nI k) 1 (nI (k + A.length)) (nI (k + A.length)) (wI h F)
  | 0, A, B, F, e, hB, f1, f2, f3, hn => by omega
  | n + 1, A, B, F, e, hB, f1, f2, f3, hn => by
    obtain ⟨t0, _, _, _, _, _, _, ⟨r1, r2⟩⟩ := id l
    have hlen : ls.length = A.length + B.length := by rw [e, List.length_append]
    have fin : inA ls m = A → w_Li_layDown_64 R d (nI m) (nI (k + A.length)) (wI h F) := fun eA => by
      have eB : inB ls m = B := by
        have := in_app ls m
        rw [eA] at this
        exact List.append_cancel_left (this.trans e)
      refine ⟨t0, d + 11, r1, r2.1, p_put (rwL_w r2) (by decide) ?_⟩
      rw [wI_I, rPut_n (by omega) (by decide), wI_wI]
      refine kk _ ?_ (fun b j hb => ?_)
      · show rnP _ (d + 12) k (if true = true then inA ls m ++ m :: inB ls m else ls ++ [m])
        rw [if_pos rfl, eA, eB]
        refine rnP_app (fun i z hi => ?_) (fun i z hi => ?_)
        · have hil := (List.getElem?_eq_some_iff.mp hi).1
          rw [tpu_j _ _ _ _ _ _ (by omega), f1 _ (by omega)]
          exact h0 i z (by rw [e, List.getElem?_append_left hil]; exact hi)
        · cases i with
          | zero =>
            simp only [List.getElem?_cons_zero, Option.some.injEq] at hi
            show tpu F (d + 12) (k + A.length) (nI m) (d + 12) (k + A.length) = nI z
            rw [tpu_s, hi]
          | succ i =>
            have hi : B[i]? = some z := hi
            rw [tpu_j _ _ _ _ _ _ (by omega)]
            have := f2 i z hi
            rw [show k + A.length + (i + 1) = k + A.length + 1 + i by omega]
            exact this
      · by_cases c : b = d + 12
        · subst c
          rw [tpu_j _ _ _ _ _ _ (by omega), f1 _ (by omega)]
        · rw [tpu_fa _ _ _ _ _ c, f3 b c]
    refine ⟨fun g => absurd g (by decide), fun _ => ⟨fun g => ?_, fun g => ?_⟩⟩
    · have := (nI_le_iff (by omega) (by omega)).mp g
      have hA0 : A = [] := List.length_eq_zero_iff.mp (by omega)
      refine fin ?_
      subst hA0
      rcases list_snoc (A := inA ls m) with q | ⟨A0, c, q⟩
      · exact q
      · exfalso
        have h1 := inA_last q
        have h2 := in_app ls m
        rw [q] at h2
        have : c ∈ B := by
          have : c ∈ ls := by rw [← h2]; simp
          rw [e] at this; simpa using this
        have := hB c this
        omega
    · have hApos : 0 < A.length := by
        refine Nat.pos_of_ne_zero fun q => g ?_
        rw [q]
        exact (nI_le_iff (by omega) (by omega)).mpr (by omega)
      rcases list_snoc (A := A) with q | ⟨A0, c, rfl⟩
      · rw [q] at hApos; simp at hApos
      · rw [List.length_append] at hlen f1 f2 hn ⊢
        have e1 : [c].length = 1 := rfl
        rw [e1] at hlen f1 f2 hn ⊢
        have eI : nI (k + (A0.length + 1)) - 1 = nI (k + A0.length) := nI_pred (k + A0.length)
        rw [eI]
        have hc6 : c < 600 := hls c (by rw [e]; simp)
        have er : rAt (hI (wI h F) (d + 12)) 600 (nI (k + A0.length)) = nI c := by
          rw [rAt_n (by omega) (by decide), wI_I, f1 _ (by omega)]
          exact h0 A0.length c (by rw [e]; simp)
        refine ⟨t0, d + 11, r1, r2.1, p_at (rwL_w r2) (by decide) ?_⟩
        rw [er, nI_le_iff (by omega) (by omega)]
        refine ⟨fun hle => ?_, fun hlt => ⟨t0, d + 11, r1, r2.1, p_at (rwL_w r2) (by decide) ⟨r2.1, p_put (rwL_w r2) (by decide) ?_⟩⟩⟩
        · have := fin ?_
          · rw [List.length_append, e1] at this; exact this
          · -- nothing of A0 ++ [c] goes behind
            have key : inB ls m = B := by
              unfold inB
              rw [e, List.reverse_append, List.reverse_append]
              have : ∀ (X : List Nat) (Y : List Nat), (∀ y ∈ X, m < y) → (X ++ (c :: Y)).takeWhile (fun c => decide (m < c)) = X := by
                intro X
                induction X with
                | nil => intro Y _; exact List.takeWhile_cons_of_neg (by simpa using hle)
                | cons z X ih => intro Y hX; rw [List.cons_append, List.takeWhile_cons_of_pos (by simpa using hX z List.mem_cons_self), ih Y (fun y hy => hX y (List.mem_cons_of_mem _ hy))]
              have e2 : [c].reverse ++ A0.reverse = c :: A0.reverse := rfl
              rw [e2, this B.reverse A0.reverse (fun y hy => hB y (List.mem_reverse.mp hy)), List.reverse_reverse]
            have h2 := in_app ls m
            rw [key] at h2
            exact List.append_cancel_right (h2.trans e)
        · rw [er, wI_I, rPut_n (by omega) (by decide), wI_wI]
          have ed : nI (k + (A0.length + 1)) + (-1) = nI (k + A0.length) := by rw [nI_dn (by omega)]; congr 1
          rw [ed]
          refine p_ld6 l hm hls hk h0 kk n A0 (c :: B) (tpu F (d + 12) (k + (A0.length + 1)) (nI c)) (by rw [e]; simp) (fun y hy => ?_) (fun j hj => ?_) (fun i z hi => ?_) (fun b hb => ?_) (by omega)
          · rcases List.mem_cons.mp hy with q | q
            · rw [q]; omega
            · exact hB y q
          · rw [tpu_j _ _ _ _ _ _ (by omega)]; exact f1 j (by omega)
          · cases i with
            | zero =>
              simp only [List.getElem?_cons_zero, Option.some.injEq] at hi
              show tpu F (d + 12) (k + (A0.length + 1)) (nI c) (d + 12) (k + A0.length + 1) = nI z
              rw [show k + A0.length + 1 = k + (A0.length + 1) by omega, tpu_s, hi]
            | succ i =>
              have hi : B[i]? = some z := hi
              rw [tpu_j _ _ _ _ _ _ (by omega)]
              have := f2 i z hi
              rw [show k + A0.length + 1 + (i + 1) = k + (A0.length + 1) + 1 + i by omega]
              exact this
          · rw [tpu_fa _ _ _ _ _ hb]; exact f3 b hb
theorem p_Li_layDown {h : tpH} {d : Nat} {x : Option Nat} (l : lLi h d x) {m k : Nat} (hm : m < 600) {ls : List Nat} (hls : ∀ c ∈ ls, c < 600) (hk : k + ls.length < 600) {F : Nat → Nat → Int32} (h0 : rnP F (d + 12) k ls) {so : Bool} {v : Int32} (hv : v = 0 ↔ so = false) (hv1 : so = true → v = 1) {R : tpH → Prop} (kk : ∀ G, rnP G (d + 12) k (ldN so ls m) → (∀ b j, ¬ (b = d + 12 ∧ k ≤ j ∧ j ≤ k + ls.length) → G b j = F b j) → R (wI h G)) : w_Li_layDown d (nI m) (nI k) (nI (k + ls.length)) v (wI h F) R := by
  cases so with
  | true =>
    rw [hv1 rfl]
    exact ⟨ls.length + 1, p_ld6 l hm hls hk h0 kk _ ls [] F (List.append_nil _).symm (fun c hc => by simp at hc) (fun j _ => rfl) (fun i z hi => by simp at hi) (fun _ _ => rfl) (Nat.lt_succ_self _)⟩
  | false =>
    obtain ⟨t0, _, _, _, _, _, _, ⟨r1, r2⟩⟩ := id l
    rw [hv.mpr rfl]
    refine ⟨1, fun _ => ⟨t0, d + 11, r1, r2.1, p_put (rwL_w r2) (by decide) ?_⟩, fun g => absurd rfl g⟩
    rw [wI_I, rPut_n (by omega) (by decide), wI_wI]
    refine kk _ (rnP_app (rnP_fr h0 (fun j j1 j2 => tpu_j _ _ _ _ _ _ (by omega))) (fun i z hi => ?_)) (fun b j hb => ?_)
    · cases i with
      | zero =>
        simp only [List.getElem?_cons_zero, Option.some.injEq] at hi
        show tpu F (d + 12) (k + ls.length) (nI m) (d + 12) (k + ls.length) = nI z
        rw [tpu_s, hi]
      | succ i => simp at hi
    · rw [tpu_o (by omega)]
end RUNS
