section ROOTS
theorem all2_map {r : Nat → Nat → Prop} {f : Nat → Nat} : ∀ {A B : List Nat}, (∀ a ∈ A, ∀ b ∈ B, r a b → f a = f b) → all2 r A B → A.map f = B.map f
  | [], [], _, _ => rfl
  | a :: A, b :: B, m, h => by
    rw [List.map_cons, List.map_cons, m a List.mem_cons_self b List.mem_cons_self h.1, all2_map (fun x hx y hy => m x (List.mem_cons_of_mem _ hx) y (List.mem_cons_of_mem _ hy)) h.2]
  | [], _ :: _, _, h => h.elim
  | _ :: _, [], _, h => h.elim
theorem zr_eq {t u : mT} (hw : fWF 300 t) (hu : fWF 300 u) (z : Nat) : zr t u z = ((zK t u z).map (zr t u)).sum + 1 := by
  unfold zK
  by_cases g : z < 300
  · rw [if_pos g]
    have e : (tKi t z).map (zr t u) = (tKi t z).map (fun a => (tPo t a).length) := List.map_congr_left (fun y hy => by
      unfold zr
      rw [if_pos (hw.1 y (fKi_in hw hy).1)])
    rw [e, ← List.length_flatMap]
    unfold zr
    rw [if_pos g, tPo_eq hw.2.2.2.1, List.length_cons]
  · rw [if_neg g, List.map_map]
    have e : (tKi u (z - 300)).map (zr t u ∘ (300 + ·)) = (tKi u (z - 300)).map (fun a => (tPo u a).length) := List.map_congr_left (fun y hy => by
      show zr t u (300 + y) = _
      unfold zr
      rw [if_neg (by omega), Nat.add_sub_cancel_left])
    rw [e, ← List.length_flatMap]
    unfold zr
    rw [if_neg g, tPo_eq hu.2.2.2.1, List.length_cons]
theorem alk_zr {kd idn : Nat → Int32} {t u : mT} (hw : fWF 300 t) (hu : fWF 300 u) : ∀ (n a b : Nat), alk (zK t u) (zL kd idn t u) (zlo kd) n a b → zr t u a = zr t u b
  | 0, a, b, h => h.elim
  | n + 1, a, b, h => by
    rw [zr_eq hw hu a, zr_eq hw hu b]
    congr 1
    cases c : zlo kd a with
    | true =>
      obtain ⟨P, p1, p2⟩ := h.2.1 c
      rw [all2_map (fun x _ y _ q => alk_zr hw hu n x y q) p2]
      exact (p1.map _).sum_nat
    | false =>
      rw [all2_map (fun x _ y _ q => alk_zr hw hu n x y q) (h.2.2 c)]
theorem AK_len {kd idn : Nat → Int32} {t u : mT} (hw : tWF 300 t) (hu : tWF 300 u) (h : AK kd idn t u (tRt t) (tRt u)) : (pO t).length = (pO u).length := by
  have e := alk_zr hw.1 hu.1 _ _ _ h
  unfold zr at e
  rw [if_pos (hw.1.1 _ hw.2.1), if_neg (by omega), Nat.add_sub_cancel_left] at e
  exact e
theorem p_si24 {h : tpH} {d p mk a mk' : Nat} (l : lLi h d (some p)) (lm : lMa h p) {w t u : mT} (la : lTr h a (pO w).length mk') (hk' : mk' ≤ 300) (hw : tWF 300 t) (hu : tWF 300 u) {off m : Nat} (hA : (off = 0 ∧ w = t) ∨ (off = 300 ∧ w = u)) (hm : tIn w m = true) {kd idn : Nat → Int32} (hk : mk ≤ 300) {F0 : Nat → Nat → Int32} (hM : MaP F0 p mk kd idn) (H0 : TrP F0 a w mk') (hd : a + 19 ≤ d ∨ d + 13 ≤ a) (hp : p + 5 ≤ d ∨ d + 13 ≤ p) {SL : List Nat} {nf ru : Nat} {fam rep : Nat → Nat} {RL : Nat → List Nat} {rs : Nat → Nat} (H : FamI F0 d kd idn t u SL nf ru fam rep RL rs) (hz : ∀ z ∈ SL, zm z < mk) (hmk : m < mk) (hn : off + m ∉ SL) (hkk : ∀ c ∈ tKi w m, off + c ∈ SL) {R : tpH → Prop} (kk : ∀ G, FamE G d kd idn t u ((off + m) :: SL) → liFr d F0 G → R (wI h G)) :
    ∀ (n : Nat) (A B LD : List Nat) (F : Nat → Nat → Int32), tKi w m = A ++ B → B.length < n → (∀ b j, ¬ (b = d + 12 ∧ ru ≤ j) → F b j = F0 b j) → rnP F (d + 12) ru LD → LD.Perm (A.map (fun c => fam (off + c))) → (loK kd m = true → LD.Pairwise (· ≤ ·)) → (loK kd m = false → LD = A.map (fun c => fam (off + c))) → w_Li_sortIn_24 R n d (some a) (nI (pl w m)) (nI off) (nI (tKi w m).length) (if kd m < 4 then 0 else 1) (nI A.length) (wI h F)
  | 0, A, B, LD, F, e, hnB, f, h1, h2, h3, h4 => by omega
  | n + 1, A, B, LD, F, e, hnB, f, h1, h2, h3, h4 => by
    have ww : tWF 300 w := by
      rcases hA with ⟨_, rfl⟩ | ⟨_, rfl⟩
      · exact hw
      · exact hu
    have off3 : off ≤ 300 := by omega
    have m3 := ww.1.1 m hm
    obtain ⟨eK, eL, elo, ezi, ezm, ezin⟩ := za (kd := kd) (idn := idn) hA m3
    obtain ⟨t0, x0, ⟨r1, r2⟩, _⟩ := id l
    have fl := fl_len hw hu (List.nodup_cons.mpr ⟨hn, H.2.2.2.2⟩)
    rw [List.flatMap_cons, List.length_append, eK, List.length_map] at fl
    have hru := H.1.2.2.2
    have nf6 : nf < 600 := by
      have q : ((off + m) :: SL).length ≤ 600 := nd_lt (List.nodup_cons.mpr ⟨hn, H.2.2.2.2⟩) (fun y hy => by
        rcases List.mem_cons.mp hy with g | g
        · rw [g]; exact zin_lt hu (ezin hm)
        · exact zin_lt hu (H.2.1 y g).1)
      rw [List.length_cons] at q
      have := H.1.2.2.1
      omega
    have li : liFr d F0 F := fun b j hb => f b j (by omega)
    have H' := fam_fr H (G := F) (fun b j hb _ _ => f b j hb)
    have hM' := MaP_li hp li hM
    have HT := TrP_li hd li H0
    have hpl := pl_lt ww hm
    have ple := pO_le ww
    obtain ⟨q1, q2, _, _, _, q6, q7, q8⟩ := HT.2.1 m hm
    have hlen : LD.length = A.length := by rw [h2.length_eq, List.length_map]
    have hlt : A.length + B.length = (tKi w m).length := by rw [e, List.length_append]
    have hkf := kfO_le ww hm
    cases B with
    | nil =>
      have eA : tKi w m = A := by rw [e, List.append_nil]
      refine ⟨fun _ => ⟨a, rfl, la.1, ?_⟩, fun g => absurd ((nI_le_iff (by omega) (by omega)).mpr (by rw [eA]; exact Nat.le_refl _)) g⟩
      rw [e_Tr_markOf la ple hk', rAt_n hpl (by omega), q1]
      refine ⟨la.1, ?_⟩
      rw [e_Tr_worthOf la ple hk', rAt_n hpl (by omega), q2]
      refine ⟨t0, nf + 1, ?_⟩
      have e3 : (zL kd idn t u (off + m)).2.2 = tWo w m := by rw [eL]
      have el : (tKi w m).length = LD.length := by rw [eA, hlen]
      rw [← e3, el]
      have hkz : ∀ c ∈ zK t u (off + m), c ∈ SL := fun c hc => by
        rw [eK] at hc
        obtain ⟨y, hy, ey⟩ := List.mem_map.mp hc
        rw [← ey]
        exact hkk y hy
      have p1 : LD.Perm ((zK t u (off + m)).map fam) := by rw [eK, List.map_map, eA]; exact h2
      have p2 : zlo kd (off + m) = true → LD.Pairwise (· ≤ ·) := fun g => h3 (elo ▸ g)
      have p3 : zlo kd (off + m) = false → LD = (zK t u (off + m)).map fam := fun g => by rw [eK, List.map_map, eA]; exact h4 (elo ▸ g)
      have hruL : ru + LD.length ≤ 600 := by omega
      refine p_kf3 l lm hM' hk H' hw.1 hu.1 (by omega) hz hmk (by rw [eL]) hkz h1 hruL p1 p2 p3 (fun g hg ak => ⟨t0, fun _ => ⟨d + 1, r1, r2.1, p_put (rwL_w r2) (by decide) ?_⟩, fun g => absurd g (nI_ne_m (by omega))⟩) (fun nak => ⟨t0, fun g => absurd rfl g, fun _ => p_Li_found l la hk' ww hm HT hd H'.1.1 H'.1.2.1 nf6 (fun G g7 g8 g4 g6 gf gc g => ⟨d + 1, r1, r2.1, p_put (rwL_w r2) (by decide) ?_⟩)⟩) (nf + 1) 0 (Nat.zero_le _) (by omega) (fun g hg => absurd hg (Nat.not_lt_zero _))
      · rw [nI_add, wI_I, rPut_n (by omega) (by decide), wI_wI]
        refine kk _ ⟨nf, ru, _, rep, RL, rs, fam_old H' hw hu (ezin hm) hn hkz hg ak (by rw [ezi, tpu_s]) (fun b j hb _ _ => tpu_o (by rw [ezi] at hb; exact hb))⟩ (fun b j hb => ?_)
        rw [tpu_o (by omega)]
        exact li b j hb
      · rw [nI_add, wI_I, rPut_n (by omega) (by decide), wI_wI]
        refine kk _ ⟨_, _, _, _, _, _, fam_new H' hw hu (ezin hm) hn hkz nak h1 p1 p2 p3 ?_ ?_ (by rw [ezi, tpu_s]) ?_ ?_ ?_ ?_ (fun b j hb _ _ => ?_)⟩ (fun b j hb => ?_)
        · rw [tpu_o (by omega)]; exact g7
        · rw [tpu_o (by omega)]; exact g8
        · rw [tpu_o (by omega), ezm]; exact g4
        · rw [tpu_o (by omega), e3]; exact g6
        · rw [tpu_o (by omega)]; exact gf
        · rw [tpu_o (by omega)]; exact gc
        · rw [tpu_o (fun q => hb (Or.inl ⟨q.1, by rw [ezi]; exact q.2⟩))]
          exact g b j (fun q => hb (Or.inr q))
        · rw [tpu_o (by omega), g b j (by omega)]
          exact li b j hb
    | cons k B =>
      rw [List.length_cons] at hlt hnB
      have hkm : k ∈ tKi w m := by rw [e]; simp
      have ki := (ww.1.2.1 k m).mp hkm
      have k3 := ww.1.1 k ki.1
      refine ⟨fun g => absurd ((nI_le_iff (by omega) (by omega)).mp g) (by omega), fun _ => ⟨t0, a, rfl, la.1, ?_⟩⟩
      have erk : rkO w k = A.length := rkO_mid ww e
      have q9 := q8 k hkm
      rw [erk] at q9
      rw [e_Tr_kid la ple hk', if_neg (nI_pos (by omega)), rAt_n hpl (by omega), q7, if_neg (fun g => absurd ((nI_le_iff (by omega) (by omega)).mp g) (by omega)), rAt_n hpl (by omega), q6, nI_add, rAt_n (by omega) (by omega), q9]
      have hplk := pl_lt ww ki.1
      obtain ⟨c1, c2, c3, c4, c5⟩ := H'.2.1 _ (hkk k hkm)
      have ezk := (za (kd := kd) (idn := idn) hA k3).2.2.2.1
      rw [ezk] at c4
      refine ⟨d + 1, r1, r2.1, p_at (rwL_w r2) (by decide) ⟨t0, ?_⟩⟩
      have e8 : hI (wI h F) d 8 = nI ru := H'.1.2.1
      rw [nI_add, rAt_n (by omega) (by decide), wI_I, c4]
      rw [wI_I] at e8
      rw [e8, nI_add, ← hlen]
      refine p_Li_layDown l (by omega) (fun c hc => ?_) (by omega) h1 (so := loK kd m) ?_ ?_ (fun G g1 g2 => ?_)
      · obtain ⟨y, hy, ey⟩ := List.mem_map.mp (h2.mem_iff.mp hc)
        have := (H'.2.1 _ (hkk y (by rw [e]; exact List.mem_append_left _ hy))).2.2.1
        rw [← ey]
        omega
      · unfold loK
        by_cases c : kd m < 4 <;> simp [c]
      · unfold loK
        by_cases c : kd m < 4 <;> simp [c]
      · rw [nI_1]
        have pf : (ldN (loK kd m) LD (fam (off + k))).Perm ((A ++ [k]).map (fun c => fam (off + c))) := by
          rw [List.map_append]
          exact (ldN_perm _ _ _).trans (h2.append_right _)
        have ih := p_si24 l lm la hk' hw hu hA hm hk hM H0 hd hp H hz hmk hn hkk kk n (A ++ [k]) B (ldN (loK kd m) LD (fam (off + k))) G (by rw [e]; simp) (by omega) (fun b j hb => by rw [g2 b j (by omega)]; exact f b j hb) g1 pf (fun g => ?_) (fun g => ?_)
        · rw [List.length_append, ← hlen] at ih
          exact ih
        · rw [g]
          exact in_sorted (h3 g)
        · rw [g, List.map_append, ← h4 g]
          rfl
theorem p_Li_sortIn {h : tpH} {d p mk a mk' : Nat} (l : lLi h d (some p)) (lm : lMa h p) {w t u : mT} (la : lTr h a (pO w).length mk') (hk' : mk' ≤ 300) (hw : tWF 300 t) (hu : tWF 300 u) {off m : Nat} (hA : (off = 0 ∧ w = t) ∨ (off = 300 ∧ w = u)) (hm : tIn w m = true) {kd idn : Nat → Int32} (hk : mk ≤ 300) {F : Nat → Nat → Int32} (hM : MaP F p mk kd idn) (H0 : TrP F a w mk') (hd : a + 19 ≤ d ∨ d + 13 ≤ a) (hp : p + 5 ≤ d ∨ d + 13 ≤ p) {SL : List Nat} (H : FamE F d kd idn t u SL) (hz : ∀ z ∈ SL, zm z < mk) (hmk : m < mk) (hn : off + m ∉ SL) (hkk : ∀ c ∈ tKi w m, off + c ∈ SL) {R : tpH → Prop} (kk : ∀ G, FamE G d kd idn t u ((off + m) :: SL) → liFr d F G → R (wI h G)) : w_Li_sortIn d (some a) (nI (pl w m)) (nI off) (wI h F) R := by
  have ww : tWF 300 w := by
    rcases hA with ⟨_, rfl⟩ | ⟨_, rfl⟩
    · exact hw
    · exact hu
  obtain ⟨nf, ru, fam, rep, RL, rs, H⟩ := H
  have hpl := pl_lt ww hm
  have ple := pO_le ww
  have m3 := ww.1.1 m hm
  obtain ⟨q1, q2, _, _, _, q6, q7, q8⟩ := H0.2.1 m hm
  refine ⟨a, rfl, la.1, ?_⟩
  rw [e_Tr_kidsOf la ple hk', rAt_n hpl (by omega), q7]
  refine ⟨l.1, la.1, ?_⟩
  rw [e_Tr_markOf la ple hk', rAt_n hpl (by omega), q1]
  refine ⟨p, l.2.1, lm.1, ?_⟩
  rw [e_Ma_isLoose lm, rAt_n m3 n300, (hM.2 m hmk).1]
  exact ⟨(tKi w m).length + 1, p_si24 l lm la hk' hw hu hA hm hk hM H0 hd hp H hz hmk hn hkk kk _ [] (tKi w m) [] F rfl (Nat.lt_succ_self _) (fun _ _ _ => rfl) (fun i x hi => by simp at hi) (List.Perm.refl _) (fun _ => List.Pairwise.nil) (fun _ => rfl)⟩
end ROOTS
