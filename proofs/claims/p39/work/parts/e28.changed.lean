section CHANGED
theorem flt_sum {α : Type} (p : α → Bool) : ∀ (L : List α), (L.filter p).length + (L.filter (fun x => !p x)).length = L.length
  | [] => rfl
  | x :: L => by
    have ih := flt_sum p L
    cases c : p x with
    | true =>
      rw [List.filter_cons_of_pos c, List.filter_cons_of_neg (by rw [c]; simp), List.length_cons, List.length_cons]
      omega
    | false =>
      rw [List.filter_cons_of_neg (by rw [c]; simp), List.filter_cons_of_pos (by rw [c]; rfl), List.length_cons, List.length_cons]
      omega
theorem drop_cnt {lo : Nat → Bool} {L : List lE} {T : mT} (H : LT lo L T) (hw : fWF 300 T) {m : Nat} (hm : tIn T m = true) : (L.filter (fun e => !decide (e.1 ∈ tPo T m))).length + (tPo T m).length = L.length := by
  have e1 := flt_sum (fun e : lE => decide (e.1 ∈ tPo T m)) L
  have e2 : (L.filter (fun e => decide (e.1 ∈ tPo T m))).length = (tPo T m).length := by
    rw [← List.length_map (f := fun e : lE => e.1)]
    refine nd_len_eq (List.Nodup.sublist (List.Sublist.map _ List.filter_sublist) H.1) (tPo_nodup hw m) (fun x => ?_)
    rw [List.mem_map]
    constructor
    · rintro ⟨e, e1, e2⟩
      rw [← e2]
      exact of_decide_eq_true (List.mem_filter.mp e1).2
    · intro hx
      obtain ⟨e, w1, w2⟩ := (H.2.1.1 x).mp (tPo_in hw hm x hx)
      exact ⟨e, List.mem_filter.mpr ⟨w1, decide_eq_true (by rw [w2]; exact hx)⟩, w2⟩
  omega
theorem rt_no {T : mT} (hw : tWF 300 T) {m : Nat} (hn : m ≠ tRt T) : tRt T ∉ tPo T m := fun q => by
  rcases tPo_up hw.1.2.2.2.1 m q with q2 | ⟨p, q2, -⟩
  · exact hn q2.symm
  · have := ((hw.1.2.1 _ p).mp q2).2
    rw [hw.2.2.1] at this
    cases this
theorem rm_le {lo : Nat → Bool} {L : List lE} {T : mT} (H : LT lo L T) (hw : tWF 300 T) {m : Nat} (hm : tIn T m = true) (hn : m ≠ tRt T) (S : Nat → Bool) : rmS T m S + 2 ≤ L.length := by
  have nd : ((tPo T m).filter (fun x => !S x && !decide (x = m))).Nodup := (tPo_nodup hw.1 m).filter _
  have mem : ∀ x, x ∈ (tPo T m).filter (fun x => !S x && !decide (x = m)) → x ∈ tPo T m ∧ x ≠ m := fun x hx => by
    obtain ⟨q1, q2⟩ := List.mem_filter.mp hx
    rw [Bool.and_eq_true] at q2
    exact ⟨q1, by simpa using q2.2⟩
  have nd2 : (m :: tRt T :: (tPo T m).filter (fun x => !S x && !decide (x = m))).Nodup := by
    refine List.nodup_cons.mpr ⟨fun q => ?_, List.nodup_cons.mpr ⟨fun q => rt_no hw hn (mem _ q).1, nd⟩⟩
    rcases List.mem_cons.mp q with q | q
    · exact hn q
    · exact (mem _ q).2 rfl
  have := nd_len (L := L.map (·.1)) nd2 (fun x hx => by
    have inn : tIn T x = true := by
      rcases List.mem_cons.mp hx with q | q
      · rw [q]; exact hm
      · rcases List.mem_cons.mp q with q | q
        · rw [q]; exact hw.2.1
        · exact tPo_in hw.1 hm x (mem x q).1
    obtain ⟨e, w1, w2⟩ := (H.2.1.1 x).mp inn
    exact List.mem_map.mpr ⟨e, w1, w2⟩)
  rw [List.length_cons, List.length_cons, List.length_map] at this
  exact this
theorem p_chDrop {h : tpH} {b L z mk n m a13 : Nat} {v : Int32} {xs kd idn : Nat → Int32} {rt : Nat → Bool} {T : mT} {r : mRe} {h0 : tpH} (H0 : lS h0 b L z xs mk kd idn rt T r n) (f0 : aFr h0 h nT0 1 40) (b13 : iA h a13 40) (d0 : a13 = hZ h0 ∧ a13 < hZ h) (hm : tIn T m = true) {R : Int32 → tpH → Prop} (kk : ∀ h', chK b L z xs r n h h' → R 1 h') :
    w_Lw_parentOf (some (z + 105)) (nI m) h (fun v9 h8 => (v9 < 0 → (w_Lw_isChanged_305 R (some z) (some (z + 105)) (some (z + 102)) (nI m) (some a13) (0 : Int32) h8)) ∧ (¬ v9 < 0 → ((¬ v = 0 → (w_Lw_isChanged_305 R (some z) (some (z + 105)) (some (z + 102)) (nI m) (some a13) (0 : Int32) h8)) ∧ (v = 0 → (w_Lw_isChanged_305 R (some z) (some (z + 105)) (some (z + 102)) (nI m) (some a13) (1 : Int32) h8))))) := by
  have H : lS h b L z xs mk kd idn rt T r n := lS_aFr H0 f0 (fun x j hx q => q.elim)
  have d13 : z + 109 ≤ a13 ∧ a13 < hZ h := ⟨by have := H0.2.1.2.1.2; omega, d0.2⟩
  obtain ⟨h1, h2, h3, h4, h5⟩ := id H
  obtain ⟨ht, hwf, htm, htl⟩ := lS_mk H
  obtain ⟨Lr, P, LTt⟩ := h4
  obtain ⟨⟨a2, a3, a4, a5, a6, a7, a8⟩, ⟨bz, zz⟩, -, -, -⟩ := id h2
  have mk22 := h5.1
  have hm22 := htm m hm
  have l40 := P.2.1
  have lLr : Lr.length = (pO T).length := LT_len LTt hwf
  have hrt : 1 ≤ Lr.length := by
    rw [lLr]
    exact List.length_pos_of_mem ((pO_mem hwf).mpr hwf.2.1)
  have no : w_Lw_isChanged_305 R (some z) (some (z + 105)) (some (z + 102)) (nI m) (some a13) (0 : Int32) h := by
    refine ⟨z + 105, rfl, a5.1, by rw [a5.2]; exact vp0 (by decide) (by decide), 1, ?_⟩
    rw [show (0 : Int32).toNatClampNeg = 0 from rfl, P.1]
    refine ⟨fun q => absurd ((nI_le_iff (b := 0) (by omega) (by decide)).mp q) (by omega), fun _ => ⟨fun _ => ⟨fun q => absurd rfl q, fun _ => p_pOf a5 P LTt.2.1 (by omega) ?_⟩, fun q => absurd rfl q⟩⟩
    rw [rPa_1 hm]
    have same : chK b L z xs r n h h := ⟨⟨mk, kd, idn, rt, T, H⟩, Nat.le_refl _, Nat.le_add_right _ _, Nat.le_add_right _ _⟩
    refine ⟨fun _ => kk h same, fun q => p_does5 ⟨h1.2.1.1.1, c_drop h1 hm (fun er => Or.inr (Or.inr ⟨rfl, fun _ => ⟨fun q => absurd rfl q, fun _ => kk _ ⟨⟨mk, kd, idn, rt, T, lS_aFr H (aFr_x h nT0) (fun x j hx q => q.elim)⟩, Nat.le_succ _, by show hZ h + 1 ≤ hZ h + 3; omega, by show hU h + 6 ≤ hU h + 86; omega⟩⟩, fun q => absurd rfl q⟩)) (fun nr => ?_)⟩⟩
    cases hu : tUp T m with
    | none => exact absurd ((up_rt hwf hm).mp hu) nr
    | some u =>
      rw [hu] at q
      have := htm u (hwf.1.2.2.2.2 m u hm hu)
      exact absurd (nI_pos' (by omega)) q
  refine p_pOf a5 P LTt.2.1 (by omega) ?_
  rw [rPa_1 hm]
  refine ⟨fun _ => no, fun q => ⟨fun _ => no, fun _ => ?_⟩⟩
  have hn : m ≠ tRt T := fun e => by
    rw [(up_rt hwf hm).mpr e] at q
    exact q (by decide)
  refine ⟨z + 105, rfl, a5.1, by rw [a5.2]; exact vp0 (by decide) (by decide), Lr.length + 1, ?_⟩
  rw [show (0 : Int32).toNatClampNeg = 0 from rfl, P.1]
  show w_Lw_isChanged_318 R (Lr.length + 1) (some z) (some (z + 105)) (some (z + 102)) (nI m) (some a13) (1 : Int32) (nI 0) (nI Lr.length) (nI 0) (wI h (hI h))
  refine p_dr318 (h := h) (F0 := hI h) LTt hwf a5 a2 b13 ⟨by omega, by omega, by omega⟩ (by omega) htm hm (fun x hx => kd_lo H hx) (by omega) (fun F g p1 p2 p3 => ?_) (Lr.length + 1) 0 Lr (fun _ => false) (hI h) 0 (Nat.zero_le _) (by omega) P (fun _ _ _ => rfl) ⟨fun x hx => (by cases hx), fun x y hx => (by cases hx), (List.filter_eq_self.mpr (fun _ _ => rfl)).symm⟩ rfl (Or.inl ⟨by omega, Or.inr (rm_le LTt hwf hm hn _)⟩)
  have cnt := drop_cnt LTt hwf.1 hm
  have eg : g = (tPo T m).length := by omega
  have fF : aFr h (wI h F) (fun x _ => x = z + 105 ∨ x = a13) 0 0 := aFr_w (h := h) (F := hI h) (G := F) (fun x j hx => by rw [p2 x (fun q => hx (Or.inl q)) (fun q => hx (Or.inr q))])
  have cF : cS (wI h F) z mk kd idn rt (some T) r n := cS_aFr H0.1 (aFr_tr (T := fun x _ => x = z + 105) (aFr_mono f0 (T' := fun x _ => x = z + 105) (fun _ _ _ q => q.elim) (Nat.le_refl _) (Nat.le_refl _)) fF (fun x j hx q => q.elim id (fun q => by omega))) (fun x j hx q => by omega)
  refine ⟨fun _ => p_does5 ⟨cF.2.1.1.1, c_drop cF hm (fun er => absurd er hn) (fun _ G g1 g2 => ⟨fun q => absurd q (by decide), fun _ => ⟨fun q => absurd (by rw [eg]) q, fun _ => ?_⟩⟩)⟩, fun q => absurd q (by decide)⟩
  have k4 : ∀ x, z + 102 ≤ x → x ≠ z + 105 → x ≠ a13 → G x = hI h x := fun x x1 x2 x3 => (g1 x (by omega)).trans (p2 x x2 x3)
  refine kk _ ⟨⟨mk, kd, idn, rt, tErs T m, g2, ?_, lC_k h3 (k4 _ (by omega) (by omega) (by omega)) (k4 _ (by omega) (by omega) (by omega)) (k4 _ (by omega) (by omega) (by omega)), ⟨_, rwP_k p1 (g1 _ (by omega)), LT_drop LTt hwf.1⟩, h5.1, h5.2.1, fun x hx => ?_, h5.2.2.2⟩, Nat.le_refl _, Nat.le_add_right _ _, Nat.le_add_right _ _⟩
  · exact lA_w (lA_w h2 (p2 b (by omega) (by omega))) (g1 b (by omega))
  · have hx2 : (tIn T x && !decide (x ∈ tPo T m)) = true := hx
    rw [Bool.and_eq_true] at hx2
    exact h5.2.2.1 x hx2.1
/-- a change of the draft, in both -/
theorem p_isChanged {h : tpH} {b L z mk n Y : Nat} {xs kd idn : Nat → Int32} {rt : Nat → Bool} {T : mT} {r : mRe} (H : lS h b L z xs mk kd idn rt T r n) (hY : Y < 2 ^ 31) {R : Int32 → tpH → Prop} (kk : ∀ h', (∃ mk kd idn rt T, lS h' b L z xs mk kd idn rt T r n) → hZ h ≤ hZ h' → hZ h' ≤ hZ h + 4 → hU h' ≤ hU h + 126 → R 1 h') : w_Lw_isChanged (some z) (some (z + 105)) (some (z + 102)) (some (z + 103)) (nI Y) h R := by
  obtain ⟨h1, h2, h3, h4, h5⟩ := id H
  obtain ⟨ht, hwf, htm, htl⟩ := lS_mk H
  obtain ⟨Lr, P, LTt⟩ := h4
  obtain ⟨⟨a2, a3, a4, a5, a6, a7, a8⟩, ⟨bz, zz⟩, -, -, -⟩ := id h2
  have mk22 := h5.1
  have l40 := P.2.1
  have lLr : Lr.length = (pO T).length := LT_len LTt hwf
  have hrt : 1 ≤ Lr.length := by
    rw [lLr]
    exact List.length_pos_of_mem ((pO_mem hwf).mpr hwf.2.1)
  have v0 : vp_in (0 : Int32) (hL h (z + 105)) := by rw [a5.2]; exact vp0 (by decide) (by decide)
  have n0 : ¬ nI Lr.length = 0 := fun q => by
    have := nI_inj (b := 0) (by omega) (by decide) q
    omega
  have e0 : hI h (z + 105) (0 : Int32).toNatClampNeg = nI Lr.length := P.1
  refine ⟨z + 105, rfl, a5.1, v0, ?_⟩
  rw [e0, nI_rem hY (by omega)]
  obtain ⟨e, he⟩ := ex_at (L := Lr) (i := Y % Lr.length) (Nat.mod_lt _ (by omega))
  obtain ⟨e2, he2⟩ := ex_at (L := Lr) (i := Y / 24 % Lr.length) (Nat.mod_lt _ (by omega))
  have em := List.mem_of_getElem? he
  have em2 := List.mem_of_getElem? he2
  have hmi : tIn T e.1 = true := (LTt.2.1.1 e.1).mpr ⟨e, em, rfl⟩
  have hpi : tIn T e2.1 = true := (LTt.2.1.1 e2.1).mpr ⟨e2, em2, rfl⟩
  have d24 := Nat.div_le_self Y 24
  have d576 := Nat.div_le_self Y 576
  have d46 := Nat.div_le_self Y 4608
  have x24 : (nI Y / (24 : Int32)) - (nI Y / (24 : Int32)) / nI Lr.length * nI Lr.length = nI (Y / 24 % Lr.length) := by
    rw [show (24 : Int32) = nI 24 from rfl, nI_div hY (by decide), nI_rem (by omega) (by omega)]
  refine ⟨n0, p_mark a5 P he ⟨a5.1, v0, ?_⟩⟩
  rw [e0, x24]
  refine ⟨n0, p_mark a5 P he2 (fun a13 h14 e13 e14 => ?_)⟩
  have x57 : (nI Y / (576 : Int32)) - (nI Y / (576 : Int32)) / (8 : Int32) * (8 : Int32) = nI (Y / 576 % 8) := by
    rw [show (576 : Int32) = nI 576 from rfl, show (8 : Int32) = nI 8 from rfl, nI_div hY (by decide), nI_rem (by omega) (by omega)]
  rw [x57]
  have kl : Y / 576 % 8 < 8 := Nat.mod_lt _ (by decide)
  have f0 : aFr h h14 nT0 1 40 := by rw [e14]; exact aFr_n h 40 40 _
  have b13 : iA h14 a13 40 := by rw [e13, e14]; exact iA_n h 40 40
  have z14 : hZ h14 = hZ h + 1 := by rw [e14]; rfl
  have d0 : a13 = hZ h ∧ a13 < hZ h14 := ⟨e13, by omega⟩
  have H14 : lS h14 b L z xs mk kd idn rt T r n := lS_aFr H f0 (fun x j hx q => q.elim)
  have u14 : hU h14 = hU h + 40 := by rw [e14]; rfl
  have kk3 : ∀ h', chK b L z xs r n h14 h' → R 1 h' := fun h' q => kk h' q.1 (by have := q.2.1; omega) (by have := q.2.2.1; omega) (by have := q.2.2.2; omega)
  have x46 : (nI Y / (4608 : Int32)) - (nI Y / (4608 : Int32)) / (9 : Int32) * (9 : Int32) = nI (Y / 4608 % 9) := by
    rw [show (4608 : Int32) = nI 4608 from rfl, show (9 : Int32) = nI 9 from rfl, nI_div hY (by decide), nI_rem (by omega) (by omega)]
  generalize Y / 576 % 8 = kind at kl ⊢
  have r199 : w_Lw_isChanged_199 R (some z) (some (z + 105)) (some (z + 102)) (nI Y) (nI e.1) (nI e2.1) (some a13) (nI kind) h14 := by
    refine ⟨fun _ => ⟨fun _ => p_chMove H f0 b13 d0 hmi hpi hY kk3, fun _ => p_chDrop H f0 b13 d0 hmi kk3⟩, fun _ => ?_⟩
    rw [x46]
    have q9 : Y / 4608 % 9 < 9 := Nat.mod_lt _ (by decide)
    exact p_chSet H14 hmi (by omega) kk3
  refine ⟨fun _ => r199, fun _ => ⟨z + 103, rfl, (aFr_iA f0 (by omega) a3).1, by rw [(aFr_iA f0 (show z + 103 < hZ h by omega) a3).2]; exact vp0 (by decide) (by decide), ?_⟩⟩
  have n14 : hI h14 (z + 103) 0 = nI mk := H14.2.2.1.2.1
  obtain ⟨Lr2, P2, LT2⟩ := H14.2.2.2.1
  have l2 : Lr2.length = (pO T).length := LT_len LT2 hwf
  have l240 := P2.2.1
  rw [show (0 : Int32).toNatClampNeg = 0 from rfl, n14]
  refine ⟨fun _ => r199, fun q22 => ⟨(aFr_iA f0 (by omega) a5).1, by rw [(aFr_iA f0 (show z + 105 < hZ h by omega) a5).2]; exact vp0 (by decide) (by decide), ?_⟩⟩
  rw [P2.1]
  refine ⟨fun _ => r199, fun q20 => ?_⟩
  have h22 : mk < 22 := by
    have : ¬ 22 ≤ mk := fun q => q22 ((nI_le_iff (a := 22) (by decide) (by omega)).mpr q)
    omega
  have h20 : (pO T).length < 20 := by
    have : ¬ 20 ≤ Lr2.length := fun q => q20 ((nI_le_iff (a := 20) (by decide) (by omega)).mpr q)
    omega
  exact p_chNode H f0 b13 d0 hmi h22 h20 hY (fun h' q1 q2 q3 q4 => kk h' q1 (by omega) (by omega) (by omega))
end CHANGED
