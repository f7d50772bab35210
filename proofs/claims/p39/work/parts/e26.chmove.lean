section CHMOVE
theorem cell_81 {e : lE} (H : lOK e) {p : Nat} (hp : p < 40) : (nI (lcd e) - nI (lcd e) / (8192 : Int32) * (8192 : Int32)) + ((8192 : Int32) * (nI p + (1 : Int32))) = nI (lcd (e.1, e.2.1, some p)) := by
  have h1 := H.1
  have h2 := lcd_lt H
  have h3 := H.2.1
  rw [show (8192 : Int32) = nI 8192 from rfl, nI_rem (by omega) (by decide), nI_1, mI_mul, nI_add]
  have e1 : lcd e % 8192 = e.1 + 64 * e.2.1 := by unfold lcd; omega
  rw [e1]
  rfl
theorem p_ch612 {h : tpH} {z mk n m p pl : Nat} {kd idn : Nat → Int32} {rt : Nat → Bool} {T : mT} {r : mRe} (c : cS h z mk kd idn rt (some T) r n) (hm : tIn T m = true) (hp : tIn T p = true) (hpl : pl ≤ leaveK T m p) (hl : leaveK T m p < 1000) (hb : p ∈ tPo T m) {v9 : Int32} {R : Int32 → tpH → Prop} (kk : R 1 (nC h 0 0 6)) : w_Lw_isChanged_612 R (some z) (nI m) (nI p) v9 (nI pl) (0 : Int32) h := by
  have tpl : (nI pl).toInt = (pl : Int) := nI_toInt (by omega)
  refine p_does4 ⟨c.2.1.1.1, c_move c hm hp (Or.inr ⟨by rw [tpl]; omega, by rw [tpl]; omega⟩) (fun _ => Or.inr (Or.inr ⟨rfl, ?_⟩)) (fun q => absurd hb q)⟩
  exact ⟨fun _ => ⟨fun q => absurd rfl q, fun _ => kk⟩, fun q => absurd rfl q⟩
theorem p_ch555 {h : tpH} {b L z mk n m p pl : Nat} {xs kd idn : Nat → Int32} {rt : Nat → Bool} {T : mT} {r : mRe} (H : lS h b L z xs mk kd idn rt T r n) (hm : tIn T m = true) (hp : tIn T p = true) (hpl : pl ≤ leaveK T m p) (hnb : p ∉ tPo T m) {R : Int32 → tpH → Prop} (kk : ∀ h', chK b L z xs r n h h' → R 1 h') : w_Lw_isChanged_555 R (some z) (some (z + 105)) (some (z + 102)) (nI m) (nI p) (nO (tUp T m)) (nI pl) (1 : Int32) h := by
  obtain ⟨h1, h2, h3, h4, h5⟩ := id H
  obtain ⟨ht, hwf, htm, htl⟩ := lS_mk H
  obtain ⟨Lr, P, LTt⟩ := h4
  obtain ⟨⟨a2, a3, a4, a5, a6, a7, a8⟩, ⟨bz, zz⟩, -, -, -⟩ := id h2
  have mk22 := h5.1
  have hm22 := htm m hm
  have hp22 := htm p hp
  have l40 := P.2.1
  obtain ⟨e, em, he⟩ := (LTt.2.1.1 m).mp hm
  have lk : leaveK T m p ≤ 40 := by
    have q := LT_kids LTt hwf.1 htl hp
    have := lcL_len (loK kd p) p Lr
    rw [q] at this
    unfold leaveK
    omega
  refine ⟨fun q => absurd q (by decide), fun _ => p_place a5 P (by omega) (fun i e' hi he' => ?_) (fun nn => absurd he (nn e em))⟩
  have ee : e' = e := mk_un LTt.1 (List.mem_of_getElem? hi) em (he'.trans he.symm)
  subst ee
  have hil := (List.getElem?_eq_some_iff.mp hi).1
  have hOK := P.2.2.1 e' em
  have e1 : (1 : Int32) + nI i = nI (1 + i) := nI_add 1 i
  refine ⟨z + 105, rfl, a5.1, by rw [e1, a5.2]; exact vp_in_nI (by omega) (by decide), p_place a5 P (by omega) (fun i2 e2 hi2 he2 => ?_) (fun nn => absurd he (nn e' em))⟩
  have ei : i2 = i := by
    have q1 : (Lr.map (·.1))[i2]? = some m := by rw [List.getElem?_map, hi2]; exact congrArg some he2
    have q2 : (Lr.map (·.1))[i]? = some m := by rw [List.getElem?_map, hi]; exact congrArg some he'
    exact get_un LTt.1 q1 q2
  rw [e1, nI_clamp (by omega), P.2.2.2 i e' hi, cell_81 hOK (show p < 40 by omega), ei]
  obtain ⟨X0, Y0, hXY, hX⟩ := at_split hi
  subst hXY
  rw [← hX]
  show w_Lw_takes (some (z + 105)) (nI X0.length) (wI h (hI h)) _
  refine p_takes a5 P (fun G g1 g2 => ?_)
  have hne : p ≠ m := fun q => hnb (by rw [q]; exact tPo_self hwf.1.2.2.2.1 m)
  have fG : aFr h (wI h G) (fun x _ => x = z + 105) 0 0 := aFr_w (h := h) (F := hI h) (G := G) (fun x j hx => by rw [g1 x hx])
  have n1 := cut_kids LTt.1 p
  rw [he'] at n1
  -- from the spot on
  have cont : ∀ (i : Nat) (h' : tpH), i ≤ (X0 ++ Y0).length → (loK kd p = false → (((X0 ++ Y0).take i).filter (kdP p)).map (·.1) = ((tKi T p).erase m).take pl ∧ (((X0 ++ Y0).drop i).filter (kdP p)).map (·.1) = ((tKi T p).erase m).drop pl) → aFr (wI h G) h' nT0 1 40 → w_Lw_puts (some (z + 105)) (nI i) (nI (lcd (e'.1, e'.2.1, some p))) h' (fun h13 => w_Lw_isChanged_612 R (some z) (nI m) (nI p) (nO (tUp T m)) (nI pl) (1 : Int32) h13) := fun i h' hi hpos f' => by
    have F' : aFr h h' (fun x _ => x = z + 105) 1 40 := aFr_tr fG (aFr_mono f' (T' := fun x _ => x = z + 105) (fun _ _ _ q => q.elim) (Nat.le_refl _) (Nat.le_refl _)) (fun _ _ _ q => q)
    have a5' := aFr_iA F' (by omega) a5
    have zF := F'.1.1
    have h1' : cS h' z mk kd idn rt (some T) r n := cS_aFr h1 F' (fun x j hx q => by omega)
    have P1 : rwP (hI h') (z + 105) (X0 ++ Y0) := rwP_k g2 (aFr_I f' (show z + 105 < hZ h by omega) (fun _ q => q))
    have lok : lOK (e'.1, e'.2.1, some p) := ⟨hOK.1, hOK.2.1, fun p' hp' => by rw [← Option.some.inj hp']; omega⟩
    have l39 : (X0 ++ Y0).length < 40 := by
      rw [List.length_append] at l40 ⊢
      rw [List.length_cons] at l40
      omega
    refine p_puts (h := h') (F := hI h') a5' P1 hi l39 lok (fun G2 k1 k2 => ?_)
    have c2 : cS (wI h' G2) z mk kd idn rt (some T) r n := cS_aFr h1' (aFr_w (h := h') (F := hI h') (G := G2) (T := fun x _ => x = z + 105) (fun x j hx => by rw [k1 x hx])) (fun x j hx q => by omega)
    have tpl : (nI pl).toInt = (pl : Int) := nI_toInt (by omega)
    refine p_does4 ⟨c2.2.1.1.1, c_move c2 hm hp (Or.inr ⟨by rw [tpl]; omega, by rw [tpl]; omega⟩) (fun q => absurd q hnb) (fun _ G3 m1 m2 => ⟨fun q => absurd q (by decide), fun _ => ⟨fun q => absurd rfl q, fun _ => ?_⟩⟩)⟩
    have etp : (nI pl).toInt.toNat = pl := by rw [tpl]; rfl
    rw [etp] at m2
    have m4 : ∀ x, z + 102 ≤ x → x ≠ z + 105 → x < hZ h → G3 x = hI h x := fun x x1 x2 x3 => by
      rw [m1 x (by omega)]
      show G2 x = _
      rw [k1 x x2]
      exact aFr_I F' x3 (fun j q => x2 q)
    have LTm := LT_move (lo := loK kd) (K := pl) LTt (r := p) (by rw [he']; exact hne) (List.take_append_drop i (X0 ++ Y0)).symm (by rw [he']; exact hpos)
    refine kk _ ⟨⟨mk, kd, idn, rt, dMove T m p (loK kd p) pl, m2, ?_, lC_k h3 (m4 _ (by omega) (by omega) (by omega)) (m4 _ (by omega) (by omega) (by omega)) (m4 _ (by omega) (by omega) (by omega)), ⟨_, rwP_k k2 (m1 _ (by omega)), by rw [he'] at LTm; rw [he']; exact LTm⟩, h5.1, h5.2.1, h5.2.2.1, h5.2.2.2⟩, zF, by have := F'.2.1; show hZ h' ≤ _; omega, by have := F'.2.2; show hU h' ≤ _; omega⟩
    exact lA_w (lA_w (lA_aFr h2 F' (fun j q => by omega)) (k1 b (by omega))) (m1 b (by omega))
  have PG : rwP (hI (wI h G)) (z + 105) (X0 ++ Y0) := g2
  have kG : hI (wI h G) (z + 102) p ≤ 3 ↔ loK kd p = false := by rw [wI_I, g1 _ (by omega)]; exact kd_lo H hp22
  refine p_spot (h := wI h G) (lo := loK kd p) a5 a2 (show z + 105 < hZ h by omega) (show z + 102 < hZ h by omega) PG (by omega) (by omega) kG (fun hl A B c i e2 hK hA hi he h' f' => ?_) (fun hl h' f' => ?_)
  · obtain ⟨X, Y', hXY, hX⟩ := at_split hi
    refine cont i h' (by have := (List.getElem?_eq_some_iff.mp hi).1; omega) (fun hl2 => ?_) f'
    rw [hl2] at hK
    have nd1 : ((X0 ++ Y0).map (·.1)).Nodup := List.Nodup.sublist (List.Sublist.map _ (List.Sublist.append_left (List.sublist_cons_self _ _) _)) LTt.1
    have q := pos_mid nd1 hXY hK he hA
    rw [n1, LTt.2.2 p hp hl2] at q
    have t1 : (X0 ++ Y0).take i = X := by rw [hXY, ← hX, List.take_left]
    have t2 : (X0 ++ Y0).drop i = e2 :: Y' := by rw [hXY, ← hX, List.drop_left]
    rw [t1, t2]
    exact q
  · refine cont (X0 ++ Y0).length h' (Nat.le_refl _) (fun hl2 => ?_) f'
    rw [hl2] at hl
    have q := pos_end (hl.resolve_left (by simp))
    rw [n1, LTt.2.2 p hp hl2] at q
    rw [List.take_length, List.drop_length]
    exact q
/-- a move, told or refused -/
theorem p_chMove {h : tpH} {b L z mk n m p a13 Y : Nat} {xs kd idn : Nat → Int32} {rt : Nat → Bool} {T : mT} {r : mRe} {h0 : tpH} (H0 : lS h0 b L z xs mk kd idn rt T r n) (f0 : aFr h0 h nT0 1 40) (b13 : iA h a13 40) (d0 : a13 = hZ h0 ∧ a13 < hZ h) (hm : tIn T m = true) (hp : tIn T p = true) (hY : Y < 2 ^ 31) {R : Int32 → tpH → Prop} (kk : ∀ h', chK b L z xs r n h h' → R 1 h') :
    w_Lw_parentOf (some (z + 105)) (nI m) h (fun v4 h3 => w_Lw_children (some (z + 105)) (some (z + 102)) (nI p) (some a13) h3 (fun v6 h5 => (¬ v4 = nI p → (w_Lw_isChanged_518 R (some z) (some (z + 105)) (some (z + 102)) (nI Y) (nI m) (nI p) v4 (0 : Int32) v6 h5)) ∧ (v4 = nI p → (w_Lw_isChanged_518 R (some z) (some (z + 105)) (some (z + 102)) (nI Y) (nI m) (nI p) v4 (1 : Int32) v6 h5)))) := by
  have H : lS h b L z xs mk kd idn rt T r n := lS_aFr H0 f0 (fun x j hx q => q.elim)
  have d13 : z + 109 ≤ a13 ∧ a13 < hZ h := ⟨by have := H0.2.1.2.1.2; omega, d0.2⟩
  obtain ⟨h1, h2, h3, h4, h5⟩ := id H
  obtain ⟨ht, hwf, htm, htl⟩ := lS_mk H
  obtain ⟨Lr, P, LTt⟩ := h4
  obtain ⟨⟨a2, a3, a4, a5, a6, a7, a8⟩, ⟨bz, zz⟩, -, -, -⟩ := id h2
  have mk22 := h5.1
  have hm22 := htm m hm
  have hp22 := htm p hp
  have l40 := P.2.1
  have eK := LT_kids LTt hwf.1 htl hp
  have lk : (tKi T p).length ≤ Lr.length := by
    have := lcL_len (loK kd p) p Lr
    rw [eK] at this
    exact this
  refine p_pOf a5 P LTt.2.1 (by omega) ?_
  rw [rPa_1 hm]
  show w_Lw_children (some (z + 105)) (some (z + 102)) (nI p) (some a13) (wI h (hI h)) _
  refine p_children (lo := loK kd p) a5 b13 a2 (by omega) (by omega) (by omega) P (kd_lo H hp22) (fun G g1 g2 => ?_)
  rw [eK]
  have fG : aFr h (wI h G) (fun x _ => x = a13) 0 0 := aFr_w (h := h) (F := hI h) (G := G) (fun x j hx => by rw [g1 x hx])
  have HG : lS (wI h G) b L z xs mk kd idn rt T r n := lS_aFr H0 (aFr_tr (T := nT0) f0 fG (fun x j hx q => by omega)) (fun x j hx q => q.elim)
  have go : ∀ (t0 : Nat), (m ∈ tKi T p → t0 = 1) → (m ∉ tKi T p → t0 = 0) → w_Lw_isChanged_518 R (some z) (some (z + 105)) (some (z + 102)) (nI Y) (nI m) (nI p) (nO (tUp T m)) (nI t0) (nI (tKi T p).length) (wI h G) := fun t0 q1 q0 => by
    have el : leaveK T m p = (tKi T p).length - t0 ∧ t0 ≤ (tKi T p).length := by
      unfold leaveK
      by_cases c : m ∈ tKi T p
      · rw [if_pos c, q1 c]
        exact ⟨rfl, List.length_pos_of_mem c⟩
      · rw [if_neg c, q0 c]
        exact ⟨rfl, Nat.zero_le _⟩
    have en : nI (tKi T p).length - nI t0 = nI (leaveK T m p) := by rw [nI_sub2 el.2, el.1]
    have ll : leaveK T m p ≤ 40 := by omega
    unfold w_Lw_isChanged_518
    rw [en]
    have epl : (nI Y / (4608 : Int32)) - (nI Y / (4608 : Int32)) / (nI (leaveK T m p) + (1 : Int32)) * (nI (leaveK T m p) + (1 : Int32)) = nI (Y / 4608 % (leaveK T m p + 1)) := by
      have := Nat.div_le_self Y 4608
      rw [show (4608 : Int32) = nI 4608 from rfl, nI_1, nI_div hY (by decide), nI_rem (by omega) (by omega)]
    rw [epl]
    have plt : Y / 4608 % (leaveK T m p + 1) ≤ leaveK T m p := Nat.le_of_lt_succ (Nat.mod_lt _ (Nat.succ_pos _))
    generalize Y / 4608 % (leaveK T m p + 1) = pl at plt ⊢
    have no : p ∈ tPo T m → w_Lw_isChanged_555 R (some z) (some (z + 105)) (some (z + 102)) (nI m) (nI p) (nO (tUp T m)) (nI pl) (0 : Int32) (wI h G) := fun q => by
      refine ⟨fun _ => p_ch612 HG.1 hm hp plt (by omega) q (kk _ ⟨⟨mk, kd, idn, rt, T, ?_⟩, ?_, ?_, ?_⟩), fun x => absurd rfl x⟩
      · exact lS_aFr HG (aFr_x (wI h G) nT0) (fun x j hx q => q.elim)
      · show hZ h ≤ hZ h + 1
        omega
      · show hZ h + 1 ≤ hZ h + 3
        omega
      · show hU h + 6 ≤ hU h + 86
        omega
    refine ⟨nI_pl0 (by omega), fun q => no ?_, fun q => ?_⟩
    · cases hu : tUp T m with
      | none =>
        have : m = tRt T := (up_rt hwf hm).mp hu
        rw [this]
        exact (tPo_all hwf).mpr hp
      | some u =>
        rw [hu] at q
        have := htm u (hwf.1.2.2.2.2 m u hm hu)
        exact absurd q (nI_pos (by omega))
    · refine p_isBelow (h := wI h G) a5 (rwP_k P (g1 _ (by omega))) LTt.2.1 hwf.1 (fun _ x => x) (fun x p' hx hu => hwf.1.2.2.2.2 x p' hx hu) hp (by omega) (fun qb => ⟨fun _ => no qb, fun x => absurd x (by decide)⟩) (fun qb => ⟨fun x => absurd rfl x, fun _ => ?_⟩)
      exact p_ch555 HG hm hp plt qb (fun h' q => kk h' q)
  have iff : nO (tUp T m) = nI p ↔ m ∈ tKi T p := by
    rw [hwf.1.2.1 m p]
    constructor
    · intro q
      refine ⟨hm, nO_inj (fun k hk => by have := htm k (hwf.1.2.2.2.2 m k hm hk); omega) (fun k hk => by rw [← Option.some.inj hk]; omega) q⟩
    · intro q
      rw [q.2]
      rfl
  exact ⟨fun q => go 0 (fun c => absurd (iff.mpr c) q) (fun _ => rfl), fun q => go 1 (fun _ => rfl) (fun c => absurd (iff.mp q) c)⟩
end CHMOVE
