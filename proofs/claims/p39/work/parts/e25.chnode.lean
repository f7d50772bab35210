section CHNODE
theorem loK_n {kd : Nat → Int32} {mk m : Nat} {k : Int32} (h : m ≠ mk) : loK (mU kd mk k) m = loK kd m := by
  unfold loK
  rw [mU_n _ _ h]
theorem gd_look {its v q : Nat} (h1 : its < 6) (h2 : v < 9) (h3 : q < 4) : gdLk (nI its) (nI v) (nI q - 1) := by
  have e1 : (nI its).toInt = (its : Int) := nI_toInt (by omega)
  have e2 : (nI v).toInt = (v : Int) := nI_toInt (by omega)
  refine ⟨⟨by rw [e1]; omega, by rw [e1]; omega⟩, ⟨by rw [e2]; omega, by rw [e2]; omega⟩, ?_⟩
  match q, h3 with
  | 0, _ => exact ⟨by decide, by decide⟩
  | 1, _ => exact ⟨by decide, by decide⟩
  | 2, _ => exact ⟨by decide, by decide⟩
  | 3, _ => exact ⟨by decide, by decide⟩
theorem nI_pl0 {k : Nat} (h : k < 1000) : ¬ nI k + 1 = 0 := fun q => by
  rw [nI_1] at q
  have := nI_inj (b := 0) (by omega) (by decide) q
  omega
theorem z_arg {its v q : Nat} (h1 : its < 6) (h2 : v < 9) (h3 : q < 4) : (nI its + (10 : Int32) * nI v) + (1000 : Int32) * nI q = nI (its + 10 * v + 1000 * q) ∧ nI (its + 10 * v + 1000 * q) - nI (its + 10 * v + 1000 * q) / (10 : Int32) * (10 : Int32) = nI its ∧ (nI (its + 10 * v + 1000 * q) / (10 : Int32)) - (nI (its + 10 * v + 1000 * q) / (10 : Int32)) / (100 : Int32) * (100 : Int32) = nI v ∧ (nI (its + 10 * v + 1000 * q) / (1000 : Int32)) - (1 : Int32) = nI q - 1 := by
  refine ⟨?_, ?_, ?_, ?_⟩
  · rw [show (10 : Int32) = nI 10 from rfl, show (1000 : Int32) = nI 1000 from rfl, mI_mul, mI_mul, nI_add, nI_add]
  · rw [show (10 : Int32) = nI 10 from rfl, nI_rem (by omega) (by decide)]
    congr 1
    omega
  · rw [show (10 : Int32) = nI 10 from rfl, show (100 : Int32) = nI 100 from rfl, nI_div (by omega) (by decide), nI_rem (by omega) (by decide)]
    congr 1
    omega
  · rw [show (1000 : Int32) = nI 1000 from rfl, nI_div (by omega) (by decide)]
    congr 2
    omega
theorem p_chNode {h : tpH} {b L z mk n a13 p Y : Nat} {xs kd idn : Nat → Int32} {rt : Nat → Bool} {T : mT} {r : mRe} {h0 : tpH} (H0 : lS h0 b L z xs mk kd idn rt T r n) (f0 : aFr h0 h nT0 1 40) (b13 : iA h a13 40) (d0 : a13 = hZ h0 ∧ a13 < hZ h) (hp : tIn T p = true) (h22 : mk < 22) (h20 : (pO T).length < 20) (hY : Y < 2 ^ 31) {R : Int32 → tpH → Prop}
    (kk : ∀ h', (∃ mk kd idn rt T, lS h' b L z xs mk kd idn rt T r n) → hZ h ≤ hZ h' → hZ h' ≤ hZ h + 1 → hU h' ≤ hU h + 40 → R 1 h') :
    w_Lw_children (some (z + 105)) (some (z + 102)) (nI p) (some a13) h (fun v27 h26 => ¬ (v27 + (1 : Int32)) = 0 ∧ (w_Lw_spot (some (z + 105)) (some (z + 102)) (nI p) (((nI Y) / (27648 : Int32)) - ((nI Y) / (27648 : Int32)) / (v27 + (1 : Int32)) * (v27 + (1 : Int32))) h26 (fun v30 h29 => hT h29 (z + 103) = 15 ∧ (vp_in (0 : Int32) (hL h29 (z + 103)) ∧ (∃ a33, (some (z + 102)) = some a33 ∧ hT h29 a33 = 15 ∧ (vp_in (hI h29 (z + 103) (0 : Int32).toNatClampNeg) (hL h29 a33) ∧ (∀ h37, h37 = sI h29 a33 (hI h29 (z + 103) (0 : Int32).toNatClampNeg).toNatClampNeg (((nI Y) / (4608 : Int32)) - ((nI Y) / (4608 : Int32)) / (6 : Int32) * (6 : Int32)) → (vp_in (0 : Int32) (hL h37 (z + 103)) ∧ (w_Lw_puts (some (z + 105)) v30 (((hI h37 (z + 103) (0 : Int32).toNatClampNeg) + ((64 : Int32) * ((nI Y) - (nI Y) / (9 : Int32) * (9 : Int32)))) + ((8192 : Int32) * ((nI p) + (1 : Int32)))) h37 (fun h40 => hT h40 (z + 103) = 15 ∧ (vp_in (0 : Int32) (hL h40 (z + 103)) ∧ (vp_in (0 : Int32) (hL h40 (z + 103)) ∧ (∀ h44, h44 = sI h40 (z + 103) (0 : Int32).toNatClampNeg ((hI h40 (z + 103) (0 : Int32).toNatClampNeg) + (1 : Int32)) → (w_Lw_does (some z) (2 : Int32) (nI p) (((nI Y) / (27648 : Int32)) - ((nI Y) / (27648 : Int32)) / (v27 + (1 : Int32)) * (v27 + (1 : Int32))) (((((nI Y) / (4608 : Int32)) - ((nI Y) / (4608 : Int32)) / (6 : Int32) * (6 : Int32)) + ((10 : Int32) * ((nI Y) - (nI Y) / (9 : Int32) * (9 : Int32)))) + ((1000 : Int32) * (((nI Y) / (7 : Int32)) - ((nI Y) / (7 : Int32)) / (4 : Int32) * (4 : Int32)))) h44 (fun v47 h46 => hT h46 (z + 103) = 15 ∧ (vp_in (0 : Int32) (hL h46 (z + 103)) ∧ ((¬ v47 = ((hI h46 (z + 103) (0 : Int32).toNatClampNeg) - (1 : Int32)) → (R (0 : Int32) h46)) ∧ (v47 = ((hI h46 (z + 103) (0 : Int32).toNatClampNeg) - (1 : Int32)) → (R (1 : Int32) h46))))))))))))))))))) := by
  have H : lS h b L z xs mk kd idn rt T r n := lS_aFr H0 f0 (fun x j hx q => q.elim)
  have d13 : z + 109 ≤ a13 ∧ a13 < hZ h := ⟨by have := H0.2.1.2.1.2; omega, d0.2⟩
  obtain ⟨h1, h2, h3, h4, h5⟩ := id H
  obtain ⟨ht, hwf, htm, htl⟩ := lS_mk H
  obtain ⟨Lr, P, LTt⟩ := h4
  obtain ⟨⟨a2, a3, a4, a5, a6, a7, a8⟩, ⟨bz, zz⟩, -, -, -⟩ := id h2
  have mk22 := h5.1
  have hp22 := htm p hp
  have eK := LT_kids LTt hwf.1 htl hp
  have l40 := P.2.1
  have lLr : Lr.length = (pO T).length := LT_len LTt hwf
  have lk : (tKi T p).length ≤ Lr.length := by
    have := lcL_len (loK kd p) p Lr
    rw [eK] at this
    exact this
  show w_Lw_children (some (z + 105)) (some (z + 102)) (nI p) (some a13) (wI h (hI h)) _
  refine p_children (lo := loK kd p) a5 b13 a2 (by omega) (by omega) (by omega) P (kd_lo H hp22) (fun G g1 g2 => ?_)
  rw [eK] at g2 ⊢
  refine ⟨nI_pl0 (by omega), ?_⟩
  have epl : (nI Y / (27648 : Int32)) - (nI Y / (27648 : Int32)) / (nI (tKi T p).length + (1 : Int32)) * (nI (tKi T p).length + (1 : Int32)) = nI (Y / 27648 % ((tKi T p).length + 1)) := by
    have := Nat.div_le_self Y 27648
    rw [show (27648 : Int32) = nI 27648 from rfl, nI_1, nI_div hY (by decide), nI_rem (by omega) (by omega)]
  have eits : (nI Y / (4608 : Int32)) - (nI Y / (4608 : Int32)) / (6 : Int32) * (6 : Int32) = nI (Y / 4608 % 6) := by
    have := Nat.div_le_self Y 4608
    rw [show (4608 : Int32) = nI 4608 from rfl, show (6 : Int32) = nI 6 from rfl, nI_div hY (by decide), nI_rem (by omega) (by omega)]
  have ev : nI Y - nI Y / (9 : Int32) * (9 : Int32) = nI (Y % 9) := by
    rw [show (9 : Int32) = nI 9 from rfl, nI_rem hY (by decide)]
  have eq : (nI Y / (7 : Int32)) - (nI Y / (7 : Int32)) / (4 : Int32) * (4 : Int32) = nI (Y / 7 % 4) := by
    have := Nat.div_le_self Y 7
    rw [show (7 : Int32) = nI 7 from rfl, show (4 : Int32) = nI 4 from rfl, nI_div hY (by decide), nI_rem (by omega) (by omega)]
  rw [epl, eits, ev, eq]
  have plt : Y / 27648 % ((tKi T p).length + 1) ≤ (tKi T p).length := Nat.le_of_lt_succ (Nat.mod_lt _ (Nat.succ_pos _))
  have itl : Y / 4608 % 6 < 6 := Nat.mod_lt _ (by decide)
  have vl : Y % 9 < 9 := Nat.mod_lt _ (by decide)
  have ql : Y / 7 % 4 < 4 := Nat.mod_lt _ (by decide)
  generalize Y / 27648 % ((tKi T p).length + 1) = pl at plt ⊢
  generalize Y / 4608 % 6 = its at itl ⊢
  generalize Y % 9 = v at vl ⊢
  generalize Y / 7 % 4 = q at ql ⊢
  have gk : ∀ x, x ≠ a13 → G x = hI h x := g1
  have fG : aFr h (wI h G) (fun x _ => x = a13) 0 0 := aFr_w (h := h) (F := hI h) (G := G) (fun x j hx => by rw [gk x hx])
  -- from the spot on
  have cont : ∀ (i : Nat) (h' : tpH), i ≤ Lr.length → (loK kd p = false → ((Lr.take i).filter (kdP p)).map (·.1) = (tKi T p).take pl ∧ ((Lr.drop i).filter (kdP p)).map (·.1) = (tKi T p).drop pl) → aFr (wI h G) h' nT0 1 40 → hT h' (z + 103) = 15 ∧ (vp_in (0 : Int32) (hL h' (z + 103)) ∧ (∃ a33, some (z + 102) = some a33 ∧ hT h' a33 = 15 ∧ (vp_in (hI h' (z + 103) (0 : Int32).toNatClampNeg) (hL h' a33) ∧ (∀ h37, h37 = sI h' a33 (hI h' (z + 103) (0 : Int32).toNatClampNeg).toNatClampNeg (nI its) → (vp_in (0 : Int32) (hL h37 (z + 103)) ∧ (w_Lw_puts (some (z + 105)) (nI i) (((hI h37 (z + 103) (0 : Int32).toNatClampNeg) + ((64 : Int32) * nI v)) + ((8192 : Int32) * (nI p + (1 : Int32)))) h37 (fun h40 => hT h40 (z + 103) = 15 ∧ (vp_in (0 : Int32) (hL h40 (z + 103)) ∧ (vp_in (0 : Int32) (hL h40 (z + 103)) ∧ (∀ h44, h44 = sI h40 (z + 103) (0 : Int32).toNatClampNeg ((hI h40 (z + 103) (0 : Int32).toNatClampNeg) + (1 : Int32)) → (w_Lw_does (some z) (2 : Int32) (nI p) (nI pl) ((nI its + ((10 : Int32) * nI v)) + ((1000 : Int32) * nI q)) h44 (fun v47 h46 => hT h46 (z + 103) = 15 ∧ (vp_in (0 : Int32) (hL h46 (z + 103)) ∧ ((¬ v47 = ((hI h46 (z + 103) (0 : Int32).toNatClampNeg) - (1 : Int32)) → (R (0 : Int32) h46)) ∧ (v47 = ((hI h46 (z + 103) (0 : Int32).toNatClampNeg) - (1 : Int32)) → (R (1 : Int32) h46)))))))))))))))) := fun i h' hi hpos f' => by
    have F' : aFr h h' (fun x _ => x = a13) 1 40 := aFr_tr fG (aFr_mono f' (T' := fun x _ => x = a13) (fun _ _ _ q => q.elim) (Nat.le_refl _) (Nat.le_refl _)) (fun _ _ _ q => q)
    have kI : ∀ x, x < z + 109 → hI h' x = hI h x := fun x hx => aFr_I F' (by omega) (fun j q => by omega)
    have a2' := aFr_iA F' (by omega) a2
    have a3' := aFr_iA F' (by omega) a3
    have a5' := aFr_iA F' (by omega) a5
    have h2' := lA_aFr h2 F' (fun j q => by omega)
    have zF := F'.1.1
    have h1' : cS h' z mk kd idn rt (some T) r n := cS_aFr H0.1 (aFr_tr (T := nT0) f0 F' (fun x j hx q => by omega)) (fun x j hx q => q.elim)
    have n0 : hI h' (z + 103) 0 = nI mk := by rw [kI _ (by omega)]; exact h3.2.1
    have e0 : (0 : Int32).toNatClampNeg = 0 := rfl
    have v3 : ∀ F, vp_in (0 : Int32) (hL (wI h' F) (z + 103)) := fun F => by rw [show hL (wI h' F) (z + 103) = 2 from a3'.2]; exact vp0 (by decide) (by decide)
    refine ⟨a3'.1, v3 (hI h'), z + 102, rfl, a2'.1, ?_⟩
    rw [e0, n0, nI_clamp (by omega)]
    refine ⟨by rw [a2'.2]; exact vp_in_nI (by omega) (by decide), fun h37 e37 => ?_⟩
    rw [sI_wI] at e37
    subst e37
    refine ⟨v3 _, ?_⟩
    rw [wI_I, tpu_ne (show z + 103 ≠ z + 102 by omega), n0]
    have ec : (nI mk + (64 : Int32) * nI v) + (8192 : Int32) * (nI p + (1 : Int32)) = nI (lcd (mk, v, some p)) := by
      rw [nI_1, e64]
      rfl
    rw [ec]
    have P' : rwP (tpu (hI h') (z + 102) mk (nI its)) (z + 105) Lr := rwP_k P (by rw [tpu_ne (by omega), kI _ (by omega)])
    have lok : lOK (mk, v, some p) := ⟨by show mk < 40; omega, by show v < 128; omega, fun p' hp' => by rw [← Option.some.inj hp']; omega⟩
    refine p_puts (h := h') (e := (mk, v, some p)) a5' P' hi (by omega) lok (fun G2 k1 k2 => ⟨a3'.1, v3 _, v3 _, fun h44 e44 => ?_⟩)
    have n2 : G2 (z + 103) 0 = nI mk := by rw [k1 _ (by omega), tpu_ne (by omega)]; exact n0
    rw [wI_I, n2, nI_1, sI_wI, wI_wI, wI_I] at e44
    subst e44
    obtain ⟨z1, z2, z3, z4⟩ := z_arg itl vl ql
    rw [z1]
    generalize hG3 : tpu G2 (z + 103) 0 (nI (mk + 1)) = G3
    have k3 : ∀ x, x ≠ z + 102 → x ≠ z + 103 → x ≠ z + 105 → G3 x = hI h' x := fun x x1 x2 x3 => by rw [← hG3, tpu_ne x2, k1 x x3, tpu_ne x1]
    have c3 : cS (wI h' G3) z mk kd idn rt (some T) r n := cS_aFr h1' (aFr_w (h := h') (F := hI h') (G := G3) (T := fun x _ => x = z + 102 ∨ x = z + 103 ∨ x = z + 105) (fun x j hx => by rw [k3 x (fun q => hx (Or.inl q)) (fun q => hx (Or.inr (Or.inl q))) (fun q => hx (Or.inr (Or.inr q)))])) (fun x j hx q => by omega)
    have tpl : (nI pl).toInt = (pl : Int) := nI_toInt (by omega)
    refine p_does2 ⟨c3.2.1.1.1, ?_⟩
    rw [z2, z3, z4]
    refine c_node c3 (by omega) hp (Or.inr ⟨by rw [tpl]; omega, by rw [tpl]; omega⟩) (gd_look itl vl ql) (by rw [← pO_len hwf]; omega) (fun G4 m1 m2 => ?_)
    have e3 : G4 (z + 103) 0 = nI (mk + 1) := by rw [m1 _ (by omega), wI_I, ← hG3]; exact tpu_s _ _ _ _
    refine ⟨a3'.1, by rw [show hL (wI (wI h' G3) G4) (z + 103) = 2 from a3'.2]; exact vp0 (by decide) (by decide), ?_⟩
    rw [wI_I, e3, nI_pred]
    refine ⟨fun q => absurd rfl q, fun _ => ?_⟩
    have etp : (nI pl).toInt.toNat = pl := by rw [tpl]; rfl
    rw [etp] at m2
    have m4 : ∀ x, z + 102 ≤ x → G4 x = G3 x := fun x hx => m1 x (by omega)
    refine kk _ ⟨mk + 1, mU kd mk (nI its), mU idn mk (nI q - 1), mU rt mk false, dNode T mk (nI v) p (loK kd p) pl, m2, ?_, ⟨fun x hx => ?_, e3, ?_, fun j hj => ?_⟩, ⟨_, rwP_k k2 ?_, ?_⟩, by omega, h5.2.1, fun x hx => ?_, h5.2.2.2⟩ zF F'.2.1 F'.2.2
    · exact lA_w (lA_w h2' (k3 b (by omega) (by omega) (by omega))) (m1 b (by omega))
    · show G4 (z + 102) x = mU kd mk (nI its) x
      rw [m4 _ (by omega), ← hG3, tpu_ne (by omega), k1 _ (by omega)]
      by_cases c : x = mk
      · rw [c, tpu_s, mU_s]
      · rw [tpu_o (by omega), mU_n _ _ c, kI _ (by omega)]
        exact h3.1 x (by omega)
    · show G4 (z + 103) 1 = _
      rw [m4 _ (by omega), ← hG3, tpu_o (by omega), k1 _ (by omega), tpu_ne (by omega), kI _ (by omega)]
      exact h3.2.2.1
    · show G4 (z + 104) j = _
      rw [m4 _ (by omega), k3 _ (by omega) (by omega) (by omega), kI _ (by omega)]
      exact h3.2.2.2 j hj
    · show G4 (z + 105) = G2 (z + 105)
      rw [m4 _ (by omega), ← hG3, tpu_ne (by omega)]
    · refine LT_node (lo := loK kd) (w := v) (by rw [List.take_append_drop]; exact LTt) hwf.1 ?_ hp (fun m hm => loK_n hm) hpos
      cases c : tIn T mk with
      | false => rfl
      | true => exact absurd (htm mk c) (Nat.lt_irrefl _)
    · show ∃ w, w < 100 ∧ mU (tWo T) mk (nI v) x = nI w
      by_cases c : x = mk
      · rw [c, mU_s]; exact ⟨v, by omega, rfl⟩
      · rw [mU_n _ _ c]
        refine h5.2.2.1 x ?_
        have hx : mU (tIn T) mk true x = true := hx
        rw [mU_n _ _ c] at hx
        exact hx
  have PG : rwP (hI (wI h G)) (z + 105) Lr := rwP_k P (gk _ (by omega))
  have kG : hI (wI h G) (z + 102) p ≤ 3 ↔ loK kd p = false := by rw [wI_I, gk _ (by omega)]; exact kd_lo H hp22
  refine p_spot (h := wI h G) (lo := loK kd p) a5 a2 (show z + 105 < hZ h by omega) (show z + 102 < hZ h by omega) PG (by omega) (by omega) kG (fun hl A B c i e hK hA hi he h' f' => ?_) (fun hl h' f' => ?_)
  · obtain ⟨X, Y', hXY, hX⟩ := at_split hi
    refine cont i h' (by have := (List.getElem?_eq_some_iff.mp hi).1; omega) (fun hl2 => ?_) f'
    rw [hl2] at hK eK
    have q := pos_mid LTt.1 hXY hK he hA
    rw [eK] at q
    have t1 : Lr.take i = X := by rw [hXY, ← hX, List.take_left]
    have t2 : Lr.drop i = e :: Y' := by rw [hXY, ← hX, List.drop_left]
    rw [t1, t2]
    exact q
  · refine cont Lr.length h' (Nat.le_refl _) (fun hl2 => ?_) f'
    rw [hl2] at hl eK
    have q := pos_end (hl.resolve_left (by simp))
    rw [eK] at q
    rw [List.take_length, List.drop_length]
    exact q
end CHNODE
