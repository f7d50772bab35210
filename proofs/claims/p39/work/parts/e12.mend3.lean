section MEND3
theorem mUpO_of {mk R0 : Nat} {po : Nat → Int32} {b l r : mT} (HH : mgH mk R0 b l r) (hmk : mk ≤ 40) {s : mgS} (I : mgI mk R0 po b l r s) : mUpO s := ⟨I.2.1, fun y q hq => by have := up_lt HH I hq; omega⟩
theorem p_mends2 {h0 : tpH} {tb t c mk R0 : Nat} {po : Nat → Int32} {b l r : mT} {s0 : mgS} (HH : mgH mk R0 b l r) (hmk : mk ≤ 40) (d : t ≠ c ∧ t ≠ tb ∧ tb ≠ c) (ht : t < hZ h0) (hc : c < hZ h0) (htb : tb < hZ h0) {R : tpH → Prop}
    (fin : ∀ h', aFr h0 h' (fun x _ => x = t ∨ x = c) 601 24040 → mRo (hI h') t (mdF mk b s0) → cP (hI h') c (sCf (mdF mk b s0)) → R h') :
    ∀ (N : Nat) (s : mgS) (h : tpH) (k : Nat), cD mk b s + cO mk b s < N → k + N ≤ 601 → mdF mk b s = mdF mk b s0 → mgI mk R0 po b l r s → (sCf s).length + 300 * cD mk b s + cO mk b s ≤ 91000 → iA h t 41 → iA h c 64 → bR h (hI h) tb b → mRo (hI h) t s → cP (hI h) c (sCf s) → aFr h0 h (fun x _ => x = t ∨ x = c) k (40 * k) → w_Lw_mends_2 R (N + 1) (some tb) (some t) (some c) 1 h
  | 0, s, h, k, h1, _, _, _, _, _, _, _, _, _, _ => absurd h1 (Nat.not_lt_zero _)
  | N + 1, s, h, k, h1, hk, e, I, L, a, ac, Hb, W, C, f => by
    obtain ⟨d1, d2, d3⟩ := d
    have hs := mUpO_of HH hmk I
    have hz := f.1.1
    have hb40 : ∀ y, tIn b y = true → y < 40 := fun y hy => by have := HH.2.2.2.1 y hy; omega
    have IH := p_mends2 (po := po) HH hmk ⟨d1, d2, d3⟩ ht hc htb fin N
    refine ⟨fun g => absurd g (by decide), fun _ => ⟨41, p_md16 (h := h) (F := hI h) a W hs (fun x4 x5 q4 q5 => ?_) 40 (-1) (-1) (Nat.le_refl _) (Or.inl ⟨rfl, fun m m1 m2 => by omega⟩) (Or.inl ⟨rfl, fun m m1 m2 => by omega⟩)⟩⟩
    have ob : ∀ m, orpB s m = true → m < mk := fun m hm => by
      unfold orpB at hm
      exact (I.1 m (Bool.and_eq_true_iff.mp hm).1).1
    have rb : ∀ m, rgP s m = true → m < mk := fun m hm => by
      unfold rgP at hm
      exact (I.1 m (Bool.and_eq_true_iff.mp hm).1).1
    rcases lwS_o q4 hmk ob with ⟨m, ho, hm40, rfl⟩ | ⟨ho, rfl⟩
    · have ho' : orpO mk s = some m := ho
      obtain ⟨y, g1, g2, g3, g4⟩ := orp_s ho'
      have yb := lost_b HH I g3 g4
      have y40 := hb40 y yb
      have st := mdS_1 (b := b) ho' g3
      obtain ⟨I', m1, m2⟩ := mdS_s HH I st
      obtain ⟨Lr, L1, L2, L3⟩ := id W
      refine ⟨fun _ => ⟨fun g => absurd g (nI_pos (by omega)), fun _ => ?_⟩, fun g => absurd (nI_pos' (by omega)) g⟩
      refine p_pOf (h := h) a L1 L2 (by omega) ?_
      rw [rPa_1 g2, g3, show nO (some y) = nI y from rfl]
      refine ⟨t, rfl, a.1, by rw [a.2]; exact vp0 (by decide) (by decide), bR_v (h := h) (F := hI h) Hb y40 (bR_p (h := h) (F := hI h) Hb y40 ?_)⟩
      rw [show (0 : Int32).toNatClampNeg = 0 from rfl, rVa_1 yb, rPa_1 yb, L1.1]
      obtain ⟨v, v1, v2⟩ := Hb.2.2 y yb
      rw [v2, nO_1, e64]
      have lok : lOK (y, v, tUp b y) := ⟨y40, (by show v < 128; omega), fun p hp => hb40 p (Hb.2.1.1.2.2.2.2 y p yb hp)⟩
      have nin : ∀ x ∈ Lr, x.1 ≠ y := fun x hx q => by
        have := (L2.1 y).mpr ⟨x, hx, q⟩
        rw [g4] at this
        cases this
      have hlen : Lr.length < 40 := by
        have nd2 : ((y :: Lr.map (·.1))).Nodup := List.nodup_cons.mpr ⟨fun q => by
          obtain ⟨x, x1, x2⟩ := List.mem_map.mp q
          exact nin x x1 x2, L3⟩
        have := nd_lt (N := 40) nd2 (fun x hx => by
          rcases List.mem_cons.mp hx with q | q
          · omega
          · obtain ⟨z, z1, z2⟩ := List.mem_map.mp q
            rw [← z2]
            exact (L1.2.2.1 z z1).1)
        rw [List.length_cons, List.length_map] at this
        omega
      refine p_puts (h := h) (F := hI h) (e := (y, v, tUp b y)) a L1 (Nat.le_refl _) hlen lok (fun G k1 k2 => ?_)
      rw [List.take_length, List.drop_length] at k2
      have e8 : (8 : Int32) * nI y + 3 = nI (8 * y + 3) := by rw [show (8 : Int32) = nI 8 from rfl, mI_mul]; exact nI_add _ 3
      rw [e8]
      refine p_adds (h := h) ac (cP_k C (k1 c (fun q => d1 q.symm))) (by omega) (fun G2 k3 k4 => ?_)
      have fr2 : ∀ x, ¬ (x = t ∨ x = c) → G2 x = hI h x := fun x hx => (k3 x (fun q => hx (Or.inr q))).trans (k1 x (fun q => hx (Or.inl q)))
      refine IH (lostS b s y) (wI h G2) k (by omega) (by omega) ((mdF_s HH I st).symm.trans e) I' (by omega) a ac (bR_k (h := h) Hb (fr2 tb (by omega))) ?_ k4 ?_
      · refine ⟨_, rwP_k k2 (k3 t d1), ⟨fun m' => ?_, fun x hx => ?_⟩, ?_⟩
        · show mU (sIn s) y true m' = true ↔ _
          by_cases cm : m' = y
          · rw [cm, mU_s]
            exact ⟨fun _ => ⟨_, List.mem_append_right _ List.mem_cons_self, rfl⟩, fun _ => rfl⟩
          · rw [mU_n _ _ cm, L2.1 m']
            constructor
            · rintro ⟨x, x1, x2⟩
              exact ⟨x, List.mem_append_left _ x1, x2⟩
            · rintro ⟨x, x1, x2⟩
              rcases List.mem_append.mp x1 with q | q
              · exact ⟨x, q, x2⟩
              · rw [List.mem_singleton.mp q] at x2
                exact absurd x2.symm cm
        · show mU (sWo s) y (tWo b y) x.1 = nI x.2.1 ∧ mU (sUp s) y (tUp b y) x.1 = x.2.2
          rcases List.mem_append.mp hx with q | q
          · have ne := nin x q
            rw [mU_n _ _ ne, mU_n _ _ ne]
            exact L2.2 x q
          · rw [List.mem_singleton.mp q, mU_s, mU_s]
            exact ⟨v2, rfl⟩
        · rw [List.map_append]
          refine List.nodup_append.mpr ⟨L3, by simp, fun x hx z hz q => ?_⟩
          obtain ⟨w, w1, w2⟩ := List.mem_map.mp hx
          rw [List.map_cons, List.map_nil, List.mem_singleton] at hz
          exact nin w w1 (by rw [w2, q, hz])
      · refine aFr_tr f (k' := 0) (u' := 0) (T' := fun x _ => x = t ∨ x = c) (aFr_w (h := h) (F := hI h) (fun x j hx => by rw [fr2 x hx])) (fun _ _ _ g => g)
    · refine ⟨fun g => absurd g (by decide), fun _ => ?_⟩
      have ho' : orpO mk s = none := ho
      rcases lwS_o q5 hmk rb with ⟨m, hr, hm40, rfl⟩ | ⟨hr, rfl⟩
      · have hr' : rngO mk s = some m := hr
        obtain ⟨m1, m2, m3⟩ := rng_s hr'
        have st := mdS_2 (b := b) ho' hr'
        obtain ⟨I', m4, m5⟩ := mdS_s HH I st
        obtain ⟨k0, r1, r2, r3, r4⟩ := ring_bd m3 (it_40 hs.2 hm40)
        refine ⟨fun g => absurd g (nI_pos (by omega)), fun _ => ⟨fun _ => ⟨fun g => absurd g (nI_pos (by omega)), fun _ a3 h4 e3 e4 => ?_⟩, fun g => absurd (show (-1 : Int32) < 0 by decide) g⟩⟩
        have e3 : a3 = hZ h := e3
        have e4 : h4 = nC h 15 40 40 := e4
        have f4 : aFr h h4 (fun x _ => x = t ∨ x = c) 1 40 := by rw [e4]; exact aFr_n h 40 40 _
        have f4n : aFr h h4 nT0 1 40 := by rw [e4]; exact aFr_n h 40 40 _
        have b3 : iA h4 a3 40 := by rw [e3, e4]; exact iA_n h 40 40
        have kI : ∀ x, x < hZ h → hI h4 x = hI h x := fun x hx => aFr_I f4n hx (fun _ q => q)
        have a4 := aFr_iA f4n (by omega) a
        have ac4 := aFr_iA f4n (by omega) ac
        have dd : (t ≠ a3 ∧ t ≠ c ∧ t ≠ tb) ∧ c ≠ a3 ∧ tb ≠ c ∧ tb ≠ a3 := by omega
        have W4 : mRo (hI h4) t s := mR_k W (kI t (by omega))
        have Hb4 : bR h4 (hI h4) tb b := ⟨⟨aFr_iA f4n (by omega) Hb.1.1, rwP_k Hb.1.2 (kI tb (by omega))⟩, Hb.2⟩
        have C4 : cP (hI h4) c (sCf s) := cP_k C (kI c (by omega))
        have z3 : ∀ j, hI h4 a3 j = 0 := fun j => by rw [e3, e4]; exact nC_0 h 40 40 j
        refine ⟨k0 + 2, p_md209 (h := h4) (F0 := hI h4) a4 b3 dd.1.1 W4 hs hm40 r1 r2 r4 (fun F v1 v2 => ⟨41, ?_⟩) (k0 + 2) 0 (hI h4) (Nat.zero_le _) (by omega) (fun _ _ => rfl) (fun y _ => Or.inr ⟨z3 y, fun q => by obtain ⟨j, j1, -⟩ := q; omega⟩)⟩
        have i0 : rgI b s m 0 = s := by
          unfold rgI
          have q1 : (fun k => if k < 0 ∧ (rgC (sUp s) m k && tIn b k) = true then tUp b k else sUp s k) = sUp s := funext fun k => if_neg (fun q => Nat.not_lt_zero _ q.1)
          rw [q1, List.range_zero, List.filter_nil, List.map_nil, List.append_nil]
          rfl
        have e40 : rgI b s m 40 = ringS mk b s m := by
          have q1 := rgI_40 (b := b) (s := s) (m := m) HH.2.2.2.1 (40 - mk)
          rw [show mk + (40 - mk) = 40 by omega] at q1
          rw [q1]
          exact rgI_mk HH
        refine p_md237 (h := h4) (F0 := F) a4 ac4 b3 dd hs (fun y hy => ?_) (by omega) (bR_k Hb4 (v1 tb dd.2.2.2)) hb40 (fun F' u1 u2 u3 => ?_) 41 0 F (Nat.zero_le _) (by omega) (fun _ _ _ _ => rfl) v2 (by rw [i0]; exact mR_k W4 (v1 t dd.1.1)) (by rw [i0]; exact cP_k C4 (v1 c dd.2.1))
        · obtain ⟨nn, hn⟩ := rgC_iff.mp hy
          exact rg_in I ho' m2 nn y hn
        · rw [e40] at u2 u3
          have fr2 : ∀ x, x ≠ a3 → ¬ (x = t ∨ x = c) → F' x = hI h4 x := fun x hx hx2 => (u1 x hx (fun q => hx2 (Or.inl q)) (fun q => hx2 (Or.inr q))).trans (v1 x hx)
          refine IH (ringS mk b s m) (wI h4 F') (k + 1) (by omega) (by omega) ((mdF_s HH I st).symm.trans e) I' (by omega) a4 ac4 (bR_k Hb4 (fr2 tb dd.2.2.2 (by omega))) u2 u3 ?_
          have q1 := aFr_tr f f4 (fun _ _ _ g => g)
          have q2 := aFr_tr q1 (k' := 0) (u' := 0) (T' := fun x _ => x = t ∨ x = c ∨ x = a3) (aFr_w (h := h4) (F := hI h4) (G := F') (fun x j hx => by rw [fr2 x (by omega) (by omega)])) (fun x j hx g => by omega)
          exact aFr_mono q2 (fun _ _ _ g => g) (by omega) (by omega)
      · have hr' : rngO mk s = none := hr
        have e' : mdF mk b s0 = s := e.symm.trans (mdF_n (mdS_3 ho' hr'))
        rw [e'] at fin
        refine ⟨fun _ => ⟨fun _ => ⟨fun _ => ⟨fun _ => fin h (aFr_mono f (fun _ _ _ g => g) (by omega) (by omega)) W C, fun g => absurd rfl g⟩, fun g => absurd (show (-1 : Int32) < 0 by decide) g⟩, fun g => absurd (show (-1 : Int32) < 0 by decide) g⟩, fun g => absurd (show (-1 : Int32) < 0 by decide) g⟩
end MEND3
