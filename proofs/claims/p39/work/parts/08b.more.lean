section TPW
variable {M : tpM} {d : Nat} {h0 : tpH} {av : List tpV} {Ro : tpO → tpH → Prop} {pc pc' : Nat} {ls ls' : List (Option tpV)} {st st' rest : List tpV} {h h' : tpH}
theorem tq_inc {i : Nat} {n : Int} {x k : Int32} (hd : decode (mB M) pc = .ok (.iinc i n, 3)) (hx : ls[i]? = some (some (vI x))) (hv : Int32.ofInt n = k) (hn : i < mL M) (hl : ls.set i (some (vI (x + k))) = ls') (kk : tpR M d h0 av Ro (pc + 3) ls' st h) : tpR M d h0 av Ro pc ls st h :=
  tq_iinc hd hx (by rw [hv]) hn hl kk
/-- 0 or 1 -/
def tpB (v : Int32) : Prop := v = 0 ∨ v = 1
theorem tpB_n {v : Int32} (hb : tpB v) : narrow .boolean (.int v) = .int v := by
  rcases hb with rfl | rfl <;> decide
theorem tp_ldcwF {p : Program} {l : Launch} {e : Env} {R : Room} {s : State} {m : MethodId} {args : Array Value} {below : List Frame} {meth : Method} {c : Code} {T : State} {locs : List Loc} {cells slots : Nat} (X : Stand p l e R s m args below meth c T locs cells slots) (hexec : p.tables.exec = Jvm.exec) {own : String} {index : Nat} {v : UInt32} (hown : s.vm.findClass own = some m.cls)
    (hconst : (Cond.constantFloat own index v).before args s = true) {g : JFrame} (hg : g.method = m) (hdg : decode c.code g.pc = .ok (.ldc_w index, 3)) :
    ∀ target, Steps p.tables e below (T.setTop { g with pc := g.pc + 3, stack := .float v :: g.stack }) target → Steps p.tables e below (T.setTop g) target := by
  obtain ⟨k, cf, hk, hcf, hcp⟩ := Cond.constantFloat_spec hown hconst
  obtain ⟨k', hk', he⟩ := X.warmed.alike.2.2 _ _ hk
  intro target hrest
  subst hg
  jvm_step X.here [hexec, hdg, ldc_w.wp_float (s := T) (f := g) X.here.top hk' (by rw [he]; exact hcf) hcp]
  exact hrest
theorem tq_ldcfw {i : Nat} {v : UInt32} (hd : decode (mB M) pc = .ok (.ldc_w i, 3)) (hc : Cond.constantFloat (mY M).cls i v ∈ tpW) (k : tpR M d h0 av Ro (pc + 3) ls (vF v :: st) h) : tpR M d h0 av Ro pc ls st h :=
  k.s0 fun {D} {cy} {B} {l} {p} {e} {R} {s} {m} {meth} {c} {below} {Q} {H} {locs} {la} {cells} {slots} X _ _ _ W0 => by
    obtain ⟨hfl, hx, hb, hr, hlk, hml, hown, hnm, htb, hts, hSt, hB⟩ := X
    intro T hT XT
    obtain ⟨t, a, b⟩ := W0 T hT XT
    exact ⟨t, tp_ldcwF XT hx hown (hts _ hc) (g := F0 m pc la (st.map tpv)) rfl (by rw [hb]; exact hd) t a, b⟩
/-- System.arraycopy of numbers, from the rows' starts -/
theorem tq_copy {a0 a : Nat} {n : Int32} (hdd : 2 ≤ d) (hwd : (st.map tpc).sum ≤ 8) (hcl : (mY M).cls = "java/util/Arrays") (hd : decode (mB M) pc = .ok (.invokestatic 150, 3)) (hk0 : hT h a0 = 15) (hk1 : hT h a = 15) (h3 : ¬ n < 0) (h4 : n.toNatClampNeg ≤ hL h a0) (h5 : n.toNatClampNeg ≤ hL h a)
    (k : ∀ h' : tpH, h' = sA h a (va_cpy (hI h a0) (hI h a) 0 0 n.toNatClampNeg) → tpR M d h0 av Ro (pc + 3) ls st h') : tpR M d h0 av Ro pc ls (vI n :: vI 0 :: vR (some a) :: vI 0 :: vR (some a0) :: st) h :=
  (k (sA h a (va_cpy (hI h a0) (hI h a) 0 0 n.toNatClampNeg)) rfl).sh rfl rfl fun {D} {cy} {B} {l} {p} {e} {R} {s} {m} {meth} {c} {below} {Q} {H} {locs} {la} {cells} {slots} X r hP hS hLo W0 => by
    obtain ⟨hfl, hx, hb, hr, hlk, hml, hown, hnm, htb, hts, hSt, hB⟩ := X
    rw [hcl] at hown
    have hc0 := hP.ar (a := a0) (x := (15, hL h a0, .inl (hI h a0))) (by omega) (by rw [hk0]; rfl)
    have hc1 := hP.ar (a := a) (x := (15, hL h a, .inl (hI h a))) (by omega) (by rw [hk1]; rfl)
    have hBa := hP.from (a := a) (by omega) (by omega)
    have nn : ∀ z : Int32, ¬ z < 0 → z.toInt = (z.toNatClampNeg : Int) := by
      intro z hz
      have hz0 : (0 : Int) ≤ z.toInt := by
        have := Int32.not_lt.mp hz
        simpa using Int32.le_iff_toInt_le.mp this
      show z.toInt = ((z.toInt.toNat : Nat) : Int)
      omega
    intro T hT X
    obtain ⟨-, k0, hk0', cm0, hkk0⟩ := (tpK_i hSt.1.1).1 (hL h a0) (fun j => .int (hI h a0 j))
    obtain ⟨-, k1, hk1', cm1, hkk1⟩ := (tpK_i hSt.1.1).1 (hL h a) (fun j => .int (hI h a j))
    have h0z : (0 : Int32).toNatClampNeg = 0 := by decide
    have hnw : nativeFrameWords "java/lang/System" "arraycopy" 5 ≤ 50 := by decide
    obtain ⟨vm', X', step⟩ := X.arraycopy hx hown (hts _ ty_1) (hts _ ty_2) (hts _ ty_3) (hts _ ty_4) (src := a0) (dst := a) (cs := vp_cell (cy 15) (hL h a0, .inl (hI h a0))) (cd := vp_cell (cy 15) (hL h a, .inl (hI h a))) (srcPos := 0) (destPos := 0) (n := n) (by rw [hT]; exact hc0) (by rw [hT]; exact hc1)
      (fun _ h => by cases h) (fun _ h => by cases h) (fun h => by cases h) (fun h => by cases h) hk0' hk1' hkk0 hkk1 (by decide) (by decide) (by decide) h3
      (by rw [nn 0 (by decide), nn n h3, h0z]; show ¬ _ > ((arrV (cy 15) (hL h a0) (fun j => .int (hI h a0 j))).slots.size : Int); rw [arrV_size]; omega)
      (by rw [nn 0 (by decide), nn n h3, h0z]; show ¬ _ > ((arrV (cy 15) (hL h a) (fun j => .int (hI h a j))).slots.size : Int); rw [arrV_size]; omega)
      (fun vm₁ _ i hi => by
        have e : (vp_cell (cy 15) (hL h a0, .inl (hI h a0))).slots.getD ((0 : Int32).toNatClampNeg + i) .null = .int (hI h a0 ((0 : Int32).toNatClampNeg + i)) := by
          show (arrV (cy 15) (hL h a0) (fun j => .int (hI h a0 j))).slots.getD _ _ = _
          rw [Array.getD_eq_getD_getElem?, arrV_read _ _ (by omega)]
          rfl
        refine ⟨?_, ?_⟩
        · rw [e]
          rfl
        · rw [e]
          exact trivial)
      (g := F0 m pc la (.int n :: .int 0 :: .ref a :: .int 0 :: .ref a0 :: st.map tpv)) rfl (by rw [hml]; exact hLo.1.1) (rest := st.map tpv) rfl (by rw [hb]; exact hd) (by omega) (by
        have h8 := lv_room (m := m) (pc := pc) (ls := la) (rest := (.int n :: .int 0 :: .ref a :: .int 0 :: .ref a0 :: st.map tpv)) (st := st.map tpv) (by rw [tpv_sum]; exact hwd)
        exact Nat.le_trans (Nat.add_le_add_right h8 _) (by omega))
    have e1 : copied (vp_cell (cy 15) (hL h a0, .inl (hI h a0))) (vp_cell (cy 15) (hL h a, .inl (hI h a))) 0 0 n = vp_cell (cy 15) (hL h a, .inl (va_cpy (hI h a0) (hI h a) (0 : Int32).toNatClampNeg (0 : Int32).toNatClampNeg n.toNatClampNeg)) := va_copied (fun z => .int z) (cy 15) (cy 15) (hI h a0) (hI h a) (by rw [h0z]; omega)
    rw [e1, h0z] at X' step
    have hl : a < H.size := (Array.getElem?_eq_some_iff.mp hc1).1
    have hheap : ((T.setVm vm').setCell a (vp_cell (cy 15) (hL h a, .inl (va_cpy (hI h a0) (hI h a) 0 0 n.toNatClampNeg)))).heap = H.setIfInBounds a (vp_cell (cy 15) (hL h a, .inl (va_cpy (hI h a0) (hI h a) 0 0 n.toNatClampNeg))) := by rw [← hT]; rfl
    have oq : ∀ q : Nat, q ≠ a → (H.setIfInBounds a (vp_cell (cy 15) (hL h a, .inl (va_cpy (hI h a0) (hI h a) 0 0 n.toNatClampNeg))))[q]? = H[q]? := fun q hq => by simp [Array.getElem?_setIfInBounds, Ne.symm hq]
    obtain ⟨t, a1, b1⟩ := W0 _ _ (hP.setA (h' := sA h a (va_cpy (hI h a0) (hI h a) 0 0 n.toNatClampNeg)) (y := (15, hL h a, .inl (tpn (hI h) a (va_cpy (hI h a0) (hI h a) 0 0 n.toNatClampNeg) a))) (by omega) (by omega) (by rw [hk1]; rfl) rfl rfl (fun b hb => ⟨rfl, rfl, tpn_n _ _ _ _ hb, rfl, rfl⟩) (by rw [tpn_s]; simp [Array.getElem?_setIfInBounds, hl]) (by simp) oq) ⟨by simp; exact hS.1, fun q g1 g2 => by
        rw [oq q (fun e => g2 (by rw [e]; exact hBa))]
        exact hS.2.1 q g1 g2, fun q hq => by
        rcases List.mem_append.mp hq with h | h
        · exact hS.2.2 q h
        · obtain ⟨z, -, hz⟩ := List.mem_map.mp h
          rw [← hz]
          exact hBa⟩ _ hheap X'
    exact ⟨t, step t a1, b1⟩
/-! Arrays.copyOf, to a longer row -/
theorem dJA_copyOf_59c91_0 : decode (mB JA_copyOf_59c91) 0 = .ok (.iload_n 1, 1) := by decide +kernel
theorem dJA_copyOf_59c91_1 : decode (mB JA_copyOf_59c91) 1 = .ok (.aload_n 0, 1) := by decide +kernel
theorem dJA_copyOf_59c91_2 : decode (mB JA_copyOf_59c91) 2 = .ok (.arraylength, 1) := by decide +kernel
theorem dJA_copyOf_59c91_3 : decode (mB JA_copyOf_59c91) 3 = .ok (.if_icmp .ne 11, 3) := by decide +kernel
theorem dJA_copyOf_59c91_14 : decode (mB JA_copyOf_59c91) 14 = .ok (.iload_n 1, 1) := by decide +kernel
theorem dJA_copyOf_59c91_15 : decode (mB JA_copyOf_59c91) 15 = .ok (.newarray .int, 2) := by decide +kernel
theorem dJA_copyOf_59c91_17 : decode (mB JA_copyOf_59c91) 17 = .ok (.astore_n 2, 1) := by decide +kernel
theorem dJA_copyOf_59c91_18 : decode (mB JA_copyOf_59c91) 18 = .ok (.aload_n 0, 1) := by decide +kernel
theorem dJA_copyOf_59c91_19 : decode (mB JA_copyOf_59c91) 19 = .ok (.iconst 0, 1) := by decide +kernel
theorem dJA_copyOf_59c91_20 : decode (mB JA_copyOf_59c91) 20 = .ok (.aload_n 2, 1) := by decide +kernel
theorem dJA_copyOf_59c91_21 : decode (mB JA_copyOf_59c91) 21 = .ok (.iconst 0, 1) := by decide +kernel
theorem dJA_copyOf_59c91_22 : decode (mB JA_copyOf_59c91) 22 = .ok (.aload_n 0, 1) := by decide +kernel
theorem dJA_copyOf_59c91_23 : decode (mB JA_copyOf_59c91) 23 = .ok (.arraylength, 1) := by decide +kernel
theorem dJA_copyOf_59c91_24 : decode (mB JA_copyOf_59c91) 24 = .ok (.iload_n 1, 1) := by decide +kernel
theorem dJA_copyOf_59c91_25 : decode (mB JA_copyOf_59c91) 25 = .ok (.invokestatic 304, 3) := by decide +kernel
theorem dJA_copyOf_59c91_28 : decode (mB JA_copyOf_59c91) 28 = .ok (.invokestatic 150, 3) := by decide +kernel
theorem dJA_copyOf_59c91_31 : decode (mB JA_copyOf_59c91) 31 = .ok (.aload_n 2, 1) := by decide +kernel
theorem dJA_copyOf_59c91_32 : decode (mB JA_copyOf_59c91) 32 = .ok (.areturn, 1) := by decide +kernel
def w_JA_copyOf_59c91 (x0 : Option Nat) (x1 : Int32) (h : tpH) (R : Option Nat → tpH → Prop) : Prop :=
  ∃ a, x0 = some a ∧ hT h a = 15 ∧ a < hZ h ∧ ¬ x1 < 0 ∧ x1.toNatClampNeg ≤ 1000000 ∧ hL h a < x1.toNatClampNeg ∧ ∀ b h2, b = hZ h → h2 = sA (nC h 15 x1.toNatClampNeg x1.toNatClampNeg) b (fun k => if k < hL h a then hI h a k else 0) → R (some b) h2
theorem s_JA_copyOf_59c91 {x0 : Option Nat} {x1 : Int32} {h : tpH} {R : Option Nat → tpH → Prop} (hw : w_JA_copyOf_59c91 x0 x1 h R) : tpC JA_copyOf_59c91 2 [vR x0, vI x1] h (tpOr R (fun _ _ => False)) := by
  refine tpC_of ms_JA_copyOf_59c91.2.2.2.1 rfl rfl (Nat.le_of_ble_eq_true rfl) ?_
  show tpR JA_copyOf_59c91 2 h _ _ 0 [some (vR x0), some (vI x1), none] [] h
  obtain ⟨a, rfl, f1, f2, f3, f4, f5, hw⟩ := hw
  have hne : a ≠ hZ h := by omega
  have hcl : (Int32.ofNat (hL h a)).toNatClampNeg = hL h a := nI_clamp (n := hL h a) (by omega)
  refine tq_iload_n dJA_copyOf_59c91_0 rfl rfl ?_
  refine tq_aload_n dJA_copyOf_59c91_1 rfl rfl ?_
  refine tq_alen dJA_copyOf_59c91_2 (by rw [f1]; decide) ?_
  refine tq_icmpne (tgt := 14) dJA_copyOf_59c91_3 (by decide) (fun c1 => ?_) (fun c1 => ?_)
  · refine tq_iload_n dJA_copyOf_59c91_14 rfl rfl ?_
    refine tq_newa tpN_int dJA_copyOf_59c91_15 f3 rfl f4 (fun b h2 eb eh => ?_)
    refine tq_astore_n (ls' := [some (vR (some a)), some (vI x1), some (vR (some b))]) dJA_copyOf_59c91_17 rfl (Nat.le_of_ble_eq_true rfl) rfl ?_
    refine tq_aload_n dJA_copyOf_59c91_18 rfl rfl ?_
    refine tq_iconst (v := (0 : Int32)) dJA_copyOf_59c91_19 (by decide) ?_
    refine tq_aload_n dJA_copyOf_59c91_20 rfl rfl ?_
    refine tq_iconst (v := (0 : Int32)) dJA_copyOf_59c91_21 (by decide) ?_
    refine tq_aload_n dJA_copyOf_59c91_22 rfl rfl ?_
    have t1 : hT h2 a = 15 := by rw [eh]; exact (tpn_n _ _ _ _ hne).trans f1
    have t2 : hL h2 a = hL h a := by rw [eh]; exact tpn_n _ _ _ _ hne
    have t3 : hI h2 a = hI h a := by rw [eh]; exact tpn_n _ _ _ _ hne
    obtain ⟨u1, u2, -, u4, -⟩ := tpN_ax (h := h) (k := 15) (n := x1.toNatClampNeg) (m := x1.toNatClampNeg)
    rw [← eh, ← eb] at u1 u2 u4
    refine tq_alen dJA_copyOf_59c91_23 (by rw [t1]; decide) ?_
    refine tq_iload_n dJA_copyOf_59c91_24 rfl rfl ?_
    refine tq_min mJA_304 (Nat.le_of_ble_eq_true rfl) (Nat.le_of_ble_eq_true rfl) dJA_copyOf_59c91_25 ?_
    rw [t2]
    have hlt : ¬ x1 < Int32.ofNat (hL h a) := by
      obtain ⟨j, hj, rfl⟩ := nI_of f3
      have e1 : (nI j).toNatClampNeg = j := nI_clamp hj
      rw [e1] at f5
      exact nI_nlt (by omega) hj
    rw [if_neg hlt]
    refine tq_copy (Nat.le_of_ble_eq_true rfl) (Nat.le_of_ble_eq_true rfl) rfl dJA_copyOf_59c91_28 t1 u1 (by
      have := nI_pos (n := hL h a) (by omega)
      exact this) (by rw [hcl, t2]; exact Nat.le_refl _) (by rw [hcl, u2]; omega) (fun h3 e3 => ?_)
    refine tq_aload_n dJA_copyOf_59c91_31 rfl rfl ?_
    refine tq_aret rfl rfl dJA_copyOf_59c91_32 (hw b h3 eb ?_)
    rw [e3, hcl, eh]
    congr 1
    rw [← eh, t3, u4]
    funext k
    unfold va_cpy
    by_cases hk : k < hL h a <;> simp [hk]
  · exfalso
    rw [c1, hcl] at f5
    omega
end TPW
