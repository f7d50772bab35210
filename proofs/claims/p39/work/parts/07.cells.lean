section TPS
variable {M : tpM} {d : Nat} {h0 : tpH} {av : List tpV} {Ro : tpO → tpH → Prop} {pc pc' : Nat} {ls ls' : List (Option tpV)} {st st' : List tpV} {h h' : tpH}
def tpIr : FieldType → Bool
  | .object _ => true
  | .array _ => true
  | _ => false
theorem tpFv_i {h : tpH} {a j : Nat} : ∀ {ty : FieldType}, tpIr ty = false → tpFv h a ty j = .int (hI h a j) := by
  intro ty ht
  cases ty <;> first | rfl | cases ht
theorem tpFv_r {h : tpH} {a j : Nat} : ∀ {ty : FieldType}, tpIr ty = true → tpFv h a ty j = va_rf (hR h a j) := by
  intro ty ht
  cases ty <;> first | rfl | cases ht
theorem tpCl_lt {ci : Nat} {r : vw_C} (h : tpCl[ci]? = some r) : ci < 14 := (List.getElem?_eq_some_iff.mp h).1
theorem tpAx_ob (h : tpH) (a : Nat) {k : Nat} (hk : k < 15) : tpAx h a k = none := by
  unfold tpAx
  split <;> first | omega | rfl
/-- getfield over the machine -/
theorem tw_getf {D : va_G} {cy : Nat → ClassId} {B : Nat} {l : Launch} {p : Program} {e : Env} {R : Room} {s : State} {m : MethodId} {meth : Method} {c : Code} {args : Array Value} {below : List Frame} {Q : State → Prop} {H : Heap} {locs : List Loc} {la : Array Slot} {cells slots : Nat} {rest : List Value} {a ci k idx : Nat}
    (X : tpX M D cy B l p s m meth c args) (hP : tpP D cy B h H) (hd : decode (mB M) pc = .ok (.getfield idx, 3)) (hf : tpF (mY M).cls idx ci k) (hk : hT h a = ci + 1)
    (kk : W p l e R s m args below meth c H locs cells slots Q (F0 m (pc + 3) la (tpFv h a (tpTy ci k) k :: rest))) : W p l e R s m args below meth c H locs cells slots Q (F0 m pc la (.ref a :: rest)) := by
  obtain ⟨hfl, hx, hb, hr, hlk, hml, hown, hnm, htb, hts, hSt, hB⟩ := X
  obtain ⟨r, hrr, hkn, hl⟩ := hf
  obtain ⟨cell, q1, q2, q3, q4⟩ := hP.ob hk hrr
  obtain ⟨hS, hfc, kC, hkC, hkind⟩ := hSt.1.1.1 ci _ hrr
  obtain ⟨cf, kf, fi, f, hi, hsl⟩ := hS k hkn
  have hst := (u_facts hfc hkC (u_lays hts (tpl ci r hrr) hkn) hi).1
  have hv : cell.slots[f.slot]? = some (tpFv h a (tpTy ci k) k) := by rw [hsl]; exact q4 k hkn
  rcases hl with hl | ⟨host, hl⟩
  · exact W.getf hx hb hown (hts _ hl) hi hst q1 (by rw [q3]; exact fun h => by cases h) hv rfl rfl hd kk
  · exact va_Wgetf hx hb hown (va_Nw.use rfl (hSt.2.2.2.1.1 _ hl)) hi hst q1 (by rw [q3]; exact fun h => by cases h) hv rfl rfl hd kk
theorem tq_geti {a ci k idx : Nat} (hd : decode (mB M) pc = .ok (.getfield idx, 3)) (hf : tpF (mY M).cls idx ci k) (hty : tpIr (tpTy ci k) = false) (hk : hT h a = ci + 1) (kk : tpR M d h0 av Ro (pc + 3) ls (vI (hI h a k) :: st) h) : tpR M d h0 av Ro pc ls (vR (some a) :: st) h :=
  kk.s0 fun X _ hP _ W => tw_getf X hP hd hf hk (by rw [tpFv_i hty]; exact W)
theorem tq_getr {a ci k idx : Nat} (hd : decode (mB M) pc = .ok (.getfield idx, 3)) (hf : tpF (mY M).cls idx ci k) (hty : tpIr (tpTy ci k) = true) (hk : hT h a = ci + 1) (kk : tpR M d h0 av Ro (pc + 3) ls (vR (hR h a k) :: st) h) : tpR M d h0 av Ro pc ls (vR (some a) :: st) h :=
  kk.s0 fun X _ hP _ W => tw_getf X hP hd hf hk (by rw [tpFv_r hty]; exact W)
/-- the field may be written here: it isn't final, or this is its class's constructor; the link is no nest mate's -/
def tpPu (M : tpM) (ci k : Nat) : Bool := match tpCl[ci]? with
  | some r => !(r.2.1 k).2.2.2 || ((r.2.1 k).1 == (mY M).cls && (mY M).name == "<init>")
  | none => false
def tpFp (own : String) (i ci k : Nat) : Prop := ∃ r : vw_C, tpCl[ci]? = some r ∧ k < r.2.2 ∧ Cond.fieldLink own i (r.2.1 k).1 (r.2.1 k).2.1 (r.2.1 k).2.2.1 ∈ tpW
theorem tw_putf {D : va_G} {cy : Nat → ClassId} {B : Nat} {l : Launch} {p : Program} {e : Env} {R : Room} {s : State} {m : MethodId} {meth : Method} {c : Code} {args : Array Value} {below : List Frame} {Q : State → Prop} {H : Heap} {locs : List Loc} {la : Array Slot} {cells slots : Nat} {rest : List Value} {a ci k idx : Nat} {v : Value}
    (X : tpX M D cy B l p s m meth c args) (hP : tpP D cy B h H) (hSS : va_S (fun q => B ≤ q) s.heap H locs) (hd : decode (mB M) pc = .ok (.putfield idx, 3)) (hf : tpFp (mY M).cls idx ci k) (hpu : tpPu M ci k = true) (hk : hT h a = ci + 1) (hvn : narrow (tpTy ci k) v = v ∧ fits (tpTy ci k) v = true)
    (e0 : hT h' = hT h) (eZ : hZ h' = hZ h) (eo : ∀ b, b ≠ a → hL h' b = hL h b ∧ hR h' b = hR h b ∧ hI h' b = hI h b ∧ hJ h' b = hJ h b ∧ hF h' b = hF h b) (ev : tpFv h' a (tpTy ci k) k = v) (ej : ∀ j, j ≠ k → tpFv h' a (tpTy ci j) j = tpFv h a (tpTy ci j) j)
    (kk : ∀ (H' : Heap) (locs' : List Loc), tpP D cy B h' H' → va_S (fun q => B ≤ q) s.heap H' locs' → W p l e R s m args below meth c H' locs' cells slots Q (F0 m (pc + 3) la rest)) : W p l e R s m args below meth c H locs cells slots Q (F0 m pc la (v :: .ref a :: rest)) := by
  obtain ⟨hfl, hx, hb, hr, hlk, hml, hown, hnm, htb, hts, hSt, hB⟩ := X
  obtain ⟨r, hrr, hkn, hl⟩ := hf
  have h14 := tpCl_lt hrr
  obtain ⟨cell, q1, q2, q3, q4⟩ := hP.ob hk hrr
  have hap := va_apart (own := (mY M).cls) (C := r.1) (T := r.2.1) (N := r.2.2) hts (tpl ci r hrr) (tpTy ci) (tpty ci r hrr) (tpnm ci r hrr) hSt.1.1 hrr
  obtain ⟨hS, hfc, kC, hkC, hkind⟩ := hSt.1.1.1 ci _ hrr
  obtain ⟨cf, kf, fi, f, hi, hsl⟩ := hS k hkn
  have hlays := u_lays hts (tpl ci r hrr) hkn
  have hst := (u_facts hfc hkC hlays hi).1
  have hdt := tpty ci r hrr k hkn
  have hBa : B ≤ a := (hP.2 a (by omega)).2.2 (by omega)
  have fin : ∀ H' : Heap, H'[a]? = some (cell.setSlot f.slot v) → H'.size = H.size → (∀ q : Nat, q ≠ a → H'[q]? = H[q]?) → tpP D cy B h' H' ∧ va_S (fun q => B ≤ q) s.heap H' (locs ++ [⟨a, f.slot⟩]) := by
    intro H' e1 e2 e3
    refine ⟨hP.upd a e0 eZ eo e3 e2 (fun _ => ⟨fun ci' r' hk' hr' => ?_, fun x hx' => ?_, fun h22 => by rw [e0, hk] at h22; omega⟩), hSS.put e2 e3 hBa⟩
    · have hci : ci' = ci := by rw [e0] at hk'; omega
      subst hci
      have hrr' : r' = r := Option.some.inj (hr'.symm.trans hrr)
      subst hrr'
      rw [hsl] at e1
      refine t_OB.to (V := updV (fun j => tpFv h a (tpTy ci' j) j) k v) ⟨_, e1, q2, q3, t_set q4 hap hkn v⟩ (fun j _ => ?_)
      unfold updV
      by_cases hj : j = k
      · subst hj; rw [if_pos rfl]; exact ev.symm
      · rw [if_neg hj]; exact (ej j hj).symm
    · rw [e0, hk, tpAx_ob _ _ (by omega)] at hx'
      cases hx'
  by_cases hfin : (r.2.1 k).2.2.2 = true
  · have hpu2 : ((r.2.1 k).1 == (mY M).cls && (mY M).name == "<init>") = true := by
      simp only [tpPu, hrr, hfin] at hpu
      simpa using hpu
    simp only [Bool.and_eq_true, beq_iff_eq] at hpu2
    have hlay := hts _ ((tpl ci r hrr) _ (u_in_lay hkn))
    unfold u_lay at hlay
    rw [if_pos hfin] at hlay
    have hcf : m.cls = cf := by
      obtain ⟨_, _, c', _, _, _, -, -, hf', -, -, -, hown2, -⟩ := Cond.laysFinal_spec hlay
      have e1 : c' = cf := by have := hi.symm.trans hf'; simp at this; exact this.1.symm
      rw [hpu2.1] at hown2
      rw [← e1]; exact Option.some.inj (hown.symm.trans hown2)
    have h6 := u_fits hfc hkC hkind hlays hi hdt hvn.1 hvn.2
    exact W.putFinK hx hb hown (hts _ hl) hi hst hcf (hnm hpu2.2) (by rw [q2]; exact h6) q1 q3 (by rw [hsl]; exact k2_hasslot (q4 k hkn)) rfl rfl hd fun H' e1 e2 e3 => kk H' _ (fin H' e1 e2 e3).1 (fin H' e1 e2 e3).2
  · have hlay := hts _ ((tpl ci r hrr) _ (u_in_lay hkn))
    unfold u_lay at hlay
    rw [if_neg hfin] at hlay
    have h6 := u_store hfc hkC hkind hlay hi hdt hvn.1 hvn.2
    exact W.putK hx hb (f := f) ⟨hown, hts _ hl, ⟨_, _, _, hi⟩, hst⟩ (by rw [q2]; exact h6) q1 q3 (by rw [hsl]; exact k2_hasslot (q4 k hkn)) rfl rfl hd fun H' e1 e2 e3 => kk H' _ (fin H' e1 e2 e3).1 (fin H' e1 e2 e3).2
theorem tpFv_sI {h : tpH} {a k j : Nat} {v : Int32} {ty : FieldType} (hj : j ≠ k) : tpFv (sI h a k v) a ty j = tpFv h a ty j := by
  unfold tpFv
  cases ty <;> first | rfl | exact congrArg Value.int (tpu_j _ _ _ _ _ _ hj)
theorem tpFv_sR {h : tpH} {a k j : Nat} {v : Option Nat} {ty : FieldType} (hj : j ≠ k) : tpFv (sR h a k v) a ty j = tpFv h a ty j := by
  unfold tpFv
  cases ty <;> first | rfl | exact congrArg va_rf (tpu_j _ _ _ _ _ _ hj)
theorem tq_puti {a ci k idx : Nat} {v : Int32} (hd : decode (mB M) pc = .ok (.putfield idx, 3)) (hf : tpFp (mY M).cls idx ci k) (hpu : tpPu M ci k = true) (hty : tpIr (tpTy ci k) = false) (hk : hT h a = ci + 1) (hv : narrow (tpTy ci k) (.int v) = .int v ∧ fits (tpTy ci k) (.int v) = true)
    (kk : ∀ h' : tpH, h' = sI h a k v → tpR M d h0 av Ro (pc + 3) ls st h') : tpR M d h0 av Ro pc ls (vI v :: vR (some a) :: st) h :=
  (kk (sI h a k v) rfl).sh rfl rfl fun X _ hP hS _ W => tw_putf (h' := sI h a k v) X hP hS hd hf hpu hk hv rfl rfl (fun b hb => ⟨rfl, rfl, tpu_fa _ _ _ _ _ hb, rfl, rfl⟩) ((tpFv_i hty).trans (congrArg Value.int (tpu_s _ _ _ _))) (fun j hj => tpFv_sI hj) W
theorem tpN_r {r : Option Nat} {ty : FieldType} (h : tpIr ty = true) : narrow ty (va_rf r) = va_rf r ∧ fits ty (va_rf r) = true := by
  cases ty <;> first | (cases r <;> exact ⟨rfl, rfl⟩) | cases h
theorem tq_putr {a ci k idx : Nat} {v : Option Nat} (hd : decode (mB M) pc = .ok (.putfield idx, 3)) (hf : tpFp (mY M).cls idx ci k) (hpu : tpPu M ci k = true) (hty : tpIr (tpTy ci k) = true) (hk : hT h a = ci + 1)
    (kk : ∀ h' : tpH, h' = sR h a k v → tpR M d h0 av Ro (pc + 3) ls st h') : tpR M d h0 av Ro pc ls (vR v :: vR (some a) :: st) h :=
  (kk (sR h a k v) rfl).sh rfl rfl fun X _ hP hS _ W => tw_putf (h' := sR h a k v) X hP hS hd hf hpu hk (tpN_r hty) rfl rfl (fun b hb => ⟨rfl, tpu_fa _ _ _ _ _ hb, rfl, rfl, rfl⟩) ((tpFv_r hty).trans (congrArg va_rf (tpu_s _ _ _ _))) (fun j hj => tpFv_sR hj) W
/-! rows -/
theorem tpK_i {D : va_G} {cy : Nat → ClassId} {U : State} (h : va_K D tpCl (tpTys cy) U) : ArrOfT U (cy 15) .int ∧ va_RA U (cy 15) .int := h.2 0 _ rfl
theorem tpK_z {D : va_G} {cy : Nat → ClassId} {U : State} (h : va_K D tpCl (tpTys cy) U) : ArrOfT U (cy 16) .int ∧ va_RA U (cy 16) .int := h.2 1 _ rfl
theorem tpK_l {D : va_G} {cy : Nat → ClassId} {U : State} (h : va_K D tpCl (tpTys cy) U) : ArrOfT U (cy 17) .int ∧ va_RA U (cy 17) .int := h.2 2 _ rfl
theorem tpK_d {D : va_G} {cy : Nat → ClassId} {U : State} (h : va_K D tpCl (tpTys cy) U) : ArrOfT U (cy 18) .int ∧ va_RA U (cy 18) .int := h.2 3 _ rfl
theorem tpSc {U : State} {k : ClassId} {scr : Cell} (h1 : ArrOfT U k .int) (h2 : scr.cls = k) (h3 : ∀ q, scr.vm ≠ .statics q) : U.isArrayOf scr .int := by
  obtain ⟨-, hk⟩ := h1 0 (fun _ => .null)
  refine ⟨h3, ?_⟩
  rw [h2]
  exact hk
theorem tq_iald {a : Nat} {i : Int32} (hd : decode (mB M) pc = .ok (.iaload, 1)) (hk : hT h a = 15 ∨ hT h a = 22) (hin : vp_in i (hL h a)) (kk : tpR M d h0 av Ro (pc + 1) ls (vI (hI h a i.toNatClampNeg) :: st) h) : tpR M d h0 av Ro pc ls (vI i :: vR (some a) :: st) h :=
  kk.s0 fun {D} {cy} {B} {l} {p} {e} {R} {s} {m} {meth} {c} {below} {Q} {H} {locs} {la} {cells} {slots} X _ hP _ W0 => by
    obtain ⟨hfl, hx, hb, hr, hlk, hml, hown, hnm, htb, hts, hSt, hB⟩ := X
    have hlt : i.toNatClampNeg < hL h a := Nat.not_le.mp fun q => hin (Or.inr q)
    rcases hk with hk | hk
    · have hc := hP.ar (a := a) (x := (15, hL h a, .inl (hI h a))) (by omega) (by rw [hk]; rfl)
      exact W.iald (v := .int (hI h a i.toNatClampNeg)) hx hb hc ((tpK_i hSt.1.1).1 (hL h a) (fun j => .int (hI h a j))) (fun q => by cases q) (by show ¬ (i < 0 ∨ (arrV _ _ _).slots.size ≤ _); rw [arrV_size]; exact hin) (by show (arrV _ _ _).slots[_]? = _; rw [arrV_read _ _ hlt]) rfl rfl hd W0
    · obtain ⟨scr, h1, h2, h3, h4, h5, h6⟩ := (hP.2 a (by omega)).1.2.2 hk
      exact W.iald (v := .int (hI h a i.toNatClampNeg)) hx hb h1 (tpSc hSt.1.2 h2 h3) h4 (by rw [h5]; exact hin) (h6 _ hlt) rfl rfl hd W0
/-- a row's cell is written -/
theorem tpP.setA {D : va_G} {cy : Nat → ClassId} {B : Nat} {H H' : Heap} (hP : tpP D cy B h H) {a : Nat} {y : Nat × vp_A} (hk : 15 ≤ hT h a) (hk2 : hT h a ≠ 22) (hy : tpAx h' a (hT h a) = some y) (e0 : hT h' = hT h) (eZ : hZ h' = hZ h) (eo : ∀ b, b ≠ a → hL h' b = hL h b ∧ hR h' b = hR h b ∧ hI h' b = hI h b ∧ hJ h' b = hJ h b ∧ hF h' b = hF h b)
    (e1 : H'[a]? = some (vp_cell (cy y.1) y.2)) (e2 : H'.size = H.size) (e3 : ∀ q : Nat, q ≠ a → H'[q]? = H[q]?) : tpP D cy B h' H' := by
  refine hP.upd a e0 eZ eo e3 e2 (fun _ => ⟨fun ci r hk' hr => ?_, fun x hx => ?_, fun h22 => absurd (by rw [← e0]; exact h22) hk2⟩)
  · have := tpCl_lt hr
    rw [e0] at hk'
    omega
  · rw [e0, hy] at hx
    cases hx
    exact e1
theorem tpP.from {D : va_G} {cy : Nat → ClassId} {B : Nat} {H : Heap} (hP : tpP D cy B h H) {a : Nat} (h0 : hT h a ≠ 0) (h2 : hT h a ≠ 22) : B ≤ a := (hP.2 a h0).2.2 h2
theorem tpu_row {α : Type} (f : Nat → Nat → α) (a j : Nat) (v : α) : tpu f a j v a = fun k => if k = j then v else f a k := by funext k; simp [tpu]
theorem tq_iast {a : Nat} {i x : Int32} (hd : decode (mB M) pc = .ok (.iastore, 1)) (hk : hT h a = 15) (hin : vp_in i (hL h a)) (kk : ∀ h' : tpH, h' = sI h a i.toNatClampNeg x → tpR M d h0 av Ro (pc + 1) ls st h') : tpR M d h0 av Ro pc ls (vI x :: vI i :: vR (some a) :: st) h :=
  (kk (sI h a i.toNatClampNeg x) rfl).sh rfl rfl fun {D} {cy} {B} {l} {p} {e} {R} {s} {m} {meth} {c} {below} {Q} {H} {locs} {la} {cells} {slots} X _ hP hS _ W0 => by
    obtain ⟨hfl, hx, hb, hr, hlk, hml, hown, hnm, htb, hts, hSt, hB⟩ := X
    have hc := hP.ar (a := a) (x := (15, hL h a, .inl (hI h a))) (by omega) (by rw [hk]; rfl)
    refine W.iast hx hb hc ((tpK_i hSt.1.1).1 (hL h a) (fun j => .int (hI h a j))) (fun q => by cases q) (by show ¬ (i < 0 ∨ (arrV _ _ _).slots.size ≤ _); rw [arrV_size]; exact hin) rfl rfl hd fun H1 e z oq => ?_
    refine W0 H1 _ (hP.setA (h' := sI h a i.toNatClampNeg x) (y := (15, hL h a, .inl (tpu (hI h) a i.toNatClampNeg x a))) (by omega) (by omega) (by rw [hk]; rfl) rfl rfl (fun b hb => ⟨rfl, rfl, tpu_fa _ _ _ _ _ hb, rfl, rfl⟩) ?_ z oq) (hS.put z oq (hP.from (by omega) (by omega)))
    rw [e]
    show some ((vp_cell (cy 15) (hL h a, .inl (hI h a))).setSlot _ _) = some (vp_cell (cy 15) _)
    rw [vp_cell_i, vp_cell_i, arrV_store, tpu_row]
    congr 2
    funext q
    unfold updV
    by_cases hq : q = i.toNatClampNeg <;> simp [hq]
/-- a row of references: its kind, its place among the types, its elements' class -/
def tpQk (k t ci : Nat) (C : String) : Prop := (∀ (h : tpH) (a : Nat), tpAx h a k = some (k, hL h a, .inr (.inr (.inr (.inr (hR h a)))))) ∧ (∀ cy : Nat → ClassId, (tpTys cy)[t]? = some (cy k, .object C)) ∧ 15 ≤ k ∧ k ≠ 22 ∧ ∃ r : vw_C, tpCl[ci]? = some r ∧ r.1 = C
def tpQ0 (k t : Nat) (C : String) : Prop := (∀ (h : tpH) (a : Nat), tpAx h a k = some (k, hL h a, .inr (.inr (.inr (.inr (hR h a)))))) ∧ (∀ cy : Nat → ClassId, (tpTys cy)[t]? = some (cy k, .object C)) ∧ 15 ≤ k ∧ k ≠ 22
theorem tpQ0_Sc : tpQ0 19 4 "TwigPatch$Script" := ⟨fun _ _ => rfl, fun _ => rfl, by decide, by decide⟩
theorem tpQ0_Tr : tpQ0 21 6 "TwigPatch$Tree" := ⟨fun _ _ => rfl, fun _ => rfl, by decide, by decide⟩
theorem tpQ_Tr : tpQk 21 6 11 "TwigPatch$Tree" := ⟨fun _ _ => rfl, fun _ => rfl, by decide, by decide, _, rfl, rfl⟩
theorem tq_aald {k t ci : Nat} {C : String} (hq : tpQk k t ci C) {a : Nat} {i : Int32} (hd : decode (mB M) pc = .ok (.aaload, 1)) (hk : hT h a = k) (hin : vp_in i (hL h a)) (kk : tpR M d h0 av Ro (pc + 1) ls (vR (hR h a i.toNatClampNeg) :: st) h) : tpR M d h0 av Ro pc ls (vI i :: vR (some a) :: st) h :=
  kk.s0 fun {D} {cy} {B} {l} {p} {e} {R} {s} {m} {meth} {c} {below} {Q} {H} {locs} {la} {cells} {slots} X _ hP _ W0 => by
    obtain ⟨hfl, hx, hb, hr, hlk, hml, hown, hnm, htb, hts, hSt, hB⟩ := X
    obtain ⟨g1, g2, g3, g4, -⟩ := hq
    have hc := hP.ar (a := a) (x := (k, hL h a, .inr (.inr (.inr (.inr (hR h a)))))) (by omega) (by rw [hk]; exact g1 h a)
    have hlt : i.toNatClampNeg < hL h a := Nat.not_le.mp fun q => hin (Or.inr q)
    exact W.aald (v := va_rf (hR h a i.toNatClampNeg)) (ty := .object C) hx hb hc ((hSt.1.1.2 t _ (g2 _)).1 (hL h a) (fun j => va_rf (hR h a j))) rfl (fun q => by cases q) (by show ¬ (i < 0 ∨ (arrV _ _ _).slots.size ≤ _); rw [arrV_size]; exact hin) (by show (arrV _ _ _).slots[_]? = _; rw [arrV_read _ _ hlt]) rfl rfl hd W0
theorem tq_aast {k t ci : Nat} {C : String} (hq : tpQk k t ci C) {a v : Nat} {i : Int32} (hd : decode (mB M) pc = .ok (.aastore, 1)) (hk : hT h a = k) (hin : vp_in i (hL h a)) (hv : hT h v = ci + 1) (kk : ∀ h' : tpH, h' = sR h a i.toNatClampNeg (some v) → tpR M d h0 av Ro (pc + 1) ls st h') : tpR M d h0 av Ro pc ls (vR (some v) :: vI i :: vR (some a) :: st) h :=
  (kk (sR h a i.toNatClampNeg (some v)) rfl).sh rfl rfl fun {D} {cy} {B} {l} {p} {e} {R} {s} {m} {meth} {c} {below} {Q} {H} {locs} {la} {cells} {slots} X _ hP hS _ W0 => by
    obtain ⟨hfl, hx, hb, hr, hlk, hml, hown, hnm, htb, hts, hSt, hB⟩ := X
    obtain ⟨g1, g2, g3, g4, r, hrr, rfl⟩ := hq
    have hc := hP.ar (a := a) (x := (k, hL h a, .inr (.inr (.inr (.inr (hR h a)))))) (by omega) (by rw [hk]; exact g1 h a)
    have hlt : i.toNatClampNeg < hL h a := Nat.not_le.mp fun q => hin (Or.inr q)
    have hp : ¬ i < 0 := fun q => hin (Or.inl q)
    obtain ⟨cellV, y1, y2, y3, -⟩ := hP.ob hv hrr
    have hcls := (hSt.1.1.1 ci r hrr).2
    obtain ⟨kA, comp, k1, k2, k3, -⟩ := (hSt.1.1.2 t _ (g2 _)).2
    have hcomp : comp = D.1 ci := Option.some.inj (k3.symm.trans hcls.1)
    subst hcomp
    obtain ⟨kC, hkC, -⟩ := hcls.2
    refine W.aast hx hb hc (fun q h => by cases h) (fun h => by cases h) k1 k2 rfl hkC ⟨hp, by show _ < (arrV _ _ _).slots.size; rw [arrV_size]; exact hlt⟩ y1 (fun q h => by rw [y3] at h; cases h) (by rw [y2]; exact hkC) (by rw [y2]; exact va_assign hcls) rfl rfl hd fun H1 e z oq => ?_
    refine W0 H1 _ (hP.setA (h' := sR h a i.toNatClampNeg (some v)) (y := (k, hL h a, .inr (.inr (.inr (.inr (tpu (hR h) a i.toNatClampNeg (some v) a)))))) (by omega) (by omega) (by rw [hk]; exact g1 (sR h a i.toNatClampNeg (some v)) a) rfl rfl (fun b hb => ⟨rfl, tpu_fa _ _ _ _ _ hb, rfl, rfl, rfl⟩) ?_ z oq) (hS.put z oq (hP.from (by omega) (by omega)))
    rw [e]
    show some ((vp_cell (cy k) (hL h a, .inr (.inr (.inr (.inr (hR h a)))))).setSlot _ _) = some (vp_cell (cy k) _)
    rw [vp_cell_q, vp_cell_q, arrV_store, tpu_row]
    congr 2
    funext q
    unfold updV
    by_cases hq : q = i.toNatClampNeg
    · subst hq; simp [va_rf]
    · simp [hq]
/-- the row's length -/
theorem tq_alen {a : Nat} (hd : decode (mB M) pc = .ok (.arraylength, 1)) (hk : 15 ≤ hT h a ∧ hT h a ≤ 22) (kk : tpR M d h0 av Ro (pc + 1) ls (vI (Int32.ofNat (hL h a)) :: st) h) : tpR M d h0 av Ro pc ls (vR (some a) :: st) h :=
  kk.s0 fun {D} {cy} {B} {l} {p} {e} {R} {s} {m} {meth} {c} {below} {Q} {H} {locs} {la} {cells} {slots} X _ hP _ W0 => by
    obtain ⟨hfl, hx, hb, hr, hlk, hml, hown, hnm, htb, hts, hSt, hB⟩ := X
    have hK := hSt.1.1
    have hne : hT h a ≠ 0 := by omega
    have har : ∀ x : Nat × vp_A, tpAx h a (hT h a) = some x → H[a]? = some (vp_cell (cy x.1) x.2) := fun x hx => hP.ar hne hx
    have h22 := (hP.2 a hne).1.2.2
    obtain ⟨hk1, hk2⟩ := hk
    generalize hT h a = k at hk1 hk2 har h22
    have hcases : k = 15 ∨ k = 16 ∨ k = 17 ∨ k = 18 ∨ k = 19 ∨ k = 20 ∨ k = 21 ∨ k = 22 := by omega
    rcases hcases with rfl | rfl | rfl | rfl | rfl | rfl | rfl | rfl
    · exact W.alen (n := Int32.ofNat (hL h a)) hx hb (har _ rfl) ((tpK_i hK).1 (hL h a) (fun j => .int (hI h a j))) (by rw [vp_cell_i, arrV_size] <;> rfl) rfl rfl hd W0
    · exact W.alen (n := Int32.ofNat (hL h a)) hx hb (har _ rfl) ((tpK_z hK).1 (hL h a) (fun j => .int (hI h a j))) (by rw [vp_cell_i, arrV_size] <;> rfl) rfl rfl hd W0
    · exact W.alen (n := Int32.ofNat (hL h a)) hx hb (har _ rfl) ((tpK_l hK).1 (hL h a) (fun j => .long (hJ h a j))) (by rw [vp_cell_l, arrV_size] <;> rfl) rfl rfl hd W0
    · exact W.alen (n := Int32.ofNat (hL h a)) hx hb (har _ rfl) ((tpK_d hK).1 (hL h a) (fun j => .double (hF h a j))) (by rw [vp_cell_d, arrV_size] <;> rfl) rfl rfl hd W0
    · exact W.alen (n := Int32.ofNat (hL h a)) hx hb (har _ rfl) ((hK.2 4 _ rfl).1 (hL h a) (fun j => va_rf (hR h a j))) (by rw [vp_cell_q, arrV_size] <;> rfl) rfl rfl hd W0
    · exact W.alen (n := Int32.ofNat (hL h a)) hx hb (har _ rfl) ((hK.2 5 _ rfl).1 (hL h a) (fun j => va_rf (hR h a j))) (by rw [vp_cell_q, arrV_size] <;> rfl) rfl rfl hd W0
    · exact W.alen (n := Int32.ofNat (hL h a)) hx hb (har _ rfl) ((hK.2 6 _ rfl).1 (hL h a) (fun j => va_rf (hR h a j))) (by rw [vp_cell_q, arrV_size] <;> rfl) rfl rfl hd W0
    · obtain ⟨scr, h1, h2, h3, h4, h5, h6⟩ := h22 rfl
      exact W.alen (n := Int32.ofNat (hL h a)) hx hb h1 (tpSc hSt.1.2 h2 h3) (by rw [h5]) rfl rfl hd W0
/-! what is made -/
/-- a row of numbers: its type, its kind, its place among the types -/
def tpNk (at0 : ArrayType) (ty : FieldType) (k t : Nat) : Prop := newarray.typeOf at0 = ty ∧ Cond.arrayClass ty ∈ tpW ∧ (∀ cy : Nat → ClassId, (tpTys cy)[t]? = some (cy k, ty)) ∧ 15 ≤ k ∧ k ≠ 22 ∧ componentBytes ty ≤ 8 ∧ (∀ (U : State) (c : ClassId), va_RA U c ty → U.vm.findClass ("[" ++ ty.toString) = some c) ∧
  ∀ (h : tpH) (n m : Nat) (cA : ClassId), ∃ y : vp_A, tpAx (nC h k n m) (hZ h) k = some (k, y) ∧ vp_cell cA y = arrV cA n (fun _ => defaultValue ty)
theorem tpN_ax {h : tpH} {k n m : Nat} : hT (nC h k n m) (hZ h) = k ∧ hL (nC h k n m) (hZ h) = n ∧ hR (nC h k n m) (hZ h) = (fun _ => none) ∧ hI (nC h k n m) (hZ h) = (fun _ => 0) ∧ hJ (nC h k n m) (hZ h) = (fun _ => 0) ∧ hF (nC h k n m) (hZ h) = (fun _ => 0) :=
  ⟨tpn_s _ _ _, tpn_s _ _ _, tpn_s _ _ _, tpn_s _ _ _, tpn_s _ _ _, tpn_s _ _ _⟩
theorem tpN_int : tpNk .int .int 15 0 := ⟨rfl, ta_int, fun _ => rfl, by decide, by decide, by decide, fun _ _ h => h, fun h n m cA => ⟨(n, .inl fun _ => 0), by
  obtain ⟨-, e1, -, e3, -⟩ := tpN_ax (h := h) (k := 15) (n := n) (m := m)
  show some (15, hL (nC h 15 n m) (hZ h), Sum.inl (hI (nC h 15 n m) (hZ h))) = _
  rw [e1, e3], rfl⟩⟩
theorem va_S.grown {A : Nat → Prop} {H0 H H1 : Heap} {locs : List Loc} (hS : va_S A H0 H locs) (z : H1.size = H.size + 1) (oq : ∀ q : Nat, q < H.size → H1[q]? = H[q]?) : va_S A H0 H1 locs :=
  ⟨Nat.le_trans hS.1 (by omega), fun x h1 h2 => (oq x (Nat.lt_of_lt_of_le h1 hS.1)).trans (hS.2.1 x h1 h2), hS.2.2⟩
theorem tpP.newA {D : va_G} {cy : Nat → ClassId} {B : Nat} {H H' : Heap} {k n m : Nat} {y : vp_A} (hP : tpP D cy B h H) (hs : H'.size = H.size + 1) (oq : ∀ q : Nat, q < H.size → H'[q]? = H[q]?) (hB : B ≤ H.size) (hk : 15 ≤ k) (hk2 : k ≠ 22) (hy : tpAx (nC h k n m) (hZ h) k = some (k, y)) (e1 : H'[H.size]? = some (vp_cell (cy k) y)) : tpP D cy B (nC h k n m) H' := by
  refine hP.new hs oq hB fun _ => ⟨fun ci r hk' hr => ?_, fun x hx => ?_, fun h22 => absurd (by rw [hP.1, tpN_ax.1] at h22; exact h22) hk2⟩
  · have := tpCl_lt hr
    rw [hP.1, tpN_ax.1] at hk'
    omega
  · rw [hP.1, tpN_ax.1, hy] at hx
    cases hx
    exact e1
theorem tq_newa {at0 : ArrayType} {ty : FieldType} {k t : Nat} (hn : tpNk at0 ty k t) {n : Int32} {N : Nat} (hd : decode (mB M) pc = .ok (.newarray at0, 2)) (h1 : ¬ n < 0) (hN : n.toNatClampNeg = N) (h2 : N ≤ 1000000) (kk : ∀ (a : Nat) (h' : tpH), a = hZ h → h' = nC h k N N → tpR M d h0 av Ro (pc + 2) ls (vR (some a) :: st) h') : tpR M d h0 av Ro pc ls (vI n :: st) h :=
  (kk (hZ h) (nC h k N N) rfl rfl).sn fun {D} {cy} {B} {l} {p} {e} {R} {s} {m} {meth} {c} {below} {Q} {H} {locs} {la} {cells} {slots} X hR hP hS _ W0 => by
    obtain ⟨hfl, hx, hb, hr, hlk, hml, hown, hnm, htb, hts, hSt, hB⟩ := X
    obtain ⟨rfl, g2, g3, g4, g5, g6, g7, g8⟩ := hn
    have hBH : B ≤ H.size := Nat.le_trans hB hS.1
    refine va_newaK hx hb (hts _ g2) rfl hd rfl h1 hN ?_ hR.2.2.1 hR.2.2.2 rfl fun H1 cA e1 z1 o1 hAr hNm => ?_
    · have := Nat.mul_le_mul h2 g6
      omega
    · have hcA : cA = cy k := by
        have h5 := g7 _ _ (hSt.1.1.2 t _ (g3 cy)).2
        exact Option.some.inj (hNm.symm.trans h5)
      subst hcA
      obtain ⟨y, y1, y2⟩ := g8 h N N (cy k)
      have W1 := W0 H1 (hP.newA z1 o1 hBH g4 g5 y1 (by rw [e1, y2])) (hS.grown z1 o1)
      rw [← hP.1] at W1
      exact W1
theorem tq_anew {k t idx : Nat} {C : String} (hq : tpQ0 k t C) (hC : tpCk (mY M).cls idx C) (hA : C ∈ tpNa) {n : Int32} {N : Nat} (hd : decode (mB M) pc = .ok (.anewarray idx, 3)) (h1 : ¬ n < 0) (hN : n.toNatClampNeg = N) (h2 : N ≤ 1000000) (kk : ∀ (a : Nat) (h' : tpH), a = hZ h → h' = nC h k N N → tpR M d h0 av Ro (pc + 3) ls (vR (some a) :: st) h') : tpR M d h0 av Ro pc ls (vI n :: st) h :=
  (kk (hZ h) (nC h k N N) rfl rfl).sn fun {D} {cy} {B} {l} {p} {e} {R} {s} {m} {meth} {c} {below} {Q} {H} {locs} {la} {cells} {slots} X hR hP hS _ W0 => by
    obtain ⟨hfl, hx, hb, hr, hlk, hml, hown, hnm, htb, hts, hSt, hB⟩ := X
    obtain ⟨g1, g2, g3, g4⟩ := hq
    subst hN
    have hBH : B ≤ H.size := Nat.le_trans hB hS.1
    refine W.anew hx hb hown (hts _ hC) (va_AO.use (hSt.2.2.2.1.2.2.2.1 _ hA)) rfl hd rfl h1 (by omega) hR.2.2.1 hR.2.2.2 fun cA kA comp f1 f2 f3 f4 => ?_
    generalize hH1 : H.push ({ cls := cA, slots := Array.replicate n.toNatClampNeg .null, vm := .none } : Cell) = H1
    have z1 : H1.size = H.size + 1 := by rw [← hH1, Array.size_push]
    have e1 : H1[H.size]? = some (arrV cA n.toNatClampNeg (fun _ => .null)) := by rw [← hH1, Array.getElem?_push_size, ← arrV_new]
    have o1 : ∀ q : Nat, q < H.size → H1[q]? = H[q]? := fun q hq => by rw [← hH1, Array.getElem?_push, if_neg (Nat.ne_of_lt hq)]
    have hcA : cA = cy k := by
      obtain ⟨kA', comp', -, -, -, k4⟩ := (hSt.1.1.2 t _ (g2 cy)).2
      exact Option.some.inj (f1.symm.trans k4)
    subst hcA
    have hy : tpAx (nC h k n.toNatClampNeg n.toNatClampNeg) (hZ h) k = some (k, n.toNatClampNeg, .inr (.inr (.inr (.inr (fun _ => none))))) := by
      obtain ⟨-, y1, y2, -⟩ := tpN_ax (h := h) (k := k) (n := n.toNatClampNeg) (m := n.toNatClampNeg)
      rw [g1, y1, y2]
    have W1 := W0 H1 (hP.newA z1 o1 hBH g3 g4 hy (by rw [e1, vp_cell_q]; rfl)) (hS.grown z1 o1)
    rw [← hP.1] at W1
    exact W1
def tpOt : FieldType → Bool
  | .int => true
  | .boolean => true
  | .object _ => true
  | .array _ => true
  | _ => false
theorem tpOt_ok : ∀ ci, ci < 14 → ∀ j, j < 58 → tpOt (tpTy ci j) = true := by decide +kernel
theorem tpOt_df {h : tpH} {k n m j : Nat} : ∀ {ty : FieldType}, tpOt ty = true → defaultValue ty = tpFv (nC h k n m) (hZ h) ty j := by
  obtain ⟨-, -, e2, e3, -⟩ := tpN_ax (h := h) (k := k) (n := n) (m := m)
  intro ty ht
  cases ty <;> first | exact absurd ht (by decide) | exact (congrArg Value.int (congrFun e3 j)).symm | exact (congrArg va_rf (congrFun e2 j)).symm
theorem tpCl_n {ci : Nat} {r : vw_C} (h : tpCl[ci]? = some r) : r.2.2 ≤ 58 := by
  have h2 : ∀ q ∈ tpCl, q.2.2 ≤ 58 := by decide +kernel
  exact h2 r (List.mem_of_getElem? h)
theorem tq_new {ci idx n : Nat} {C : String} (hC : tpCk (mY M).cls idx C) (hI : tpIk C n) (hr : (tpCl[ci]?).map (fun r => (r.1, r.2.2)) = some (C, n)) (hd : decode (mB M) pc = .ok (.new idx, 3)) (kk : ∀ (a : Nat) (h' : tpH), a = hZ h → h' = nC h (ci + 1) 0 n → tpR M d h0 av Ro (pc + 3) ls (vR (some a) :: st) h') : tpR M d h0 av Ro pc ls st h :=
  (kk (hZ h) (nC h (ci + 1) 0 n) rfl rfl).sn fun {D} {cy} {B} {l} {p} {e} {R} {s} {m} {meth} {c} {below} {Q} {H} {locs} {la} {cells} {slots} X hR hP hS _ W0 => by
    obtain ⟨hfl, hx, hb, hr', hlk, hml, hown, hnm, htb, hts, hSt, hB⟩ := X
    have hBH : B ≤ H.size := Nat.le_trans hB hS.1
    cases hrr : tpCl[ci]? with
    | none => rw [hrr] at hr; cases hr
    | some r =>
      rw [hrr] at hr
      have hr1 : r.1 = C := congrArg Prod.fst (Option.some.inj hr)
      have hr2 : r.2.2 = n := congrArg Prod.snd (Option.some.inj hr)
      subst hr1
      subst hr2
      have h14 := tpCl_lt hrr
      have hKn := hSt.1.1.1 ci _ hrr
      refine W.newcK hx hb hown (hts _ hC) (hts _ hI.1) (hts _ hI.2) rfl hd hR.2.2.1 hR.2.2.2 hKn.2.1 rfl fun H1 kC hkC e1 z1 o1 => ?_
      have W1 := W0 H1 (hP.new z1 o1 hBH fun _ => ⟨fun ci' r' hk' hr9 => ?_, fun x hx' => ?_, fun h22 => by rw [hP.1, tpN_ax.1] at h22; omega⟩) (hS.grown z1 o1)
      · rw [← hP.1] at W1
        exact W1
      · rw [hP.1, tpN_ax.1] at hk'
        have hci : ci' = ci := by omega
        subst hci
        have hrr' : r' = r := Option.some.inj (hr9.symm.trans hrr)
        subst hrr'
        rw [hP.1]
        rw [hP.1] at e1
        exact (u_born (tpTy ci') hts (tpl ci' r' hrr) hKn hkC e1 (tpty ci' r' hrr)).to fun j hj => tpOt_df (tpOt_ok ci' h14 j (Nat.lt_of_lt_of_le hj (tpCl_n hrr)))
      · rw [hP.1, tpN_ax.1, tpAx_ob _ _ (by omega)] at hx'
        cases hx'
end TPS
