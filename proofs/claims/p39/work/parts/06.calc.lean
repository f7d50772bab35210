section TPR
/-! what the start gives, and stays -/
def tpTys (cy : Nat → ClassId) : List (ClassId × FieldType) := [(cy 15, .int), (cy 16, .int), (cy 17, .int), (cy 18, .int), (cy 19, .object "TwigPatch$Script"), (cy 20, .object "TwigPatch$Script"), (cy 21, .object "TwigPatch$Tree")]
def tpNo : List (String × String) := [("java/lang/IllegalStateException", "java/lang/IllegalArgumentException"), ("java/lang/IndexOutOfBoundsException", "java/lang/IllegalArgumentException"), ("java/lang/IllegalArgumentException", "java/lang/IllegalStateException"), ("java/lang/IndexOutOfBoundsException", "java/lang/IllegalStateException"), ("java/lang/IllegalArgumentException", "java/lang/IndexOutOfBoundsException"), ("java/lang/IllegalStateException", "java/lang/IndexOutOfBoundsException")]
def tpNs (U : State) : Prop := (∀ q ∈ tpNf, va_Nw (.fieldLinkNest q.1 q.2.1 q.2.2.1 q.2.2.2.1 q.2.2.2.2.1 q.2.2.2.2.2) U) ∧ (∀ q ∈ tpNm, va_Nw (.methodLinkNest q.1 q.2.1 q.2.2.1 q.2.2.2) U) ∧ (∀ q ∈ tpNc, va_Nw (.castable q.1 q.2) U) ∧ (∀ q ∈ tpNa, va_AO q U) ∧ ∀ q ∈ tpNd, va_Nw (.declares q) U
def tpSt (D : va_G) (cy : Nat → ClassId) (B : Nat) (U : State) : Prop :=
  (va_K D tpCl (tpTys cy) U ∧ ArrOfT U (cy 22) .int) ∧ (∀ q ∈ tpStr, ∃ a : Nat, vk_R q.1 q.2.1 q.2.2 a U) ∧ (∀ q ∈ tpNo, va_Nc q.1 q.2 U) ∧ tpNs U ∧
  vx_Zq Bundle.tN "UNASSIGNED_STACK" Bundle.steD (fun q => B ≤ q) U U.heap ∧ vx_Zq Bundle.tN "SUPPRESSED_SENTINEL" Bundle.listD (fun q => B ≤ q) U U.heap
theorem tpNs.move {s U : State} (hW : s.WarmedH U.vm) (h : tpNs s) : tpNs U := by
  obtain ⟨h1, h2, h3, h4, h5⟩ := h
  exact ⟨fun q hq => va_Nw.warmF hW (h1 q hq), fun q hq => va_Nw.warmM hW (h2 q hq), fun q hq => va_Nw.warmC hW (h3 q hq), fun q hq => va_AO.moved hW.alike (h4 q hq), fun q hq => va_Nw.warmD hW (h5 q hq)⟩
theorem tpSt.move {D : va_G} {cy : Nat → ClassId} {B : Nat} {s U : State} (h : tpSt D cy B s) (hW : s.WarmedH U.vm) (hk : ∀ a : Nat, a < s.heap.size → ¬ B ≤ a → U.heap[a]? = s.heap[a]?) : tpSt D cy B U := by
  obtain ⟨h1, h2, h3, h4, h5, h6⟩ := h
  refine ⟨⟨va_K.moved hW.alike h1.1, arrOfT_moved hW.alike h1.2⟩, fun q hq => ?_, fun q hq => va_Nc.moved hW.alike (h3 q hq), h4.move hW, vx_Zq.moved hW.alike (h5.kept hk), vx_Zq.moved hW.alike (h6.kept hk)⟩
  obtain ⟨a, ha⟩ := h2 q hq
  exact ⟨a, ha.warm hW⟩
/-! contracts -/
abbrev tpO : Type := Option tpV ⊕ String
def tpQc (D : va_G) (cy : Nat → ClassId) (B : Nat) (out : tpO) (h1 : tpH) : Array Value → State → Outcome → State → Prop := fun _ st o t => (∃ v : Option tpV, out = .inl v ∧ o = .returned (v.map tpv)) ∧ tpP D cy B h1 t.heap ∧ va_F (fun q => B ≤ q) st t
def tpXC (D : va_G) (cy : Nat → ClassId) (B : Nat) (out : tpO) (h1 : tpH) : String → State → State → Prop := fun E st t => out = .inr E ∧ E ∈ tpExn ∧ tpP D cy B h1 t.heap ∧ va_F (fun q => B ≤ q) st t
def tpPc (D : va_G) (cy : Nat → ClassId) (B : Nat) (av : List tpV) (h : tpH) : Array Value → State → Prop := fun a U => a = (av.map tpv).toArray ∧ tpP D cy B h U.heap ∧ tpSt D cy B U ∧ B ≤ U.heap.size
def tpRm (d c s : Nat) : Room := { frames := d, cells := c, slots := s, locals := 43 * d }
def tpHd (M : tpM) : Cond := match mH M with
  | [] => .code (mY M) (mB M) (mL M) (mR M)
  | hh => .codeWith (mY M) (mB M) (mL M) (mR M) hh
def tpCT (M : tpM) (d : Nat) (av : List tpV) (h : tpH) (out : tpO) (h1 : tpH) : Prop :=
  hZ h ≤ hZ h1 ∧ hU h ≤ hU h1 ∧ ∀ (l : Launch) (D : va_G) (cy : Nat → ClassId) (B : Nat), l.flags = flags0 →
    vx_Met l (mY M) (tpHd M :: tpW) (tpRm d (hZ h1 - hZ h) (hU h1 - hU h)) (tpPc D cy B av h) (tpQc D cy B out h1) (tpXC D cy B out h1) (hZ h1 - hZ h) (hU h1 - hU h) (fun q => B ≤ q)
def tpC (M : tpM) (d : Nat) (av : List tpV) (h : tpH) (Ro : tpO → tpH → Prop) : Prop := ∃ (out : tpO) (h1 : tpH), Ro out h1 ∧ tpCT M d av h out h1
/-- what holds in a method's body; [(0, 0, 0, 0)]: of its handlers nothing is told -/
def tpX (M : tpM) (D : va_G) (cy : Nat → ClassId) (B : Nat) (l : Launch) (p : Program) (s : State) (m : MethodId) (meth : Method) (c : Code) (args : Array Value) : Prop :=
  l.flags = flags0 ∧ p.tables.exec = Jvm.exec ∧ c.code = mB M ∧ meth.sig.returnType = mR M ∧ meth.locks = false ∧ c.maxLocals = mL M ∧ s.vm.findClass (mY M).cls = some m.cls ∧ ((mY M).name = "<init>" → meth.name = "<init>") ∧ (c.exceptionTable.toList = tableOf (mH M) ∨ mH M = [(0, 0, 0, 0)]) ∧ (∀ w ∈ tpW, w.before args s = true) ∧ tpSt D cy B s ∧ B ≤ s.heap.size
def tpRN (M : tpM) (d : Nat) (h0 : tpH) (av : List tpV) (out : tpO) (h1 : tpH) (pc : Nat) (ls : List (Option tpV)) (st : List tpV) (h : tpH) : Prop :=
  hZ h ≤ hZ h1 ∧ hU h ≤ hU h1 ∧ ∀ (D : va_G) (cy : Nat → ClassId) (B : Nat) (l : Launch) (p : Program) (e : Env) (R : Room) (s : State) (m : MethodId) (meth : Method) (c : Code) (below : List Frame) (H : Heap) (locs : List Loc) (la : Array Slot),
    tpX M D cy B l p s m meth c (av.map tpv).toArray → (d ≤ R.frames ∧ 43 * d ≤ R.locals) → (hZ h1 - hZ h0 ≤ R.cells ∧ hU h1 - hU h0 ≤ R.slots) → (hZ h0 ≤ hZ h ∧ hU h0 ≤ hU h) → tpP D cy B h H → va_S (fun q => B ≤ q) s.heap H locs → tpLs (mL M) la ls →
    W p l e R s m (av.map tpv).toArray below meth c H locs (hZ h - hZ h0) (hU h - hU h0) (vx_MQ below (tpQc D cy B out h1) (tpXC D cy B out h1) (av.map tpv).toArray s (hZ h1 - hZ h0) (hU h1 - hU h0) (fun q => B ≤ q)) (F0 m pc la (st.map tpv))
def tpR (M : tpM) (d : Nat) (h0 : tpH) (av : List tpV) (Ro : tpO → tpH → Prop) (pc : Nat) (ls : List (Option tpV)) (st : List tpV) (h : tpH) : Prop :=
  ∃ (out : tpO) (h1 : tpH), Ro out h1 ∧ tpRN M d h0 av out h1 pc ls st h
/-! how runs go on -/
section Steps
variable {M : tpM} {d : Nat} {h0 : tpH} {av : List tpV} {Ro : tpO → tpH → Prop} {pc pc' : Nat} {ls ls' : List (Option tpV)} {st st' : List tpV} {h h' : tpH}
theorem tpR.s0 (k : tpR M d h0 av Ro pc' ls st' h)
    (f : ∀ {D : va_G} {cy : Nat → ClassId} {B : Nat} {l : Launch} {p : Program} {e : Env} {R : Room} {s : State} {m : MethodId} {meth : Method} {c : Code} {below : List Frame} {Q : State → Prop} {H : Heap} {locs : List Loc} {la : Array Slot} {cells slots : Nat}, tpX M D cy B l p s m meth c (av.map tpv).toArray → (d ≤ R.frames ∧ 43 * d ≤ R.locals ∧ cells ≤ R.cells ∧ slots ≤ R.slots) → tpP D cy B h H → tpLs (mL M) la ls →
      W p l e R s m (av.map tpv).toArray below meth c H locs cells slots Q (F0 m pc' la (st'.map tpv)) → W p l e R s m (av.map tpv).toArray below meth c H locs cells slots Q (F0 m pc la (st.map tpv))) : tpR M d h0 av Ro pc ls st h := by
  obtain ⟨out, h1, hR, z, u, g⟩ := k
  refine ⟨out, h1, hR, z, u, fun D cy B l p e R s m meth c below H locs la X r1 r2 r3 hP hS hL => ?_⟩
  exact f X ⟨r1.1, r1.2, by omega, by omega⟩ hP hL (g D cy B l p e R s m meth c below H locs la X r1 r2 r3 hP hS hL)
theorem tpR.sl (k : tpR M d h0 av Ro pc' ls' st' h)
    (f : ∀ {D : va_G} {cy : Nat → ClassId} {B : Nat} {l : Launch} {p : Program} {e : Env} {R : Room} {s : State} {m : MethodId} {meth : Method} {c : Code} {below : List Frame} {Q : State → Prop} {H : Heap} {locs : List Loc} {la : Array Slot} {cells slots : Nat}, tpX M D cy B l p s m meth c (av.map tpv).toArray → tpLs (mL M) la ls →
      (∀ la' : Array Slot, tpLs (mL M) la' ls' → W p l e R s m (av.map tpv).toArray below meth c H locs cells slots Q (F0 m pc' la' (st'.map tpv))) → W p l e R s m (av.map tpv).toArray below meth c H locs cells slots Q (F0 m pc la (st.map tpv))) : tpR M d h0 av Ro pc ls st h := by
  obtain ⟨out, h1, hR, z, u, g⟩ := k
  refine ⟨out, h1, hR, z, u, fun D cy B l p e R s m meth c below H locs la X r1 r2 r3 hP hS hL => ?_⟩
  exact f X hL (fun la' hL' => g D cy B l p e R s m meth c below H locs la' X r1 r2 r3 hP hS hL')
/-- ls' tells less -/
theorem tpR.fo (k : tpR M d h0 av Ro pc ls' st h) (hs : tpFo ls ls') : tpR M d h0 av Ro pc ls st h := by
  obtain ⟨out, h1, hR, z, u, g⟩ := k
  exact ⟨out, h1, hR, z, u, fun D cy B l p e R s m meth c below H locs la X r1 r2 r3 hP hS hL => g D cy B l p e R s m meth c below H locs la X r1 r2 r3 hP hS (hL.fo hs.of)⟩
/-- a write -/
theorem tpR.sh (k : tpR M d h0 av Ro pc' ls st' h') (hz : hZ h' = hZ h) (hu : hU h' = hU h)
    (f : ∀ {D : va_G} {cy : Nat → ClassId} {B : Nat} {l : Launch} {p : Program} {e : Env} {R : Room} {s : State} {m : MethodId} {meth : Method} {c : Code} {below : List Frame} {Q : State → Prop} {H : Heap} {locs : List Loc} {la : Array Slot} {cells slots : Nat}, tpX M D cy B l p s m meth c (av.map tpv).toArray → (d ≤ R.frames ∧ 43 * d ≤ R.locals ∧ cells ≤ R.cells ∧ slots ≤ R.slots) → tpP D cy B h H → va_S (fun q => B ≤ q) s.heap H locs → tpLs (mL M) la ls →
      (∀ (H' : Heap) (locs' : List Loc), tpP D cy B h' H' → va_S (fun q => B ≤ q) s.heap H' locs' → W p l e R s m (av.map tpv).toArray below meth c H' locs' cells slots Q (F0 m pc' la (st'.map tpv))) → W p l e R s m (av.map tpv).toArray below meth c H locs cells slots Q (F0 m pc la (st.map tpv))) : tpR M d h0 av Ro pc ls st h := by
  obtain ⟨out, h1, hR, z, u, g⟩ := k
  rw [hz] at z
  rw [hu] at u
  refine ⟨out, h1, hR, z, u, fun D cy B l p e R s m meth c below H locs la X r1 r2 r3 hP hS hL => ?_⟩
  refine f X ⟨r1.1, r1.2, by omega, by omega⟩ hP hS hL (fun H' locs' hP' hS' => ?_)
  have g2 := g D cy B l p e R s m meth c below H' locs' la X r1 r2 ⟨by omega, by omega⟩ hP' hS' hL
  rw [hz, hu] at g2
  exact g2
/-- a new cell of n slots -/
theorem tpR.sn {k0 n0 n : Nat} (k : tpR M d h0 av Ro pc' ls st' (nC h k0 n0 n))
    (f : ∀ {D : va_G} {cy : Nat → ClassId} {B : Nat} {l : Launch} {p : Program} {e : Env} {R : Room} {s : State} {m : MethodId} {meth : Method} {c : Code} {below : List Frame} {Q : State → Prop} {H : Heap} {locs : List Loc} {la : Array Slot} {cells slots : Nat}, tpX M D cy B l p s m meth c (av.map tpv).toArray → (d ≤ R.frames ∧ 43 * d ≤ R.locals ∧ cells + 1 ≤ R.cells ∧ slots + n ≤ R.slots) → tpP D cy B h H → va_S (fun q => B ≤ q) s.heap H locs → tpLs (mL M) la ls →
      (∀ (H' : Heap), tpP D cy B (nC h k0 n0 n) H' → va_S (fun q => B ≤ q) s.heap H' locs → W p l e R s m (av.map tpv).toArray below meth c H' locs (cells + 1) (slots + n) Q (F0 m pc' la (st'.map tpv))) → W p l e R s m (av.map tpv).toArray below meth c H locs cells slots Q (F0 m pc la (st.map tpv))) : tpR M d h0 av Ro pc ls st h := by
  obtain ⟨out, h1, hR, z, u, g⟩ := k
  have ez : hZ (nC h k0 n0 n) = hZ h + 1 := rfl
  have eu : hU (nC h k0 n0 n) = hU h + n := rfl
  rw [ez] at z
  rw [eu] at u
  refine ⟨out, h1, hR, by omega, by omega, fun D cy B l p e R s m meth c below H locs la X r1 r2 r3 hP hS hL => ?_⟩
  refine f X ⟨r1.1, r1.2, by omega, by omega⟩ hP hS hL (fun H' hP' hS' => ?_)
  have g2 := g D cy B l p e R s m meth c below H' locs la X r1 r2 ⟨by omega, by omega⟩ hP' hS' hL
  rw [ez, eu, show hZ h + 1 - hZ h0 = hZ h - hZ h0 + 1 by omega, show hU h + n - hU h0 = hU h - hU h0 + n by omega] at g2
  exact g2
theorem tq_iconst {n : Int} {v : Int32} (hd : decode (mB M) pc = .ok (.iconst n, 1)) (hv : Int32.ofInt n = v) (k : tpR M d h0 av Ro (pc + 1) ls (vI v :: st) h) : tpR M d h0 av Ro pc ls st h :=
  k.s0 fun X _ _ _ W => lv_iconst X.2.1 X.2.2.1 hd hv W
theorem tq_bipush {n : Int} {v : Int32} (hd : decode (mB M) pc = .ok (.bipush n, 2)) (hv : (Int8.ofInt n).toInt32 = v) (k : tpR M d h0 av Ro (pc + 2) ls (vI v :: st) h) : tpR M d h0 av Ro pc ls st h :=
  k.s0 fun X _ _ _ W => lv_bipush X.2.1 X.2.2.1 hd hv W
theorem tq_sipush {n : Int} {v : Int32} (hd : decode (mB M) pc = .ok (.sipush n, 3)) (hv : (Int16.ofInt n).toInt32 = v) (k : tpR M d h0 av Ro (pc + 3) ls (vI v :: st) h) : tpR M d h0 av Ro pc ls st h :=
  k.s0 fun X _ _ _ W => lv_sipush X.2.1 X.2.2.1 hd hv W
theorem tq_lconst {n : Fin 2} {v : Int64} (hd : decode (mB M) pc = .ok (.lconst n, 1)) (hv : Int64.ofNat (n : Nat) = v) (k : tpR M d h0 av Ro (pc + 1) ls (vJ v :: st) h) : tpR M d h0 av Ro pc ls st h :=
  k.s0 fun X _ _ _ W => lv_lconst X.2.1 X.2.2.1 hd hv W
theorem tq_fconst0 (hd : decode (mB M) pc = .ok (.fconst 0, 1)) (k : tpR M d h0 av Ro (pc + 1) ls (vF FP.fconst0 :: st) h) : tpR M d h0 av Ro pc ls st h :=
  k.s0 fun X _ _ _ W => lv_fconst0 X.2.1 X.2.2.1 hd W
theorem tq_fconst1 (hd : decode (mB M) pc = .ok (.fconst 1, 1)) (k : tpR M d h0 av Ro (pc + 1) ls (vF FP.fconst1 :: st) h) : tpR M d h0 av Ro pc ls st h :=
  k.s0 fun X _ _ _ W => lv_fconst1 X.2.1 X.2.2.1 hd W
theorem tq_null (hd : decode (mB M) pc = .ok (.aconst_null, 1)) (k : tpR M d h0 av Ro (pc + 1) ls (vR none :: st) h) : tpR M d h0 av Ro pc ls st h :=
  k.s0 fun X _ _ _ W => lv_null X.2.1 X.2.2.1 hd W
theorem tq_ldci {i : Nat} {v : Int32} (hd : decode (mB M) pc = .ok (.ldc i, 2)) (hc : Cond.constant (mY M).cls i v ∈ tpW) (k : tpR M d h0 av Ro (pc + 2) ls (vI v :: st) h) : tpR M d h0 av Ro pc ls st h :=
  k.s0 fun X _ _ _ W => lv_ldc X.2.1 X.2.2.1 X.2.2.2.2.2.2.1 (X.2.2.2.2.2.2.2.2.2.1 _ hc) hd W
theorem tq_ldcf {i : Nat} {v : UInt32} (hd : decode (mB M) pc = .ok (.ldc i, 2)) (hc : Cond.constantFloat (mY M).cls i v ∈ tpW) (k : tpR M d h0 av Ro (pc + 2) ls (vF v :: st) h) : tpR M d h0 av Ro pc ls st h :=
  k.s0 fun X _ _ _ W => lv_ldcf X.2.1 X.2.2.1 X.2.2.2.2.2.2.1 (X.2.2.2.2.2.2.2.2.2.1 _ hc) hd W
theorem tq_iload {i : Nat} {x : Int32} (hd : decode (mB M) pc = .ok (.iload i, 2)) (hl : ls[i]? = some (some (vI x))) (k : tpR M d h0 av Ro (pc + 2) ls (vI x :: st) h) : tpR M d h0 av Ro pc ls st h :=
  k.s0 fun X _ _ hL W => lv_iload X.2.1 X.2.2.1 hd (hL.at hl) W
theorem tq_iload_n {j : Fin 4} {i : Nat} {x : Int32} (hd : decode (mB M) pc = .ok (.iload_n j, 1)) (hj : (j : Nat) = i) (hl : ls[i]? = some (some (vI x))) (k : tpR M d h0 av Ro (pc + 1) ls (vI x :: st) h) : tpR M d h0 av Ro pc ls st h :=
  k.s0 fun X _ _ hL W => lv_iload_n X.2.1 X.2.2.1 hd hj (hL.at hl) W
theorem tq_fload {i : Nat} {x : UInt32} (hd : decode (mB M) pc = .ok (.fload i, 2)) (hl : ls[i]? = some (some (vF x))) (k : tpR M d h0 av Ro (pc + 2) ls (vF x :: st) h) : tpR M d h0 av Ro pc ls st h :=
  k.s0 fun X _ _ hL W => lv_fload X.2.1 X.2.2.1 hd (hL.at hl) W
theorem tq_aload {i : Nat} {x : Option Nat} (hd : decode (mB M) pc = .ok (.aload i, 2)) (hl : ls[i]? = some (some (vR x))) (k : tpR M d h0 av Ro (pc + 2) ls (vR x :: st) h) : tpR M d h0 av Ro pc ls st h := by
  cases x with
  | none => exact k.s0 fun X _ _ hL W => lv_aloadN X.2.1 X.2.2.1 hd (hL.at hl) W
  | some a => exact k.s0 fun X _ _ hL W => lv_aload X.2.1 X.2.2.1 hd (hL.at hl) W
theorem tq_aload_n {j : Fin 4} {i : Nat} {x : Option Nat} (hd : decode (mB M) pc = .ok (.aload_n j, 1)) (hj : (j : Nat) = i) (hl : ls[i]? = some (some (vR x))) (k : tpR M d h0 av Ro (pc + 1) ls (vR x :: st) h) : tpR M d h0 av Ro pc ls st h := by
  cases x with
  | none => exact k.s0 fun X _ _ hL W => lv_aload_nN X.2.1 X.2.2.1 hd hj (hL.at hl) W
  | some a => exact k.s0 fun X _ _ hL W => lv_aload_n X.2.1 X.2.2.1 hd hj (hL.at hl) W
theorem tq_istore {i : Nat} {x : Int32} (hd : decode (mB M) pc = .ok (.istore i, 2)) (hn : i < mL M) (hl : ls.set i (some (vI x)) = ls') (k : tpR M d h0 av Ro (pc + 2) ls' st h) : tpR M d h0 av Ro pc ls (vI x :: st) h :=
  k.sl fun X hL W => lv_istore X.2.1 X.2.2.1 hd hL.1 hn rfl (fun la h2 => W la (hL.st rfl hl h2))
theorem tq_fstore {i : Nat} {x : UInt32} (hd : decode (mB M) pc = .ok (.fstore i, 2)) (hn : i < mL M) (hl : ls.set i (some (vF x)) = ls') (k : tpR M d h0 av Ro (pc + 2) ls' st h) : tpR M d h0 av Ro pc ls (vF x :: st) h :=
  k.sl fun X hL W => lv_fstore X.2.1 X.2.2.1 hd hL.1 hn rfl (fun la h2 => W la (hL.st rfl hl h2))
theorem tq_istore_n {j : Fin 4} {i : Nat} {x : Int32} (hd : decode (mB M) pc = .ok (.istore_n j, 1)) (hj : (j : Nat) = i) (hn : i < mL M) (hl : ls.set i (some (vI x)) = ls') (k : tpR M d h0 av Ro (pc + 1) ls' st h) : tpR M d h0 av Ro pc ls (vI x :: st) h :=
  k.sl fun X hL W => lv_istore_n X.2.1 X.2.2.1 hd hj hL.1 hn rfl (fun la h2 => W la (hL.st rfl hl h2))
theorem tq_astore {i : Nat} {x : Option Nat} (hd : decode (mB M) pc = .ok (.astore i, 2)) (hn : i < mL M) (hl : ls.set i (some (vR x)) = ls') (k : tpR M d h0 av Ro (pc + 2) ls' st h) : tpR M d h0 av Ro pc ls (vR x :: st) h := by
  cases x with
  | none => exact k.sl fun X hL W => lv_astoreN X.2.1 X.2.2.1 hd hL.1 hn rfl (fun la h2 => W la (hL.st (v := vR none) rfl hl h2))
  | some a => exact k.sl fun X hL W => lv_astore X.2.1 X.2.2.1 hd hL.1 hn rfl (fun la h2 => W la (hL.st (v := vR (some a)) rfl hl h2))
theorem tq_astore_n {j : Fin 4} {i : Nat} {x : Option Nat} (hd : decode (mB M) pc = .ok (.astore_n j, 1)) (hj : (j : Nat) = i) (hn : i < mL M) (hl : ls.set i (some (vR x)) = ls') (k : tpR M d h0 av Ro (pc + 1) ls' st h) : tpR M d h0 av Ro pc ls (vR x :: st) h := by
  cases x with
  | none => exact k.sl fun X hL W => lv_astore_nN X.2.1 X.2.2.1 hd hj hL.1 hn rfl (fun la h2 => W la (hL.st (v := vR none) rfl hl h2))
  | some a => exact k.sl fun X hL W => lv_astore_n X.2.1 X.2.2.1 hd hj hL.1 hn rfl (fun la h2 => W la (hL.st (v := vR (some a)) rfl hl h2))
theorem tpLs.ix {n : Nat} {la : Array Slot} {ls : List (Option tpV)} (h : tpLs n la ls) {i : Nat} {v : tpV} (hi : ls[i]? = some (some v)) : ∃ k : Nat, (tpPr 0 ls)[k]? = some (i, tpv v) := by
  have h2 := tpPr_mem ls 0 i v hi
  rw [Nat.zero_add] at h2
  exact List.getElem?_of_mem h2
theorem tq_iinc {i : Nat} {n : Int} {x v : Int32} (hd : decode (mB M) pc = .ok (.iinc i n, 3)) (hx : ls[i]? = some (some (vI x))) (hv : x + Int32.ofInt n = v) (hn : i < mL M) (hl : ls.set i (some (vI v)) = ls') (k : tpR M d h0 av Ro (pc + 3) ls' st h) : tpR M d h0 av Ro pc ls st h :=
  k.sl fun X hL W => by
    obtain ⟨k0, hk0⟩ := hL.ix hx
    exact lv_iinc X.2.1 X.2.2.1 hd hL.1 hk0 hv hn rfl (fun la h2 => W la (hL.st (v := vI v) rfl hl h2))
theorem tq_iadd {x y : Int32} (hd : decode (mB M) pc = .ok (.iadd, 1)) (k : tpR M d h0 av Ro (pc + 1) ls (vI (x + y) :: st) h) : tpR M d h0 av Ro pc ls (vI y :: vI x :: st) h :=
  k.s0 fun X _ _ _ W => lv_iadd X.2.1 X.2.2.1 hd W
theorem tq_isub {x y : Int32} (hd : decode (mB M) pc = .ok (.isub, 1)) (k : tpR M d h0 av Ro (pc + 1) ls (vI (x - y) :: st) h) : tpR M d h0 av Ro pc ls (vI y :: vI x :: st) h :=
  k.s0 fun X _ _ _ W => lv_isub X.2.1 X.2.2.1 hd W
theorem tq_imul {x y : Int32} (hd : decode (mB M) pc = .ok (.imul, 1)) (k : tpR M d h0 av Ro (pc + 1) ls (vI (x * y) :: st) h) : tpR M d h0 av Ro pc ls (vI y :: vI x :: st) h :=
  k.s0 fun X _ _ _ W => lv_imul X.2.1 X.2.2.1 hd W
theorem tq_iand {x y : Int32} (hd : decode (mB M) pc = .ok (.iand, 1)) (k : tpR M d h0 av Ro (pc + 1) ls (vI (x &&& y) :: st) h) : tpR M d h0 av Ro pc ls (vI y :: vI x :: st) h :=
  k.s0 fun X _ _ _ W => lv_iand X.2.1 X.2.2.1 hd W
theorem tq_ior {x y : Int32} (hd : decode (mB M) pc = .ok (.ior, 1)) (k : tpR M d h0 av Ro (pc + 1) ls (vI (x ||| y) :: st) h) : tpR M d h0 av Ro pc ls (vI y :: vI x :: st) h :=
  k.s0 fun X _ _ _ W => lv_ior X.2.1 X.2.2.1 hd W
theorem tq_ishl {x y : Int32} (hd : decode (mB M) pc = .ok (.ishl, 1)) (k : tpR M d h0 av Ro (pc + 1) ls (vI (x <<< (y &&& 31)) :: st) h) : tpR M d h0 av Ro pc ls (vI y :: vI x :: st) h :=
  k.s0 fun X _ _ _ W => lv_ishl X.2.1 X.2.2.1 hd W
theorem tq_ishr {x y : Int32} (hd : decode (mB M) pc = .ok (.ishr, 1)) (k : tpR M d h0 av Ro (pc + 1) ls (vI (x >>> (y &&& 31)) :: st) h) : tpR M d h0 av Ro pc ls (vI y :: vI x :: st) h :=
  k.s0 fun X _ _ _ W => lv_ishr X.2.1 X.2.2.1 hd W
theorem tq_idiv {x y : Int32} (hd : decode (mB M) pc = .ok (.idiv, 1)) (hy : ¬ y = 0) (k : tpR M d h0 av Ro (pc + 1) ls (vI (x / y) :: st) h) : tpR M d h0 av Ro pc ls (vI y :: vI x :: st) h :=
  k.s0 fun X _ _ _ W => lv_idiv X.2.1 X.2.2.1 hd hy W
theorem tq_irem {x y : Int32} (hd : decode (mB M) pc = .ok (.irem, 1)) (hy : ¬ y = 0) (k : tpR M d h0 av Ro (pc + 1) ls (vI (x - x / y * y) :: st) h) : tpR M d h0 av Ro pc ls (vI y :: vI x :: st) h :=
  k.s0 fun X _ _ _ W => lv_irem X.2.1 X.2.2.1 hd hy W
theorem tq_i2l {x : Int32} (hd : decode (mB M) pc = .ok (.i2l, 1)) (k : tpR M d h0 av Ro (pc + 1) ls (vJ x.toInt64 :: st) h) : tpR M d h0 av Ro pc ls (vI x :: st) h :=
  k.s0 fun X _ _ _ W => lv_i2l X.2.1 X.2.2.1 hd rfl W
theorem tq_i2f {x : Int32} (hd : decode (mB M) pc = .ok (.i2f, 1)) (k : tpR M d h0 av Ro (pc + 1) ls (vF (FP.i2f x) :: st) h) : tpR M d h0 av Ro pc ls (vI x :: st) h :=
  k.s0 fun X _ _ _ W => lv_i2f X.2.1 X.2.2.1 hd W
theorem tq_f2d {x : UInt32} (hd : decode (mB M) pc = .ok (.f2d, 1)) (hn : vf_n64 (FP.f2d x)) (k : tpR M d h0 av Ro (pc + 1) ls (vD (FP.f2d x) :: st) h) : tpR M d h0 av Ro pc ls (vF x :: st) h :=
  k.s0 fun X _ _ _ W => lv_f2d X.2.1 X.2.2.1 hd hn W
theorem tq_fdiv {x y : UInt32} (hd : decode (mB M) pc = .ok (.fdiv, 1)) (hn : vf_n32 (FP.fdiv x y)) (k : tpR M d h0 av Ro (pc + 1) ls (vF (FP.fdiv x y) :: st) h) : tpR M d h0 av Ro pc ls (vF y :: vF x :: st) h :=
  k.s0 fun X _ _ _ W => lv_fdiv X.2.1 X.2.2.1 hd hn W
theorem tq_fcmp {x y : UInt32} {op : CmpOp} (hd : decode (mB M) pc = .ok (.fcmp op, 1)) (k : tpR M d h0 av Ro (pc + 1) ls (vI (Op.cmpValue (FP.fcmp x y) op) :: st) h) : tpR M d h0 av Ro pc ls (vF y :: vF x :: st) h :=
  k.s0 fun X _ _ _ W => lv_fcmp X.2.1 X.2.2.1 hd W
theorem tq_dcmp {x y : UInt64} {op : CmpOp} (hd : decode (mB M) pc = .ok (.dcmp op, 1)) (k : tpR M d h0 av Ro (pc + 1) ls (vI (Op.cmpValue (FP.dcmp x y) op) :: st) h) : tpR M d h0 av Ro pc ls (vD y :: vD x :: st) h :=
  k.s0 fun X _ _ _ W => lv_dcmp X.2.1 X.2.2.1 hd W
theorem tq_lcmp {x y : Int64} (hd : decode (mB M) pc = .ok (.lcmp, 1)) (k : tpR M d h0 av Ro (pc + 1) ls (vI (lg_cmp x y) :: st) h) : tpR M d h0 av Ro pc ls (vJ y :: vJ x :: st) h :=
  k.s0 fun X _ _ _ W0 => W.lcmp X.2.1 X.2.2.1 hd W0
theorem tq_dup {v : tpV} (hd : decode (mB M) pc = .ok (.dup, 1)) (hv : tpc v = 1) (k : tpR M d h0 av Ro (pc + 1) ls (v :: v :: st) h) : tpR M d h0 av Ro pc ls (v :: st) h :=
  k.s0 fun X _ _ _ W => lv_dup X.2.1 X.2.2.1 hd ((tpv_cat v).trans hv) W
theorem tq_pop {v : tpV} (hd : decode (mB M) pc = .ok (.pop, 1)) (hv : tpc v = 1) (k : tpR M d h0 av Ro (pc + 1) ls st h) : tpR M d h0 av Ro pc ls (v :: st) h :=
  k.s0 fun X _ _ _ W => lv_pop X.2.1 X.2.2.1 hd ((tpv_cat v).trans hv) W
theorem tq_dup2 {v w : tpV} (hd : decode (mB M) pc = .ok (.dup2, 1)) (hv : tpc v = 1) (hw : tpc w = 1) (k : tpR M d h0 av Ro (pc + 1) ls (v :: w :: v :: w :: st) h) : tpR M d h0 av Ro pc ls (v :: w :: st) h :=
  k.s0 fun X _ _ _ W => lv_dup2_11 X.2.1 X.2.2.1 hd ((tpv_cat v).trans hv) ((tpv_cat w).trans hw) W
theorem tq_ifeq {x : Int32} {off : Int} {tgt : Nat} (hd : decode (mB M) pc = .ok (.ifCond .eq off, 3)) (ht : (pc : Int) + off = (tgt : Int)) (kt : x = 0 → tpR M d h0 av Ro tgt ls st h) (kf : ¬ x = 0 → tpR M d h0 av Ro (pc + 3) ls st h) : tpR M d h0 av Ro pc ls (vI x :: st) h := by
  by_cases hc : x = 0
  · exact (kt hc).s0 fun X _ _ _ W => lv_if_eq X.2.1 X.2.2.1 hd ht (fun _ => W) (fun n => absurd hc n)
  · exact (kf hc).s0 fun X _ _ _ W => lv_if_eq X.2.1 X.2.2.1 hd ht (fun n => absurd n hc) (fun _ => W)
theorem tq_icmpeq {x y : Int32} {off : Int} {tgt : Nat} (hd : decode (mB M) pc = .ok (.if_icmp .eq off, 3)) (ht : (pc : Int) + off = (tgt : Int)) (kt : x = y → tpR M d h0 av Ro tgt ls st h) (kf : ¬ x = y → tpR M d h0 av Ro (pc + 3) ls st h) : tpR M d h0 av Ro pc ls (vI y :: vI x :: st) h := by
  by_cases hc : x = y
  · exact (kt hc).s0 fun X _ _ _ W => lv_icmp_eq X.2.1 X.2.2.1 hd ht (fun _ => W) (fun n => absurd hc n)
  · exact (kf hc).s0 fun X _ _ _ W => lv_icmp_eq X.2.1 X.2.2.1 hd ht (fun n => absurd n hc) (fun _ => W)
theorem tq_ifne {x : Int32} {off : Int} {tgt : Nat} (hd : decode (mB M) pc = .ok (.ifCond .ne off, 3)) (ht : (pc : Int) + off = (tgt : Int)) (kt : ¬ x = 0 → tpR M d h0 av Ro tgt ls st h) (kf : x = 0 → tpR M d h0 av Ro (pc + 3) ls st h) : tpR M d h0 av Ro pc ls (vI x :: st) h := by
  by_cases hc : x = 0
  · exact (kf hc).s0 fun X _ _ _ W => lv_if_ne X.2.1 X.2.2.1 hd ht (fun n => absurd hc n) (fun _ => W)
  · exact (kt hc).s0 fun X _ _ _ W => lv_if_ne X.2.1 X.2.2.1 hd ht (fun _ => W) (fun n => absurd n hc)
theorem tq_icmpne {x y : Int32} {off : Int} {tgt : Nat} (hd : decode (mB M) pc = .ok (.if_icmp .ne off, 3)) (ht : (pc : Int) + off = (tgt : Int)) (kt : ¬ x = y → tpR M d h0 av Ro tgt ls st h) (kf : x = y → tpR M d h0 av Ro (pc + 3) ls st h) : tpR M d h0 av Ro pc ls (vI y :: vI x :: st) h := by
  by_cases hc : x = y
  · exact (kf hc).s0 fun X _ _ _ W => lv_icmp_ne X.2.1 X.2.2.1 hd ht (fun n => absurd hc n) (fun _ => W)
  · exact (kt hc).s0 fun X _ _ _ W => lv_icmp_ne X.2.1 X.2.2.1 hd ht (fun _ => W) (fun n => absurd n hc)
theorem tq_iflt {x : Int32} {off : Int} {tgt : Nat} (hd : decode (mB M) pc = .ok (.ifCond .lt off, 3)) (ht : (pc : Int) + off = (tgt : Int)) (kt : x < 0 → tpR M d h0 av Ro tgt ls st h) (kf : ¬ x < 0 → tpR M d h0 av Ro (pc + 3) ls st h) : tpR M d h0 av Ro pc ls (vI x :: st) h := by
  by_cases hc : x < 0
  · exact (kt hc).s0 fun X _ _ _ W => lv_if_lt X.2.1 X.2.2.1 hd ht (fun _ => W) (fun n => absurd hc n)
  · exact (kf hc).s0 fun X _ _ _ W => lv_if_lt X.2.1 X.2.2.1 hd ht (fun n => absurd n hc) (fun _ => W)
theorem tq_icmplt {x y : Int32} {off : Int} {tgt : Nat} (hd : decode (mB M) pc = .ok (.if_icmp .lt off, 3)) (ht : (pc : Int) + off = (tgt : Int)) (kt : x < y → tpR M d h0 av Ro tgt ls st h) (kf : ¬ x < y → tpR M d h0 av Ro (pc + 3) ls st h) : tpR M d h0 av Ro pc ls (vI y :: vI x :: st) h := by
  by_cases hc : x < y
  · exact (kt hc).s0 fun X _ _ _ W => lv_icmp_lt X.2.1 X.2.2.1 hd ht (fun _ => W) (fun n => absurd hc n)
  · exact (kf hc).s0 fun X _ _ _ W => lv_icmp_lt X.2.1 X.2.2.1 hd ht (fun n => absurd n hc) (fun _ => W)
theorem tq_ifge {x : Int32} {off : Int} {tgt : Nat} (hd : decode (mB M) pc = .ok (.ifCond .ge off, 3)) (ht : (pc : Int) + off = (tgt : Int)) (kt : 0 ≤ x → tpR M d h0 av Ro tgt ls st h) (kf : ¬ 0 ≤ x → tpR M d h0 av Ro (pc + 3) ls st h) : tpR M d h0 av Ro pc ls (vI x :: st) h := by
  by_cases hc : 0 ≤ x
  · exact (kt hc).s0 fun X _ _ _ W => lv_if_ge X.2.1 X.2.2.1 hd ht (fun _ => W) (fun n => absurd hc n)
  · exact (kf hc).s0 fun X _ _ _ W => lv_if_ge X.2.1 X.2.2.1 hd ht (fun n => absurd n hc) (fun _ => W)
theorem tq_icmpge {x y : Int32} {off : Int} {tgt : Nat} (hd : decode (mB M) pc = .ok (.if_icmp .ge off, 3)) (ht : (pc : Int) + off = (tgt : Int)) (kt : y ≤ x → tpR M d h0 av Ro tgt ls st h) (kf : ¬ y ≤ x → tpR M d h0 av Ro (pc + 3) ls st h) : tpR M d h0 av Ro pc ls (vI y :: vI x :: st) h := by
  by_cases hc : y ≤ x
  · exact (kt hc).s0 fun X _ _ _ W => lv_icmp_ge X.2.1 X.2.2.1 hd ht (fun _ => W) (fun n => absurd hc n)
  · exact (kf hc).s0 fun X _ _ _ W => lv_icmp_ge X.2.1 X.2.2.1 hd ht (fun n => absurd n hc) (fun _ => W)
theorem tq_ifgt {x : Int32} {off : Int} {tgt : Nat} (hd : decode (mB M) pc = .ok (.ifCond .gt off, 3)) (ht : (pc : Int) + off = (tgt : Int)) (kt : 0 < x → tpR M d h0 av Ro tgt ls st h) (kf : ¬ 0 < x → tpR M d h0 av Ro (pc + 3) ls st h) : tpR M d h0 av Ro pc ls (vI x :: st) h := by
  by_cases hc : 0 < x
  · exact (kt hc).s0 fun X _ _ _ W => lv_if_gt X.2.1 X.2.2.1 hd ht (fun _ => W) (fun n => absurd hc n)
  · exact (kf hc).s0 fun X _ _ _ W => lv_if_gt X.2.1 X.2.2.1 hd ht (fun n => absurd n hc) (fun _ => W)
theorem tq_icmpgt {x y : Int32} {off : Int} {tgt : Nat} (hd : decode (mB M) pc = .ok (.if_icmp .gt off, 3)) (ht : (pc : Int) + off = (tgt : Int)) (kt : y < x → tpR M d h0 av Ro tgt ls st h) (kf : ¬ y < x → tpR M d h0 av Ro (pc + 3) ls st h) : tpR M d h0 av Ro pc ls (vI y :: vI x :: st) h := by
  by_cases hc : y < x
  · exact (kt hc).s0 fun X _ _ _ W => lv_icmp_gt X.2.1 X.2.2.1 hd ht (fun _ => W) (fun n => absurd hc n)
  · exact (kf hc).s0 fun X _ _ _ W => lv_icmp_gt X.2.1 X.2.2.1 hd ht (fun n => absurd n hc) (fun _ => W)
theorem tq_ifle {x : Int32} {off : Int} {tgt : Nat} (hd : decode (mB M) pc = .ok (.ifCond .le off, 3)) (ht : (pc : Int) + off = (tgt : Int)) (kt : x ≤ 0 → tpR M d h0 av Ro tgt ls st h) (kf : ¬ x ≤ 0 → tpR M d h0 av Ro (pc + 3) ls st h) : tpR M d h0 av Ro pc ls (vI x :: st) h := by
  by_cases hc : x ≤ 0
  · exact (kt hc).s0 fun X _ _ _ W => lv_if_le X.2.1 X.2.2.1 hd ht (fun _ => W) (fun n => absurd hc n)
  · exact (kf hc).s0 fun X _ _ _ W => lv_if_le X.2.1 X.2.2.1 hd ht (fun n => absurd n hc) (fun _ => W)
theorem tq_icmple {x y : Int32} {off : Int} {tgt : Nat} (hd : decode (mB M) pc = .ok (.if_icmp .le off, 3)) (ht : (pc : Int) + off = (tgt : Int)) (kt : x ≤ y → tpR M d h0 av Ro tgt ls st h) (kf : ¬ x ≤ y → tpR M d h0 av Ro (pc + 3) ls st h) : tpR M d h0 av Ro pc ls (vI y :: vI x :: st) h := by
  by_cases hc : x ≤ y
  · exact (kt hc).s0 fun X _ _ _ W => lv_icmp_le X.2.1 X.2.2.1 hd ht (fun _ => W) (fun n => absurd hc n)
  · exact (kf hc).s0 fun X _ _ _ W => lv_icmp_le X.2.1 X.2.2.1 hd ht (fun n => absurd n hc) (fun _ => W)
theorem tq_acmpne {x y : Option Nat} {off : Int} {tgt : Nat} (hd : decode (mB M) pc = .ok (.if_acmp .ne off, 3)) (ht : (pc : Int) + off = (tgt : Int)) (kt : ¬ x = y → tpR M d h0 av Ro tgt ls st h) (kf : x = y → tpR M d h0 av Ro (pc + 3) ls st h) : tpR M d h0 av Ro pc ls (vR y :: vR x :: st) h := by
  by_cases hc : x = y
  · exact (kf hc).s0 fun X _ _ _ W => lv_acmp_ne X.2.1 X.2.2.1 hd ht (fun n => absurd hc n) (fun _ => W)
  · exact (kt hc).s0 fun X _ _ _ W => lv_acmp_ne X.2.1 X.2.2.1 hd ht (fun _ => W) (fun n => absurd n hc)
theorem tq_goto {off : Int} {tgt : Nat} (hd : decode (mB M) pc = .ok (.goto off, 3)) (ht : (pc : Int) + off = (tgt : Int)) (k : tpR M d h0 av Ro tgt ls st h) : tpR M d h0 av Ro pc ls st h :=
  k.s0 fun X _ _ _ W => lv_goto X.2.1 X.2.2.1 hd ht W
theorem tq_ifnull {x : Option Nat} {off : Int} {tgt : Nat} (hd : decode (mB M) pc = .ok (.ifnull off, 3)) (ht : (pc : Int) + off = (tgt : Int)) (kt : x = none → tpR M d h0 av Ro tgt ls st h) (kf : ¬ x = none → tpR M d h0 av Ro (pc + 3) ls st h) : tpR M d h0 av Ro pc ls (vR x :: st) h := by
  cases x with
  | none => exact (kt rfl).s0 fun X _ _ _ W => lv_ifnullN X.2.1 X.2.2.1 hd ht W
  | some a => exact (kf (fun n => nomatch n)).s0 fun X _ _ _ W => lv_ifnull X.2.1 X.2.2.1 hd W
theorem tq_ifnonnull {x : Option Nat} {off : Int} {tgt : Nat} (hd : decode (mB M) pc = .ok (.ifnonnull off, 3)) (ht : (pc : Int) + off = (tgt : Int)) (kt : ¬ x = none → tpR M d h0 av Ro tgt ls st h) (kf : x = none → tpR M d h0 av Ro (pc + 3) ls st h) : tpR M d h0 av Ro pc ls (vR x :: st) h := by
  cases x with
  | none => exact (kf rfl).s0 fun X _ _ _ W => lv_ifnonnullN X.2.1 X.2.2.1 hd W
  | some a => exact (kt (fun n => nomatch n)).s0 fun X _ _ _ W => lv_ifnonnull X.2.1 X.2.2.1 hd ht W
theorem tq_swIn {dflt lo hi : Int} {offs : Array Int} {len : Nat} {x : Int32} {off : Int} {tgt : Nat} (v : Int) (hx : x.toInt = v) (hd : decode (mB M) pc = .ok (.tableswitch dflt lo hi offs, len)) (h1 : ¬ v < lo) (h2 : ¬ hi < v) (ho : offs[(v - lo).toNat]? = some off) (ht : (pc : Int) + off = (tgt : Int)) (k : tpR M d h0 av Ro tgt ls st h) : tpR M d h0 av Ro pc ls (vI x :: st) h := by
  subst hx
  exact k.s0 fun X _ _ _ W => lv_tableIn X.2.1 X.2.2.1 hd h1 h2 ho ht W
theorem tq_swOut {dflt lo hi : Int} {offs : Array Int} {len : Nat} {x : Int32} {tgt : Nat} (hd : decode (mB M) pc = .ok (.tableswitch dflt lo hi offs, len)) (h1 : x.toInt < lo ∨ hi < x.toInt) (ht : (pc : Int) + dflt = (tgt : Int)) (k : tpR M d h0 av Ro tgt ls st h) : tpR M d h0 av Ro pc ls (vI x :: st) h :=
  k.s0 fun X _ _ _ W => lv_tableOut X.2.1 X.2.2.1 hd h1 ht W
end Steps
end TPR
