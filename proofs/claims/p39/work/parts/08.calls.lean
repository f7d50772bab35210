section TPT
variable {p : Program} {l : Launch} {e : Env} {R : Room} {s : State} {m : MethodId} {args : Array Value} {below : List Frame} {meth : Method} {c : Code} {H : Heap} {locs : List Loc} {cells slots : Nat} {Q : State → Prop}
variable {mc ms : Nat} {free : Addr → Prop} {A0 A1 : Nat → Prop} {H0 : Heap} {a : Array Value} {ls : Array Slot} {st0 rest : List Value}
variable {Qc : Array Value → State → Outcome → State → Prop} {XC : String → State → State → Prop}
theorem tp_throwS {cc : ByteArray} {pc : Nat} (hexec : p.tables.exec = Jvm.exec) (hb : c.code = cc) (hl : l.stackTraces = false) {own cls text : String} {names : List String} {ik is ic mc ms sa : Nat} {A : Nat → Prop}
    (hown : s.vm.findClass own = some m.cls) (hcls : Bundle.fit cls = true) (hnames : ∀ n ∈ names, Bundle.fit n = true)
    (hk : (Cond.classLink own ik cls).before args s = true) (hini : (Cond.initialized cls).before args s = true) (hstr : vk_R own is text sa s) (hat : ∀ w ∈ vx_atS own ic cls names, w.before args s = true)
    (hgood : ∀ w ∈ Cond.classLink own ik cls :: Cond.initialized cls :: vx_atS own ic cls names, vx_ot w = true)
    (hU : vx_Zq Bundle.tN "UNASSIGNED_STACK" Bundle.steD A s s.heap) (hN : vx_Zq Bundle.tN "SUPPRESSED_SENTINEL" Bundle.listD A s s.heap) (hS : va_S A s.heap H locs) (hsize : ls.size = c.maxLocals)
    (d0 : decode cc pc = .ok (.new ik, 3)) (d3 : decode cc (pc + 3) = .ok (.dup, 1)) (d4 : decode cc (pc + 4) = .ok (.ldc is, 2)) (d6 : decode cc (pc + 6) = .ok (.invokespecial ic, 3)) (d9 : decode cc (pc + 9) = .ok (.athrow, 1))
    (hout : ∀ x ∈ c.exceptionTable.toList, covers x (pc + 9) = false)
    (hRframes : names.length + 3 < R.frames) (hRlocals : (rest.map fun v => v.category).sum + (13 * (names.length + 1) + 43) ≤ R.locals) (hRcells : cells + 1 ≤ R.cells) (hRslots : slots + 6 ≤ R.slots) (hlocks : meth.locks = false)
    (hx : ∀ t : State, s.vm.Alike t.vm → t.heap.size = H.size + 1 → (∀ q : Nat, q < H.size → t.heap[q]? = H[q]?) → XC cls s t)
    (hf : ∀ z ∈ locs, free z.base) (hc : cells + 1 ≤ mc) (hs : slots + 6 ≤ ms) :
    W p l e R s m args below meth c H locs cells slots (vx_MQ below Qc XC args s mc ms free) (F0 m pc ls rest) := by
  intro T hT X
  have htr : e.platform.stackTraces = false := (show e.platform.stackTraces = l.stackTraces by rw [X.admits.platform]).trans hl
  have Y := vx_rebase X (R' := { frames := R.frames, locals := R.locals, cells := 1, slots := 6 }) (Nat.le_refl _) (Nat.le_refl _) hRcells hRslots
  obtain ⟨s', hA⟩ : ∃ z, z = (T.setVm s.vm).setFrames (.invoking m args :: below) := ⟨_, rfl⟩
  rw [← hA] at Y
  have hvm : s'.vm = s.vm := by rw [hA]; rfl
  have hhp : s'.heap = H := by rw [hA]; exact hT
  have hW0 : s.WarmedH s'.vm := by rw [hvm]; exact State.WarmedH.refl s
  have hat' : ∀ w ∈ vx_atS own ic cls names, w.before args s' = true := fun w hw => vx_ot_at hW0 hvm.symm (hgood w (List.mem_cons_of_mem _ (List.mem_cons_of_mem _ hw))) (hat w hw)
  have hk' : (Cond.classLink own ik cls).before args s' = true := vx_ot_at hW0 hvm.symm (hgood _ List.mem_cons_self) hk
  have hini' : (Cond.initialized cls).before args s' = true := vx_ot_at hW0 hvm.symm (hgood _ (List.mem_cons_of_mem _ List.mem_cons_self)) hini
  have hU' : vx_Zq Bundle.tN "UNASSIGNED_STACK" Bundle.steD A s' s'.heap := by rw [hhp]; exact vx_Zq.moved hW0.alike (hU.kept hS.2.1)
  have hN' : vx_Zq Bundle.tN "SUPPRESSED_SENTINEL" Bundle.listD A s' s'.heap := by rw [hhp]; exact vx_Zq.moved hW0.alike (hN.kept hS.2.1)
  have h : ∀ w ∈ Bundle.ownAtoms own ic cls names, w.before args s' = true := vx_own hat' (vx_isRefq hU'.1) (vx_isRefq hN'.1) hU'.2.word hN'.2.word
  have hown' : s'.vm.findClass own = some m.cls := by rw [hvm]; exact hown
  have hins : (Cond.instantiable cls 6).before args s' = true := h _ (by simp [Bundle.ownAtoms])
  obtain ⟨vm₁, cX, kX, hfX, hkX, -, -, X₁, st1⟩ := Y.newCold hexec (own := own) (C := cls) (index := ik) (n := 6) hown' hk' hins hini'
    (g := F0 m pc ls rest) rfl (by rw [hb]; exact d0) (Nat.le_refl _) (Nat.le_refl _)
  generalize hT1 : (T.setVm vm₁).pushCell { cls := cX, slots := kX.instanceTypes.map defaultValue, vm := .none } = T1 at X₁ st1
  have hcat : (Value.ref T.heap.size).category = 1 := rfl
  have hcellA : T1.heap[T.heap.size]? = some (freshCell cX kX) := by rw [← hT1]; exact State.heap_pushCell_size _ _
  have d3' : decode c.code (pc + 3) = .ok (.dup, 1) := by rw [hb]; exact d3
  have d4' : decode c.code (pc + 4) = .ok (.ldc is, 2) := by rw [hb]; exact d4
  have hstr' : vk_R own is text sa s' := vk_R.warm hW0 hstr
  obtain ⟨U, hsteps, hrun, hend, hW, hsame, ce, hce, hO⟩ := X₁.ctorThrowS hexec htr (own := own) (cls := cls) (names := names) (ic := ic) hown' hcls hnames h (fun x hx => nomatch hx) hfX hkX hcellA (by rw [hhp, hT]; exact Nat.le_refl _) (msg := .ref sa) rfl
    (g := { method := m, pc := pc + 6, locals := ls, stack := .ref sa :: .ref T.heap.size :: .ref T.heap.size :: rest, locked := none }) rfl hsize rfl rfl (rest := rest) rfl
    (by rw [hb]; exact d6) (by rw [hb]; exact d9) hout hRframes (by simp only [List.map_cons, List.sum_cons, hcat]; omega) hlocks
  obtain ⟨f1, f2⟩ := vx_frame hsame
  rw [hhp] at f1 f2
  have hWs : s.WarmedH U.vm := State.WarmedH.trans hW0 hW
  have hcl : s.vm.findClass cls = some ce.cls := by
    have h9 := hO.cls
    rw [hvm] at h9
    exact h9
  have hup : U.heap.size ≤ H.size + 1 := by
    have hs9 := hsame
    subst hA
    obtain ⟨e1, e2⟩ := hs9
    rw [State.setFrames_setFrames] at e1
    have h2 : (T.setVm s.vm).sameButNew ({ U with vm := s.vm } : State) [] (0 + 1) (0 + 6) := ⟨e1, e2⟩
    have h3 := h2.2.2.1
    rw [← hT]
    exact h3
  have hlo : T.heap.size < U.heap.size := (Array.getElem?_eq_some_iff.mp hce).1
  rw [hT] at hlo
  have hall : s.sameButNew ({ U with vm := s.vm } : State) locs mc ms := by
    subst hA
    obtain ⟨e1, e2⟩ := hsame
    rw [State.setFrames_setFrames] at e1
    have h2 : (T.setVm s.vm).sameButNew ({ U with vm := s.vm } : State) [] (0 + 1) (0 + 6) := ⟨e1, e2⟩
    have h3 := X.same.trans h2
    rw [List.append_nil] at h3
    exact h3.mono hc hs
  refine ⟨U, ?_, .threw T.heap.size, hrun, hend, Or.inr ⟨T.heap.size, rfl, cls, ce, locs, hx U hWs.alike (by omega) (fun q hq => f2 q hq (fun z hz => nomatch hz)), hce, hO.vm, hcl, hWs, hall, hf⟩⟩
  refine st1 _ ?_
  show Steps p.tables e below (T1.setTop { method := m, pc := pc + 3, locals := ls, stack := .ref T.heap.size :: rest, locked := none }) _
  jvm_step X₁.here [X₁.here.top, hexec, d3', Value.category]
  exact X₁.ldcString hexec (own := own) (text := text) (index := is) (a := sa) hown' hstr'.1 hstr'.2
    (g := { method := m, pc := pc + 4, locals := ls, stack := .ref T.heap.size :: .ref T.heap.size :: rest, locked := none }) rfl d4' _ hsteps
theorem tp_throwSW {cc : ByteArray} {pc : Nat} (hexec : p.tables.exec = Jvm.exec) (hb : c.code = cc) (hl : l.stackTraces = false) {own cls text : String} {names : List String} {ik is ic mc ms sa : Nat} {A : Nat → Prop}
    (hown : s.vm.findClass own = some m.cls) (hcls : Bundle.fit cls = true) (hnames : ∀ n ∈ names, Bundle.fit n = true)
    (hk : (Cond.classLink own ik cls).before args s = true) (hini : (Cond.initialized cls).before args s = true) (hstr : vk_R own is text sa s) (hat : ∀ w ∈ vx_atS own ic cls names, w.before args s = true)
    (hgood : ∀ w ∈ Cond.classLink own ik cls :: Cond.initialized cls :: vx_atS own ic cls names, vx_ot w = true)
    (hU : vx_Zq Bundle.tN "UNASSIGNED_STACK" Bundle.steD A s s.heap) (hN : vx_Zq Bundle.tN "SUPPRESSED_SENTINEL" Bundle.listD A s s.heap) (hS : va_S A s.heap H locs) (hsize : ls.size = c.maxLocals)
    (d0 : decode cc pc = .ok (.new ik, 3)) (d3 : decode cc (pc + 3) = .ok (.dup, 1)) (d4 : decode cc (pc + 4) = .ok (.ldc_w is, 3)) (d7 : decode cc (pc + 7) = .ok (.invokespecial ic, 3)) (d10 : decode cc (pc + 10) = .ok (.athrow, 1))
    (hout : ∀ x ∈ c.exceptionTable.toList, covers x (pc + 10) = false)
    (hRframes : names.length + 3 < R.frames) (hRlocals : (rest.map fun v => v.category).sum + (13 * (names.length + 1) + 43) ≤ R.locals) (hRcells : cells + 1 ≤ R.cells) (hRslots : slots + 6 ≤ R.slots) (hlocks : meth.locks = false)
    (hx : ∀ t : State, s.vm.Alike t.vm → t.heap.size = H.size + 1 → (∀ q : Nat, q < H.size → t.heap[q]? = H[q]?) → XC cls s t)
    (hf : ∀ z ∈ locs, free z.base) (hc : cells + 1 ≤ mc) (hs : slots + 6 ≤ ms) :
    W p l e R s m args below meth c H locs cells slots (vx_MQ below Qc XC args s mc ms free) (F0 m pc ls rest) := by
  intro T hT X
  have htr : e.platform.stackTraces = false := (show e.platform.stackTraces = l.stackTraces by rw [X.admits.platform]).trans hl
  have Y := vx_rebase X (R' := { frames := R.frames, locals := R.locals, cells := 1, slots := 6 }) (Nat.le_refl _) (Nat.le_refl _) hRcells hRslots
  obtain ⟨s', hA⟩ : ∃ z, z = (T.setVm s.vm).setFrames (.invoking m args :: below) := ⟨_, rfl⟩
  rw [← hA] at Y
  have hvm : s'.vm = s.vm := by rw [hA]; rfl
  have hhp : s'.heap = H := by rw [hA]; exact hT
  have hW0 : s.WarmedH s'.vm := by rw [hvm]; exact State.WarmedH.refl s
  have hat' : ∀ w ∈ vx_atS own ic cls names, w.before args s' = true := fun w hw => vx_ot_at hW0 hvm.symm (hgood w (List.mem_cons_of_mem _ (List.mem_cons_of_mem _ hw))) (hat w hw)
  have hk' : (Cond.classLink own ik cls).before args s' = true := vx_ot_at hW0 hvm.symm (hgood _ List.mem_cons_self) hk
  have hini' : (Cond.initialized cls).before args s' = true := vx_ot_at hW0 hvm.symm (hgood _ (List.mem_cons_of_mem _ List.mem_cons_self)) hini
  have hU' : vx_Zq Bundle.tN "UNASSIGNED_STACK" Bundle.steD A s' s'.heap := by rw [hhp]; exact vx_Zq.moved hW0.alike (hU.kept hS.2.1)
  have hN' : vx_Zq Bundle.tN "SUPPRESSED_SENTINEL" Bundle.listD A s' s'.heap := by rw [hhp]; exact vx_Zq.moved hW0.alike (hN.kept hS.2.1)
  have h : ∀ w ∈ Bundle.ownAtoms own ic cls names, w.before args s' = true := vx_own hat' (vx_isRefq hU'.1) (vx_isRefq hN'.1) hU'.2.word hN'.2.word
  have hown' : s'.vm.findClass own = some m.cls := by rw [hvm]; exact hown
  have hins : (Cond.instantiable cls 6).before args s' = true := h _ (by simp [Bundle.ownAtoms])
  obtain ⟨vm₁, cX, kX, hfX, hkX, -, -, X₁, st1⟩ := Y.newCold hexec (own := own) (C := cls) (index := ik) (n := 6) hown' hk' hins hini'
    (g := F0 m pc ls rest) rfl (by rw [hb]; exact d0) (Nat.le_refl _) (Nat.le_refl _)
  generalize hT1 : (T.setVm vm₁).pushCell { cls := cX, slots := kX.instanceTypes.map defaultValue, vm := .none } = T1 at X₁ st1
  have hcat : (Value.ref T.heap.size).category = 1 := rfl
  have hcellA : T1.heap[T.heap.size]? = some (freshCell cX kX) := by rw [← hT1]; exact State.heap_pushCell_size _ _
  have d3' : decode c.code (pc + 3) = .ok (.dup, 1) := by rw [hb]; exact d3
  have d4' : decode c.code (pc + 4) = .ok (.ldc_w is, 3) := by rw [hb]; exact d4
  have hstr' : vk_R own is text sa s' := vk_R.warm hW0 hstr
  obtain ⟨U, hsteps, hrun, hend, hW, hsame, ce, hce, hO⟩ := X₁.ctorThrowS hexec htr (own := own) (cls := cls) (names := names) (ic := ic) hown' hcls hnames h (fun x hx => nomatch hx) hfX hkX hcellA (by rw [hhp, hT]; exact Nat.le_refl _) (msg := .ref sa) rfl
    (g := { method := m, pc := pc + 7, locals := ls, stack := .ref sa :: .ref T.heap.size :: .ref T.heap.size :: rest, locked := none }) rfl hsize rfl rfl (rest := rest) rfl
    (by rw [hb]; exact d7) (by rw [hb]; exact d10) hout hRframes (by simp only [List.map_cons, List.sum_cons, hcat]; omega) hlocks
  obtain ⟨f1, f2⟩ := vx_frame hsame
  rw [hhp] at f1 f2
  have hWs : s.WarmedH U.vm := State.WarmedH.trans hW0 hW
  have hcl : s.vm.findClass cls = some ce.cls := by
    have h9 := hO.cls
    rw [hvm] at h9
    exact h9
  have hup : U.heap.size ≤ H.size + 1 := by
    have hs9 := hsame
    subst hA
    obtain ⟨e1, e2⟩ := hs9
    rw [State.setFrames_setFrames] at e1
    have h2 : (T.setVm s.vm).sameButNew ({ U with vm := s.vm } : State) [] (0 + 1) (0 + 6) := ⟨e1, e2⟩
    have h3 := h2.2.2.1
    rw [← hT]
    exact h3
  have hlo : T.heap.size < U.heap.size := (Array.getElem?_eq_some_iff.mp hce).1
  rw [hT] at hlo
  have hall : s.sameButNew ({ U with vm := s.vm } : State) locs mc ms := by
    subst hA
    obtain ⟨e1, e2⟩ := hsame
    rw [State.setFrames_setFrames] at e1
    have h2 : (T.setVm s.vm).sameButNew ({ U with vm := s.vm } : State) [] (0 + 1) (0 + 6) := ⟨e1, e2⟩
    have h3 := X.same.trans h2
    rw [List.append_nil] at h3
    exact h3.mono hc hs
  refine ⟨U, ?_, .threw T.heap.size, hrun, hend, Or.inr ⟨T.heap.size, rfl, cls, ce, locs, hx U hWs.alike (by omega) (fun q hq => f2 q hq (fun z hz => nomatch hz)), hce, hO.vm, hcl, hWs, hall, hf⟩⟩
  refine st1 _ ?_
  show Steps p.tables e below (T1.setTop { method := m, pc := pc + 3, locals := ls, stack := .ref T.heap.size :: rest, locked := none }) _
  jvm_step X₁.here [X₁.here.top, hexec, d3', Value.category]
  exact X₁.ldcStringW hexec (own := own) (text := text) (index := is) (a := sa) hown' hstr'.1 hstr'.2
    (g := { method := m, pc := pc + 4, locals := ls, stack := .ref T.heap.size :: .ref T.heap.size :: rest, locked := none }) rfl d4' _ hsteps
end TPT
section TPU
variable {M : tpM} {d : Nat} {h0 : tpH} {av : List tpV} {Ro : tpO → tpH → Prop} {pc pc' : Nat} {ls ls' : List (Option tpV)} {st st' rest : List tpV} {h h' : tpH}
theorem tpW_good : ∀ w ∈ tpW, w ∈ tpW ∧ ((w.onTables && w.keeps) = true ∨ ∃ ty, w = .arrayClass ty) := fun w hw => ⟨hw, good_of_word (List.mem_filter.mp hw).2⟩
theorem tpG {w : Cond} (h : w ∈ tpW) : GoodIn tpW (w :: tpW) := fun x hx => (List.mem_cons.mp hx).elim (fun e => by rw [e]; exact tpW_good _ h) (tpW_good x)
theorem tpHd_nil (h : mH M = []) : tpHd M = .code (mY M) (mB M) (mL M) (mR M) := by
  unfold tpHd
  rw [h]
theorem tpHd_cons (h : mH M ≠ []) : tpHd M = .codeWith (mY M) (mB M) (mL M) (mR M) (mH M) := by
  unfold tpHd
  split
  · rename_i e; exact absurd e h
  · rename_i e; rfl
/-! what comes out -/
def tpOi (R : Int32 → tpH → Prop) (X : String → tpH → Prop) : tpO → tpH → Prop := fun o h => match o with
  | .inl (some (.inl v)) => R v h
  | .inr E => X E h
  | _ => False
def tpOr (R : Option Nat → tpH → Prop) (X : String → tpH → Prop) : tpO → tpH → Prop := fun o h => match o with
  | .inl (some (.inr (.inl v))) => R v h
  | .inr E => X E h
  | _ => False
def tpOf (R : UInt32 → tpH → Prop) (X : String → tpH → Prop) : tpO → tpH → Prop := fun o h => match o with
  | .inl (some (.inr (.inr (.inl v)))) => R v h
  | .inr E => X E h
  | _ => False
def tpOv (R : tpH → Prop) (X : String → tpH → Prop) : tpO → tpH → Prop := fun o h => match o with
  | .inl none => R h
  | .inr E => X E h
  | _ => False
theorem tk_i {R : Int32 → tpH → Prop} {X : String → tpH → Prop} {P : Option tpV → tpH → Prop} (k : ∀ (v : Int32) (h1 : tpH), R v h1 → P (some (vI v)) h1) : ∀ (v : Option tpV) (h1 : tpH), tpOi R X (.inl v) h1 → P v h1
  | some (.inl v), h1, hr => k v h1 hr
  | none, _, hr => False.elim hr
  | some (.inr _), _, hr => False.elim hr
theorem tk_r {R : Option Nat → tpH → Prop} {X : String → tpH → Prop} {P : Option tpV → tpH → Prop} (k : ∀ (v : Option Nat) (h1 : tpH), R v h1 → P (some (vR v)) h1) : ∀ (v : Option tpV) (h1 : tpH), tpOr R X (.inl v) h1 → P v h1
  | some (.inr (.inl v)), h1, hr => k v h1 hr
  | none, _, hr => False.elim hr
  | some (.inl _), _, hr => False.elim hr
  | some (.inr (.inr _)), _, hr => False.elim hr
theorem tk_f {R : UInt32 → tpH → Prop} {X : String → tpH → Prop} {P : Option tpV → tpH → Prop} (k : ∀ (v : UInt32) (h1 : tpH), R v h1 → P (some (vF v)) h1) : ∀ (v : Option tpV) (h1 : tpH), tpOf R X (.inl v) h1 → P v h1
  | some (.inr (.inr (.inl v))), h1, hr => k v h1 hr
  | none, _, hr => False.elim hr
  | some (.inl _), _, hr => False.elim hr
  | some (.inr (.inl _)), _, hr => False.elim hr
  | some (.inr (.inr (.inr _))), _, hr => False.elim hr
theorem tk_v {R : tpH → Prop} {X : String → tpH → Prop} {P : Option tpV → tpH → Prop} (k : ∀ (h1 : tpH), R h1 → P none h1) : ∀ (v : Option tpV) (h1 : tpH), tpOv R X (.inl v) h1 → P v h1
  | none, h1, hr => k h1 hr
  | some _, _, hr => False.elim hr
/-! what is thrown -/
def tpXN (M : tpM) (d : Nat) (h0 : tpH) (av : List tpV) (out : tpO) (h1 : tpH) (pc : Nat) (ls : List (Option tpV)) (rest : List tpV) (E : String) (h : tpH) : Prop :=
  hZ h ≤ hZ h1 ∧ hU h ≤ hU h1 ∧ ∀ (D : va_G) (cy : Nat → ClassId) (B : Nat) (l : Launch) (p : Program) (e : Env) (R : Room) (s : State) (m : MethodId) (meth : Method) (c : Code) (below : List Frame) (H : Heap) (locs : List Loc) (la : Array Slot) (q : Addr) (ce : Cell),
    tpX M D cy B l p s m meth c (av.map tpv).toArray → (d ≤ R.frames ∧ 43 * d ≤ R.locals) → (hZ h1 - hZ h0 ≤ R.cells ∧ hU h1 - hU h0 ≤ R.slots) → (hZ h0 ≤ hZ h ∧ hU h0 ≤ hU h) → tpP D cy B h H → va_S (fun q => B ≤ q) s.heap H locs → tpLs (mL M) la ls → E ∈ tpExn → H[q]? = some ce → ce.vm = .none → s.vm.findClass E = some ce.cls →
    vx_W p l e R s m (av.map tpv).toArray below meth c H locs (hZ h - hZ h0) (hU h - hU h0) (vx_MQ below (tpQc D cy B out h1) (tpXC D cy B out h1) (av.map tpv).toArray s (hZ h1 - hZ h0) (hU h1 - hU h0) (fun q => B ≤ q)) (F0 m pc la (rest.map tpv)) q
def tpXx (M : tpM) (d : Nat) (h0 : tpH) (av : List tpV) (Ro : tpO → tpH → Prop) (pc : Nat) (ls : List (Option tpV)) (rest : List tpV) (E : String) (h : tpH) : Prop :=
  ∃ (out : tpO) (h1 : tpH), Ro out h1 ∧ tpXN M d h0 av out h1 pc ls rest E h
theorem tpTb0 {c : Code} (h1 : c.exceptionTable.toList = tableOf (mH M) ∨ mH M = [(0, 0, 0, 0)]) (h2 : mH M = []) : c.exceptionTable.toList = [] := by
  rcases h1 with h1 | h1
  · rw [h1, h2]; rfl
  · rw [h2] at h1; cases h1
theorem tpTb1 {c : Code} {pre suf : List ExceptionTableEntry} {x : ExceptionTableEntry} (h1 : c.exceptionTable.toList = tableOf (mH M) ∨ mH M = [(0, 0, 0, 0)]) (h2 : tableOf (mH M) = pre ++ x :: suf) (h3 : x.catchType ≠ 0) : c.exceptionTable.toList = tableOf (mH M) := by
  rcases h1 with h1 | h1
  · exact h1
  · exfalso
    rw [h1] at h2
    have h4 : x ∈ tableOf [(0, 0, 0, 0)] := by rw [h2]; exact List.mem_append_right _ List.mem_cons_self
    rcases List.mem_cons.mp h4 with rfl | h4
    · exact h3 rfl
    · cases h4
/-- it goes on to the caller -/
theorem tpXx.out {E : String} (hH : mH M = []) (k : Ro (.inr E) h) : tpXx M d h0 av Ro pc ls rest E h := by
  refine ⟨.inr E, h, k, Nat.le_refl _, Nat.le_refl _, fun D cy B l p e R s m meth c below H locs la q ce X r1 r2 r3 hP hS hL hE h1 h2 h3 => ?_⟩
  obtain ⟨hfl, hx, hb, hr, hlk, hml, hown, hnm, htb, hts, hSt, hB⟩ := X
  refine vx_out (fun x hx => ?_) hlk h1 h2 h3 (fun t ht hal => ⟨rfl, hE, by rw [ht]; exact hP, ?_⟩) hS.2.2 (Nat.le_refl _) (Nat.le_refl _)
  · rw [tpTb0 htb hH] at hx
    cases hx
  · refine ⟨by rw [ht]; exact hS.1, fun q hq hn => by rw [ht]; exact hS.2.1 q hq hn⟩
theorem tpLs.no {n : Nat} {la : Array Slot} {j : Nat} {w : tpV} (h : tpLs n la (ls.set j (some w))) : tpLs n la (ls.set j none) := by
  refine h.fo fun i v hi => ?_
  by_cases e : j = i
  · subst e
    rw [List.getElem?_set] at hi
    split at hi
    · split at hi
      · cases hi
      · cases hi
    · rename_i hne; exact absurd rfl hne
  · rw [List.getElem?_set_ne e] at hi ⊢
    exact hi
/-- it is caught here -/
theorem tpXx.catch {E : String} (pre : List ExceptionTableEntry) (x : ExceptionTableEntry) (suf : List ExceptionTableEntry) {j ln : Nat} (hsp : tableOf (mH M) = pre ++ x :: suf)
    (hpass : ∀ z ∈ pre, covers z pc = false ∨ (z.catchType ≠ 0 ∧ ∃ nm : String, Cond.classLink (mY M).cls z.catchType nm ∈ tpW ∧ (E, nm) ∈ tpNo)) (hx : covers x pc = true) (hc0 : x.catchType ≠ 0) (hlk : Cond.classLink (mY M).cls x.catchType E ∈ tpW)
    (hd : (decode (mB M) x.handlerPc = .ok (.astore j, 2) ∧ ln = 2) ∨ ∃ j4 : Fin 4, (j4 : Nat) = j ∧ decode (mB M) x.handlerPc = .ok (.astore_n j4, 1) ∧ ln = 1) (hj : j < mL M) (hl : ls.set j none = ls') (k : tpR M d h0 av Ro (x.handlerPc + ln) ls' [] h) : tpXx M d h0 av Ro pc ls rest E h := by
  obtain ⟨out, h2, hRo, z, u, g⟩ := k
  refine ⟨out, h2, hRo, z, u, fun D cy B l p e R s m meth c below H locs la q ce X r1 r2 r3 hP hS hL hE h1 hv hf => ?_⟩
  have X' := X
  obtain ⟨hfl, hx', hb, hr, hlk', hml, hown, hnm, htb, hts, hSt, hB⟩ := X'
  refine vx_catch hown pre x suf ((tpTb1 htb hsp hc0).trans hsp) (fun z hz => ?_) hx hc0 (hts _ hlk) (va_Nw.use rfl (hSt.2.2.2.1.2.2.1 _ (tpExn_Nc E hE))) h1 hv hf ?_
  · rcases hpass z hz with h | ⟨h, nm, h3, h4⟩
    · exact Or.inl h
    · exact Or.inr ⟨h, nm, hts _ h3, hSt.2.2.1 _ h4⟩
  · rcases hd with ⟨hd, rfl⟩ | ⟨j4, hj4, hd, rfl⟩
    · exact lv_astore hx' hb hd hL.1 hj rfl (fun la' h5 => by
        have h6 := (hL.st (v := vR (some q)) rfl rfl h5).no
        rw [hl] at h6
        exact g D cy B l p e R s m meth c below H locs la' X r1 r2 r3 hP hS h6)
    · exact lv_astore_n hx' hb hd hj4 hL.1 hj rfl (fun la' h5 => by
        have h6 := (hL.st (v := vR (some q)) rfl rfl h5).no
        rw [hl] at h6
        exact g D cy B l p e R s m meth c below H locs la' X r1 r2 r3 hP hS h6)
/-! calls -/
def tpRun1 (M : tpM) (d : Nat) (av : List tpV) (out : tpO) (h1 : tpH) (ac : List tpV) (pc : Nat) (ls : List (Option tpV)) (st0 rest : List tpV) (h : tpH) : Prop :=
  ∀ (D : va_G) (cy : Nat → ClassId) (B : Nat) (l : Launch) (p : Program) (e : Env) (R : Room) (s : State) (m : MethodId) (meth : Method) (c : Code) (below : List Frame) (H : Heap) (locs : List Loc) (la : Array Slot) (cells slots : Nat),
    tpX M D cy B l p s m meth c (av.map tpv).toArray → (d ≤ R.frames ∧ 43 * d ≤ R.locals) → (cells + (hZ h1 - hZ h) ≤ R.cells ∧ slots + (hU h1 - hU h) ≤ R.slots) → tpP D cy B h H → va_S (fun q => B ≤ q) s.heap H locs → tpLs (mL M) la ls →
    vx_Run p l e R s m (av.map tpv).toArray below meth c H locs cells slots (hZ h1 - hZ h) (hU h1 - hU h) (F0 m pc la (st0.map tpv)) (rest.map tpv) (tpQc D cy B out h1 (ac.map tpv).toArray) (tpXC D cy B out h1) (fun q => B ≤ q)
theorem tq_core {C : tpM} {dc : Nat} {ac : List tpV} {Rc : tpO → tpH → Prop} {st0 : List tpV} (hrun : ∀ (out : tpO) (h1 : tpH), Rc out h1 → tpCT C dc ac h out h1 → tpRun1 M d av out h1 ac pc ls st0 rest h) (hw : tpC C dc ac h Rc)
    (k : ∀ (v : Option tpV) (h1 : tpH), Rc (.inl v) h1 → tpR M d h0 av Ro (pc + 3) ls (v.toList ++ rest) h1) (kx : ∀ (E : String) (h1 : tpH), Rc (.inr E) h1 → tpXx M d h0 av Ro pc ls rest E h1) : tpR M d h0 av Ro pc ls st0 h := by
  obtain ⟨out, h1, hRc, hCT⟩ := hw
  have zc := hCT.1
  have uc := hCT.2.1
  cases out with
  | inl v =>
    obtain ⟨out2, h2, hRo, z, u, g⟩ := k v h1 hRc
    refine ⟨out2, h2, hRo, by omega, by omega, fun D cy B l p e R s m meth c below H locs la X r1 r2 r3 hP hS hL => ?_⟩
    intro T hT XT
    rcases hrun _ _ hRc hCT D cy B l p e R s m meth c below H locs la _ _ X r1 ⟨by omega, by omega⟩ hP hS hL T hT XT with ⟨v', st₀, t, T', L, e0, X', hLf, e1, e2, ⟨⟨w, w1, w2⟩, hP1, hF⟩, go⟩ | ⟨q, st₀, t, T', L, E, ce, e0, X', hLf, e1, e2, ⟨w1, -⟩, -⟩
    · cases w1
      cases w2
      obtain ⟨k1, k2, k3⟩ := vx_keep (A1 := fun q => B ≤ q) e0 e1 hS (fun _ _ h => h) (fun _ h => h) hLf hF
      have g1 := g D cy B l p e R s m meth c below T'.heap (locs ++ L) la X r1 r2 ⟨by omega, by omega⟩ (by rw [e1]; exact hP1) k3 hL
      rw [show hZ h - hZ h0 + (hZ h1 - hZ h) = hZ h1 - hZ h0 by omega, show hU h - hU h0 + (hU h1 - hU h) = hU h1 - hU h0 by omega] at X'
      obtain ⟨t2, a1, b1⟩ := g1 T' rfl X'
      refine ⟨t2, go t2 ?_, b1⟩
      have es : (v.map tpv).toList ++ rest.map tpv = (v.toList ++ rest).map tpv := by cases v <;> rfl
      rw [es]
      exact a1
    · cases w1
  | inr E0 =>
    obtain ⟨out2, h2, hRo, z, u, g⟩ := kx E0 h1 hRc
    refine ⟨out2, h2, hRo, by omega, by omega, fun D cy B l p e R s m meth c below H locs la X r1 r2 r3 hP hS hL => ?_⟩
    intro T hT XT
    rcases hrun _ _ hRc hCT D cy B l p e R s m meth c below H locs la _ _ X r1 ⟨by omega, by omega⟩ hP hS hL T hT XT with ⟨v', st₀, t, T', L, e0, X', hLf, e1, e2, ⟨⟨w, w1, w2⟩, hP1, hF⟩, go⟩ | ⟨q, st₀, t, T', L, E, ce, e0, X', hLf, e1, e2, ⟨w1, hE, hP1, hF⟩, y1, y2, y3, go⟩
    · cases w1
    · cases w1
      obtain ⟨k1, k2, k3⟩ := vx_keep (A1 := fun q => B ≤ q) e0 e1 hS (fun _ _ h => h) (fun _ h => h) hLf hF
      have g1 := g D cy B l p e R s m meth c below T'.heap (locs ++ L) la q ce X r1 r2 ⟨by omega, by omega⟩ (by rw [e1]; exact hP1) k3 hL hE (by rw [e1]; exact y1) y2 y3
      rw [show hZ h - hZ h0 + (hZ h1 - hZ h) = hZ h1 - hZ h0 by omega, show hU h - hU h0 + (hU h1 - hU h) = hU h1 - hU h0 by omega] at X'
      obtain ⟨t2, a1, b1⟩ := g1 T' rfl X'
      exact ⟨t2, go.trans a1, b1⟩
def tpRun (M : tpM) (d : Nat) (av : List tpV) (C : tpM) (dc : Nat) (ac : List tpV) (pc : Nat) (ls : List (Option tpV)) (st0 rest : List tpV) (h : tpH) : Prop :=
  ∀ (out : tpO) (h1 : tpH), tpCT C dc ac h out h1 → tpRun1 M d av out h1 ac pc ls st0 rest h
/-- the callee's start -/
theorem tpPc_blind {D : va_G} {cy : Nat → ClassId} {B : Nat} {ac : List tpV} : FrameBlind (tpPc D cy B ac h) := by
  intro a U g mk q
  obtain ⟨q1, q2, q3, q4⟩ := q
  exact ⟨q1, q2, q3.move (U := U.calling g mk a) (State.WarmedH.refl U) (fun _ _ _ => rfl), q4⟩
theorem tpPc_at {D : va_G} {cy : Nat → ClassId} {B : Nat} {ac : List tpV} {s U : State} {H : Heap} {locs : List Loc} (hSt : tpSt D cy B s) (hB : B ≤ s.heap.size) (hP : tpP D cy B h H) (hS : va_S (fun q => B ≤ q) s.heap H locs) (hU : U.heap = H) (hW : s.WarmedH U.vm) : tpPc D cy B ac h (ac.map tpv).toArray U :=
  ⟨rfl, by rw [hU]; exact hP, hSt.move hW (fun a h1 h2 => by rw [hU]; exact hS.2.1 a h1 h2), by rw [hU]; exact Nat.le_trans hB hS.1⟩
theorem tr_V {C : tpM} {n : Nat} (hM : tpMv C n) {idx ci dc a : Nat} {as st0 : List tpV} (hk : tpK (mY M).cls idx C) (hrc : (tpCl[ci]?).map (fun r => r.1) = some (mY C).cls) (hdd : dc + 1 ≤ d) (hmx : mL C ≤ 24) (hn : as.length = n) (hst : st0 = as.reverse ++ vR (some a) :: rest) (hT : hT h a = ci + 1) (hwd : (rest.map tpc).sum ≤ 8) (hd : decode (mB M) pc = .ok (.invokevirtual idx, 3)) : tpRun M d av C dc (vR (some a) :: as) pc ls st0 rest h := by
  subst hst
  intro out h1 hCT D cy B l p e R s m meth c below H locs la cells slots X r1 r2 hP hS hL
  obtain ⟨hfl, hx, hb, hr, hlk, hml, hown, hnm, htb, hts, hSt, hB⟩ := X
  obtain ⟨⟨⟨w1, w2⟩, w3, w4⟩, w5, w6, w7, w8⟩ := hM
  have hMet := hCT.2.2 l D cy B hfl
  rw [tpHd_nil w8] at hMet
  cases hrr : tpCl[ci]? with
  | none => rw [hrr] at hrc; cases hrc
  | some r =>
    rw [hrr] at hrc
    have hr1 : r.1 = (mY C).cls := Option.some.inj hrc
    obtain ⟨cell, q1, q2, q3, q4⟩ := hP.ob hT hrr
    have hfc := (hSt.1.1.1 ci _ hrr).2.1
    rw [hr1] at hfc
    refine vx_runV (As := as.map tpv) ⟨hx, hb, hml, hown, hts⟩ hMet ⟨callB_of n hts (tpG w4) rfl rfl rfl (hts _ w3) (hts _ hk) ⟨w5.1, w5.2, w6⟩ ⟨?_, ?_⟩, hts _ w1, hts _ w2⟩ ⟨tpPc_blind, ⟨cell, q1, by rw [q3]; rfl, by rw [q2]; exact hfc⟩, fun U hU hW => tpPc_at hSt hB hP hS hU hW⟩ rfl (by rw [List.length_map]; exact hn) hL.1.1 ?_ (lv_room (by rw [tpv_sum]; exact hwd)) hd r2
    · show dc + 1 ≤ R.frames; omega
    · show 8 + (mL C + 11) + 43 * dc ≤ R.locals; omega
    · show (as.reverse ++ vR (some a) :: rest).map tpv = _
      rw [List.map_append, List.map_reverse]; rfl
theorem tr_S {C : tpM} {n : Nat} (hM : tpMs C n) {idx dc : Nat} {as st0 : List tpV} (hk : tpK (mY M).cls idx C) (hdd : dc + 1 ≤ d) (hmx : mL C ≤ 24) (hn : as.length = n) (hst : st0 = as.reverse ++ rest) (hwd : (rest.map tpc).sum ≤ 8) (hd : decode (mB M) pc = .ok (.invokestatic idx, 3)) : tpRun M d av C dc as pc ls st0 rest h := by
  subst hst
  intro out h1 hCT D cy B l p e R s m meth c below H locs la cells slots X r1 r2 hP hS hL
  obtain ⟨hfl, hx, hb, hr, hlk, hml, hown, hnm, htb, hts, hSt, hB⟩ := X
  obtain ⟨⟨w1, w3, w4⟩, w5, w6, w7, w8⟩ := hM
  have hMet := hCT.2.2 l D cy B hfl
  rw [tpHd_nil w8] at hMet
  refine vx_runS (As := as.map tpv) ⟨hx, hb, hml, hown, hts⟩ hMet ⟨callB_of n hts (tpG w4) rfl rfl rfl (hts _ w3) (hts _ hk) ⟨w5.1, w5.2, w6⟩ ⟨?_, ?_⟩, hts _ w1⟩ ⟨tpPc_blind, fun U hU hW => tpPc_at hSt hB hP hS hU hW⟩ rfl (by rw [List.length_map]; exact hn) hL.1.1 ?_ (lv_room (by rw [tpv_sum]; exact hwd)) hd r2
  · show dc + 1 ≤ R.frames; omega
  · show 8 + (mL C + 11) + 43 * dc ≤ R.locals; omega
  · show (as.reverse ++ rest).map tpv = _
    rw [List.map_append, List.map_reverse]
theorem tr_SX {C : tpM} {n : Nat} (hM : tpMx C n) (hH : mH C ≠ []) {idx dc : Nat} {as st0 : List tpV} (hk : tpK (mY M).cls idx C) (hdd : dc + 1 ≤ d) (hmx : mL C ≤ 24) (hn : as.length = n) (hst : st0 = as.reverse ++ rest) (hwd : (rest.map tpc).sum ≤ 8) (hd : decode (mB M) pc = .ok (.invokestatic idx, 3)) : tpRun M d av C dc as pc ls st0 rest h := by
  subst hst
  intro out h1 hCT D cy B l p e R s m meth c below H locs la cells slots X r1 r2 hP hS hL
  obtain ⟨hfl, hx, hb, hr, hlk, hml, hown, hnm, htb, hts, hSt, hB⟩ := X
  obtain ⟨⟨w1, w3, w4⟩, w5, w6, w7⟩ := hM
  have hMet := hCT.2.2 l D cy B hfl
  rw [tpHd_cons hH] at hMet
  refine vx_runSX (As := as.map tpv) (n := n) ⟨hx, hb, hml, hown, hts⟩ hMet ⟨⟨rfl, rfl, ?_, ?_, pay_in hts (tpG w4), List.mem_cons_self⟩, hts _ w4, hts _ w3, w5, fun sig hsig => ?_, hts _ hk, hts _ w1⟩ ⟨tpPc_blind, fun U hU hW => tpPc_at hSt hB hP hS hU hW⟩ rfl (by rw [List.length_map]; exact hn) hL.1.1 ?_ (lv_room (by rw [tpv_sum]; exact hwd)) hd r2
  · show dc + 1 ≤ R.frames; omega
  · show 8 + (mL C + 11) + 43 * dc ≤ R.locals; omega
  · rw [hsig] at w6
    exact (Option.some.inj w6).symm
  · show (as.reverse ++ rest).map tpv = _
    rw [List.map_append, List.map_reverse]
theorem tpMet_of {l : Launch} {y : MethodName} {ws : List Cond} {rm : Room} {Pc : Array Value → State → Prop} {Qc : Array Value → State → Outcome → State → Prop} {XC : String → State → State → Prop} {mc ms : Nat} {free : Addr → Prop} (hm : vx_Met l y ws rm Pc Qc XC mc ms free) (hx : ∀ E st t, ¬ XC E st t) : Met l y ws rm Pc Qc mc ms free := by
  intro p e a1 a2 a3 s m args below b1 b2 b3 b4
  obtain ⟨n, o, c1, c2, c3, c4⟩ := hm p e a1 a2 a3 s m args below b1 b2 b3 b4
  refine ⟨n, o, c1, c2, c3, ?_⟩
  rcases c4 with c4 | ⟨q, -, E, ce, L, hX, -⟩
  · exact c4
  · exact absurd hX (hx _ _ _)
/-- a constructor: it doesn't throw -/
def tpNt (Rc : tpO → tpH → Prop) : Prop := ∀ (E : String) (h1 : tpH), ¬ Rc (.inr E) h1
theorem tq_init {C : tpM} {n : Nat} (hM : tpMi C n) {idx dc a : Nat} {as st0 : List tpV} {Rc : tpO → tpH → Prop} (hk : tpK (mY M).cls idx C ∨ ∃ host : String, ((mY M).cls, idx, mY C, host) ∈ tpNm) (hdd : dc + 1 ≤ d) (hmx : mL C ≤ 24) (hn : as.length = n) (hst : st0 = as.reverse ++ vR (some a) :: rest) (hwd : (rest.map tpc).sum ≤ 8) (hd : decode (mB M) pc = .ok (.invokespecial idx, 3))
    (hw : tpC C dc (vR (some a) :: as) h Rc) (hnt : tpNt Rc) (k : ∀ (v : Option tpV) (h1 : tpH), Rc (.inl v) h1 → tpR M d h0 av Ro (pc + 3) ls (v.toList ++ rest) h1) : tpR M d h0 av Ro pc ls st0 h := by
  obtain ⟨out, h1, hRc, hCT⟩ := hw
  cases out with
  | inr E => exact absurd hRc (hnt E h1)
  | inl v0 =>
    refine tq_core (rest := rest) (C := C) (dc := dc) (ac := vR (some a) :: as) (Rc := fun o h2 => o = .inl v0 ∧ h2 = h1) ?_ ⟨_, _, ⟨rfl, rfl⟩, hCT⟩ (fun v h2 hv => ?_) (fun E h2 hv => by cases hv.1)
    · subst hst
      intro out' h1' hRc' hCT' D cy B l p e R s m meth c below H locs la cells slots X r1 r2 hP hS hL
      obtain ⟨hfl, hx, hb, hr, hlk, hml, hown, hnm, htb, hts, hSt, hB⟩ := X
      obtain ⟨⟨w1, w3, w4⟩, w5, w6, w7, w8, w9, w10⟩ := hM
      have hMet0 := hCT'.2.2 l D cy B hfl
      rw [tpHd_nil w8, w9] at hMet0
      cases out' with
      | inr E => cases hRc'.1
      | inl v1 =>
        have hMet := tpMet_of hMet0 (fun E st t hX => by cases hX.1)
        have hst2 : ((as.reverse ++ vR (some a) :: rest).map tpv) = (as.map tpv).reverse ++ Value.ref a :: rest.map tpv := by
          rw [List.map_append, List.map_reverse]; rfl
        have hR1 : dc + 1 ≤ R.frames := by omega
        have hR2 : 8 + (mL C + 11) + 43 * dc ≤ R.locals := by omega
        have hrun : va_Run p l e R s m (av.map tpv).toArray below meth c H locs cells slots (hZ h1' - hZ h) (hU h1' - hU h) (F0 m pc la ((as.reverse ++ vR (some a) :: rest).map tpv)) (rest.map tpv) (tpQc D cy B (.inl v1) h1' (Value.ref a :: as.map tpv).toArray) (fun q => B ≤ q) := by
          rcases hk with hk | ⟨host, hk⟩
          · exact va_runI (As := as.map tpv) ⟨hx, hb, hml, hown, hts⟩ hMet ⟨callB_of n hts (tpG w4) rfl rfl rfl (hts _ w3) (hts _ hk) ⟨w5.1, w5.2, w6⟩ ⟨hR1, hR2⟩, w10, hts _ w1⟩ ⟨tpPc_blind, fun U hU hW => tpPc_at (ac := vR (some a) :: as) hSt hB hP hS hU hW⟩ rfl (by rw [List.length_map]; exact hn) hL.1.1 hst2 (lv_room (by rw [tpv_sum]; exact hwd)) hd r2
          · exact va_runIN (As := as.map tpv) ⟨hx, hb, hml, hown, hts⟩ hMet ⟨va_cnB n hts (tpG w4) rfl rfl rfl (hSt.2.2.2.1.2.1 _ hk) (hts _ w3) ⟨w5.1, w5.2, w6⟩ ⟨hR1, hR2⟩, w10, hts _ w1⟩ ⟨tpPc_blind, fun U hU hW => tpPc_at (ac := vR (some a) :: as) hSt hB hP hS hU hW⟩ rfl (by rw [List.length_map]; exact hn) hL.1.1 hst2 (lv_room (by rw [tpv_sum]; exact hwd)) hd r2
        exact fun T hT XT => Or.inl (hrun T hT XT)
    · obtain ⟨hv1, rfl⟩ := hv
      cases hv1
      exact k _ _ hRc
theorem tq_callV {C : tpM} {n : Nat} (hM : tpMv C n) {idx ci dc a : Nat} {as st0 : List tpV} {Rc : tpO → tpH → Prop} (hk : tpK (mY M).cls idx C) (hrc : (tpCl[ci]?).map (fun r => r.1) = some (mY C).cls) (hdd : dc + 1 ≤ d) (hmx : mL C ≤ 24) (hn : as.length = n) (hst : st0 = as.reverse ++ vR (some a) :: rest) (hT : hT h a = ci + 1) (hwd : (rest.map tpc).sum ≤ 8) (hd : decode (mB M) pc = .ok (.invokevirtual idx, 3))
    (hw : tpC C dc (vR (some a) :: as) h Rc) (kx : ∀ (E : String) (h1 : tpH), Rc (.inr E) h1 → tpXx M d h0 av Ro pc ls rest E h1) (k : ∀ (v : Option tpV) (h1 : tpH), Rc (.inl v) h1 → tpR M d h0 av Ro (pc + 3) ls (v.toList ++ rest) h1) : tpR M d h0 av Ro pc ls st0 h :=
  tq_core (fun out h1 _ => tr_V hM hk hrc hdd hmx hn hst hT hwd hd out h1) hw k kx
theorem tq_callS {C : tpM} {n : Nat} (hM : tpMs C n) {idx dc : Nat} {as st0 : List tpV} {Rc : tpO → tpH → Prop} (hk : tpK (mY M).cls idx C) (hdd : dc + 1 ≤ d) (hmx : mL C ≤ 24) (hn : as.length = n) (hst : st0 = as.reverse ++ rest) (hwd : (rest.map tpc).sum ≤ 8) (hd : decode (mB M) pc = .ok (.invokestatic idx, 3))
    (hw : tpC C dc as h Rc) (kx : ∀ (E : String) (h1 : tpH), Rc (.inr E) h1 → tpXx M d h0 av Ro pc ls rest E h1) (k : ∀ (v : Option tpV) (h1 : tpH), Rc (.inl v) h1 → tpR M d h0 av Ro (pc + 3) ls (v.toList ++ rest) h1) : tpR M d h0 av Ro pc ls st0 h :=
  tq_core (fun out h1 _ => tr_S hM hk hdd hmx hn hst hwd hd out h1) hw k kx
theorem tq_callSX {C : tpM} {n : Nat} (hM : tpMx C n) (hH : mH C ≠ []) {idx dc : Nat} {as st0 : List tpV} {Rc : tpO → tpH → Prop} (hk : tpK (mY M).cls idx C) (hdd : dc + 1 ≤ d) (hmx : mL C ≤ 24) (hn : as.length = n) (hst : st0 = as.reverse ++ rest) (hwd : (rest.map tpc).sum ≤ 8) (hd : decode (mB M) pc = .ok (.invokestatic idx, 3))
    (hw : tpC C dc as h Rc) (kx : ∀ (E : String) (h1 : tpH), Rc (.inr E) h1 → tpXx M d h0 av Ro pc ls rest E h1) (k : ∀ (v : Option tpV) (h1 : tpH), Rc (.inl v) h1 → tpR M d h0 av Ro (pc + 3) ls (v.toList ++ rest) h1) : tpR M d h0 av Ro pc ls st0 h :=
  tq_core (fun out h1 _ => tr_SX hM hH hk hdd hmx hn hst hwd hd out h1) hw k kx
/-! members of the library -/
theorem tq_obj {idx a : Nat} (hk : tpOk (mY M).cls idx) (hdd : 1 ≤ d) (hwd : (st.map tpc).sum ≤ 8) (hd : decode (mB M) pc = .ok (.invokespecial idx, 3)) (k : tpR M d h0 av Ro (pc + 3) ls st h) : tpR M d h0 av Ro pc ls (vR (some a) :: st) h :=
  k.s0 fun {D} {cy} {B} {l} {p} {e} {R} {s} {m} {meth} {c} {below} {Q} {H} {locs} {la} {cells} {slots} X r _ hL W0 => by
    obtain ⟨hfl, hx, hb, hr, hlk, hml, hown, hnm, htb, hts, hSt, hB⟩ := X
    refine W.objInit hx hb hown (hts _ hk) (hts _ to_1) (hts _ to_2) rfl (by rw [hml]; exact hL.1.1) rfl hd (by omega) ?_ W0
    have h8 := lv_room (m := m) (pc := pc) (ls := la) (rest := []) (st := st.map tpv) (by rw [tpv_sum]; exact hwd)
    exact Nat.le_trans (Nat.add_le_add_right h8 12) (by omega)
theorem tq_min {idx : Nat} {x y : Int32} (hk : Cond.methodLink (mY M).cls idx Lib.Math.min.name ∈ tpW) (hdd : 1 ≤ d) (hwd : (st.map tpc).sum ≤ 8) (hd : decode (mB M) pc = .ok (.invokestatic idx, 3)) (k : tpR M d h0 av Ro (pc + 3) ls (vI (if y < x then y else x) :: st) h) : tpR M d h0 av Ro pc ls (vI y :: vI x :: st) h :=
  k.s0 fun {D} {cy} {B} {l} {p} {e} {R} {s} {m} {meth} {c} {below} {Q} {H} {locs} {la} {cells} {slots} X r _ hL W0 => by
    obtain ⟨hfl, hx, hb, hr, hlk, hml, hown, hnm, htb, hts, hSt, hB⟩ := X
    exact va_mmin hx hb (by rw [hml]; exact hL.1.1.symm) hown (hts _ hk) (hts _ tm_min1) (hts _ tm_3) (hts _ tm_min2) (by omega) (by rw [tpv_sum]; omega) r.2.2.1 r.2.2.2 hd W0
theorem tq_max {idx : Nat} {x y : Int32} (hk : Cond.methodLink (mY M).cls idx Lib.Math.max.name ∈ tpW) (hdd : 1 ≤ d) (hwd : (st.map tpc).sum ≤ 8) (hd : decode (mB M) pc = .ok (.invokestatic idx, 3)) (k : tpR M d h0 av Ro (pc + 3) ls (vI (if x < y then y else x) :: st) h) : tpR M d h0 av Ro pc ls (vI y :: vI x :: st) h :=
  k.s0 fun {D} {cy} {B} {l} {p} {e} {R} {s} {m} {meth} {c} {below} {Q} {H} {locs} {la} {cells} {slots} X r _ hL W0 => by
    obtain ⟨hfl, hx, hb, hr, hlk, hml, hown, hnm, htb, hts, hSt, hB⟩ := X
    exact va_mmax hx hb (by rw [hml]; exact hL.1.1.symm) hown (hts _ hk) (hts _ tm_max1) (hts _ tm_3) (hts _ tm_max2) (by omega) (by rw [tpv_sum]; omega) r.2.2.1 r.2.2.2 hd W0
/-! ends -/
theorem tq_iret {v : Int32} {ty : FieldType} (hr : mR M = some ty) (hn : narrow ty (.int v) = .int v) (hd : decode (mB M) pc = .ok (.ireturn, 1)) (k : Ro (.inl (some (vI v))) h) : tpR M d h0 av Ro pc ls [vI v] h := by
  refine ⟨_, h, k, Nat.le_refl _, Nat.le_refl _, fun D cy B l p e R s m meth c below H locs la X r1 r2 r3 hP hS hL => ?_⟩
  obtain ⟨hfl, hx, hb, hr', hlk, hml, hown, hnm, htb, hts, hSt, hB⟩ := X
  exact vx_ret (W.zret hx hb (hr'.trans hr) hn (fun t ht _ => ⟨⟨_, rfl, rfl⟩, by rw [ht]; exact hP, by rw [ht]; exact hS.1, fun q hq hn => by rw [ht]; exact hS.2.1 q hq hn⟩) hS.2.2 hd hlk)
theorem tq_fret {v : UInt32} (hr : mR M = some .float) (hd : decode (mB M) pc = .ok (.freturn, 1)) (k : Ro (.inl (some (vF v))) h) : tpR M d h0 av Ro pc ls [vF v] h := by
  refine ⟨_, h, k, Nat.le_refl _, Nat.le_refl _, fun D cy B l p e R s m meth c below H locs la X r1 r2 r3 hP hS hL => ?_⟩
  obtain ⟨hfl, hx, hb, hr', hlk, hml, hown, hnm, htb, hts, hSt, hB⟩ := X
  exact vx_ret (W.fret hx hb (hr'.trans hr) (fun t ht _ => ⟨⟨_, rfl, rfl⟩, by rw [ht]; exact hP, by rw [ht]; exact hS.1, fun q hq hn => by rw [ht]; exact hS.2.1 q hq hn⟩) hS.2.2 hd hlk)
theorem tq_aret {v : Option Nat} {ty : FieldType} (hr : mR M = some ty) (hrt : tpIr ty = true) (hd : decode (mB M) pc = .ok (.areturn, 1)) (k : Ro (.inl (some (vR v))) h) : tpR M d h0 av Ro pc ls [vR v] h := by
  refine ⟨_, h, k, Nat.le_refl _, Nat.le_refl _, fun D cy B l p e R s m meth c below H locs la X r1 r2 r3 hP hS hL => ?_⟩
  obtain ⟨hfl, hx, hb, hr', hlk, hml, hown, hnm, htb, hts, hSt, hB⟩ := X
  have hrt2 : (∃ n, ty = .object n) ∨ ∃ t, ty = .array t := by
    cases ty <;> first | exact Or.inl ⟨_, rfl⟩ | exact Or.inr ⟨_, rfl⟩ | cases hrt
  have hv2 : va_rf v = .null ∨ ∃ a, va_rf v = .ref a := by
    cases v with
    | none => exact Or.inl rfl
    | some a => exact Or.inr ⟨a, rfl⟩
  exact vx_ret (W.aret hx hb (hr'.trans hr) hrt2 hv2 (fun t ht _ => ⟨⟨_, rfl, rfl⟩, by rw [ht]; exact hP, by rw [ht]; exact hS.1, fun q hq hn => by rw [ht]; exact hS.2.1 q hq hn⟩) hS.2.2 hd hlk)
theorem tq_vret (hr : mR M = none) (hd : decode (mB M) pc = .ok (.return_, 1)) (k : Ro (.inl none) h) : tpR M d h0 av Ro pc ls [] h := by
  refine ⟨_, h, k, Nat.le_refl _, Nat.le_refl _, fun D cy B l p e R s m meth c below H locs la X r1 r2 r3 hP hS hL => ?_⟩
  obtain ⟨hfl, hx, hb, hr', hlk, hml, hown, hnm, htb, hts, hSt, hB⟩ := X
  exact vx_ret (W.vret hx hb (hr'.trans hr) (fun t ht _ => ⟨⟨_, rfl, rfl⟩, by rw [ht]; exact hP, by rw [ht]; exact hS.1, fun q hq hn => by rw [ht]; exact hS.2.1 q hq hn⟩) hS.2.2 hd hlk)
/-! throws -/
theorem tpTh_at {E : String} {ic : Nat} {own : String} (hth : tpTh own ic E) {D : va_G} {cy : Nat → ClassId} {B : Nat} {s : State} {args : Array Value} (hts : ∀ w ∈ tpW, w.before args s = true) (hSt : tpSt D cy B s) : (∀ w ∈ vx_atS own ic E tpEs, w.before args s = true) ∧ ∀ w ∈ vx_atS own ic E tpEs, vx_ot w = true := by
  refine ⟨fun w hw => ?_, fun w hw => ?_⟩
  · rcases hth.2 w hw with rfl | ⟨x, hx, rfl⟩ | h
    · exact va_Nw.use rfl (hSt.2.2.2.1.2.2.1 _ (tpExn_Nc E hth.1))
    · exact va_Nw.use rfl (hSt.2.2.2.1.2.2.2.2 _ hx)
    · exact hts _ h
  · rcases hth.2 w hw with rfl | ⟨x, hx, rfl⟩ | h
    · rfl
    · rfl
    · have h2 := (List.mem_filter.mp h).2
      simp [vx_ot, h2]
theorem tpW_ot {w : Cond} (h : w ∈ tpW) : vx_ot w = true := by
  have h2 := (List.mem_filter.mp h).2
  simp [vx_ot, h2]
theorem tq_thr {E tx : String} {ik is ic : Nat} (hth : tpTh (mY M).cls ic E) (hcl : tpCk (mY M).cls ik E) (hs : ((mY M).cls, is, tx) ∈ tpStr) (hdd : 6 ≤ d) (hwd : (st.map tpc).sum ≤ 8) (hH : mH M = [])
    (hdec : (decode (mB M) pc = .ok (.new ik, 3) ∧ decode (mB M) (pc + 3) = .ok (.dup, 1)) ∧ ((decode (mB M) (pc + 4) = .ok (.ldc is, 2) ∧ decode (mB M) (pc + 6) = .ok (.invokespecial ic, 3) ∧ decode (mB M) (pc + 9) = .ok (.athrow, 1)) ∨ (decode (mB M) (pc + 4) = .ok (.ldc_w is, 3) ∧ decode (mB M) (pc + 7) = .ok (.invokespecial ic, 3) ∧ decode (mB M) (pc + 10) = .ok (.athrow, 1))))
    (k : Ro (.inr E) (nC h 0 0 6)) : tpR M d h0 av Ro pc ls st h := by
  have ez : hZ (nC h 0 0 6) = hZ h + 1 := rfl
  have eu : hU (nC h 0 0 6) = hU h + 6 := rfl
  refine ⟨_, _, k, by omega, by omega, fun D cy B l p e R s m meth c below H locs la X r1 r2 r3 hP hS hL => ?_⟩
  obtain ⟨hfl, hx, hb, hr', hlk, hml, hown, hnm, htb, hts, hSt, hB⟩ := X
  rw [ez, eu] at r2 ⊢
  obtain ⟨sa, hsa⟩ := hSt.2.1 _ hs
  obtain ⟨hat, hgd⟩ := tpTh_at hth hts hSt
  have hgood : ∀ w ∈ Cond.classLink (mY M).cls ik E :: Cond.initialized E :: vx_atS (mY M).cls ic E tpEs, vx_ot w = true := fun w hw => by
    rcases List.mem_cons.mp hw with rfl | hw
    · exact tpW_ot hcl
    · rcases List.mem_cons.mp hw with rfl | hw
      · exact tpW_ot (tpExn_ini E hth.1)
      · exact hgd w hw
  have hxx : ∀ t : State, s.vm.Alike t.vm → t.heap.size = H.size + 1 → (∀ q : Nat, q < H.size → t.heap[q]? = H[q]?) → tpXC D cy B (.inr E) (nC h 0 0 6) E s t := fun t _ h1 h2 =>
    ⟨rfl, hth.1, hP.new h1 h2 (Nat.le_trans hB hS.1) (fun n => absurd rfl n), by rw [h1]; exact Nat.le_trans hS.1 (Nat.le_succ _), fun q hq hn => (h2 q (Nat.lt_of_lt_of_le hq hS.1)).trans (hS.2.1 q hq hn)⟩
  have hlst : l.stackTraces = false := by
    unfold Launch.stackTraces
    rw [hfl]
    decide +kernel
  have hsz : la.size = c.maxLocals := hL.1.1.trans hml.symm
  have hsum : ((st.map tpv).map fun v => v.category).sum + (13 * (tpEs.length + 1) + 43) ≤ R.locals := by
    rw [tpv_sum]
    show _ + (13 * (2 + 1) + 43) ≤ _
    omega
  have hfr : tpEs.length + 3 < R.frames := by show 2 + 3 < _; omega
  have hout : ∀ q, ∀ x ∈ c.exceptionTable.toList, covers x q = false := fun q x hx => by
    rw [tpTb0 htb hH] at hx
    cases hx
  obtain ⟨⟨d0, d3⟩, ⟨d4, d6, d9⟩ | ⟨d4, d6, d9⟩⟩ := hdec
  · exact tp_throwS hx hb hlst hown (tpExn_fit E hth.1) tpEs_fit (hts _ hcl) (hts _ (tpExn_ini E hth.1)) hsa hat hgood hSt.2.2.2.2.1 hSt.2.2.2.2.2 hS hsz d0 d3 d4 d6 d9 (hout _) hfr hsum (by omega) (by omega) hlk hxx hS.2.2 (by omega) (by omega)
  · exact tp_throwSW hx hb hlst hown (tpExn_fit E hth.1) tpEs_fit (hts _ hcl) (hts _ (tpExn_ini E hth.1)) hsa hat hgood hSt.2.2.2.2.1 hSt.2.2.2.2.2 hS hsz d0 d3 d4 d6 d9 (hout _) hfr hsum (by omega) (by omega) hlk hxx hS.2.2 (by omega) (by omega)
/-! a method's start -/
theorem tpPr_app : ∀ (ls : List (Option tpV)) (k n : Nat), tpPr k (ls ++ List.replicate n none) = tpPr k ls
  | [], k, 0 => rfl
  | [], k, n + 1 => by
    show tpPr (k + 1) (List.replicate n none) = []
    exact tpPr_app [] (k + 1) n
  | none :: r, k, n => tpPr_app r (k + 1) n
  | some v :: r, k, n => by
    show (k, tpv v) :: tpPr (k + 1) (r ++ List.replicate n none) = (k, tpv v) :: tpPr (k + 1) r
    rw [tpPr_app r (k + 1) n]
theorem tpPr_args : ∀ (vs : List tpV) (k : Nat), vs.all (fun v => tpc v == 1) = true → tpPr k (vs.map some) = lv_args k (vs.map tpv)
  | [], _, _ => rfl
  | v :: r, k, hc => by
    simp only [List.all_cons, Bool.and_eq_true, beq_iff_eq] at hc
    have h2 : ¬ (tpv v).category = 2 := by rw [tpv_cat]; omega
    show (k, tpv v) :: tpPr (k + 1) (r.map some) = (k, tpv v) :: lv_args (if (tpv v).category = 2 then k + 2 else k + 1) (r.map tpv)
    rw [if_neg h2, tpPr_args r (k + 1) hc.2]
theorem tpSl_len : ∀ (vs : List tpV), vs.all (fun v => tpc v == 1) = true → (lg_sl (vs.map tpv)).length = vs.length
  | [], _ => rfl
  | v :: r, hc => by
    simp only [List.all_cons, Bool.and_eq_true, beq_iff_eq] at hc
    have h2 : ¬ (tpv v).category = 2 := by rw [tpv_cat]; omega
    have h3 := tpSl_len r hc.2
    show (List.flatMap _ (tpv v :: r.map tpv)).length = _
    rw [List.flatMap_cons, if_neg h2, List.length_append]
    show 1 + (lg_sl (r.map tpv)).length = _
    rw [h3, List.length_cons]
    omega
theorem tpLs_in {n : Nat} {vs : List tpV} (hc : vs.all (fun v => tpc v == 1) = true) (hn : vs.length ≤ n) : tpLs n ((lg_sl (vs.map tpv) ++ List.replicate (n - (lg_sl (vs.map tpv)).length) Slot.unset).toArray) (vs.map some ++ List.replicate (n - vs.length) none) := by
  refine ⟨?_, fun i v hi => ?_⟩
  · rw [tpPr_app, tpPr_args vs 0 hc]
    exact lv_entry (vs.map tpv) (by rw [tpSl_len vs hc]; exact hn)
  · by_cases hl : i < vs.length
    · rw [List.getElem?_append_left (by rw [List.length_map]; exact hl), List.getElem?_map] at hi
      obtain ⟨w, hw, hw2⟩ := Option.map_eq_some_iff.mp hi
      have h3 := List.all_eq_true.mp hc w (List.mem_of_getElem? hw)
      cases hw2
      simpa using h3
    · rw [List.getElem?_append_right (by rw [List.length_map]; omega)] at hi
      rw [List.getElem?_replicate] at hi
      split at hi <;> cases hi
theorem tpC_of (hpl : plainName (mY M).cls = true) (hH : mH M = []) (hc : av.all (fun v => tpc v == 1) = true) (hlen : av.length ≤ mL M) (k : tpR M d h av Ro 0 (av.map some ++ List.replicate (mL M - av.length) none) [] h) : tpC M d av h Ro := by
  obtain ⟨out, h1, hR, z, u, g⟩ := k
  refine ⟨out, h1, hR, z, u, fun l D cy B hfl => ?_⟩
  rw [tpHd_nil hH]
  refine vx_ofW hpl rfl ?_
  intro p e s m args below meth c s₁ Bd hml ht hv
  obtain ⟨rfl, hP, hSt, hB⟩ := hv
  have hts0 := atoms_spec (ws := Cond.code (mY M) (mB M) (mL M) (mR M) :: tpW) Bd.pre
  have htb : c.exceptionTable.toList = tableOf (mH M) := by
    rw [hH]
    exact List.eq_nil_iff_forall_not_mem.mpr ht
  have W1 := g D cy B l p e (tpRm d (hZ h1 - hZ h) (hU h1 - hU h)) s m meth c below s.heap [] _ ⟨hfl, Bd.exec, Bd.bytes, Bd.returns, Bd.notSynchronized, hml, findClass_of_methodNamed Bd.named, fun h9 => ((name_of_methodNamed Bd.named Bd.method).1).trans h9, Or.inl htb, fun w hw => hts0 w (List.mem_cons_of_mem _ hw), hSt, hB⟩ ⟨Nat.le_refl _, Nat.le_refl _⟩ ⟨Nat.le_refl _, Nat.le_refl _⟩ ⟨Nat.le_refl _, Nat.le_refl _⟩ hP va_S.rf (tpLs_in hc hlen)
  rw [Nat.sub_self, Nat.sub_self] at W1
  rw [lg_entry_eq]
  exact W1
theorem tpC_ofH (hpl : plainName (mY M).cls = true) (hH : mH M ≠ []) (hc : av.all (fun v => tpc v == 1) = true) (hlen : av.length ≤ mL M) (k : tpR M d h av Ro 0 (av.map some ++ List.replicate (mL M - av.length) none) [] h) : tpC M d av h Ro := by
  obtain ⟨out, h1, hR, z, u, g⟩ := k
  refine ⟨out, h1, hR, z, u, fun l D cy B hfl => ?_⟩
  rw [tpHd_cons hH]
  refine vx_ofWH hpl rfl ?_
  intro p e s m args below meth c s₁ Bd hml hv
  obtain ⟨rfl, hP, hSt, hB⟩ := hv
  have hts0 := atoms_spec (ws := Cond.codeWith (mY M) (mB M) (mL M) (mR M) (mH M) :: tpW) Bd.pre
  have htb := vx_table (x := mY M) Bd (hts0 _ List.mem_cons_self)
  have W1 := g D cy B l p e (tpRm d (hZ h1 - hZ h) (hU h1 - hU h)) s m meth c below s.heap [] _ ⟨hfl, Bd.exec, Bd.bytes, Bd.returns, Bd.notSynchronized, hml, findClass_of_methodNamed Bd.named, fun h9 => ((name_of_methodNamed Bd.named Bd.method).1).trans h9, Or.inl htb, fun w hw => hts0 w (List.mem_cons_of_mem _ hw), hSt, hB⟩ ⟨Nat.le_refl _, Nat.le_refl _⟩ ⟨Nat.le_refl _, Nat.le_refl _⟩ ⟨Nat.le_refl _, Nat.le_refl _⟩ hP va_S.rf (tpLs_in hc hlen)
  rw [Nat.sub_self, Nat.sub_self] at W1
  rw [lg_entry_eq]
  exact W1
end TPU
