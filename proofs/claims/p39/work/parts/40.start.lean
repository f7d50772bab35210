def R_law : String := "TwigPatchLaw"
def lw_P (b : Addr) (xs : List Int32) (args : Array Value) (s : State) : Prop := args = #[.ref b] ∧ s.IntsAt b xs ∧ xs.length ≤ 260 ∧ (Jvm.Cond.and given_1 narrow_1).before args s = true
theorem rmC : 600000 ≤ room_1.cells := by decide
theorem rmU : 7200000 ≤ room_1.slots := by decide
def lw_Q (_ : Array Value) (s : State) (o : Outcome) (t : State) : Prop := o = .returned (some (.int 1)) ∧ Framed s o t [] room_1.cells room_1.slots
def lw_Z (below : List Frame) (a : Array Value) (s : State) : State → Prop := fun t => ∃ o, t.status = .running ∧ Ended t below o ∧ lw_Q a s o t
/-- the law's own end, with 1 on the stack, nothing written that was there before, its room as the claim has it -/
theorem lw_ret {p : Program} {l : Launch} {e : Env} {s : State} {m : MethodId} {below : List Frame} {meth : Method} {c : Code} {b : Nat} (hx : p.tables.exec = Jvm.exec) (hb : c.code = code) (hr : meth.sig.returnType = ret) (hlocks : meth.locks = false) {pc : Nat} {H : Heap} {ls : Array Slot} (hdg : decode code pc = .ok (.ireturn, 1)) : W p l e room_1 s m #[Value.ref b] below meth c H [] room_1.cells room_1.slots (lw_Z below #[Value.ref b] s) (F0 m pc ls [.int 1]) := by
  intro T hT X
  obtain ⟨fs, hret, hrun, hended, hW, hframe⟩ := X.leave (v := some (.int 1)) (hlocks := hlocks) (fun h => by rw [hr] at h; cases h)
  have hmeth' : T.vm.method? m = some meth := X.method'
  refine ⟨T.setFrames fs, ?_, .returned (some (.int 1)), hrun, hended, rfl, ⟨_, rfl⟩, hW, hframe⟩
  jvm_step X.here [X.here.top, hx, hb, hdg, hmeth', hr, ret, narrow_b1]
  (try refine ⟨rfl, ?_⟩); (try refine ⟨rfl, ?_⟩)
  first | (intro acts; rw [hret _ acts rfl rfl rfl]) | rw [hret _ _ rfl rfl rfl]
  exact Steps.refl _
/-- what holds at the law's entry: the machine, the code, the tables' words (any of lw_tbl by 'hts w (by decide +kernel)'), the script of L ints xs at the cell b, what the Statement gives of the start (any of its parts by flat_of_before) -/
def lw_At (p : Program) (s : State) (m : MethodId) (meth : Method) (c : Code) (b L : Nat) (xs : Nat → Int32) : Prop :=
  p.tables.exec = Jvm.exec ∧ c.code = code ∧ meth.sig.returnType = ret ∧ c.maxLocals = 18 ∧ s.vm.findClass R_law = some m.cls ∧ (∀ w ∈ lw_tbl, w.before #[Value.ref b] s = true) ∧ va_X b L xs s s.heap ∧ b < s.heap.size ∧ meth.locks = false ∧ (Jvm.Cond.and given_1 narrow_1).before #[Value.ref b] s = true
section TPSTART
theorem tp_lsU : Cond.laysStatic Bundle.tN "UNASSIGNED_STACK" Bundle.steD ∈ lw_tbl := tpv2 128 (by decide +kernel)
theorem tp_lsN : Cond.laysStatic Bundle.tN "SUPPRESSED_SENTINEL" Bundle.listD ∈ lw_tbl := tpv2 130 (by decide +kernel)
theorem tp_iniT : Cond.initialized Bundle.tN ∈ lw_tbl := tpv1 11 (by decide +kernel)
/-- the picture at the law's entry -/
def tpH0 (b L z : Nat) (xs : Nat → Int32) : tpH := (fun a => if a = b then 22 else 0, fun _ => L, fun _ _ => none, fun _ j => xs j, fun _ _ => 0, fun _ _ => 0, z, 0)
theorem tpKn_all {s : State} {args : Array Value} (hts : ∀ w ∈ tpW, w.before args s = true) : ∀ ci : Nat, ∃ q : ClassId × (Nat → Nat), ∀ r : vw_C, tpCl[ci]? = some r → u_Kn s r.1 r.2.1 r.2.2 q.1 q.2 := by
  intro ci
  have mkK : ∀ (C : String) (T : u_T) (N n : Nat), tpCl[ci]? = some (C, T, N) → (∀ w ∈ u_ws C T N, w ∈ tpW) → tpIk C n → ∃ q : ClassId × (Nat → Nat), ∀ r : vw_C, tpCl[ci]? = some r → u_Kn s r.1 r.2.1 r.2.2 q.1 q.2 := by
    intro C T N n h1 h2 h3
    obtain ⟨cC, iS, hk⟩ := u_known hts h2 (hts _ h3.1)
    refine ⟨(cC, iS), fun r hr => ?_⟩
    cases h1.symm.trans hr
    exact hk
  match ci, mkK with
  | 0, mkK => exact mkK RX0 TX0 10 10 rfl tpl0 ti_0
  | 1, mkK => exact mkK RX1 TX1 7 7 rfl tpl1 ti_1
  | 2, mkK => exact mkK RX2 TX2 7 7 rfl tpl2 ti_2
  | 3, mkK => exact mkK RX3 TX3 9 9 rfl tpl3 ti_3
  | 4, mkK => exact mkK RX4 TX4 3 3 rfl tpl4 ti_4
  | 5, mkK => exact mkK RX5 TX5 9 9 rfl tpl5 ti_5
  | 6, mkK => exact mkK RX6 TX6 12 12 rfl tpl6 ti_6
  | 7, mkK => exact mkK RX7 TX7 2 2 rfl tpl7 ti_7
  | 8, mkK => exact mkK RX7 TX7 2 2 rfl tpl8 ti_7
  | 9, mkK => exact mkK RX9 TX9 3 3 rfl tpl9 ti_9
  | 10, mkK => exact mkK RX7 TX7 2 2 rfl tpl10 ti_7
  | 11, mkK => exact mkK RX11 TX11 10 10 rfl tpl11 ti_11
  | 12, mkK => exact mkK RX12 TX12 13 13 rfl tpl12 ti_12
  | 13, mkK => exact mkK RX7 TX7 2 2 rfl tpl13 ti_7
  | n + 14, _ => exact ⟨(0, fun _ => 0), fun r hr => by simp [tpCl] at hr⟩
theorem tpAr_of {s : State} {args : Array Value} {ty : FieldType} (h : (Cond.arrayClass ty).before args s = true) : ∃ cA : ClassId, ArrOfT s cA ty ∧ s.vm.findClass ("[" ++ ty.toString) = some cA := by
  obtain ⟨c, k, comp, h1, h2, h3⟩ := Cond.arrayClass_spec h
  exact ⟨c, fun n z => ⟨fun k h => (by cases h), k, h2, comp, h3⟩, h1⟩
theorem tpAq_of {s : State} {args : Array Value} {C : String} (h : (Cond.arrayOver (.object C)).before args s = true) : ∃ cA : ClassId, ArrOfT s cA (.object C) ∧ va_RA s cA (.object C) := by
  obtain ⟨comp, c, k, h1, -, h2, h3, h4⟩ := Cond.arrayOver_spec h
  exact ⟨c, fun n z => ⟨fun k h => (by cases h), k, h2, comp, h3⟩, k, comp, h2, h3, h1, h4⟩
theorem tpStr_of {s : State} {args : Array Value} {own tx : String} {k : Nat} (h : (Cond.stringRef own k tx).before args s = true) : ∃ a : Nat, vk_R own k tx a s := by
  have hcur : ∃ cur, s.vm.findClass own = some cur := by
    have h1 := h
    simp only [Cond.before, Cond.holds, Cond.value] at h1
    cases hc : s.vm.findClass own with
    | none => simp [hc] at h1
    | some cur => exact ⟨cur, rfl⟩
  obtain ⟨cur, hcur⟩ := hcur
  obtain ⟨k0, cf, i, a, -, -, -, -, -, hev⟩ := Cond.stringRef_spec hcur h
  exact ⟨a, vk_R.of h hev⟩
theorem tp_in {p : Program} {s : State} {m : MethodId} {meth : Method} {c : Code} {b L : Nat} {xs : Nat → Int32} (l : Launch) (hflags : l.flags = flags0) (C0 : lw_At p s m meth c b L xs) :
    ∃ (D : va_G) (cy : Nat → ClassId), tpX Lw_main D cy s.heap.size l p s m meth c #[Value.ref b] ∧ tpP D cy s.heap.size (tpH0 b L s.heap.size xs) s.heap := by
  obtain ⟨hx, hb, hr, hml, hown, hts, hX, hbl, hlocks, hgv⟩ := C0
  have htW : ∀ w ∈ tpW, w.before #[Value.ref b] s = true := fun w hw => hts w (List.mem_filter.mp hw).1
  have hq := tpKn_all htW
  obtain ⟨scr, x1, x2, x3, x4, x5⟩ := hX
  obtain ⟨c15, a15, b15⟩ := tpAr_of (htW _ ta_int)
  obtain ⟨c16, a16, b16⟩ := tpAr_of (htW _ ta_int)
  obtain ⟨c17, a17, b17⟩ := tpAr_of (htW _ ta_int)
  obtain ⟨c18, a18, b18⟩ := tpAr_of (htW _ ta_int)
  obtain ⟨c19, a19, b19⟩ := tpAq_of (hts _ (tpNa_in "TwigPatch$Script" (by decide)))
  obtain ⟨c20, a20, b20⟩ := tpAq_of (hts _ (tpNa_in "TwigPatch$Script" (by decide)))
  obtain ⟨c21, a21, b21⟩ := tpAq_of (hts _ (tpNa_in "TwigPatch$Tree" (by decide)))
  refine ⟨(fun ci => (Classical.choose (hq ci)).1, fun ci => (Classical.choose (hq ci)).2), fun k => match k with
    | 15 => c15
    | 16 => c16
    | 17 => c17
    | 18 => c18
    | 19 => c19
    | 20 => c20
    | 21 => c21
    | _ => scr.cls, ⟨hflags, hx, hb, hr, hlocks, hml, hown, fun h9 => absurd h9 (by decide), Or.inr rfl, htW, ⟨⟨⟨fun ci r hrr => ?_, fun k q hkq => ?_⟩, fun n z => ⟨fun k h => (by cases h), x2.2⟩⟩, fun q hqq => tpStr_of (hts _ (tpStr_in q hqq)), fun q hqq => ?_, ⟨fun q hqq => va_Nw.of rfl (hts _ (tpNf_in q hqq)), fun q hqq => va_Nw.of rfl (hts _ (tpNm_in q hqq)), fun q hqq => va_Nw.of rfl (hts _ (tpNc_in q hqq)), fun q hqq => va_AO.of (hts _ (tpNa_in q hqq)), fun q hqq => va_Nw.of rfl (hts _ (tpNd_in q hqq))⟩, ?_, ?_⟩, Nat.le_refl _⟩, ?_⟩
  · exact Classical.choose_spec (hq ci) r hrr
  · match k, hkq with
    | 0, hkq => cases hkq; exact ⟨a15, b15⟩
    | 1, hkq => cases hkq; exact ⟨a16, b16⟩
    | 2, hkq => cases hkq; exact ⟨a17, b17⟩
    | 3, hkq => cases hkq; exact ⟨a18, b18⟩
    | 4, hkq => cases hkq; exact ⟨a19, b19⟩
    | 5, hkq => cases hkq; exact ⟨a20, b20⟩
    | 6, hkq => cases hkq; exact ⟨a21, b21⟩
    | n + 7, hkq => simp [tpTys] at hkq
  · refine va_Nc.of (flat_of_before _ hgv (.not (.castable q.1 q.2)) ?_)
    revert q
    decide +kernel
  · exact vx_Zqof (hts _ tp_lsU) (hts _ tp_iniT) (flat_of_before _ hgv _ (by decide +kernel)) (fun a ha => Nat.not_le.mpr ha)
  · exact vx_Zqof (hts _ tp_lsN) (hts _ tp_iniT) (flat_of_before _ hgv _ (by decide +kernel)) (fun a ha => Nat.not_le.mpr ha)
  · refine ⟨rfl, fun a ha => ?_⟩
    have hab : a = b := by
      by_cases e : a = b
      · exact e
      · exact absurd (show hT (tpH0 b L s.heap.size xs) a = 0 from if_neg e) ha
    subst hab
    have hk : hT (tpH0 a L s.heap.size xs) a = 22 := if_pos rfl
    refine ⟨⟨fun ci r h1 h2 => ?_, fun x hx9 => ?_, fun _ => ⟨scr, x1, rfl, x2.1, x3, x4, x5⟩⟩, hbl, fun h9 => absurd hk h9⟩
    · have := tpCl_lt h2
      rw [hk] at h1
      omega
    · rw [hk] at hx9
      cases hx9
/-- the walk of the law, out of its picture -/
theorem tp_whole {p : Program} {e : Env} {s : State} {m : MethodId} {below : List Frame} {meth : Method} {c : Code} (l : Launch) (hflags : l.flags = flags0) {b L : Nat} {xs : Nat → Int32} (C0 : lw_At p s m meth c b L xs)
    (hw : w_Lw_law (some b) (tpH0 b L s.heap.size xs) (fun _ _ => False) (fun v h => v = 1 ∧ hZ h ≤ s.heap.size + 600000 ∧ hU h ≤ 7200000)) : W p l e room_1 s m #[Value.ref b] below meth c s.heap [] 0 0 (lw_Z below #[Value.ref b] s) (entryFrame m ([Value.ref b] : List Value).toArray 18) := by
  obtain ⟨D, cy, X, hP⟩ := tp_in l hflags C0
  obtain ⟨out, h1, hRo, z, u, g⟩ := s_Lw_law hw
  match out, hRo with
  | .inl (some (.inl v)), hRo =>
    obtain ⟨rfl, z1, u1⟩ := hRo
    have ez : hZ (tpH0 b L s.heap.size xs) = s.heap.size := rfl
    have eu : hU (tpH0 b L s.heap.size xs) = 0 := rfl
    have W1 := g D cy s.heap.size l p e room_1 s m meth c below s.heap [] _ X ⟨by decide, by decide⟩ ⟨Nat.le_trans (by omega) rmC, Nat.le_trans (by omega) rmU⟩ ⟨Nat.le_refl _, Nat.le_refl _⟩ hP va_S.rf (tpLs_in (vs := [vR (some b)]) (n := mL Lw_main) rfl (Nat.le_of_ble_eq_true rfl))
    rw [Nat.sub_self, Nat.sub_self] at W1
    rw [lg_entry_eq]
    intro T hT XT
    obtain ⟨t, a1, o, b1, b2, b3⟩ := W1 T hT XT
    refine ⟨t, a1, o, b1, b2, ?_⟩
    rcases b3 with ⟨⟨⟨v, hv1, hv2⟩, hP1, hF⟩, LL, hfe, hfr⟩ | ⟨q, -, E, ce, LL, ⟨hX1, -⟩, -⟩
    · cases hv1
      refine ⟨hv2, ?_⟩
      obtain ⟨hret, hW, hsame⟩ := hfe
      exact ⟨hret, hW, hsame.weaken (fun y hy hlt => absurd hlt (Nat.not_lt.mpr (hfr y hy))) (Nat.le_trans (by omega) rmC) (Nat.le_trans (by omega) rmU)⟩
    · cases hX1
  | .inl none, hRo => exact False.elim hRo
  | .inl (some (.inr _)), hRo => exact False.elim hRo
  | .inr _, hRo => exact False.elim hRo
end TPSTART
