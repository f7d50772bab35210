section TPX
variable {M : tpM} {d : Nat} {h0 : tpH} {av : List tpV} {Ro : tpO → tpH → Prop} {pc pc' : Nat} {ls ls' : List (Option tpV)} {st st' rest : List tpV} {h h' : tpH} {x : Option Nat}
/-! the rows for a reference that is known to be some a -/
theorem te_geti {a ci k idx : Nat} (hd : decode (mB M) pc = .ok (.getfield idx, 3)) (hf : tpF (mY M).cls idx ci k) (hty : tpIr (tpTy ci k) = false) (he : x = some a) (hk : hT h a = ci + 1) (kk : tpR M d h0 av Ro (pc + 3) ls (vI (hI h a k) :: st) h) : tpR M d h0 av Ro pc ls (vR x :: st) h := by
  subst he; exact tq_geti hd hf hty hk kk
theorem te_getr {a ci k idx : Nat} (hd : decode (mB M) pc = .ok (.getfield idx, 3)) (hf : tpF (mY M).cls idx ci k) (hty : tpIr (tpTy ci k) = true) (he : x = some a) (hk : hT h a = ci + 1) (kk : tpR M d h0 av Ro (pc + 3) ls (vR (hR h a k) :: st) h) : tpR M d h0 av Ro pc ls (vR x :: st) h := by
  subst he; exact tq_getr hd hf hty hk kk
theorem te_puti {a ci k idx : Nat} {v : Int32} (hd : decode (mB M) pc = .ok (.putfield idx, 3)) (hf : tpFp (mY M).cls idx ci k) (hpu : tpPu M ci k = true) (hty : tpIr (tpTy ci k) = false) (he : x = some a) (hk : hT h a = ci + 1) (hv : narrow (tpTy ci k) (.int v) = .int v ∧ fits (tpTy ci k) (.int v) = true)
    (kk : ∀ h' : tpH, h' = sI h a k v → tpR M d h0 av Ro (pc + 3) ls st h') : tpR M d h0 av Ro pc ls (vI v :: vR x :: st) h := by
  subst he; exact tq_puti hd hf hpu hty hk hv kk
theorem te_putr {a ci k idx : Nat} {v : Option Nat} (hd : decode (mB M) pc = .ok (.putfield idx, 3)) (hf : tpFp (mY M).cls idx ci k) (hpu : tpPu M ci k = true) (hty : tpIr (tpTy ci k) = true) (he : x = some a) (hk : hT h a = ci + 1)
    (kk : ∀ h' : tpH, h' = sR h a k v → tpR M d h0 av Ro (pc + 3) ls st h') : tpR M d h0 av Ro pc ls (vR v :: vR x :: st) h := by
  subst he; exact tq_putr hd hf hpu hty hk kk
theorem te_iald {a : Nat} {i : Int32} (hd : decode (mB M) pc = .ok (.iaload, 1)) (he : x = some a) (hk : hT h a = 15 ∨ hT h a = 22) (hin : vp_in i (hL h a)) (kk : tpR M d h0 av Ro (pc + 1) ls (vI (hI h a i.toNatClampNeg) :: st) h) : tpR M d h0 av Ro pc ls (vI i :: vR x :: st) h := by
  subst he; exact tq_iald hd hk hin kk
theorem te_aald {k t ci : Nat} {C : String} (hq : tpQk k t ci C) {a : Nat} {i : Int32} (hd : decode (mB M) pc = .ok (.aaload, 1)) (he : x = some a) (hk : hT h a = k) (hin : vp_in i (hL h a)) (kk : tpR M d h0 av Ro (pc + 1) ls (vR (hR h a i.toNatClampNeg) :: st) h) : tpR M d h0 av Ro pc ls (vI i :: vR x :: st) h := by
  subst he; exact tq_aald hq hd hk hin kk
theorem te_iast {a : Nat} {i v : Int32} (hd : decode (mB M) pc = .ok (.iastore, 1)) (he : x = some a) (hk : hT h a = 15) (hin : vp_in i (hL h a)) (kk : ∀ h' : tpH, h' = sI h a i.toNatClampNeg v → tpR M d h0 av Ro (pc + 1) ls st h') : tpR M d h0 av Ro pc ls (vI v :: vI i :: vR x :: st) h := by
  subst he; exact tq_iast hd hk hin kk
theorem te_aast {k t ci : Nat} {C : String} (hq : tpQk k t ci C) {a v : Nat} {i : Int32} {y : Option Nat} (hd : decode (mB M) pc = .ok (.aastore, 1)) (he : x = some a) (hk : hT h a = k) (hin : vp_in i (hL h a)) (hey : y = some v) (hv : hT h v = ci + 1) (kk : ∀ h' : tpH, h' = sR h a i.toNatClampNeg (some v) → tpR M d h0 av Ro (pc + 1) ls st h') : tpR M d h0 av Ro pc ls (vR y :: vI i :: vR x :: st) h := by
  subst he; subst hey; exact tq_aast hq hd hk hin hv kk
theorem te_alen {a : Nat} (hd : decode (mB M) pc = .ok (.arraylength, 1)) (he : x = some a) (hk : 15 ≤ hT h a ∧ hT h a ≤ 22) (kk : tpR M d h0 av Ro (pc + 1) ls (vI (Int32.ofNat (hL h a)) :: st) h) : tpR M d h0 av Ro pc ls (vR x :: st) h := by
  subst he; exact tq_alen hd hk kk
theorem te_init {C : tpM} {n : Nat} (hM : tpMi C n) {idx dc a : Nat} {as st0 : List tpV} {Rc : tpO → tpH → Prop} (hk : tpK (mY M).cls idx C ∨ ∃ host : String, ((mY M).cls, idx, mY C, host) ∈ tpNm) (hdd : dc + 1 ≤ d) (hmx : mL C ≤ 24) (hn : as.length = n) (hst : st0 = as.reverse ++ vR x :: rest) (he : x = some a) (hwd : (rest.map tpc).sum ≤ 8) (hd : decode (mB M) pc = .ok (.invokespecial idx, 3))
    (hw : tpC C dc (vR (some a) :: as) h Rc) (hnt : tpNt Rc) (k : ∀ (v : Option tpV) (h1 : tpH), Rc (.inl v) h1 → tpR M d h0 av Ro (pc + 3) ls (v.toList ++ rest) h1) : tpR M d h0 av Ro pc ls st0 h := by
  subst he; exact tq_init hM hk hdd hmx hn hst hwd hd hw hnt k
theorem te_callV {C : tpM} {n : Nat} (hM : tpMv C n) {idx ci dc a : Nat} {as st0 : List tpV} {Rc : tpO → tpH → Prop} (hk : tpK (mY M).cls idx C) (hrc : (tpCl[ci]?).map (fun r => r.1) = some (mY C).cls) (hdd : dc + 1 ≤ d) (hmx : mL C ≤ 24) (hn : as.length = n) (hst : st0 = as.reverse ++ vR x :: rest) (he : x = some a) (hT0 : hT h a = ci + 1) (hwd : (rest.map tpc).sum ≤ 8) (hd : decode (mB M) pc = .ok (.invokevirtual idx, 3))
    (hw : tpC C dc (vR (some a) :: as) h Rc) (kx : ∀ (E : String) (h1 : tpH), Rc (.inr E) h1 → tpXx M d h0 av Ro pc ls rest E h1) (k : ∀ (v : Option tpV) (h1 : tpH), Rc (.inl v) h1 → tpR M d h0 av Ro (pc + 3) ls (v.toList ++ rest) h1) : tpR M d h0 av Ro pc ls st0 h := by
  subst he; exact tq_callV hM hk hrc hdd hmx hn hst hT0 hwd hd hw kx k
end TPX
