section CASE2
theorem dr_no {dr : Option mT} {x : Int32} {t : mT} {r : Nat} (g : ∀ m, m < 300 → x = nI m → drIn dr m = false) (ed : dr = some t) (ex : x = nI r) (hr : tIn t r = true) (hw : tWF 300 t) : False := by
  subst ed
  have := g r (hw.1.1 r hr) ex
  rw [show drIn (some t) r = tIn t r from rfl, hr] at this
  simp at this
theorem dr_un {dr : Option mT} {x : Int32} {t t' : mT} {r r' : Nat} (ed : dr = some t) (ed' : dr = some t') (ex : x = nI r) (ex' : x = nI r') (hr : tIn t r = true) (hr' : tIn t' r' = true) (hw : tWF 300 t) : t = t' ∧ r = r' := by
  subst ed
  have e := Option.some.inj ed'
  subst e
  have h1 := hw.1.1 r hr
  have h2 := hw.1.1 r' hr'
  exact ⟨rfl, nI_inj (by omega) (by omega) (ex.symm.trans ex')⟩
theorem lw_fr {z mk : Nat} {kd : Nat → Int32} {rt : Nat → Bool} {dr : Option mT} {r : mRe} (hm : mIn mk kd rt dr r) {h : tpH} {x p D n : Nat} {idn : Nat → Int32} (hP : stP h x p D mk kd idn dr r n) : ∀ (i : Nat) (t : mT), r.1[i]? = some t → tLo (loK kd) t ∧ ∀ q, tIn t q = true → (hI h (p + 2) q < 4 ↔ loK kd q = false) := fun i t hi => by
  have ht := hm.2.2.1 t (List.mem_of_getElem? hi)
  refine ⟨ht.2.2, fun q hq => ?_⟩
  rw [(hP.2.1.2 q (ht.2.1 q hq).1).1]
  exact loK_iff kd q
end CASE2
