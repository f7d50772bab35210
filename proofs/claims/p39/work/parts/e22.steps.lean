section CSTEPS
variable {h : tpH} {z mk n : Nat} {kd idn : Nat → Int32} {rt : Nat → Bool} {r : mRe} {T : mT} {X : String → tpH → Prop} {R : Int32 → tpH → Prop}
def clT (z : Nat) : Nat → Nat → Prop := fun b _ => z ≤ b ∧ b < z + 102
theorem cS_aFr {h' : tpH} {dr : Option mT} (H : cS h z mk kd idn rt dr r n) {TT : Nat → Nat → Prop} {c u : Nat} (f : aFr h h' TT c u) (hT1 : ∀ b j, b < hZ h → TT b j → z + 102 ≤ b ∧ b < z + 109) : cS h' z mk kd idn rt dr r n := cS_fr H f.1 hT1
theorem c_dr {G : Nat → Nat → Int32} {dr : Option mT} (H : cS h z mk kd idn rt dr r n) {mk' : Nat} {kd' idn' : Nat → Int32} {rt' : Nat → Bool} {t : mT} (hm' : mIn mk' kd' rt' (some t) r) (hM' : MaP G (z + 1) mk' kd' idn') (hD : DrP G (z + 1) (some t)) (fr : ∀ c, c < z + 1 ∨ z + 1 + 20 ≤ c → G c = hI h c) (mi : MiP h (z + 1) kd' idn' r.1) : cS (wI h G) z mk' kd' idn' rt' (some t) r n :=
  ⟨hm', (stP_dr H.2.1 (by omega) (by omega) H.2.2.1 fr hM' hD mi).1, H.2.2.1, H.2.2.2⟩
theorem c_node (H : cS h z mk kd idn rt (some T) r n) (hlt : mk < 300) {p : Nat} (hp : tIn T p = true) {pl k v i : Int32} (ok : plOK (loK kd p) pl (tKi T p).length) (gd : gdLk k v i) (h24 : tCn T < 24)
    (kk : ∀ G, (∀ b, b < z + 1 ∨ z + 1 + 20 ≤ b → G b = hI h b) → cS (wI h G) z (mk + 1) (mU kd mk k) (mU idn mk i) (mU rt mk false) (some (dNode T mk v p (loK kd p) pl.toInt.toNat)) r n → R (nI mk) (wI h G)) : w_TP_node z (nI p) pl k v i h X R := by
  obtain ⟨hm, hP, hz, hn⟩ := id H
  obtain ⟨hdw, hdm⟩ := mIn_dw hm
  have hlo := fun m (_ : m < mk) => loK_iff kd m
  have un : ∀ t c, some T = some t → nI p = nI c → tIn t c = true → T = t ∧ p = c := fun t c ed ex hc => dr_un (dr := some T) rfl ed rfl ex hp hc (hdw T rfl)
  show w_TP_node z (nI p) pl k v i (wI h (hI h)) X R
  refine p_TP_node hP.1 hP.2.2.1 hP.2.1 hm.1 hdm hlo (fun g => (dr_no g rfl rfl hp (hdw T rfl)).elim) (fun t c ed ex hc np => ?_) (fun t c ed ex hc gp ng => absurd gd ng) (fun t c ed ex hc gp gd hf => ?_) (fun t c ed ex hc gp gd hcn hlt G g1 g2 g3 => ?_)
  · obtain ⟨rfl, rfl⟩ := un t c ed ex hc
    exact absurd ok np
  · obtain ⟨rfl, rfl⟩ := un t c ed ex hc
    exact absurd hf (by omega)
  · obtain ⟨rfl, rfl⟩ := un t c ed ex hc
    have ht := hm.2.1 T rfl
    exact kk G (fun c hc => g3 c (by omega)) (c_dr H (mIn_mk hm hlt k false (trI_node ht hlt k v hc pl.toInt.toNat)) g1 g2 (fun c hc => g3 c (by omega)) (MiP_kd hP.2.2.2.2.2.2.2.2.2.2.2 (fun t ht m hi => ((hm.2.2.1 t ht).2.1 m hi).1) k i))
theorem c_set (H : cS h z mk kd idn rt (some T) r n) {m : Nat} (hmi : tIn T m = true) {v : Int32} (gv : 0 ≤ v.toInt ∧ v.toInt ≤ 99)
    (kk : ∀ G, (∀ b, b < z + 1 ∨ z + 1 + 20 ≤ b → G b = hI h b) → cS (wI h G) z mk kd idn rt (some (tSet T m v)) r n → R (tWo T m) (wI h G)) : w_TP_set z (nI m) v h X R := by
  obtain ⟨hm, hP, hz, hn⟩ := id H
  obtain ⟨hdw, hdm⟩ := mIn_dw hm
  have un : ∀ t c, some T = some t → nI m = nI c → tIn t c = true → T = t ∧ m = c := fun t c ed ex hc => dr_un (dr := some T) rfl ed rfl ex hmi hc (hdw T rfl)
  show w_TP_set z (nI m) v (wI h (hI h)) X R
  refine p_TP_set hP.1 hP.2.2.1 (fun g => (dr_no g rfl rfl hmi (hdw T rfl)).elim) (fun t c ed ex hc nv => absurd gv nv) (fun t c ed ex hc gv G g1 g2 => ?_)
  obtain ⟨rfl, rfl⟩ := un t c ed ex hc
  exact kk G (fun c hc => g2 c (by omega)) (c_dr H (mIn_dr hm (trI_set (hm.2.1 T rfl) m v)) (MaP_k hP.2.1 (fun d d1 d2 => g2 d (by omega))) g1 (fun d hd => g2 d (by omega)) hP.2.2.2.2.2.2.2.2.2.2.2)
theorem c_move (H : cS h z mk kd idn rt (some T) r n) {m p : Nat} (hmi : tIn T m = true) (hpi : tIn T p = true) {pl : Int32} (ok : plOK (loK kd p) pl (leaveK T m p))
    (x4 : p ∈ tPo T m → X "java/lang/IllegalStateException" (nC h 0 0 6))
    (kk : p ∉ tPo T m → ∀ G, (∀ b, b < z + 1 ∨ z + 1 + 20 ≤ b → G b = hI h b) → cS (wI h G) z mk kd idn rt (some (dMove T m p (loK kd p) pl.toInt.toNat)) r n → R (nO (tUp T m)) (wI h G)) : w_TP_move z (nI m) (nI p) pl h X R := by
  obtain ⟨hm, hP, hz, hn⟩ := id H
  obtain ⟨hdw, hdm⟩ := mIn_dw hm
  have hlo := fun m (_ : m < mk) => loK_iff kd m
  have un : ∀ t c s, some T = some t → nI m = nI c → nI p = nI s → tIn t c = true → tIn t s = true → T = t ∧ m = c ∧ p = s := fun t c s ed ex ey hc hs => by
    obtain ⟨rfl, rfl⟩ := dr_un (dr := some T) rfl ed rfl ex hmi hc (hdw T rfl)
    exact ⟨rfl, rfl, (dr_un (dr := some T) rfl ed rfl ey hpi hs (hdw T rfl)).2⟩
  show w_TP_move z (nI m) (nI p) pl (wI h (hI h)) X R
  refine p_TP_move hP.1 hP.2.2.1 hP.2.1 hdm hlo (fun g => (dr_no g rfl rfl hmi (hdw T rfl)).elim) (fun t c ed ex hc ny => ?_) (fun t c s ed ex ey hc hs np => ?_) (fun t c s ed ex ey hc hs gp hw => ?_) (fun t c s ed ex ey hc hs gp hw G g1 g2 => ?_)
  · have et : T = t := Option.some.inj ed
    subst et
    have := ny p ((hdw T rfl).1.1 p hpi) rfl
    rw [hpi] at this
    cases this
  · obtain ⟨rfl, rfl, rfl⟩ := un t c s ed ex ey hc hs
    exact absurd ok np
  · obtain ⟨rfl, rfl, rfl⟩ := un t c s ed ex ey hc hs
    exact x4 hw
  · obtain ⟨rfl, rfl, rfl⟩ := un t c s ed ex ey hc hs
    exact kk hw G (fun c hc => g2 c (by omega)) (c_dr H (mIn_dr hm (trI_move (hm.2.1 T rfl) hc hs hw pl.toInt.toNat)) (MaP_k hP.2.1 (fun d d1 d2 => g2 d (by omega))) g1 (fun d hd => g2 d (by omega)) hP.2.2.2.2.2.2.2.2.2.2.2)
theorem c_drop (H : cS h z mk kd idn rt (some T) r n) {m : Nat} (hmi : tIn T m = true)
    (x2 : m = tRt T → X "java/lang/IllegalStateException" (nC h 0 0 6))
    (kk : m ≠ tRt T → ∀ G, (∀ b, b < z + 1 ∨ z + 1 + 20 ≤ b → G b = hI h b) → cS (wI h G) z mk kd idn rt (some (tErs T m)) r n → R (nI (tPo T m).length) (wI h G)) : w_TP_drop z (nI m) h X R := by
  obtain ⟨hm, hP, hz, hn⟩ := id H
  obtain ⟨hdw, hdm⟩ := mIn_dw hm
  have un : ∀ t c, some T = some t → nI m = nI c → tIn t c = true → T = t ∧ m = c := fun t c ed ex hc => dr_un (dr := some T) rfl ed rfl ex hmi hc (hdw T rfl)
  show w_TP_drop z (nI m) (wI h (hI h)) X R
  refine p_TP_drop hP.1 hP.2.2.1 (fun g => (dr_no g rfl rfl hmi (hdw T rfl)).elim) (fun t ed ex => ?_) (fun t c ed ex hc hn G g1 g2 => ?_)
  · have et : T = t := Option.some.inj ed
    subst et
    exact x2 (dr_un (dr := some T) rfl rfl rfl ex hmi (hdw T rfl).2.1 (hdw T rfl)).2
  · obtain ⟨rfl, rfl⟩ := un t c ed ex hc
    exact kk hn G (fun c hc => g2 c (by omega)) (c_dr H (mIn_dr hm (trI_ers (hm.2.1 T rfl) hc hn)) (MaP_k hP.2.1 (fun d d1 d2 => g2 d (by omega))) g1 (fun d hd => g2 d (by omega)) hP.2.2.2.2.2.2.2.2.2.2.2)
theorem c_seal (H : cS h z mk kd idn rt (some T) r n) (hlt : r.1.length < 40)
    (kk : ∀ h', hZ h' = hZ h + 19 → hU h' = hU h + (28 + 8 * (pO T).length + mk) → (∀ b, z + 102 ≤ b → b < z + 109 → hSm h h' b) → (∀ b, b < hZ h → b < z → hSm h h' b) → cS h' z mk kd idn rt (some T) (r.1 ++ [T], r.2) n → R (nI r.1.length) h') : w_TP_seal z h X R := by
  obtain ⟨hm, hP, hz, hn⟩ := id H
  obtain ⟨hdw, hdm⟩ := mIn_dw hm
  refine p_TP_seal hP.1 (by omega) (by omega) hz hP.2.2.2.2.1 hP.2.2.1 hP.2.1.1 hm.1 hdm (fun g => ?_) (fun t ed hlt h' z1 u1 f1 r1 F1 => ?_)
  · rcases g with g | g
    · cases g
    · omega
  · have et : T = t := Option.some.inj ed
    subst et
    exact kk h' z1 u1 (fun b b1 b2 => hFr_sS f1 (by omega) (fun j g => by omega) (fun j g => by omega)) (fun b b1 b2 => hFr_sS f1 b1 (fun j g => by omega) (fun j g => by omega)) ⟨mIn_keep hm (hm.2.1 T rfl), stP_keep hP (by omega) (by omega) hz f1 F1 r1 (Nat.le_refl _), by omega, hn⟩
theorem c_copy {dr : Option mT} (H : cS h z mk kd idn rt dr r n) {i : Nat} (hi : r.1[i]? = some T)
    (kk : ∀ G, (∀ b, b < z + 1 ∨ z + 1 + 20 ≤ b → G b = hI h b) → cS (wI h G) z mk kd idn rt (some T) r n → R (nI (tCn T)) (wI h G)) : w_TP_copy z (nI i) h X R := by
  obtain ⟨hm, hP, hz, hn⟩ := id H
  have hwf := mIn_wf hm
  have hi40 : i < 40 := by
    have h1 := (List.getElem?_eq_some_iff.mp hi).1
    have h2 := hP.2.2.2.2.1.2.1
    omega
  show w_TP_copy z (nI i) (wI h (hI h)) X R
  refine p_TP_copy hP.1 (D := z + 109) (by omega) hP.2.2.2.2.1 hwf (lw_fr (z := z) hm hP) (fun g => absurd rfl (g i (List.getElem?_eq_some_iff.mp hi).1)) (fun i' t ex hi' G g1 g2 => ?_)
  have h1 := (List.getElem?_eq_some_iff.mp hi').1
  have h2 := hP.2.2.2.2.1.2.1
  have ei : i = i' := nI_inj (by omega) (by omega) ex
  subst ei
  have et : T = t := by rw [hi] at hi'; exact Option.some.inj hi'
  subst et
  exact kk G (fun c hc => g2 c (by omega)) (c_dr H (mIn_dr hm (hm.2.2.1 T (List.mem_of_getElem? hi))) (MaP_k hP.2.1 (fun c c1 c2 => g2 c (by omega))) g1 (fun c hc => g2 c (by omega)) hP.2.2.2.2.2.2.2.2.2.2.2)
theorem c_pol {dr : Option mT} (H : cS h z mk kd idn rt dr r n) {i : Nat} {v : Int32} (ok : polOK (nI i) v) (hi : i < 6)
    (kk : ∀ G, (∀ b, b ≠ z + 1 + 71 → G b = hI h b) → cS (wI h G) z mk kd idn rt dr (r.1, r.2.1, r.2.2.1, mU r.2.2.2.1 i v, r.2.2.2.2) n → R (r.2.2.2.1 i) (wI h G)) : w_TP_setPolicy z (nI i) v h X R := by
  obtain ⟨hm, hP, hz, hn⟩ := id H
  have PP := hP.2.2.2.2.2.2.2.2.1
  refine p_TP_setPolicy hP.1 PP (fun ng => absurd ok ng) (fun ok i' ei hi' => ?_)
  have eii : i = i' := nI_inj (by omega) (by omega) ei
  subst eii
  have f7 : hFr h (wI h (tpu (hI h) (z + 1 + 71) i v)) (fun c j => c = z + 1 + 71 ∧ j = i) (fun _ _ => False) := hFr_w h _ (fun c j hc => by simp only [tpu]; rw [if_neg hc])
  obtain ⟨q1, q2, q3, q4, q5, q6⟩ := reP_parts hP.2.2.2.2 (by omega) (by omega) hz f7 (fun c j g => by unfold fSc; omega) (fun c j g => g.elim)
  have eI : ∀ c, c ≠ z + 1 + 71 → hI (wI h (tpu (hI h) (z + 1 + 71) i v)) c = hI h c := fun c hc => funext fun j => tpu_a _ _ _ _ _ _ hc
  refine kk _ eI ⟨⟨hm.1, hm.2.1, hm.2.2.1, hm.2.2.2.1, fun j => ?_, hm.2.2.2.2.2⟩, ⟨hP.1, MaP_k hP.2.1 (fun c c1 c2 => eI c (by omega)), DrP_k hP.2.2.1 (fun c c1 c2 => eI c (by omega)), fun j hj => by rw [eI (z + 1 + 68) (by omega)]; exact hP.2.2.2.1 j hj, q1, q2, q3, by rw [eI z (by omega)]; exact hP.2.2.2.2.2.2.2.1, fun j hj => ?_, q4, q5, q6⟩, hz, hn⟩
  · show mU r.2.2.2.1 i v j = 0 ∨ mU r.2.2.2.1 i v j = 1 ∨ mU r.2.2.2.1 i v j = 2
    by_cases c : j = i
    · rw [c, mU_s]; exact pol_y ok
    · rw [mU_n _ _ c]; exact hm.2.2.2.2.1 j
  · show tpu (hI h) (z + 1 + 71) i v (z + 1 + 71) j = mU r.2.2.2.1 i v j
    by_cases c : j = i
    · subst c; rw [tpu_s, mU_s]
    · rw [tpu_j _ _ _ _ _ _ c, mU_n _ _ c]; exact PP j hj
theorem c_merge {dr : Option mT} (H : cS h z mk kd idn rt dr r n) {i1 i2 i3 : Nat} {t u v : mT} (h1 : r.1[i1]? = some t) (h2 : r.1[i2]? = some u) (h3 : r.1[i3]? = some v) (hr : tRt u = tRt t ∧ tRt v = tRt t) (hlt : r.1.length < 40)
    (kk : ∀ h' n', mgH mk (tRt t) t u v → cS h' z mk kd idn rt dr (r.1 ++ [mgRes r.2.2.2.1 mk (tRt t) t u v (loK kd)], r.2.1, r.2.2.1, r.2.2.2.1, mgCfl r.2.2.2.1 mk (tRt t) t u v (loK kd), r.2.2.2.2.2) n' → n ≤ n' → (∀ b, z + 102 ≤ b → b < z + 109 → hSm h h' b) → (∀ b, b < hZ h → b < z → hSm h h' b) → hZ h ≤ hZ h' → hZ h' ≤ hZ h + 19 + (n' - n) → hU h' ≤ hU h + 2728 + 4 * (n' - n) → R (nI r.1.length) h') : w_TP_merge z (nI i1) (nI i2) (nI i3) h X R := by
  obtain ⟨hm, hP, hz, hn⟩ := id H
  have l40 := hP.2.2.2.2.1.2.1
  have b1 := (List.getElem?_eq_some_iff.mp h1).1
  have b2 := (List.getElem?_eq_some_iff.mp h2).1
  have b3 := (List.getElem?_eq_some_iff.mp h3).1
  have g1 : lstAt r.1 (nI i1) = some t := by rw [lstAt_n _ (by omega)]; exact h1
  have g2 : lstAt r.1 (nI i2) = some u := by rw [lstAt_n _ (by omega)]; exact h2
  have g3 : lstAt r.1 (nI i3) = some v := by rw [lstAt_n _ (by omega)]; exact h3
  have eK : mgK r.1 (nI i1) (nI i2) (nI i3) = 0 := by rw [mgK_s g1 g2 g3, if_pos hr, if_neg (by omega)]
  refine p_TP_merge hP (by omega) (by omega) hz hm hn (fun e => absurd (eK.symm.trans e) (by decide)) (fun e => absurd (eK.symm.trans e) (by decide)) (fun _ t' u' v' l1 l2 l3 HH h' n' c0 c1 hm' P' hn' E f zz uu => ?_)
  rw [g1] at l1
  rw [g2] at l2
  rw [g3] at l3
  cases l1
  cases l2
  cases l3
  have E' := E
  unfold cfE at E'
  have nT : ∀ c j, mkT z (z + 1) (hZ h) c0 c1 c j → z ≤ c ∧ (c < z + 102 ∨ z + 109 ≤ c) := fun c j g => by unfold mkT mtT at g; omega
  have nU : ∀ c j, mkU (z + 1) r.1.length c j → z ≤ c ∧ (c < z + 102 ∨ z + 109 ≤ c) := fun c j g => by unfold mkU cfU at g; omega
  have zf := f.1
  exact kk h' n' HH ⟨hm', P', by omega, hn'.2⟩ hn'.1 (fun b b1 b2 => hFr_sS f (by omega) (fun j g => by have := nT _ _ g; omega) (fun j g => by have := nU _ _ g; omega)) (fun b b1 b2 => hFr_sS f b1 (fun j g => by have := nT _ _ g; omega) (fun j g => by have := nU _ _ g; omega)) zf (by omega) (by omega)
end CSTEPS
