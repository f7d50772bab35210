section MATCHEXT
theorem fld_cg {α β : Type} {f g : α → β → α} : ∀ (l : List β) (P : α), (∀ P x, x ∈ l → f P x = g P x) → l.foldl f P = l.foldl g P
  | [], P, h => rfl
  | x :: l, P, h => by
    rw [List.foldl_cons, List.foldl_cons, h P x List.mem_cons_self]
    exact fld_cg l _ (fun Q y hy => h Q y (List.mem_cons_of_mem _ hy))
theorem fnd_cg {p q : Nat → Bool} : ∀ {L : List Nat}, (∀ a ∈ L, p a = q a) → L.find? p = L.find? q
  | [], h => rfl
  | a :: L, h => by
    rw [List.find?_cons, List.find?_cons, h a List.mem_cons_self, fnd_cg (fun b hb => h b (List.mem_cons_of_mem _ hb))]
def exH (kd idn kd' idn' : Nat → Int32) (t u : mT) : Prop := ∀ m, (tIn t m = true ∨ tIn u m = true) → kd m = kd' m ∧ idn m = idn' m
theorem exH_s {kd idn kd' idn' : Nat → Int32} {t u : mT} (H : exH kd idn kd' idn' t u) : exH kd' idn' kd idn t u := fun m h => ⟨(H m h).1.symm, (H m h).2.symm⟩
theorem mayB_x {kd idn kd' idn' : Nat → Int32} {t u : mT} (H : exH kd idn kd' idn' t u) {P : mP} {x y : Nat} (hx : tIn t x = true) (hy : tIn u y = true) : mayB kd idn P x y = mayB kd' idn' P x y := by
  unfold mayB
  rw [(H x (Or.inl hx)).1, (H x (Or.inl hx)).2, (H y (Or.inr hy)).1, (H y (Or.inr hy)).2]
theorem alk_x {K : Nat → List Nat} {L L' : Nat → aLb} {lo lo' : Nat → Bool} {S : Nat → Prop} (h1 : ∀ a, S a → L a = L' a ∧ lo a = lo' a) (h2 : ∀ a c, S a → c ∈ K a → S c) : ∀ (n a b : Nat), S a → S b → alk K L lo n a b → alk K L' lo' n a b
  | 0, a, b, sa, sb, h => h.elim
  | n + 1, a, b, sa, sb, h => by
    obtain ⟨e, p, q⟩ := h
    rw [(h1 a sa).1, (h1 b sb).1] at e
    rw [(h1 a sa).2] at p q
    exact ⟨e, fun c => pm_mono (fun x hx y hy g => alk_x h1 h2 n x y (h2 a x sa hx) (h2 b y sb hy) g) (p c), fun c => all2_mono (fun x hx y hy g => alk_x h1 h2 n x y (h2 a x sa hx) (h2 b y sb hy) g) (q c)⟩
def zI (t u : mT) (z : Nat) : Prop := (z < 300 ∧ tIn t z = true) ∨ (300 ≤ z ∧ tIn u (z - 300) = true)
theorem zI_K {t u : mT} (hw : tWF 300 t) (hu : tWF 300 u) {a c : Nat} (h : zI t u a) (hc : c ∈ zK t u a) : zI t u c := by
  unfold zK at hc
  rcases h with ⟨h1, h2⟩ | ⟨h1, h2⟩
  · rw [if_pos h1] at hc
    have i := ((hw.1.2.1 c a).mp hc).1
    exact Or.inl ⟨hw.1.1 c i, i⟩
  · rw [if_neg (by omega)] at hc
    obtain ⟨d, d1, d2⟩ := List.mem_map.mp hc
    have i := ((hu.1.2.1 d (a - 300)).mp d1).1
    refine Or.inr ⟨by omega, ?_⟩
    rw [show c - 300 = d by omega]
    exact i
theorem zI_L {kd idn kd' idn' : Nat → Int32} {t u : mT} (H : exH kd idn kd' idn' t u) {a : Nat} (h : zI t u a) : zL kd idn t u a = zL kd' idn' t u a ∧ zlo kd a = zlo kd' a := by
  unfold zL zlo loK
  rcases h with ⟨h1, h2⟩ | ⟨h1, h2⟩
  · rw [if_pos h1, if_pos h1, if_pos h1, if_pos h1, (H a (Or.inl h2)).1, (H a (Or.inl h2)).2]
    exact ⟨rfl, rfl⟩
  · have n : ¬ a < 300 := by omega
    rw [if_neg n, if_neg n, if_neg n, if_neg n, (H _ (Or.inr h2)).1, (H _ (Or.inr h2)).2]
    exact ⟨rfl, rfl⟩
theorem AK_x {kd idn kd' idn' : Nat → Int32} {t u : mT} (hw : tWF 300 t) (hu : tWF 300 u) (H : exH kd idn kd' idn' t u) {x y : Nat} (hx : tIn t x = true) (hy : tIn u y = true) (h : AK kd idn t u x y) : AK kd' idn' t u x y := by
  unfold AK akN at h ⊢
  refine alk_x (S := zI t u) (fun a sa => zI_L H sa) (fun a c sa hc => zI_K hw hu sa hc) 301 x (300 + y) (Or.inl ⟨hw.1.1 x hx, hx⟩) (Or.inr ⟨by omega, ?_⟩) h
  rw [Nat.add_sub_cancel_left]
  exact hy
theorem akB_x {kd idn kd' idn' : Nat → Int32} {t u : mT} (hw : tWF 300 t) (hu : tWF 300 u) (H : exH kd idn kd' idn' t u) {x y : Nat} (hx : tIn t x = true) (hy : tIn u y = true) : akB kd idn t u x y = akB kd' idn' t u x y := by
  unfold akB
  exact decide_eq_decide.mpr ⟨AK_x hw hu H hx hy, AK_x hw hu (exH_s H) hx hy⟩
theorem kpL_x {r r' : Nat → Nat → Bool} {L : List Nat} : ∀ (K T : List Nat), (∀ k ∈ K, ∀ l ∈ L, r k l = r' k l) → kpL r L K T = kpL r' L K T
  | [], T, h => rfl
  | k :: K, T, h => by
    show (match L.find? (fun l => !T.contains l && r k l) with
      | some l => (k, l) :: kpL r L K (l :: T)
      | none => kpL r L K T) = (match L.find? (fun l => !T.contains l && r' k l) with
      | some l => (k, l) :: kpL r' L K (l :: T)
      | none => kpL r' L K T)
    rw [fnd_cg (q := fun l => !T.contains l && r' k l) (fun l hl => by rw [h k List.mem_cons_self l hl])]
    cases L.find? (fun l => !T.contains l && r' k l) with
    | none => exact kpL_x K T (fun k' hk => h k' (List.mem_cons_of_mem _ hk))
    | some l => exact congrArg ((k, l) :: ·) (kpL_x K (l :: T) (fun k' hk => h k' (List.mem_cons_of_mem _ hk)))
theorem kpL_m {r : Nat → Nat → Bool} {L : List Nat} {k l : Nat} : ∀ (K T : List Nat), (k, l) ∈ kpL r L K T → k ∈ K ∧ l ∈ L
  | [], T, h => by cases h
  | k0 :: K, T, h => by
    have h' : (k, l) ∈ (match L.find? (fun l => !T.contains l && r k0 l) with
      | some l => (k0, l) :: kpL r L K (l :: T)
      | none => kpL r L K T) := h
    cases e : L.find? (fun l => !T.contains l && r k0 l) with
    | none =>
      rw [e] at h'
      have i := kpL_m K T h'
      exact ⟨List.mem_cons_of_mem _ i.1, i.2⟩
    | some l0 =>
      rw [e] at h'
      rcases List.mem_cons.mp h' with g | g
      · rw [(Prod.mk.inj g).1, (Prod.mk.inj g).2]
        exact ⟨List.mem_cons_self, List.mem_of_find?_eq_some e⟩
      · have i := kpL_m K (l0 :: T) g
        exact ⟨List.mem_cons_of_mem _ i.1, i.2⟩
theorem kp_m {kd idn : Nat → Int32} {t u : mT} {x y k l : Nat} (h : (k, l) ∈ kp kd idn t u x y) : k ∈ tKi t x ∧ l ∈ tKi u y := by
  unfold kp at h
  by_cases c : loK kd x = true
  · rw [if_pos c] at h
    exact kpL_m _ _ h
  · rw [if_neg c] at h
    exact List.of_mem_zip h
theorem kp_x {kd idn kd' idn' : Nat → Int32} {t u : mT} (hw : tWF 300 t) (hu : tWF 300 u) (H : exH kd idn kd' idn' t u) {x y : Nat} (hx : tIn t x = true) : kp kd idn t u x y = kp kd' idn' t u x y := by
  unfold kp
  rw [show loK kd x = loK kd' x from by unfold loK; rw [(H x (Or.inl hx)).1], kpL_x (r' := akB kd' idn' t u) _ _ (fun k hk l hl => akB_x hw hu H ((hw.1.2.1 k x).mp hk).1 ((hu.1.2.1 l y).mp hl).1)]
theorem tn_m {kd idn : Nat → Int32} {t u : mT} (hw : tWF 300 t) (hu : tWF 300 u) {x0 y0 : Nat} (hx : tIn t x0 = true) (hy : tIn u y0 = true) : ∀ (n k l : Nat), tn kd idn t u x0 y0 n k l → tIn t k = true ∧ tIn u l = true
  | 0, k, l, h => by rw [h.1, h.2]; exact ⟨hx, hy⟩
  | n + 1, k, l, h => by
    obtain ⟨z, w, _, h2⟩ := h
    have i := kp_m h2
    exact ⟨((hw.1.2.1 k z).mp i.1).1, ((hu.1.2.1 l w).mp i.2).1⟩
theorem tn_x {kd idn kd' idn' : Nat → Int32} {t u : mT} (hw : tWF 300 t) (hu : tWF 300 u) (H : exH kd idn kd' idn' t u) {x0 y0 : Nat} (hx : tIn t x0 = true) (hy : tIn u y0 = true) : ∀ (n k l : Nat), tn kd idn t u x0 y0 n k l → tn kd' idn' t u x0 y0 n k l
  | 0, k, l, h => h
  | n + 1, k, l, h => by
    obtain ⟨z, w, h1, h2⟩ := h
    rw [kp_x hw hu H (tn_m hw hu hx hy n z w h1).1] at h2
    exact ⟨z, w, tn_x hw hu H hx hy n z w h1, h2⟩
theorem twB_x {kd idn kd' idn' : Nat → Int32} {t u : mT} (hw : tWF 300 t) (hu : tWF 300 u) (H : exH kd idn kd' idn' t u) {x0 y0 : Nat} (hx : tIn t x0 = true) (hy : tIn u y0 = true) (z w : Nat) : twB kd idn t u x0 y0 z w = twB kd' idn' t u x0 y0 z w := by
  unfold twB
  refine decide_eq_decide.mpr ⟨fun ⟨n, g⟩ => ⟨n, tn_x hw hu H hx hy n z w g⟩, fun ⟨n, g⟩ => ⟨n, tn_x hw hu (exH_s H) hx hy n z w g⟩⟩
theorem brS_x {kd idn kd' idn' : Nat → Int32} {t u : mT} (hw : tWF 300 t) (hu : tWF 300 u) (H : exH kd idn kd' idn' t u) {P : mP} {x0 y0 : Nat} (hx : tIn t x0 = true) (hy : tIn u y0 = true) : brS kd idn t u P x0 y0 = brS kd' idn' t u P x0 y0 := by
  have e : twB kd idn t u x0 y0 = twB kd' idn' t u x0 y0 := funext fun z => funext fun w => twB_x hw hu H hx hy z w
  unfold brS
  rw [e]
theorem alS_x {kd idn kd' idn' : Nat → Int32} {t u : mT} (hw : tWF 300 t) (hu : tWF 300 u) (H : exH kd idn kd' idn' t u) (P : mP) (x : Nat) (hx : x ∈ pO t) : alS kd idn t u P x = alS kd' idn' t u P x := by
  have hx := (pO_mem hw).mp hx
  unfold alS
  rw [fnd_cg (q := fun y => pnN u P y && akB kd' idn' t u x y) (fun y hy => by rw [akB_x hw hu H hx ((pO_mem hu).mp hy)])]
  cases e : (pO u).find? (fun y => pnN u P y && akB kd' idn' t u x y) with
  | none => rfl
  | some y =>
    have hy := (pO_mem hu).mp (List.mem_of_find?_eq_some e)
    exact congrArg (fun q => if pnO t P x = true then q else P) (brS_x hw hu H hx hy)
theorem idS_x {kd idn kd' idn' : Nat → Int32} {t u : mT} (hw : tWF 300 t) (hu : tWF 300 u) (H : exH kd idn kd' idn' t u) (P : mP) (x : Nat) (hx : x ∈ pO t) : idS kd idn u P x = idS kd' idn' u P x := by
  have hx := (pO_mem hw).mp hx
  unfold idS
  rw [fnd_cg (q := mayB kd' idn' P x) (fun y hy => mayB_x H hx ((pO_mem hu).mp hy)), (H x (Or.inl hx)).2]
theorem abS_x {kd idn kd' idn' : Nat → Int32} {t u : mT} (hw : tWF 300 t) (hu : tWF 300 u) (H : exH kd idn kd' idn' t u) (v : Bool) (P : mP) (y : Nat) : abS kd idn t u v P y = abS kd' idn' t u v P y := by
  unfold abS
  cases P.2 y with
  | none => rfl
  | some x =>
    refine fld_cg _ _ (fun Q c hc => ?_)
    have hcu := ((hu.1.2.1 c y).mp hc).1
    unfold abC
    rw [fnd_cg (q := abB kd' idn' t u v Q c) (fun k hk => by unfold abB; rw [mayB_x H ((hw.1.2.1 k x).mp hk).1 hcu])]
theorem beS_x {kd idn kd' idn' : Nat → Int32} {t u : mT} (hw : tWF 300 t) (hu : tWF 300 u) (H : exH kd idn kd' idn' t u) (P : mP) (x : Nat) (hx : tIn t x = true) : beS kd idn t u P x = beS kd' idn' t u P x := by
  unfold beS lsK
  rw [fld_cg (g := lsS kd' idn' t u P x) (pO u) (none, FP.fconst0) (fun s y hy => by unfold lsS; rw [mayB_x H hx ((pO_mem hu).mp hy)])]
theorem MTd_x {kd idn kd' idn' : Nat → Int32} {t u : mT} (hw : tWF 300 t) (hu : tWF 300 u) (H : exH kd idn kd' idn' t u) : MTd kd idn t u = MTd kd' idn' t u := by
  have e1 : MTa kd idn t u = MTa kd' idn' t u := fld_cg _ _ (fun P x hx => idS_x hw hu H P x hx)
  have e2 : MTb kd idn t u = MTb kd' idn' t u := by
    unfold MTb
    rw [e1]
    exact fld_cg _ _ (fun P x hx => alS_x hw hu H P x hx)
  have e3 : MTc kd idn t u = MTc kd' idn' t u := by
    unfold MTc
    rw [e2, fld_cg (g := abS kd' idn' t u true) _ _ (fun P y _ => abS_x hw hu H true P y)]
    exact fld_cg _ _ (fun P y _ => abS_x hw hu H false P y)
  unfold MTd
  rw [e3]
  exact fld_cg _ _ (fun P x hx => beS_x hw hu H P x ((pO_mem hw).mp (List.mem_reverse.mp hx)))
end MATCHEXT
