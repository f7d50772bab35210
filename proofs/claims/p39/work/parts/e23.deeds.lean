section DEEDS
abbrev kdP (p : Nat) : lE → Bool := fun e => decide (e.2.2 = some p ∧ e.1 ≠ p)
theorem nd_ins {A B : List Nat} {k : Nat} (h : (A ++ B).Nodup) (hk : k ∉ A ++ B) : (A ++ k :: B).Nodup := by
  obtain ⟨h1, h2, h3⟩ := List.nodup_append.mp h
  refine List.nodup_append.mpr ⟨h1, List.nodup_cons.mpr ⟨fun q => hk (List.mem_append_right _ q), h2⟩, fun x hx y hy => ?_⟩
  rcases List.mem_cons.mp hy with q | q
  · rw [q]
    exact fun e => hk (by rw [← e]; exact List.mem_append_left _ hx)
  · exact h3 x hx y q
theorem mk_un {L : List lE} (h : (L.map (·.1)).Nodup) {e e' : lE} (h1 : e ∈ L) (h2 : e' ∈ L) (h3 : e.1 = e'.1) : e = e' := by
  obtain ⟨i, hi⟩ := List.mem_iff_getElem?.mp h1
  obtain ⟨j, hj⟩ := List.mem_iff_getElem?.mp h2
  have a1 : (L.map (·.1))[i]? = some e.1 := by rw [List.getElem?_map, hi]; rfl
  have a2 : (L.map (·.1))[j]? = some e.1 := by rw [List.getElem?_map, hj, h3]; rfl
  have := get_un h a1 a2
  rw [this, hj] at hi
  exact (Option.some.inj hi).symm
theorem pos_end {L : List lE} {r K : Nat} (h : (lcL false L r).length ≤ K) : (L.filter (kdP r)).map (·.1) = (lcL false L r).take K ∧ (([] : List lE).filter (kdP r)).map (·.1) = (lcL false L r).drop K := by
  rw [List.take_of_length_le h, List.drop_of_length_le h]
  exact ⟨(lcL_f L r).symm, rfl⟩
theorem pos_mid {L X Y : List lE} {ec : lE} {r K c : Nat} {A B : List Nat} (hn : (L.map (·.1)).Nodup) (qL : L = X ++ ec :: Y) (hK : lcL false L r = A ++ c :: B) (hc : ec.1 = c) (hA : A.length = K) : (X.filter (kdP r)).map (·.1) = (lcL false L r).take K ∧ ((ec :: Y).filter (kdP r)).map (·.1) = (lcL false L r).drop K := by
  have hcm : c ∈ lcL false L r := by rw [hK]; simp
  obtain ⟨e, e1, e2, e3, e4⟩ := lcL_mem.mp hcm
  have hec : ec ∈ L := by rw [qL]; simp
  have ee : e = ec := mk_un hn e1 hec (e2.trans hc.symm)
  rw [ee] at e3 e4
  have hP : kdP r ec = true := decide_eq_true ⟨e3, e4⟩
  have h1 : lcL false L r = (X.filter (kdP r)).map (·.1) ++ c :: (Y.filter (kdP r)).map (·.1) := by
    rw [lcL_f]
    conv => lhs; rw [qL]
    rw [List.filter_append, List.filter_cons_of_pos hP, List.map_append, List.map_cons, hc]
  have hnd : (lcL false L r).Nodup := by
    rw [lcL_f]
    exact List.Nodup.sublist (List.Sublist.map _ List.filter_sublist) hn
  rw [h1] at hnd
  obtain ⟨q1, q2⟩ := nd_split hnd (h1.symm.trans hK)
  rw [List.filter_cons_of_pos hP, List.map_cons, hc, q1, q2, hK, ← hA, List.take_left, List.drop_left]
  exact ⟨rfl, rfl⟩
theorem LT_set {lo : Nat → Bool} {A B : List lE} {e : lE} {T : mT} (H : LT lo (A ++ e :: B) T) {w : Nat} : LT lo (A ++ (e.1, w, e.2.2) :: B) (tSet T e.1 (nI w)) := by
  obtain ⟨h1, h2, h3⟩ := H
  have hem : e ∈ A ++ e :: B := by simp
  obtain ⟨t1, t2⟩ := rwT_set h2 h1 (v := w) (u := e.2.2) (W' := mU (tWo T) e.1 (nI w)) (U' := tUp T) ⟨mU_s _ _ _, (h2.2 e hem).2⟩ (fun m hm => ⟨mU_n _ _ hm, rfl⟩)
  refine ⟨t2, t1, fun p hp hl => ?_⟩
  have := h3 p hp hl
  rw [lcL_f, List.filter_append] at this ⊢
  show _ = tKi T p
  rw [← this]
  by_cases c : kdP p e = true
  · rw [List.filter_cons_of_pos c, List.filter_cons_of_pos (show kdP p (e.1, w, e.2.2) = true from c), List.map_append, List.map_append]
    rfl
  · rw [List.filter_cons_of_neg c, List.filter_cons_of_neg (show ¬ kdP p (e.1, w, e.2.2) = true from c)]
theorem LT_node {lo lo' : Nat → Bool} {X Y : List lE} {T : mT} {k r w K : Nat} (H : LT lo (X ++ Y) T) (hw : fWF 300 T) (hk : tIn T k = false) (hr : tIn T r = true) (hlo : ∀ m, m ≠ k → lo' m = lo m) (hpos : lo r = false → (X.filter (kdP r)).map (·.1) = (tKi T r).take K ∧ (Y.filter (kdP r)).map (·.1) = (tKi T r).drop K) : LT lo' (X ++ (k, w, some r) :: Y) (dNode T k (nI w) r (lo r) K) := by
  obtain ⟨h1, h2, h3⟩ := H
  have hrk : r ≠ k := fun q => by rw [q, hk] at hr; cases hr
  have nin : ∀ x ∈ X ++ Y, x.1 ≠ k := fun x hx q => by
    have := (h2.1 k).mpr ⟨x, hx, q⟩
    rw [hk] at this
    cases this
  have mm : ∀ {x : lE}, x ∈ X ++ (k, w, some r) :: Y ↔ x = (k, w, some r) ∨ x ∈ X ++ Y := fun {x} => by
    rw [List.mem_append, List.mem_cons, List.mem_append]
    exact ⟨fun q => q.elim (fun q => Or.inr (Or.inl q)) (fun q => q.elim Or.inl (fun q => Or.inr (Or.inr q))), fun q => q.elim (fun q => Or.inr (Or.inl q)) (fun q => q.elim Or.inl (fun q => Or.inr (Or.inr q)))⟩
  refine ⟨?_, ⟨fun m => ?_, fun x hx => ?_⟩, fun p hp hl => ?_⟩
  · rw [List.map_append, List.map_cons]
    rw [List.map_append] at h1
    refine nd_ins h1 (fun q => ?_)
    rw [← List.map_append] at q
    obtain ⟨x, x1, x2⟩ := List.mem_map.mp q
    exact nin x x1 x2
  · show mU (tIn T) k true m = true ↔ _
    by_cases c : m = k
    · rw [c, mU_s]
      exact ⟨fun _ => ⟨_, mm.mpr (Or.inl rfl), rfl⟩, fun _ => rfl⟩
    · rw [mU_n _ _ c, h2.1 m]
      constructor
      · rintro ⟨x, x1, x2⟩
        exact ⟨x, mm.mpr (Or.inr x1), x2⟩
      · rintro ⟨x, x1, x2⟩
        rcases mm.mp x1 with q | q
        · rw [q] at x2
          exact absurd x2.symm c
        · exact ⟨x, q, x2⟩
  · show mU (tWo T) k (nI w) x.1 = nI x.2.1 ∧ mU (mU (tUp T) k none) k (some r) x.1 = x.2.2
    rcases mm.mp hx with q | q
    · rw [q, mU_s, mU_s]
      exact ⟨rfl, rfl⟩
    · have ne := nin x q
      rw [mU_n _ _ ne, mU_n _ _ ne, mU_n _ _ ne]
      exact h2.2 x q
  · show _ = mU (mU (tKi T) k []) r (inKids (lo r) (tKi T r) k K) p
    by_cases c : p = r
    · rw [c] at hl ⊢
      have hlr : lo r = false := by rw [← hlo r hrk]; exact hl
      obtain ⟨p1, p2⟩ := hpos hlr
      have hP : kdP r (k, w, some r) = true := decide_eq_true ⟨rfl, fun q => hrk q.symm⟩
      rw [lcL_f, List.filter_append, List.filter_cons_of_pos hP, List.map_append, List.map_cons, p1, p2, mU_s, hlr]
      rfl
    · have hP : ¬ kdP p (k, w, some r) = true := fun q => c (Option.some.inj (of_decide_eq_true q).1).symm
      rw [mU_n _ _ c, lcL_f, List.filter_append, List.filter_cons_of_neg hP, ← List.filter_append, ← lcL_f]
      by_cases c2 : p = k
      · rw [c2, mU_s]
        refine List.eq_nil_iff_forall_not_mem.mpr (fun x hx => ?_)
        obtain ⟨e, e1, e2, e3, -⟩ := lcL_mem.mp hx
        have q1 := (h2.2 e e1).2
        rw [e3] at q1
        have := hw.2.2.2.2 e.1 k ((h2.1 e.1).mpr ⟨e, e1, rfl⟩) q1
        rw [hk] at this
        cases this
      · rw [mU_n _ _ c2]
        have hp2 : tIn T p = true := by
          have hp : mU (tIn T) k true p = true := hp
          rw [mU_n _ _ c2] at hp
          exact hp
        exact h3 p hp2 (by rw [← hlo p c2]; exact hl)
theorem cut_kids {X Y : List lE} {e : lE} (hn : ((X ++ e :: Y).map (·.1)).Nodup) (p : Nat) : lcL false (X ++ Y) p = (lcL false (X ++ e :: Y) p).erase e.1 := by
  have ne := nd_mid hn
  rw [lcL_f, lcL_f, List.filter_append, List.filter_append, List.map_append]
  have nA : e.1 ∉ (X.filter (kdP p)).map (·.1) := fun q => by
    obtain ⟨x, x1, x2⟩ := List.mem_map.mp q
    exact ne x (Or.inl (List.mem_filter.mp x1).1) x2
  have nB : e.1 ∉ (Y.filter (kdP p)).map (·.1) := fun q => by
    obtain ⟨x, x1, x2⟩ := List.mem_map.mp q
    exact ne x (Or.inr (List.mem_filter.mp x1).1) x2
  by_cases c : kdP p e = true
  · rw [List.filter_cons_of_pos c, List.map_append, List.map_cons, List.erase_append_right _ nA, List.erase_cons_head]
  · rw [List.filter_cons_of_neg c, List.map_append, List.erase_of_not_mem]
    exact fun q => (List.mem_append.mp q).elim nA nB
theorem LT_move {lo : Nat → Bool} {X0 Y0 X Y : List lE} {e : lE} {T : mT} {r K : Nat} (H : LT lo (X0 ++ e :: Y0) T) (hre : r ≠ e.1) (hXY : X0 ++ Y0 = X ++ Y) (hpos : lo r = false → (X.filter (kdP r)).map (·.1) = ((tKi T r).erase e.1).take K ∧ (Y.filter (kdP r)).map (·.1) = ((tKi T r).erase e.1).drop K) : LT lo (X ++ (e.1, e.2.1, some r) :: Y) (dMove T e.1 r (lo r) K) := by
  obtain ⟨h1, h2, h3⟩ := H
  have ne := nd_mid h1
  have hem : e ∈ X0 ++ e :: Y0 := by simp
  have m0 : ∀ {x : lE}, x ∈ X0 ++ e :: Y0 ↔ x = e ∨ x ∈ X ++ Y := fun {x} => by
    rw [← hXY, List.mem_append, List.mem_cons, List.mem_append]
    exact ⟨fun q => q.elim (fun q => Or.inr (Or.inl q)) (fun q => q.elim Or.inl (fun q => Or.inr (Or.inr q))), fun q => q.elim (fun q => Or.inr (Or.inl q)) (fun q => q.elim Or.inl (fun q => Or.inr (Or.inr q)))⟩
  have mm : ∀ {x : lE}, x ∈ X ++ (e.1, e.2.1, some r) :: Y ↔ x = (e.1, e.2.1, some r) ∨ x ∈ X ++ Y := fun {x} => by
    rw [List.mem_append, List.mem_cons, List.mem_append]
    exact ⟨fun q => q.elim (fun q => Or.inr (Or.inl q)) (fun q => q.elim Or.inl (fun q => Or.inr (Or.inr q))), fun q => q.elim (fun q => Or.inr (Or.inl q)) (fun q => q.elim Or.inl (fun q => Or.inr (Or.inr q)))⟩
  have nin : ∀ x ∈ X ++ Y, x.1 ≠ e.1 := fun x hx => by
    rw [← hXY] at hx
    exact ne x (List.mem_append.mp hx)
  refine ⟨?_, ⟨fun m => (h2.1 m).trans ⟨?_, ?_⟩, fun x hx => ?_⟩, fun p hp hl => ?_⟩
  · have q1 : ((X ++ Y).map (·.1)).Nodup := by
      rw [← hXY]
      exact List.Nodup.sublist (List.Sublist.map _ (List.Sublist.append_left (List.sublist_cons_self _ _) _)) h1
    rw [List.map_append, List.map_cons]
    rw [List.map_append] at q1
    refine nd_ins q1 (fun q => ?_)
    rw [← List.map_append] at q
    obtain ⟨x, x1, x2⟩ := List.mem_map.mp q
    exact nin x x1 x2
  · rintro ⟨x, x1, x2⟩
    rcases m0.mp x1 with q | q
    · exact ⟨_, mm.mpr (Or.inl rfl), by rw [← x2, q]⟩
    · exact ⟨x, mm.mpr (Or.inr q), x2⟩
  · rintro ⟨x, x1, x2⟩
    rcases mm.mp x1 with q | q
    · exact ⟨e, hem, by rw [← x2, q]⟩
    · exact ⟨x, m0.mpr (Or.inr q), x2⟩
  · show tWo T x.1 = nI x.2.1 ∧ mU (mU (tUp T) e.1 none) e.1 (some r) x.1 = x.2.2
    rcases mm.mp hx with q | q
    · rw [q, mU_s]
      exact ⟨(h2.2 e hem).1, rfl⟩
    · have n := nin x q
      rw [mU_n _ _ n, mU_n _ _ n]
      exact h2.2 x (m0.mpr (Or.inr q))
  · show _ = mU (fun p => (tKi T p).erase e.1) r (inKids (lo r) ((tKi T r).erase e.1) e.1 K) p
    have hk := cut_kids h1 p
    rw [h3 p hp hl, hXY] at hk
    by_cases c : p = r
    · rw [c] at hl ⊢
      obtain ⟨p1, p2⟩ := hpos hl
      have hP : kdP r (e.1, e.2.1, some r) = true := decide_eq_true ⟨rfl, fun q => hre q.symm⟩
      rw [lcL_f, List.filter_append, List.filter_cons_of_pos hP, List.map_append, List.map_cons, p1, p2, mU_s, hl]
      rfl
    · have hP : ¬ kdP p (e.1, e.2.1, some r) = true := fun q => c (Option.some.inj (of_decide_eq_true q).1).symm
      rw [mU_n _ _ c, lcL_f, List.filter_append, List.filter_cons_of_neg hP, ← List.filter_append, ← lcL_f]
      exact hk
theorem er_flt {t : mT} (hw : fWF 300 t) {m p : Nat} (hp : p ∉ tPo t m) : (tKi t p).filter (fun x => !decide (x ∈ tPo t m)) = (tKi t p).erase m := by
  rw [List.Nodup.erase_eq_filter (hw.2.2.1 p)]
  refine List.filter_congr (fun x hx => ?_)
  by_cases c : x = m
  · rw [c, decide_eq_true (tPo_self hw.2.2.2.1 m)]
    simp
  · have : x ∉ tPo t m := fun q => by
      rcases tPo_up hw.2.2.2.1 m q with q2 | ⟨p', q2, q3⟩
      · exact c q2
      · rw [tUp_of hw hx q2] at hp
        exact hp q3
    rw [decide_eq_false this]
    simp [c]
theorem LT_drop {lo : Nat → Bool} {L : List lE} {T : mT} (H : LT lo L T) (hw : fWF 300 T) {m : Nat} : LT lo (L.filter (fun e => !decide (e.1 ∈ tPo T m))) (tErs T m) := by
  obtain ⟨h1, h2, h3⟩ := H
  have fm : ∀ {x : lE}, x ∈ L.filter (fun e => !decide (e.1 ∈ tPo T m)) ↔ x ∈ L ∧ x.1 ∉ tPo T m := fun {x} => by
    rw [List.mem_filter]
    simp
  refine ⟨List.Nodup.sublist (List.Sublist.map _ List.filter_sublist) h1, ⟨fun x => ?_, fun x hx => ?_⟩, fun p hp hl => ?_⟩
  · show (tIn T x && !decide (x ∈ tPo T m)) = true ↔ _
    rw [Bool.and_eq_true, h2.1 x]
    constructor
    · rintro ⟨⟨e, e1, e2⟩, q⟩
      exact ⟨e, fm.mpr ⟨e1, by rw [e2]; simpa using q⟩, e2⟩
    · rintro ⟨e, e1, e2⟩
      obtain ⟨q1, q2⟩ := fm.mp e1
      exact ⟨⟨e, q1, e2⟩, by rw [e2] at q2; simpa using q2⟩
  · obtain ⟨q1, q2⟩ := fm.mp hx
    show tWo T x.1 = nI x.2.1 ∧ mU (tUp T) m none x.1 = x.2.2
    rw [mU_n _ _ (fun q => q2 (by rw [q]; exact tPo_self hw.2.2.2.1 m))]
    exact h2.2 x q1
  · have hp2 : (tIn T p && !decide (p ∈ tPo T m)) = true := hp
    rw [Bool.and_eq_true] at hp2
    have np : p ∉ tPo T m := by simpa using hp2.2
    show _ = if p ∈ tPo T m then [] else (tKi T p).erase m
    rw [if_neg np, ← er_flt hw np, ← h3 p hp2.1 hl, lcL_f, lcL_f, List.filter_map, List.filter_filter, List.filter_filter]
    congr 1
    refine List.filter_congr (fun x hx => ?_)
    rw [Bool.and_comm]
    rfl
end DEEDS
