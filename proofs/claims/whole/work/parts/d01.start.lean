section DSTART
theorem lwI_mono {b L z : Nat} {xs : Nat → Int32} {k : Nat} {h : tpH} (H : lwI b L z xs k h) : lwI b L z xs (k + 1) h := by
  obtain ⟨h1, h2, mk, kd, idn, rt, dr, r, n, g1, g2, g3, B1, B2, B3, B4⟩ := H
  refine ⟨h1, h2, mk, kd, idn, rt, dr, r, n, g1, g2, g3, B1, B2, ?_, ?_⟩
  · have := lw_ar1 (g := 0) B3 (Nat.le_add_right _ 400)
    rw [Nat.add_zero] at this
    exact this
  · have := lw_ar2 (g := 0) B4 (Nat.le_add_right _ 3000)
    rw [Nat.add_zero] at this
    exact this
theorem lwI_end {b L z : Nat} {xs : Nat → Int32} {k : Nat} {h : tpH} (H : lwI b L z xs k h) (hk : k ≤ 512) : hZ h ≤ z + 600000 ∧ hU h ≤ 7200000 := by
  obtain ⟨h1, h2, mk, kd, idn, rt, dr, r, n, g1, g2, g3, B1, B2, B3, B4⟩ := H
  have m1 : 400 * k ≤ 400 * 512 := Nat.mul_le_mul_left _ hk
  have m2 : 3000 * k ≤ 3000 * 512 := Nat.mul_le_mul_left _ hk
  omega
theorem lwI_0 {b L z : Nat} {xs : Nat → Int32} {h : tpH} (hb : b < z) (H : lwF b L z xs h) : lwI b L z xs 0 h := by
  obtain ⟨T, ⟨M, m0, mr⟩, o1, o2, o3, zz, uu⟩ := H
  obtain ⟨l, t0, ma, bu, bu2, r35, r36, li, mt, fi, mg, hi⟩ := T
  have hr : ∀ j k, j < 46 → j ≠ 3 → hI h (z + 103 + j) k = 0 := fun j k hj hn => by
    rw [mr j k hj, if_neg (fun q => hn q.1)]
  refine ⟨hb, ⟨o1, o2, o3⟩, 0, fun _ => 0, fun _ => 0, fun _ => false, none, ([], [], 0, fun _ => 0, [], []), 32, ?_, ?_, ?_, ?_⟩
  · exact ⟨Nat.zero_le _, fun t e => (by cases e), fun t ht => (by cases ht), fun s hs => (by cases hs), fun k => Or.inl rfl, ⟨Nat.zero_le _, fun e he => (by cases he)⟩, Nat.zero_le _, fun i e hi => (by simp at hi)⟩
  · refine ⟨l, ⟨ma.2.1 2, fun m hm => absurd hm (Nat.not_lt_zero _)⟩, ?_, fun j hj => ?_, ?_⟩
    · exact ⟨bu.2.1, bu.2.2.1 9 (by decide), fun m _ => bu.2.2.2.1.1 m⟩
    · exact fi.2.2.2.2.2 j hj
    · refine ⟨⟨t0 4, Nat.zero_le _, fun i t hi => (by simp at hi)⟩, fun i j hi => absurd hi (Nat.not_lt_zero _), ⟨t0 6, Nat.zero_le _, fun i t hi => (by simp at hi)⟩, t0 10, fun k hk => ?_, ?_, ?_, ?_⟩
      · exact mg.2.2.2.2.1.1 k
      · refine ⟨?_, ?_, ⟨Nat.zero_le _, by decide⟩, z + 1 + 87, z + 1 + 89, ⟨mg.2.1, Or.inl rfl, by omega⟩, ⟨mg.2.2.1, Or.inl rfl, by omega⟩, ⟨by omega, fun i a ha => ?_⟩, fun i e hi => (by simp at hi)⟩
        · obtain ⟨_, _, _, _, _, _, _, _, _, _, _, _, w8, w9⟩ := id mg
          exact w8.2
        · obtain ⟨_, _, _, _, _, _, _, _, _, _, _, _, w8, w9⟩ := id mg
          exact w9.2
        · rw [r35 i] at ha
          cases ha
      · exact ⟨hi.2.1 5, fun i e hi => (by simp at hi)⟩
      · exact Or.inl mt.2.2.2.2.2.2.2
  · refine ⟨M, ⟨m0 0, fun m hm => absurd hm (Nat.not_lt_zero _)⟩, ⟨m0 4, fun m hm => ?_⟩, ⟨m0 3, Nat.zero_le _, fun i t hi => (by simp at hi)⟩, ⟨m0 10, fun i s hi => (by simp at hi)⟩, m0 22, fun k hk => hr 18 k (by decide) (by decide), ⟨m0 24, fun i e hi => (by simp at hi)⟩, ⟨m0 26, fun i e hi => (by simp at hi)⟩⟩
    rw [mr 3 (300 * 40 + m) (by decide), if_pos ⟨rfl, by omega⟩]
  · exact ⟨by decide, by omega, by omega, by omega⟩
theorem whole_start {p : Program} {e : Env} {s : State} {m : MethodId} {below : List Frame} {meth : Method} {c : Code} (l : Launch) (hflags : l.flags = flags0) {b L : Nat} {xs : Nat → Int32} (h72 : L ≤ 3072) (C0 : lw_At p s m meth c b L xs) : W p l e room_1 s m #[Value.ref b] below meth c s.heap [] 0 0 (lw_Z below #[Value.ref b] s) (entryFrame m ([Value.ref b] : List Value).toArray 8) := by
  have hbz : b < s.heap.size := by
    obtain ⟨_, _, _, _, _, _, _, g, _⟩ := id C0
    exact g
  refine tp_whole l hflags C0 (p_law hbz (fun h H => ⟨L + 2, ?_⟩))
  generalize s.heap.size = z at H hbz ⊢
  have I0 := lwI_0 hbz H
  exact p_loop (I := lwI b L z xs) h72 (fun k h I => ⟨I.2.1.2.2.1, I.2.1.2.2.2.1⟩) (fun k h I => lwI_mono I) (fun k h I hk => ⟨rfl, lwI_end I (by omega)⟩) (lw_begin h72) (lw_copy h72) (lw_node h72) (lw_set h72) (lw_move h72) (lw_drop h72) (lw_seal h72) (lw_find h72) (lw_turn h72) (lw_apply h72) lw_fuzz (lw_setPolicy h72) (lw_merge h72) (lw_version h72) (lw_mergeV h72) (lw_takeBack h72) lw_trees (lw_size h72) (lw_markAt h72) (lw_value h72) (lw_parent h72) (lw_areAlike h72) (lw_areSame h72) (lw_match h72) (lw_like h72) (lw_steps h72) (lw_stepKind h72) (lw_stepMark h72) (lw_stepTo h72) lw_conflicts (lw_conflictKind h72) (lw_conflictMark h72) lw_versions (lw_treeOf h72) (lw_touched h72) (lw_look h72) (L + 2) 0 h I0 (Nat.zero_le _) (by omega)
end DSTART
