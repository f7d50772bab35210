section MG1
abbrev mgS : Type := (Nat → Bool) × (Nat → Int32) × (Nat → Option Nat) × List (Nat × Nat)
def sIn (s : mgS) : Nat → Bool := s.1
def sWo (s : mgS) : Nat → Int32 := s.2.1
def sUp (s : mgS) : Nat → Option Nat := s.2.2.1
def sCf (s : mgS) : List (Nat × Nat) := s.2.2.2
def chS (pol : Int32) (hb e1 e2 e3 : Bool) : Nat × Bool := if (e1 || (hb && e2)) = true then (0, false) else if (hb && e3) = true then (1, false) else (if pol = 2 then 1 else if pol = 1 ∨ hb = false then 0 else 2, true)
def pk3 {α : Type} (n : Nat) (l r b : α) : α := match n with
  | 0 => l
  | 1 => r
  | _ => b
def mgTch (b s : mT) (m : Nat) : Bool := !(decide (tWo s m = tWo b m) && decide (tUp s m = tUp b m) && (tKi s m).all (fun k => tIn b k && decide (tUp b k = some m)))
def mgV (po : Nat → Int32) (b l r : mT) (m : Nat) : Nat × Bool := chS (po 1) (tIn b m) (decide (tWo l m = tWo r m)) (decide (tWo r m = tWo b m)) (decide (tWo l m = tWo b m))
def mgU (po : Nat → Int32) (b l r : mT) (m : Nat) : Nat × Bool := chS (po 2) (tIn b m) (decide (tUp l m = tUp r m)) (decide (tUp r m = tUp b m)) (decide (tUp l m = tUp b m))
abbrev mgO : Type := Option (Int32 × Option Nat) × List (Nat × Nat)
def mg1 (po : Nat → Int32) (b s : mT) (w : Int32) (m : Nat) : mgO := if tIn b m = true then (if mgTch b s m = true then (if po 0 = 0 ∨ po 0 = w then some (tWo s m, tUp s m) else none, [(0, m)]) else (none, [])) else (some (tWo s m, tUp s m), [])
def mg2 (po : Nat → Int32) (b l r : mT) (m : Nat) : mgO := (some (pk3 (mgV po b l r m).1 (tWo l m) (tWo r m) (tWo b m), pk3 (mgU po b l r m).1 (tUp l m) (tUp r m) (tUp b m)), (if (mgV po b l r m).2 = true then [(1, m)] else []) ++ (if (mgU po b l r m).2 = true then [(2, m)] else []))
def mgD (po : Nat → Int32) (b l r : mT) (m : Nat) : mgO := if tIn l m = true then (if tIn r m = true then mg2 po b l r m else mg1 po b l 1 m) else (if tIn r m = true then mg1 po b r 2 m else (none, []))
def mg0 (po : Nat → Int32) (b l r : mT) (mk : Nat) : mgS := (fun m => (mgD po b l r m).1.isSome, fun m => ((mgD po b l r m).1.getD (0, none)).1, fun m => ((mgD po b l r m).1.getD (0, none)).2, (List.range mk).flatMap (fun m => (mgD po b l r m).2))
/-- three trees of marks below mk, of one root -/
def mgH (mk R : Nat) (b l r : mT) : Prop := (tWF 300 b ∧ tWF 300 l ∧ tWF 300 r) ∧ (tRt b = R ∧ tRt l = R ∧ tRt r = R) ∧ mk ≤ 300 ∧ (∀ m, tIn b m = true → m < mk) ∧ (∀ m, tIn l m = true → m < mk) ∧ ∀ m, tIn r m = true → m < mk
def mgPri (po : Nat → Int32) (l r : mT) : mT := if po 2 = 2 then r else l
def mgSec (po : Nat → Int32) (l r : mT) : mT := if po 2 = 2 then l else r
/-- where a parent comes from -/
def mgSrc (b l r : mT) (m p : Nat) : Prop := (tIn b m = true ∧ tUp b m = some p) ∨ (tIn l m = true ∧ tUp l m = some p) ∨ (tIn r m = true ∧ tUp r m = some p)
def mgI (mk R : Nat) (po : Nat → Int32) (b l r : mT) (s : mgS) : Prop :=
  (∀ m, sIn s m = true → m < mk ∧ (tIn b m = true ∨ tIn l m = true ∨ tIn r m = true)) ∧ (∀ m, sIn s m = false → sUp s m = none) ∧ (∀ m p, sUp s m = some p → mgSrc b l r m p) ∧ (∀ m, sIn s m = true → sUp s m = none → m = R) ∧ (sIn s R = true ∧ sUp s R = none) ∧
  (∀ m, tIn b m = false → (tIn l m = true ∨ tIn r m = true) → sIn s m = true) ∧
  ∀ m, tIn b m = false → sIn s m = true → (tIn (mgPri po l r) m = true → sUp s m = tUp (mgPri po l r) m) ∧ (tIn (mgPri po l r) m = false → tIn (mgSec po l r) m = true ∧ sUp s m = tUp (mgSec po l r) m)
theorem pk3_or {α : Type} (n : Nat) (l r b : α) : pk3 n l r b = l ∨ pk3 n l r b = r ∨ (pk3 n l r b = b ∧ 2 ≤ n) := by
  match n with
  | 0 => exact Or.inl rfl
  | 1 => exact Or.inr (Or.inl rfl)
  | n + 2 => exact Or.inr (Or.inr ⟨rfl, by omega⟩)
theorem chS_b {pol : Int32} {hb e1 e2 e3 : Bool} (h : 2 ≤ (chS pol hb e1 e2 e3).1) : hb = true := by
  unfold chS at h
  cases hb with
  | true => rfl
  | false =>
    exfalso
    cases e1 with
    | true => simp at h
    | false =>
      by_cases c : pol = 2
      · simp [c] at h
      · simp [c] at h
theorem chS_n {pol : Int32} {e1 e2 e3 : Bool} : chS pol false e1 e2 e3 = if e1 = true then (0, false) else (if pol = 2 then 1 else 0, true) := by
  unfold chS
  cases e1 with
  | true => rfl
  | false =>
    by_cases c : pol = 2
    · simp [c]
    · simp [c]
theorem up_rtR {t : mT} (hw : tWF 300 t) {m : Nat} (hm : tIn t m = true) (h : tUp t m = none) : m = tRt t := Classical.byContradiction (fun g => hw.2.2.2 m hm g h)
theorem mgD_s {po : Nat → Int32} {b l r : mT} {m : Nat} {v : Int32} {u : Option Nat} (h : (mgD po b l r m).1 = some (v, u)) : (tIn l m = true ∧ tIn r m = true ∧ u = pk3 (mgU po b l r m).1 (tUp l m) (tUp r m) (tUp b m)) ∨ (tIn l m = true ∧ tIn r m = false ∧ u = tUp l m) ∨ (tIn l m = false ∧ tIn r m = true ∧ u = tUp r m) := by
  have one : ∀ (s : mT) (w : Int32), (mg1 po b s w m).1 = some (v, u) → u = tUp s m := fun s w g => by
    unfold mg1 at g
    by_cases cb : tIn b m = true
    · rw [if_pos cb] at g
      by_cases ct : mgTch b s m = true
      · rw [if_pos ct] at g
        have g : (if po 0 = 0 ∨ po 0 = w then some (tWo s m, tUp s m) else none) = some (v, u) := g
        by_cases cp : po 0 = 0 ∨ po 0 = w
        · rw [if_pos cp] at g
          exact (Prod.mk.inj (Option.some.inj g)).2.symm
        · rw [if_neg cp] at g
          cases g
      · rw [if_neg ct] at g
        cases g
    · rw [if_neg cb] at g
      have g : some (tWo s m, tUp s m) = some (v, u) := g
      exact (Prod.mk.inj (Option.some.inj g)).2.symm
  unfold mgD at h
  cases cl : tIn l m with
  | true =>
    rw [if_pos cl] at h
    cases cr : tIn r m with
    | true =>
      rw [if_pos cr] at h
      have h : some (pk3 (mgV po b l r m).1 (tWo l m) (tWo r m) (tWo b m), pk3 (mgU po b l r m).1 (tUp l m) (tUp r m) (tUp b m)) = some (v, u) := h
      exact Or.inl ⟨rfl, rfl, (Prod.mk.inj (Option.some.inj h)).2.symm⟩
    | false =>
      rw [if_neg (by rw [cr]; exact Bool.false_ne_true)] at h
      exact Or.inr (Or.inl ⟨rfl, rfl, one l 1 h⟩)
  | false =>
    rw [if_neg (by rw [cl]; exact Bool.false_ne_true)] at h
    cases cr : tIn r m with
    | true =>
      rw [if_pos cr] at h
      exact Or.inr (Or.inr ⟨rfl, rfl, one r 2 h⟩)
    | false =>
      rw [if_neg (by rw [cr]; exact Bool.false_ne_true)] at h
      cases h
theorem mgD_n {po : Nat → Int32} {b l r : mT} {m : Nat} (hb : tIn b m = false) (h : tIn l m = true ∨ tIn r m = true) : (mgD po b l r m).1.isSome = true := by
  have one : ∀ (s : mT) (w : Int32), (mg1 po b s w m).1.isSome = true := fun s w => by
    unfold mg1
    rw [if_neg (by rw [hb]; exact Bool.false_ne_true)]
    rfl
  unfold mgD
  cases cl : tIn l m with
  | true =>
    rw [if_pos rfl]
    cases cr : tIn r m with
    | true =>
      rw [if_pos rfl]
      rfl
    | false =>
      rw [if_neg Bool.false_ne_true]
      exact one l 1
  | false =>
    rw [if_neg Bool.false_ne_true]
    cases cr : tIn r m with
    | true =>
      rw [if_pos rfl]
      exact one r 2
    | false =>
      rw [cl, cr] at h
      exact absurd h (by simp)
theorem sIn_mg0 {po : Nat → Int32} {b l r : mT} {mk m : Nat} (h : sIn (mg0 po b l r mk) m = true) : ∃ v u, (mgD po b l r m).1 = some (v, u) ∧ sWo (mg0 po b l r mk) m = v ∧ sUp (mg0 po b l r mk) m = u := by
  have h : (mgD po b l r m).1.isSome = true := h
  cases e : (mgD po b l r m).1 with
  | none => rw [e] at h; cases h
  | some x =>
    refine ⟨x.1, x.2, rfl, ?_, ?_⟩
    · show ((mgD po b l r m).1.getD (0, none)).1 = x.1
      rw [e]
      rfl
    · show ((mgD po b l r m).1.getD (0, none)).2 = x.2
      rw [e]
      rfl
theorem mgU_n {po : Nat → Int32} {b l r : mT} {m : Nat} (hb : tIn b m = false) (hl : tIn l m = true) (hr : tIn r m = true) : pk3 (mgU po b l r m).1 (tUp l m) (tUp r m) (tUp b m) = tUp (mgPri po l r) m ∧ tIn (mgPri po l r) m = true := by
  unfold mgU mgPri
  rw [hb, chS_n]
  by_cases c : po 2 = 2
  · rw [if_pos c, if_pos c]
    refine ⟨?_, hr⟩
    cases e : decide (tUp l m = tUp r m) with
    | true => exact of_decide_eq_true e
    | false => rfl
  · rw [if_neg c, if_neg c]
    refine ⟨?_, hl⟩
    cases e : decide (tUp l m = tUp r m) with
    | true => rfl
    | false => rfl
theorem mg0_I {mk R : Nat} {po : Nat → Int32} {b l r : mT} (H : mgH mk R b l r) : mgI mk R po b l r (mg0 po b l r mk) := by
  obtain ⟨⟨wb, wl, wr⟩, ⟨rb, rl, rr⟩, hk, hb, hl, hr⟩ := H
  have ub : ∀ {m}, (2 ≤ (mgU po b l r m).1) → tIn b m = true := fun {m} g => chS_b g
  refine ⟨fun m hm => ?_, fun m hm => ?_, fun m p hp => ?_, fun m hm hu => ?_, ?_, fun m nb g => mgD_n nb g, fun m nb hm => ?_⟩
  · obtain ⟨v, u, e, _, _⟩ := sIn_mg0 hm
    rcases mgD_s e with ⟨g1, g2, _⟩ | ⟨g1, g2, _⟩ | ⟨g1, g2, _⟩
    · exact ⟨hl m g1, Or.inr (Or.inl g1)⟩
    · exact ⟨hl m g1, Or.inr (Or.inl g1)⟩
    · exact ⟨hr m g2, Or.inr (Or.inr g2)⟩
  · have hm : (mgD po b l r m).1.isSome = false := hm
    show ((mgD po b l r m).1.getD (0, none)).2 = none
    cases e : (mgD po b l r m).1 with
    | none => rfl
    | some x => rw [e] at hm; cases hm
  · have hm : sIn (mg0 po b l r mk) m = true := by
      show (mgD po b l r m).1.isSome = true
      have hp : ((mgD po b l r m).1.getD (0, none)).2 = some p := hp
      cases e : (mgD po b l r m).1 with
      | none => rw [e] at hp; cases hp
      | some x => rfl
    obtain ⟨v, u, e, _, e2⟩ := sIn_mg0 hm
    rw [hp] at e2
    rcases mgD_s e with ⟨g1, g2, g3⟩ | ⟨g1, g2, g3⟩ | ⟨g1, g2, g3⟩
    · rcases pk3_or (mgU po b l r m).1 (tUp l m) (tUp r m) (tUp b m) with q | q | ⟨q, q2⟩
      · exact Or.inr (Or.inl ⟨g1, by rw [← q, ← g3, ← e2]⟩)
      · exact Or.inr (Or.inr ⟨g2, by rw [← q, ← g3, ← e2]⟩)
      · exact Or.inl ⟨ub q2, by rw [← q, ← g3, ← e2]⟩
    · exact Or.inr (Or.inl ⟨g1, by rw [← g3, ← e2]⟩)
    · exact Or.inr (Or.inr ⟨g2, by rw [← g3, ← e2]⟩)
  · obtain ⟨v, u, e, _, e2⟩ := sIn_mg0 hm
    rw [hu] at e2
    rcases mgD_s e with ⟨g1, g2, g3⟩ | ⟨g1, g2, g3⟩ | ⟨g1, g2, g3⟩
    · rcases pk3_or (mgU po b l r m).1 (tUp l m) (tUp r m) (tUp b m) with q | q | ⟨q, q2⟩
      · rw [← rl]; exact up_rtR wl g1 (by rw [← q, ← g3, ← e2])
      · rw [← rr]; exact up_rtR wr g2 (by rw [← q, ← g3, ← e2])
      · rw [← rb]; exact up_rtR wb (ub q2) (by rw [← q, ← g3, ← e2])
    · rw [← rl]; exact up_rtR wl g1 (by rw [← g3, ← e2])
    · rw [← rr]; exact up_rtR wr g2 (by rw [← g3, ← e2])
  · have iL : tIn l R = true := by rw [← rl]; exact wl.2.1
    have iR : tIn r R = true := by rw [← rr]; exact wr.2.1
    have e : mgD po b l r R = mg2 po b l r R := by
      unfold mgD
      rw [if_pos iL, if_pos iR]
    have uL : tUp l R = none := by rw [← rl]; exact wl.2.2.1
    have uR : tUp r R = none := by rw [← rr]; exact wr.2.2.1
    have uB : tUp b R = none := by rw [← rb]; exact wb.2.2.1
    refine ⟨?_, ?_⟩
    · show (mgD po b l r R).1.isSome = true
      rw [e]
      rfl
    · show ((mgD po b l r R).1.getD (0, none)).2 = none
      rw [e]
      show pk3 (mgU po b l r R).1 (tUp l R) (tUp r R) (tUp b R) = none
      rcases pk3_or (mgU po b l r R).1 (tUp l R) (tUp r R) (tUp b R) with q | q | ⟨q, _⟩
      · rw [q]; exact uL
      · rw [q]; exact uR
      · rw [q]; exact uB
  · obtain ⟨v, u, e, _, e2⟩ := sIn_mg0 hm
    rcases mgD_s e with ⟨g1, g2, g3⟩ | ⟨g1, g2, g3⟩ | ⟨g1, g2, g3⟩
    · obtain ⟨q1, q2⟩ := mgU_n (po := po) nb g1 g2
      refine ⟨fun _ => by rw [e2, g3, q1], fun g => ?_⟩
      rw [q2] at g
      cases g
    · unfold mgPri mgSec
      by_cases c : po 2 = 2
      · rw [if_pos c, if_pos c]
        exact ⟨fun g => (by rw [g2] at g; cases g), fun _ => ⟨g1, by rw [e2, g3]⟩⟩
      · rw [if_neg c, if_neg c]
        exact ⟨fun _ => by rw [e2, g3], fun g => by rw [g1] at g; cases g⟩
    · unfold mgPri mgSec
      by_cases c : po 2 = 2
      · rw [if_pos c, if_pos c]
        exact ⟨fun _ => by rw [e2, g3], fun g => by rw [g2] at g; cases g⟩
      · rw [if_neg c, if_neg c]
        exact ⟨fun g => (by rw [g1] at g; cases g), fun _ => ⟨g2, by rw [e2, g3]⟩⟩
end MG1
