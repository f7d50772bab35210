section MATCHDEF
def loK (kd : Nat → Int32) (m : Nat) : Bool := !decide (kd m < 4)
def all2 (r : Nat → Nat → Prop) : List Nat → List Nat → Prop
  | [], [] => True
  | a :: A, b :: B => r a b ∧ all2 r A B
  | [], _ :: _ => False
  | _ :: _, [] => False
def pm (r : Nat → Nat → Prop) (A B : List Nat) : Prop := ∃ P, P.Perm B ∧ all2 r A P
abbrev aLb : Type := Int32 × Int32 × Int32
def alk (K : Nat → List Nat) (L : Nat → aLb) (lo : Nat → Bool) : Nat → Nat → Nat → Prop
  | 0, _, _ => False
  | n + 1, a, b => L a = L b ∧ (lo a = true → pm (alk K L lo n) (K a) (K b)) ∧ (lo a = false → all2 (alk K L lo n) (K a) (K b))
def zK (t u : mT) (z : Nat) : List Nat := if z < 300 then tKi t z else (tKi u (z - 300)).map (300 + ·)
def zL (kd idn : Nat → Int32) (t u : mT) (z : Nat) : aLb := if z < 300 then (kd z, idn z, tWo t z) else (kd (z - 300), idn (z - 300), tWo u (z - 300))
def zlo (kd : Nat → Int32) (z : Nat) : Bool := if z < 300 then loK kd z else loK kd (z - 300)
def akN (kd idn : Nat → Int32) (t u : mT) (a b : Nat) : Prop := alk (zK t u) (zL kd idn t u) (zlo kd) 301 a b
def AK (kd idn : Nat → Int32) (t u : mT) (x y : Nat) : Prop := akN kd idn t u x (300 + y)
noncomputable def akB (kd idn : Nat → Int32) (t u : mT) (x y : Nat) : Bool := @decide (AK kd idn t u x y) (Classical.propDecidable _)
abbrev mP : Type := (Nat → Option Nat) × (Nat → Option Nat)
def pP (P : mP) (x y : Nat) : mP := (fun a => if a = x then some y else P.1 a, fun b => if b = y then some x else P.2 b)
def mayB (kd idn : Nat → Int32) (P : mP) (x y : Nat) : Bool := decide (P.1 x = none) && (decide (P.2 y = none) && (decide (kd x = kd y) && decide (idn x = idn y)))
def smS (u : mT) (P : mP) (x : Nat) : mP := if tIn u x = true then pP P x x else P
def rtS (t u : mT) (P : mP) : mP := if P.1 (tRt t) = none ∧ P.2 (tRt u) = none then pP P (tRt t) (tRt u) else P
noncomputable def idS (kd idn : Nat → Int32) (u : mT) (P : mP) (x : Nat) : mP := if P.1 x = none ∧ idn x ≠ -1 then (match (pO u).find? (mayB kd idn P x) with
  | some y => pP P x y
  | none => P) else P
def McP (F : Nat → Nat → Int32) (p : Nat) (t u : mT) (P : mP) : Prop := (∀ x, tIn t x = true → F (p + 52) (pl t x) = nO ((P.1 x).map (pl u))) ∧ ∀ y, tIn u y = true → F (p + 54) (pl u y) = nO ((P.2 y).map (pl t))
def opP (P : mP) (x : Nat) (o : Option Nat) : mP := match o with
  | some y => pP P x y
  | none => P
def opQ (P : mP) (o : Option Nat) (c : Nat) : mP := match o with
  | some k => pP P k c
  | none => P
def abB (kd idn : Nat → Int32) (t u : mT) (v : Bool) (P : mP) (c k : Nat) : Bool := mayB kd idn P k c && (!v || decide (tWo t k = tWo u c))
def abC (kd idn : Nat → Int32) (t u : mT) (v : Bool) (x : Nat) (P : mP) (c : Nat) : mP := opQ P ((tKi t x).find? (abB kd idn t u v P c)) c
def abS (kd idn : Nat → Int32) (t u : mT) (v : Bool) (P : mP) (y : Nat) : mP := match P.2 y with
  | none => P
  | some x => (tKi u y).foldl (abC kd idn t u v x) P
def fI (n : Nat) : UInt32 := FP.i2f (nI n)
noncomputable def blw (t : mT) (x : Nat) : Nat := (tPo t x).length - 1
def cmP (t u : mT) (P : mP) (x y z : Nat) : Prop := z ≠ x ∧ z ∈ tPo t x ∧ ∃ w, P.1 z = some w ∧ w ≠ y ∧ w ∈ tPo u y
noncomputable def cmB (t u : mT) (P : mP) (x y z : Nat) : Bool := @decide (cmP t u P x y z) (Classical.propDecidable _)
noncomputable def cC (t u : mT) (P : mP) (x y : Nat) : Nat := ((pO t).filter (cmB t u P x y)).length
noncomputable def lkM (t u : mT) (P : mP) (x y : Nat) : UInt32 := if blw t x + blw u y = 0 then FP.fconst0 else FP.fdiv (fI (2 * cC t u P x y)) (fI (blw t x + blw u y))
def gtB (v best : UInt32) : Bool := !(decide ((Op.cmpValue (FP.fcmp v (1056964608 : UInt32)) .l) < 0)) && !(decide ((Op.cmpValue (FP.fcmp v best) .l) ≤ 0))
noncomputable def lsS (kd idn : Nat → Int32) (t u : mT) (P : mP) (x : Nat) (s : Option Nat × UInt32) (y : Nat) : Option Nat × UInt32 := if (mayB kd idn P x y && gtB (lkM t u P x y) s.2) = true then (some y, lkM t u P x y) else s
noncomputable def lsK (kd idn : Nat → Int32) (t u : mT) (P : mP) (x : Nat) : Option Nat := ((pO u).foldl (lsS kd idn t u P x) (none, FP.fconst0)).1
noncomputable def beS (kd idn : Nat → Int32) (t u : mT) (P : mP) (x : Nat) : mP := opP P x (lsK kd idn t u P x)
def kpL (r : Nat → Nat → Bool) (L : List Nat) : List Nat → List Nat → List (Nat × Nat)
  | [], _ => []
  | k :: K, T => match L.find? (fun l => !T.contains l && r k l) with
    | some l => (k, l) :: kpL r L K (l :: T)
    | none => kpL r L K T
noncomputable def kp (kd idn : Nat → Int32) (t u : mT) (x y : Nat) : List (Nat × Nat) := if loK kd x = true then kpL (akB kd idn t u) (tKi u y) (tKi t x) [] else (tKi t x).zip (tKi u y)
def tn (kd idn : Nat → Int32) (t u : mT) (x0 y0 : Nat) : Nat → Nat → Nat → Prop
  | 0, k, l => k = x0 ∧ l = y0
  | n + 1, k, l => ∃ z w, tn kd idn t u x0 y0 n z w ∧ (k, l) ∈ kp kd idn t u z w
def tT (kd idn : Nat → Int32) (t u : mT) (x0 y0 k l : Nat) : Prop := ∃ n, tn kd idn t u x0 y0 n k l
noncomputable def twB (kd idn : Nat → Int32) (t u : mT) (x0 y0 z w : Nat) : Bool := @decide (tT kd idn t u x0 y0 z w) (Classical.propDecidable _)
noncomputable def brS (kd idn : Nat → Int32) (t u : mT) (P : mP) (x0 y0 : Nat) : mP := (fun z => if z ∈ tPo t x0 then (pO u).find? (fun w => twB kd idn t u x0 y0 z w) else P.1 z, fun w => if w ∈ tPo u y0 then (pO t).find? (fun z => twB kd idn t u x0 y0 z w) else P.2 w)
noncomputable def pnO (t : mT) (P : mP) (x : Nat) : Bool := (tPo t x).all (fun z => decide (P.1 z = none))
noncomputable def pnN (u : mT) (P : mP) (y : Nat) : Bool := (tPo u y).all (fun w => decide (P.2 w = none))
noncomputable def alO (kd idn : Nat → Int32) (t u : mT) (P : mP) (x : Nat) (o : Option Nat) : mP := match o with
  | some y => brS kd idn t u P x y
  | none => P
noncomputable def alS (kd idn : Nat → Int32) (t u : mT) (P : mP) (x : Nat) : mP := if pnO t P x = true then alO kd idn t u P x ((pO u).find? (fun y => pnN u P y && akB kd idn t u x y)) else P
def mt0 : mP := (fun _ => none, fun _ => none)
noncomputable def MTa (kd idn : Nat → Int32) (t u : mT) : mP := (pO t).foldl (idS kd idn u) (rtS t u ((pO t).foldl (smS u) mt0))
noncomputable def MTb (kd idn : Nat → Int32) (t u : mT) : mP := (pO t).foldl (alS kd idn t u) (MTa kd idn t u)
noncomputable def MTc (kd idn : Nat → Int32) (t u : mT) : mP := (pO u).foldl (abS kd idn t u false) ((pO u).foldl (abS kd idn t u true) (MTb kd idn t u))
noncomputable def MTd (kd idn : Nat → Int32) (t u : mT) : mP := (pO t).reverse.foldl (beS kd idn t u) (MTc kd idn t u)
end MATCHDEF
