section FD2
def aK (K : List Nat) (a : Option Nat) : Nat := match a with
  | none => 0
  | some x => K.idxOf x + 1
end FD2
