section MT3
def hq (t u : mT) (P : mP) (x i j : Nat) : Prop := ∃ z w, tIn t z = true ∧ pl t x < pl t z ∧ pl t z < i ∧ P.1 z = some w ∧ pl u w = j
end MT3
