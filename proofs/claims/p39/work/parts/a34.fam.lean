section FAM
def zm (z : Nat) : Nat := if z < 300 then z else z - 300
end FAM
