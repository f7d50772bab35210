section BUILD
def no2 : Nat → Nat → Prop := fun _ _ => False
end BUILD
