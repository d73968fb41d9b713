/-! labels, beginnings and names in the model's patterns -/
abbrev Xml (c : Nat) : Nat → Nat → Prop := fun k j => (k = 122 ∧ ((2 ≤ j ∧ j ≤ 7) ∨ j = 49)) ∨ k = 158 ∨ (k = 148 ∧ j = c)
