/-! the model's trees, and one of them laid out -/
abbrev Xly : Nat → Nat → Prop := fun k j => (k = 122 ∧ (j = 64 ∨ j = 65 ∨ j = 75)) ∨ (170 ≤ k ∧ k ≤ 173)
