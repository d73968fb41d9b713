/-! the model keeps a tree, and gives it back -/
abbrev Xpl (p : Nat) : Nat → Nat → Prop := fun k j => (k = 124 ∧ j = p) ∨ ((k = 125 ∨ k = 126) ∧ 20 * p ≤ j ∧ j < 20 * p + 20)
