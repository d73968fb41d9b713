/-! the model's row of a tree that is edited or shown -/
/-- a row: how many, labels, depths, ids -/
abbrev ROW : Type := Nat × (Nat → Int64) × (Nat → Nat) × (Nat → Int)
abbrev Xur : Nat → Nat → Prop := fun k j => (k = 122 ∧ (j = 77 ∨ j = 85)) ∨ (179 ≤ k ∧ k ≤ 181)
