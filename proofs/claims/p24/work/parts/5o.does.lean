/-! the model does an edit -/
/-- the words, told apart -/
theorem kz {k : Nat} (hk : k < 6) : (zlc (kwn k) 111520460465522 = 0 ↔ k = 0) ∧ (zlc (kwn k) 111550592214372 = 0 ↔ k = 1) ∧ (zlc (kwn k) 111546363770981 = 0 ↔ k = 2) ∧ (zlc (kwn k) 1885434487 = 0 ↔ k = 3) ∧ (zlc (kwn k) 6579297 = 0 ↔ k = 4) ∧ (zlc (kwn k) 1702260589 = 0 ↔ k = 5) := by
  obtain ⟨l0, l1, l2, l3, l4, l5, -, -, -, -⟩ := kwn_lits
  rw [← l0, ← l1, ← l2, ← l3, ← l4, ← l5]
  exact ⟨kw_k hk (by omega), kw_k hk (by omega), kw_k hk (by omega), kw_k hk (by omega), kw_k hk (by omega), kw_k hk (by omega)⟩
/-- whether an edit's nodes are given -/
abbrev enm (d : EDT) (x y : Int) : Prop := (d.1 ≠ 4 → x ≠ -1) ∧ (d.1 = 4 ∨ d.1 = 5 → y ≠ -1)
