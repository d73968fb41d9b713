/-! the model's other edits -/
theorem whz {n i : Nat} (hn : n < 4) (hi : i < 4) : zlc (kwn (6 + n)) (kwn (6 + i)) = 0 ↔ n = i := by
  rw [zlc_eq]
  exact ⟨fun h => by have := kwn_ne (by omega) (by omega) h; omega, fun h => by rw [h]⟩
theorem whl0 {n : Nat} (hn : n < 4) : zlc (kwn (6 + n)) 500153084262 = 0 ↔ n = 0 := by
  obtain ⟨-, -, -, -, -, -, l6, -, -, -⟩ := kwn_lits
  rw [← l6]
  exact whz (i := 0) hn (by omega)
theorem whl1 {n : Nat} (hn : n < 4) : zlc (kwn (6 + n)) 1953718636 = 0 ↔ n = 1 := by
  obtain ⟨-, -, -, -, -, -, -, l7, -, -⟩ := kwn_lits
  rw [← l7]
  exact whz (i := 1) hn (by omega)
theorem whl2 {n : Nat} (hn : n < 4) : zlc (kwn (6 + n)) 111542169658722 = 0 ↔ n = 2 := by
  obtain ⟨-, -, -, -, -, -, -, -, l8, -⟩ := kwn_lits
  rw [← l8]
  exact whz (i := 2) hn (by omega)
