/-! the model lays which nodes would do for the parts -/
theorem inpart_child {st : PST} {pd : Nat → Nat} {p q : Nat} (hg : pgd st pd) (hq : q < st.1) (h0 : 0 < q) (h3 : st.2.2.2.1 3 q = (p : Int)) (hp : ¬ pln st.2.2.2.1 p) : ¬ pln st.2.2.2.1 q := by
  obtain ⟨-, -, -, -, -, -, -, -, -, a10⟩ := hg.2.1 q hq
  obtain ⟨b1, b2, -⟩ := a10 h0
  rw [h3, Int.toNat_natCast] at b1 b2
  rintro ⟨c1, c2⟩
  apply hp
  have e1 : st.2.2.2.1 11 p = 0 := Classical.byContradiction (fun w => by
    rw [if_pos (Or.inr w)] at b1
    omega)
  refine ⟨e1, Classical.byContradiction (fun w => ?_)⟩
  rw [if_pos w, c2] at b2
  exact w b2.symm
theorem sgR_33 {x : Int} (h : 0 ≤ x ∧ x ≤ 2) : sgR x = 33 ↔ x = 1 := by
  have : x = 0 ∨ x = 1 ∨ x = 2 := by omega
  rcases this with rfl | rfl | rfl <;> decide
