/-! a part read by the model -/
abbrev Xnp : Nat → Nat → Prop := fun k j => (k = 122 ∧ ((2 ≤ j ∧ j ≤ 7) ∨ j = 35 ∨ j = 49 ∨ j = 50)) ∨ (146 ≤ k ∧ k ≤ 158)
theorem q12 {q : Nat} (h : q < 12) : q = 0 ∨ q = 1 ∨ q = 2 ∨ q = 3 ∨ q = 4 ∨ q = 5 ∨ q = 6 ∨ q = 7 ∨ q = 8 ∨ q = 9 ∨ q = 10 ∨ q = 11 := by omega
theorem MR_nm {kd ot hr mk op l l' nu hd dn nm n m nm' : Int} {q c : Nat} (hq : q < 12) (h5 : q ≠ 5) : MR (fun j _ => rowR kd ot hr mk op l l' nu hd dn nm n m j) q c = MR (fun j _ => rowR kd ot hr mk op l l' nu hd dn nm' n m j) q c := by
  rcases q12 hq with rfl | rfl | rfl | rfl | rfl | rfl | rfl | rfl | rfl | rfl | rfl | rfl <;> first | rfl | exact absurd rfl h5
theorem MR_row {kd ot hr mk op l l' nu hd dn nm n m : Int} {q c : Nat} (hq : q < 12) (h1 : q ≠ 1) (h2 : q ≠ 2) (h3 : q ≠ 3) : rowM kd hr (sgR mk) m n dn (hd + 1) nu q = MR (fun j _ => rowR kd ot hr mk op l l' nu hd dn 0 n m j) q c := by
  rcases q12 hq with rfl | rfl | rfl | rfl | rfl | rfl | rfl | rfl | rfl | rfl | rfl | rfl <;> first | rfl | exact absurd rfl h1 | exact absurd rfl h2 | exact absurd rfl h3
