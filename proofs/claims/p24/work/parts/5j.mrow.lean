/-! the model's rows -/
theorem rwq_mw {σ : zW} {j y : Nat} {x : Int64} {z : Int} : rwq 181 180 179 (sL (sI (sI σ 179 j z) 180 j (y : Int)) 181 j x) j x y z := by
  refine ⟨?_, ?_, ?_⟩
  · rw [gL_sL, if_pos ⟨rfl, rfl⟩]
  · rw [gI_sL, yGI_hit]
  · rw [gI_sL, gI_sI, if_neg (by omega), yGI_hit]
theorem rwq_mo {σ : zW} {j a y' : Nat} {x x' : Int64} {y z z' : Int} (h : a ≠ j) (hq : rwq 181 180 179 σ a x' y' z') : rwq 181 180 179 (sL (sI (sI σ 179 j z) 180 j y) 181 j x) a x' y' z' := by
  refine ⟨?_, ?_, ?_⟩
  · rw [gL_sL, if_neg (fun w => h w.2), gL_sI, gL_sI]; exact hq.1
  · rw [gI_sL, gI_sI, if_neg (fun w => h w.2), gI_sI, if_neg (by omega)]; exact hq.2.1
  · rw [gI_sL, gI_sI, if_neg (by omega), gI_sI, if_neg (fun w => h w.2)]; exact hq.2.2
abbrev Xmr : Nat → Nat → Prop := fun k j => (k = 122 ∧ j = 77) ∨ (179 ≤ k ∧ k ≤ 181)
theorem ed_root {n : Nat} {dep : Nat → Nat} (h : wfd n dep) (hn : 0 < n) : ed dep n 0 = n := by
  obtain ⟨s1, s2, s3, s4⟩ := ed_spec (dep := dep) hn
  rcases Nat.lt_or_ge (ed dep n 0) n with q | q
  · have a1 := s4 q
    have a2 := h.2.1 hn
    have a3 := wfd_pos h q (by omega)
    omega
  · omega
