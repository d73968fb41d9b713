/-! the law's walk out of the machine in the small; what is owed for the texts is a hypothesis here -/
theorem y_zst : zsts.all (fun l => l.all fun e => Nat.blt e.2 10 && Nat.beq (zth 0 yTxn e.2) e.1) = true ∧ ((List.range 15).all fun o => Nat.beq o 5 || (zth [] zsts o).isEmpty) = true ∧ zCn 5 = "Treegrab$Script" := by decide +kernel
theorem y_zst_ok {o n k : Nat} (h : zst o n = some k) : o = 5 ∧ k < 10 ∧ n = yTx k := by
  have h1 := zlk_mem h
  obtain ⟨h2, h3, -⟩ := y_zst
  have key : ∀ (ls : List (List (Nat × Nat))), (ls.all fun l => l.all fun e => Nat.blt e.2 10 && Nat.beq (zth 0 yTxn e.2) e.1) = true → ∀ o, ((zth [] ls o).all fun e => Nat.blt e.2 10 && Nat.beq (zth 0 yTxn e.2) e.1) = true := by
    intro ls hl o
    exact zth_all (P := fun (x : List (Nat × Nat)) => (List.all x fun e => Nat.blt e.2 10 && Nat.beq (zth 0 yTxn e.2) e.1) = true) rfl (List.all_eq_true.mp hl) o
  have h4 := List.all_eq_true.mp (key _ h2 o) _ h1
  simp only [Bool.and_eq_true, Nat.blt_eq] at h4
  refine ⟨?_, h4.1, (Nat.eq_of_beq_eq_true h4.2).symm⟩
  rcases Nat.lt_or_ge o 15 with q | q
  · have h5 := List.all_eq_true.mp h3 o (List.mem_range.mpr q)
    rw [Bool.or_eq_true] at h5
    rcases h5 with h5 | h5
    · exact Nat.eq_of_beq_eq_true h5
    · rw [List.isEmpty_iff.mp h5] at h1; cases h1
  · exfalso
    have h6 : zth [] zsts o = [] := by
      rw [zth_getD, List.getD_eq_getElem?_getD, List.getElem?_eq_none (show zsts.length ≤ o from Nat.le_trans (by decide) q)]
      rfl
    rw [h6] at h1; cases h1
