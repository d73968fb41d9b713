/-! the model moves nodes -/
theorem dpa_le {r : ROW} {wh : Int} {g : Nat} (h : wfd r.1 r.2.2.1) (hg : g < r.1) : dpa r wh g ≤ 21 := by
  have h1 := wfd_lt h g hg
  have h2 := h.1
  unfold dpa
  split <;> omega
