/-! the plan of the model: in order -/
/-- told to one that is chosen: joined -/
theorem told_jnd {T : TRE} {st : PST} {i k : Nat} (h : ∀ j, j < i → bst T st (chs T st j) st.2.2.1 ≠ -1) : (∃ j, j < i ∧ told st (pl T st j) k st.1) ↔ jnd st (chs T st i) k st.1 := by
  have hM := chs_Ml (T := T) (st := st) i h
  constructor
  · rintro ⟨j, j1, r, r1, r2, r3, r4⟩
    refine ⟨r, r1, r2, r3, ?_⟩
    rcases r4 with ⟨a, b⟩ | ⟨a, b⟩
    · exact Or.inl ⟨b, by rw [a]; exact (hM _).mpr ⟨j, j1, rfl⟩⟩
    · exact Or.inr ⟨a, by rw [b]; exact (hM _).mpr ⟨j, j1, rfl⟩⟩
  · rintro ⟨r, r1, r2, r3, r4⟩
    rcases r4 with ⟨a, b⟩ | ⟨a, b⟩
    · obtain ⟨j, j1, j2⟩ := (hM _).mp b
      exact ⟨j, j1, r, r1, r2, r3, Or.inl ⟨j2.symm, a⟩⟩
    · obtain ⟨j, j1, j2⟩ := (hM _).mp b
      exact ⟨j, j1, r, r1, r2, r3, Or.inr ⟨a, j2.symm⟩⟩
def pbt (st : PST) (b : Int) : Int := if b = -1 then -1 else (np st b.toNat : Int)
