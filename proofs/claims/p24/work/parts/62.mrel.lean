/-! the model's relation -/
/-- brothers, and how far -/
def bsd (T : TRE) (m a b : Nat) : Prop := sib T a b ∧ (m = 15 ∨ (m = 16 ∧ rnk T b = rnk T a + 1) ∨ (m = 17 ∧ rnk T a < rnk T b) ∨ (m = 18 ∧ rnk T a = rnk T b + 1) ∨ (m = 19 ∧ rnk T b < rnk T a))
theorem sib_comm {T : TRE} {a b : Nat} : sib T a b ↔ sib T b a := by
  constructor
  · intro h; exact ⟨fun w => h.1 w.symm, by rw [← h.2.2]; exact h.2.1, h.2.2.symm⟩
  · intro h; exact ⟨fun w => h.1 w.symm, by rw [← h.2.2]; exact h.2.1, h.2.2.symm⟩
theorem relP_bsd {T : TRE} {m k a b : Nat} (hm : 15 ≤ m ∧ m ≤ 19) : bsd T m a b ↔ relP T m k a b := by
  have hm5 : m = 15 ∨ m = 16 ∨ m = 17 ∨ m = 18 ∨ m = 19 := by omega
  unfold relP bsd
  rcases hm5 with rfl | rfl | rfl | rfl | rfl
  · have ht : ¬ trm 15 := by unfold trm; omega
    exact ⟨fun w => Or.inr ⟨ht, w.1⟩, fun w => by rcases w with w | w; exact absurd w.1 ht; exact ⟨w.2, Or.inl rfl⟩⟩
  · have ht : ¬ trm 16 := by unfold trm; omega
    refine ⟨fun w => Or.inr ⟨ht, w.1, ?_⟩, fun w => ?_⟩
    · rcases w.2 with q | q | q | q | q <;> omega
    · rcases w with w | w
      · exact absurd w.1 ht
      · have h2 : sib T a b ∧ rnk T b = rnk T a + 1 := w.2
        exact ⟨h2.1, Or.inr (Or.inl ⟨rfl, h2.2⟩)⟩
  · have ht : ¬ trm 17 := by unfold trm; omega
    refine ⟨fun w => Or.inr ⟨ht, w.1, ?_⟩, fun w => ?_⟩
    · rcases w.2 with q | q | q | q | q <;> omega
    · rcases w with w | w
      · exact absurd w.1 ht
      · have h2 : sib T a b ∧ rnk T a < rnk T b := w.2
        exact ⟨h2.1, Or.inr (Or.inr (Or.inl ⟨rfl, h2.2⟩))⟩
  · have ht : trm 18 := by unfold trm; omega
    refine ⟨fun w => Or.inl ⟨ht, sib_comm.mp w.1, ?_⟩, fun w => ?_⟩
    · rcases w.2 with q | q | q | q | q <;> omega
    · rcases w with w | w
      · have h2 : sib T b a ∧ rnk T a = rnk T b + 1 := w.2
        exact ⟨sib_comm.mp h2.1, Or.inr (Or.inr (Or.inr (Or.inl ⟨rfl, h2.2⟩)))⟩
      · exact absurd ht w.1
  · have ht : trm 19 := by unfold trm; omega
    refine ⟨fun w => Or.inl ⟨ht, sib_comm.mp w.1, ?_⟩, fun w => ?_⟩
    · rcases w.2 with q | q | q | q | q <;> omega
    · rcases w with w | w
      · have h2 : sib T b a ∧ rnk T b < rnk T a := w.2
        exact ⟨sib_comm.mp h2.1, Or.inr (Or.inr (Or.inr (Or.inr ⟨rfl, h2.2⟩)))⟩
      · exact absurd ht w.1
theorem zrem2 : ∀ m, m < 20 → zrem ((m : Nat) : Int) 2 = ((m % 2 : Nat) : Int) := by decide +kernel
