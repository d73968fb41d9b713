/-! patterns read by the model, the whole -/
abbrev Xmp : Nat → Nat → Prop := fun k j => (k = 122 ∧ ((2 ≤ j ∧ j ≤ 7) ∨ j = 35 ∨ j = 49 ∨ j = 50)) ∨ (146 ≤ k ∧ k ≤ 159)
theorem stR_bad {f : Nat → Int} {L p here : Nat} {st : PST} (hsp : sk f L p = p) (h : tb f L p = -1 ∨ tb f L p = 41) : stR f L st here p = .inl (1, p) := by
  have e : mkR f L st.2.2.2.1 here p = .inr (0, p) := by
    unfold mkR
    rw [if_neg (by omega), if_neg (by omega)]
  have e2 : opR f L p = .inl (1, p) := by
    unfold opR opS
    rw [hsp, if_neg (by omega), if_neg (by omega), if_neg (by omega), if_neg (by omega), if_neg (by omega)]
  unfold stR
  rw [e]
  simp only
  rw [e2]
