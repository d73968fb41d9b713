/-! the plan of the model -/
theorem mt_eq {st : PST} {pd : Nat → Nat} (hg : pgd st pd) {r k : Nat} (hr : r < st.1) (hp : pln st.2.2.2.1 r) (hk : k < st.2.2.1) : mt st.2.2.2.1 r = np st k ↔ nm st r = k := by
  obtain ⟨m1, m2, m3, m4, m5, m6⟩ := nm_ok hg hr hp
  rw [← m3]
  constructor
  · intro h
    rcases Nat.lt_trichotomy (nm st r) k with x | x | x
    · have := np_lt hg x hk; omega
    · exact x
    · have := np_lt hg x m2; omega
  · intro h; rw [h]
def told (st : PST) (k k' E : Nat) : Prop := ∃ r, 1 ≤ r ∧ r < E ∧ pln st.2.2.2.1 r ∧ ((nm st r = k ∧ nm st (fr3 st r) = k') ∨ (nm st r = k' ∧ nm st (fr3 st r) = k))
theorem told_s {st : PST} {k k' E : Nat} (hE : 1 ≤ E) : told st k k' (E + 1) ↔ (told st k k' E ∨ (pln st.2.2.2.1 E ∧ ((nm st E = k ∧ nm st (fr3 st E) = k') ∨ (nm st E = k' ∧ nm st (fr3 st E) = k)))) := by
  constructor
  · rintro ⟨r, r1, r2, r3⟩
    rcases Nat.lt_succ_iff_lt_or_eq.mp r2 with x | x
    · exact Or.inl ⟨r, r1, x, r3⟩
    · rw [x] at r3; exact Or.inr r3
  · rintro (⟨r, r1, r2, r3⟩ | x)
    · exact ⟨r, r1, Nat.lt_succ_of_lt r2, r3⟩
    · exact ⟨E, hE, Nat.lt_succ_self E, x⟩
theorem pln_sg {st : PST} {pd : Nat → Nat} (hg : pgd st pd) (hw8 : pw st) {r : Nat} (hr : r < st.1) (h0 : r ≠ 0) (hp : pln st.2.2.2.1 r) : st.2.2.2.1 4 r = 0 := by
  have h1 := (hg.2.1 r hr).2.2.1
  have h2 := ((par11 hg hr h0).mp hp.1).1
  have h3 : st.2.2.2.1 4 r ≠ 2 := fun x => by
    have := (head_iff hg hr (by omega) hw8).mpr x
    have := hp.2
    omega
  omega
