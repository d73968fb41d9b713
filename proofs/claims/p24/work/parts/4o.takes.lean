/-! the model takes a pattern -/
theorem ptR_l {f : Nat → Int} {L : Nat} : ∀ (k : Nat) (st st' : PST) (here d a : Nat), a ≤ L → 2 * st.2.1 ≤ a + 1 → ptR f L k st here d a = .inr st' → 2 * st'.2.1 ≤ L + 1 := by
  intro k
  induction k with
  | zero => intro st st' here d a _ _ h; cases h
  | succ k ih =>
    intro st st' here d a ha hl h
    have hg := sk_ge f L a
    rw [ptR] at h
    split at h
    · cases h; omega
    · split at h
      · rename_i hcl
        have := tb_in (f := f) (L := L) (p := sk f L a) (by omega)
        exact ih _ _ _ _ _ (by omega) (by omega) h
      · split at h
        · cases h
        · rename_i g hgm
          split at h
          · cases h
          · rename_i o ho
            split at h
            · cases h
            · rename_i r hr
              have hop := opS_ok ho
              have hgg : sk f L a ≤ g.2 := by
                unfold mkR at hgm
                split at hgm
                · cases hgm; exact Nat.le_succ _
                · split at hgm
                  · split at hgm
                    · cases hgm; exact Nat.le_succ _
                    · cases hgm
                  · cases hgm; exact Nat.le_refl _
              have h1 := sk_ge f L g.2
              have h2 := sk_ge f L o.2.2
              have h3 := sk_le (f := f) hop.2.1
              have h4 : sk f L o.2.2 ≤ brR f L (sk f L o.2.2) ∧ brR f L (sk f L o.2.2) ≤ L := by
                unfold brR
                split
                · rename_i q
                  have := tb_in (f := f) (L := L) (p := sk f L o.2.2) (by omega)
                  omega
                · omega
              have h5 := sk_ge f L (brR f L (sk f L o.2.2))
              have h6 := sk_le (f := f) h4.2
              obtain ⟨n1, n2, n3⟩ := nodP_pos h6 (by omega) hr
              exact ih _ _ _ _ _ n2 n3 h
theorem pread_l {f : Nat → Int} {L : Nat} {st : PST} (h : pread f L = .inr st) : 2 * st.2.1 ≤ L + 1 := by
  unfold pread at h
  split at h
  · cases h
  · rename_i r hr
    obtain ⟨n1, n2, n3⟩ := nodP_pos (sk_le (f := f) (Nat.zero_le L)) (Nat.zero_le _) hr
    exact ptR_l _ _ _ _ _ _ n2 n3 h
abbrev Xtp : Nat → Nat → Prop := fun k j => (k = 122 ∧ (j = 18 ∨ j = 32 ∨ j = 34)) ∨ (132 ≤ k ∧ k ≤ 145)
