/-! a relation read by the model -/
theorem nodP_pos {f : Nat → Int} {L p m k : Nat} {st : PST} {here mk : Int} {r : PST × Nat} (hp : p ≤ L) (hl : 2 * st.2.1 ≤ p) (h : nodP f L st here mk m k p = .inr r) : p < r.2 ∧ r.2 ≤ L ∧ 2 * r.1.2.1 ≤ r.2 + 1 := by
  unfold nodP at h
  split at h
  · cases h
  · rename_i hb
    obtain ⟨b1, b2, b3, b4⟩ := begR_none hb
    split at h
    · cases h
    · rename_i b hbo
      split at h
      · cases h
      · rename_i w hna
        cases h
        have hbp : p < b.2.2.2 ∧ b.2.2.2 ≤ L ∧ 2 * b.2.1 ≤ b.2.2.2 + 1 := by
          generalize ha1 : (if zlet (tb f L p) then p else p + 1) = a1 at hbo
          have a1L : a1 ≤ L := by rw [← ha1]; split <;> omega
          have pa1 : p ≤ a1 := by rw [← ha1]; split <;> omega
          unfold bodR at hbo
          split at hbo
          · rename_i h42
            have hnl : ¬ zlet (tb f L p) := by rw [h42]; decide
            rw [if_neg hnl] at ha1
            cases hbo
            dsimp only
            omega
          · split at hbo
            · split at hbo
              · cases hbo
              · rename_i x hx
                have := tolR_ok hx
                cases hbo
                dsimp only
                omega
            · split at hbo
              · cases hbo
              · rename_i x hx
                have := lbR_ok _ _ _ _ _ hx a1L (by omega)
                cases hbo
                dsimp only
                omega
        have hq : b.2.2.2 ≤ w.2 ∧ w.2 ≤ L := by
          unfold namR at hna
          split at hna
          · cases hna; exact ⟨Nat.le_refl _, hbp.2.1⟩
          · exact givR_ok hna hbp.2.1
        refine ⟨by dsimp only; omega, hq.2, ?_⟩
        show 2 * b.2.1 ≤ w.2 + 1
        omega
