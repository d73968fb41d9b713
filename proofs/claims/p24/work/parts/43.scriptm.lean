/-- the row of an edit as the model reads it, in the arrays from b on -/
def mEd (b c : Nat) (d : EDT) (σ : zW) : Prop := gL σ b c = kwn d.1.toNat ∧ gI σ (b + 1) c = (if d.1 = 4 then 0 else d.2.1 + 97) ∧ gI σ (b + 2) c = (if d.1 = 4 ∨ d.1 = 5 then d.2.2.1 + 97 else 0) ∧ (d.1 = 0 ∨ d.1 = 3 ∨ d.1 = 4 → gL σ (b + 3) c = d.2.2.2.1) ∧ (d.1 = 4 ∨ d.1 = 5 → gL σ (b + 4) c = kwn (6 + d.2.2.2.2.toNat))
abbrev Xme (c : Nat) : Nat → Nat → Prop := fun k j => (k = 122 ∧ ((2 ≤ j ∧ j ≤ 7) ∨ j = 58)) ∨ (165 ≤ k ∧ k ≤ 169 ∧ j = c)
theorem Xme_T {c : Nat} : ∀ k j, Xme c k j → k ≠ 123 ∧ ¬ (k = 122 ∧ j = 1) := fun k j q => by omega
theorem kw_k {k i : Nat} (hk : k < 6) (hi : i < 10) : zlc (kwn k) (kwn i) = 0 ↔ k = i := by
  rw [zlc_eq]
  exact ⟨fun h => kwn_ne (by omega) hi h, fun h => by rw [h]⟩
theorem mEd_fr {b c : Nat} {d : EDT} {X : Nat → Nat → Prop} {σ σ' : zW} (h : mEd b c d σ) (hF : yFr X σ σ') (hX : ∀ k, b ≤ k → k ≤ b + 4 → ¬ X k c) : mEd b c d σ' := by
  obtain ⟨h1, h2, h3, h4, h5⟩ := h
  exact ⟨(hF.l (hX _ (by omega) (by omega))).trans h1, (hF.i (hX _ (by omega) (by omega))).trans h2, (hF.i (hX _ (by omega) (by omega))).trans h3, fun q => (hF.l (hX _ (by omega) (by omega))).trans (h4 q), fun q => (hF.l (hX _ (by omega) (by omega))).trans (h5 q)⟩
abbrev Xms : Nat → Nat → Prop := fun k j => (k = 122 ∧ ((2 ≤ j ∧ j ≤ 7) ∨ j = 58)) ∨ (165 ≤ k ∧ k ≤ 169)
