/-! trees read by the model -/
abbrev Xlb : Nat → Nat → Prop := fun k j => k = 122 ∧ 2 ≤ j ∧ j ≤ 7
abbrev Xrm : Nat → Nat → Prop := fun k j => (k = 122 ∧ ((2 ≤ j ∧ j ≤ 7) ∨ j = 13)) ∨ k = 127 ∨ k = 128
theorem mLab_fr {X : Nat → Nat → Prop} {σ σ' : zW} {a n : Nat} {v : Int64} (h : yFr X σ σ') (hX : ∀ j, 2 ≤ j → j ≤ 5 → X 122 j) : yFr X σ (mLab σ' a n v) := (((h.I (hX 5 (by omega) (by omega))).L (hX 3 (by omega) (by omega))).I (hX 4 (by omega) (by omega))).I (hX 2 (by omega) (by omega))
theorem mLab_i {σ : zW} {a n k j : Nat} {v : Int64} (h : ¬ (k = 122 ∧ 2 ≤ j ∧ j ≤ 5)) : gI (mLab σ a n v) k j = gI σ k j := by unfold mLab; simp (disch := omega) only [if_pos, if_neg, yAnd, Int.toNat_natCast, zw_id, gI_sI, gI_sL, gI_sR, gL_sI, gL_sL, gL_sR, gR_sI, gR_sL, gR_sR, true_and, and_true, and_self, ite_true, ite_false, ite_self, not_true_eq_false, not_false_eq_true, or_true, true_or, or_false, false_or, yB0, yB1, Decidable.not_not]
theorem mLab_l {σ : zW} {a n k j : Nat} {v : Int64} (h : ¬ (k = 122 ∧ 2 ≤ j ∧ j ≤ 5)) : gL (mLab σ a n v) k j = gL σ k j := by unfold mLab; simp (disch := omega) only [if_pos, if_neg, yAnd, Int.toNat_natCast, zw_id, gI_sI, gI_sL, gI_sR, gL_sI, gL_sL, gL_sR, gR_sI, gR_sL, gR_sR, true_and, and_true, and_self, ite_true, ite_false, ite_self, not_true_eq_false, not_false_eq_true, or_true, true_or, or_false, false_or, yB0, yB1, Decidable.not_not]
theorem mrl_fr {X : Nat → Nat → Prop} {f : Nat → Int} {L a : Nat} {σ σ' : zW} (h : yFr X σ σ') (hX : ∀ j, 2 ≤ j → j ≤ 7 → X 122 j) : yFr X σ (mrlW f L a σ') := by
  unfold mrlW
  have h2 : yFr X σ (sI σ' 122 2 (sk f L a : Nat)) := h.I (hX 2 (by omega) (by omega))
  split
  · exact ((mLab_fr h2 (fun j h1 h2 => hX j h1 (by omega))).I (hX 6 (by omega) (by omega))).I (hX 7 (by omega) (by omega))
  · exact mLab_fr h2 (fun j h1 h2 => hX j h1 (by omega))
theorem mrl_fault {f : Nat → Int} {L a : Nat} {σ : zW} {e : Nat × Nat} (h : rdl f L a = .inl e) : gI (mrlW f L a σ) 122 6 = (e.1 : Nat) ∧ gI (mrlW f L a σ) 122 7 = (e.2 : Nat) := by
  unfold mrlW
  rw [h]
  constructor <;> simp (disch := omega) only [if_pos, if_neg, yAnd, Int.toNat_natCast, zw_id, gI_sI, gI_sL, gI_sR, gL_sI, gL_sL, gL_sR, gR_sI, gR_sL, gR_sR, true_and, and_true, and_self, ite_true, ite_false, ite_self, not_true_eq_false, not_false_eq_true, or_true, true_or, or_false, false_or, yB0, yB1, Decidable.not_not]
theorem cT_fr {f : Nat → Int} {L : Nat} {X : Nat → Nat → Prop} {σ σ' : zW} (h : cT f L σ) (hF : yFr X σ σ') (hX : ∀ k j, X k j → k ≠ 3 ∧ ¬ (k = 2 ∧ j = 1)) : cT f L σ' := by
  refine ⟨fun i => ?_, ?_, h.2.2.1, h.2.2.2⟩
  · rw [hF.i (fun w => (hX _ _ w).1 rfl)]; exact h.1 i
  · rw [hF.i (fun w => (hX _ _ w).2 ⟨rfl, rfl⟩)]; exact h.2.1
