/-! the tape of the model -/
theorem y01 {P : Prop} [Decidable P] : (if P then (1 : Int) else 0) = 0 ∨ (if P then (1 : Int) else 0) = 1 := by by_cases h : P <;> simp [h]
/-- the world behind isLabel -/
def mLab (σ : zW) (a n : Nat) (v : Int64) : zW := sI (sI (sL (sI σ 122 5 (a : Nat)) 122 3 v) 122 4 (n : Nat)) 122 2 ((a + n : Nat) : Int)
theorem yup_ext {f g : Nat → Nat → Int} (h : ∀ k j, f k j = g k j) : f = g := by funext k j; exact h k j
theorem mLab_step (σ : zW) (a n : Nat) (v w : Int64) (x y : Int) : sI (sI (sL (mLab σ a n v) 122 3 w) 122 4 x) 122 2 y = sI (sI (sL (sI σ 122 5 (a : Nat)) 122 3 w) 122 4 x) 122 2 y := by
  refine Prod.ext ?_ (Prod.ext ?_ rfl)
  · funext k j
    show zup (zup (zup (zup (zup σ.1 122 5 (a : Nat)) 122 4 (n : Nat)) 122 2 ((a + n : Nat) : Int)) 122 4 x) 122 2 y k j = zup (zup (zup σ.1 122 5 (a : Nat)) 122 4 x) 122 2 y k j
    unfold zup
    by_cases h2 : k = 122 ∧ j = 2
    · rw [if_pos h2, if_pos h2]
    · rw [if_neg h2]
      by_cases h4 : k = 122 ∧ j = 4
      · rw [if_pos h4, if_neg h2, if_pos h4]
      · rw [if_neg h4, if_neg h2, if_neg h4, if_neg h2, if_neg h4]
  · funext k j
    show zup (zup σ.2.1 122 3 v) 122 3 w k j = zup σ.2.1 122 3 w k j
    unfold zup
    by_cases h : k = 122 ∧ j = 3
    · rw [if_pos h, if_pos h]
    · rw [if_neg h, if_neg h, if_neg h]
theorem mLab_2 {σ : zW} {a n : Nat} {v : Int64} : gI (mLab σ a n v) 122 2 = ((a + n : Nat) : Int) := yGI_hit
theorem mLab_4 {σ : zW} {a n : Nat} {v : Int64} : gI (mLab σ a n v) 122 4 = (n : Int) := by unfold mLab; simp (disch := omega) only [if_pos, if_neg, yAnd, Int.toNat_natCast, zw_id, gI_sI, gI_sL, gI_sR, gL_sI, gL_sL, gL_sR, gR_sI, gR_sL, gR_sR, true_and, and_true, and_self, ite_true, ite_false, ite_self, not_true_eq_false, not_false_eq_true, or_true, true_or, or_false, false_or, yB0, yB1, Decidable.not_not]
theorem mLab_5 {σ : zW} {a n : Nat} {v : Int64} : gI (mLab σ a n v) 122 5 = (a : Int) := by unfold mLab; simp (disch := omega) only [if_pos, if_neg, yAnd, Int.toNat_natCast, zw_id, gI_sI, gI_sL, gI_sR, gL_sI, gL_sL, gL_sR, gR_sI, gR_sL, gR_sR, true_and, and_true, and_self, ite_true, ite_false, ite_self, not_true_eq_false, not_false_eq_true, or_true, true_or, or_false, false_or, yB0, yB1, Decidable.not_not]
theorem mLab_3 {σ : zW} {a n : Nat} {v : Int64} : gL (mLab σ a n v) 122 3 = v := by unfold mLab; simp (disch := omega) only [if_pos, if_neg, yAnd, Int.toNat_natCast, zw_id, gI_sI, gI_sL, gI_sR, gL_sI, gL_sL, gL_sR, gR_sI, gR_sL, gR_sR, true_and, and_true, and_self, ite_true, ite_false, ite_self, not_true_eq_false, not_false_eq_true, or_true, true_or, or_false, false_or, yB0, yB1, Decidable.not_not]
/-- the world behind a label that has to come, and whether it is there -/
def mrlW (f : Nat → Int) (L a : Nat) (σ : zW) : zW := match rdl f L a with
  | .inl e => sI (sI (mLab (sI σ 122 2 (sk f L a : Nat)) (sk f L a) (wl f L (sk f L a)) (pk f (sk f L a) (wl f L (sk f L a)))) 122 6 (e.1 : Nat)) 122 7 (e.2 : Nat)
  | .inr _ => mLab (sI σ 122 2 (sk f L a : Nat)) (sk f L a) (wl f L (sk f L a)) (pk f (sk f L a) (wl f L (sk f L a)))
def mrlV (r : (Nat × Nat) ⊕ (Int64 × Nat)) : Int := match r with
  | .inl _ => 0
  | .inr _ => 1
