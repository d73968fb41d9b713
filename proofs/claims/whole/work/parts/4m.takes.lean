/-! the model takes a script -/
theorem m_takesScript {K : List zF} {c : Nat} {σ : zW} (hc : c ≤ 8) (h58 : gI σ 122 58 = (c : Int))
    (k : ∀ σ' : zW, yFr (fun k j => (k = 122 ∧ j = 52) ∨ (160 ≤ k ∧ k ≤ 164)) σ σ' → gI σ' 122 52 = (c : Int) → (∀ i, i < c → gL σ' 160 i = gL σ 165 i ∧ gI σ' 161 i = gI σ 166 i ∧ gI σ' 162 i = gI σ 167 i ∧ gL σ' 163 i = gL σ 168 i ∧ gL σ' 164 i = gL σ 169 i) → zRet true K none σ') :
    zEv true (zent 169 [.inr (.inr 122)] :: K) σ := by
  have loop : ∀ (n i : Nat) (σ2 : zW), c - i = n → i ≤ c → yFr (fun k j => (k = 122 ∧ j = 52) ∨ (160 ≤ k ∧ k ≤ 164)) σ σ2 → gI σ2 122 52 = (c : Int) → (∀ j, j < i → gL σ2 160 j = gL σ 165 j ∧ gI σ2 161 j = gI σ 166 j ∧ gI σ2 162 j = gI σ 167 j ∧ gL σ2 163 j = gL σ 168 j ∧ gL σ2 164 j = gL σ 169 j) → zEv true ((169, 10, [some (.inr (.inr 122)), some (.inl (i : Int))], []) :: K) σ2 := by
    intro n
    induction n with
    | zero =>
      intro i σ2 hn hi hF h52 hE
      rw [zj_169_10, h52, if_pos (by omega)]
      exact k σ2 hF h52 (fun j hj => hE j (by omega))
    | succ n ih =>
      intro i σ2 hn hi hF h52 hE
      have hcc : 0 ≤ (i : Int) ∧ (i : Int) < 8 := by omega
      rw [zj_169_10, h52, if_neg (by omega), yAnd hcc, yAnd hcc, yAnd hcc, yAnd hcc, yAnd hcc, yAnd hcc, yAnd hcc, yAnd hcc, yAnd hcc, yAnd hcc, Int.toNat_natCast, zw_id (by omega) (by omega), show (i : Int) + 1 = ((i + 1 : Nat) : Int) by omega]
      refine ih (i + 1) _ (by omega) (by omega) (((((hF.L ?x1).I ?x2).I ?x3).L ?x4).L ?x5) ?x6 (fun j hj => ?x7)
      case x1 => omega
      case x2 => omega
      case x3 => omega
      case x4 => omega
      case x5 => omega
      case x6 => rw [gI_sL, gI_sL, gI_sI, if_neg (by omega), gI_sI, if_neg (by omega), gI_sL]; exact h52
      case x7 =>
        have r5 : gL σ2 165 i = gL σ 165 i := hF.l (by omega)
        have r6 : gI σ2 166 i = gI σ 166 i := hF.i (by omega)
        have r7 : gI σ2 167 i = gI σ 167 i := hF.i (by omega)
        have r8 : gL σ2 168 i = gL σ 168 i := hF.l (by omega)
        have r9 : gL σ2 169 i = gL σ 169 i := hF.l (by omega)
        rw [r5, r6, r7, r8, r9]
        by_cases e : j = i
        · subst e
          refine ⟨?_, ?_, ?_, ?_, ?_⟩ <;> simp (disch := omega) only [if_pos, if_neg, yAnd, Int.toNat_natCast, zw_id, gI_sI, gI_sL, gI_sR, gL_sI, gL_sL, gL_sR, gR_sI, gR_sL, gR_sR, true_and, and_true, and_self, ite_true, ite_false, ite_self, not_true_eq_false, not_false_eq_true, or_true, true_or, or_false, false_or, yB0, yB1, Decidable.not_not]
        · obtain ⟨a1, a2, a3, a4, a5⟩ := hE j (by omega)
          refine ⟨?_, ?_, ?_, ?_, ?_⟩ <;> simp (disch := omega) only [a1, a2, a3, a4, a5, if_pos, if_neg, yAnd, Int.toNat_natCast, zw_id, gI_sI, gI_sL, gI_sR, gL_sI, gL_sL, gL_sR, gR_sI, gR_sL, gR_sR, true_and, and_true, and_self, ite_true, ite_false, ite_self, not_true_eq_false, not_false_eq_true, or_true, true_or, or_false, false_or, yB0, yB1, Decidable.not_not]
  rw [ze_169, h58]
  exact loop _ 0 _ rfl (Nat.zero_le _) (yFr.rf.I (by omega)) yGI_hit (fun j hj => by omega)
