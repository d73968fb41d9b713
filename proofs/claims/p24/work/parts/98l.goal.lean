/-! all rounds, the start -/
theorem law_rounds {L : Nat} : ∀ (d n : Nat) (σ : zW) (o6 o7 o8 o9 o10 : Option zV), 8 - n = d → n ≤ 8 → LI L n σ → zEv true [(165, 58, [some (.inr (.inr 99999)), some (.inr (.inr 1)), some (.inr (.inr 122)), some (.inr (.inr 123)), some (.inl 1), some (.inl (n : Int)), o6, o7, o8, o9, o10], [])] σ := by
  intro d
  induction d with
  | zero =>
    intro n σ o6 o7 o8 o9 o10 hd hn h
    obtain ⟨Ts, H, u, -, -, -, -, hC, hS⟩ := h
    have e : n = 8 := by omega
    subst e
    rw [zj_165_58 (by decide), if_pos (by decide), yAnd (Or.inr rfl)]
    exact ⟨0, (.inl (some (.inl 1)), σ), rfl, rfl, by show gC σ ≤ 600130; omega, by show gS σ ≤ 7301080; omega⟩
  | succ d ih =>
    intro n σ o6 o7 o8 o9 o10 hd hn h
    exact law_round (by omega) h (fun σ' o6 o7 o8 o9 o10 h' => ih (n + 1) σ' o6 o7 o8 o9 o10 (by omega) (by omega) h')
theorem y_goal2 : yGoal2 := fun L h hL h98 hh τ hk hz h123 => by
  have hCS := y_start (h := h) hk hz
  have hk2 := hk
  unfold ychk at hk2
  simp only [Bool.and_eq_true] at hk2
  have hgC : gC τ = 121 := Nat.eq_of_beq_eq_true hk2.2.2.2.1
  have hgS : gS τ ≤ 40000 := Nat.le_of_ble_eq_true hk2.2.2.2.2.1
  have hC : gC (zsc h (zal (zal τ 40) 1)) ≤ 123 := by show gC τ + 1 + 1 ≤ 123; omega
  have hS : gS (zsc h (zal (zal τ 40) 1)) ≤ 40041 := by show gS τ + 40 + 1 ≤ 40041; omega
  have hs : scr L (zsc h (zal (zal τ 40) 1)) := ⟨hL, h98⟩
  have hm : gI (zsc h (zal (zal τ 40) 1)) 123 0 = 0 := (zsc_lo (by decide)).trans h123
  generalize zsc h (zal (zal τ 40) 1) = σ at *
  have hLT : LT S00.2.1 S00.2.2.2.2.2.2 0 σ := ⟨S00.2.2.1, S00.2.2.2.1, S00.2.2.2.2.1, S00.2.2.2.2.2.1, S00.1.1, ⟨S00_g, 0, Nat.le_refl _, hCS⟩, fun i hi => absurd hi (Nat.not_lt_zero i)⟩
  rw [zj_165_17 (by decide)]
  refine v_isRefused (x := 0) (k1_ok (by decide) _) hLT (hm.trans rfl) (by decide) (by decide) (by decide) rfl (fun σ1 hF1 hV1 => ?_)
  rw [zr_165_23 (by decide), if_neg (by decide)]
  have hm1 : gI σ1 123 0 = 0 := (hF1.1 123 0 (by decide)).trans hm
  refine v_isRefused (x := 1) (k1_ok (by decide) _) hV1 (hm1.trans rfl) (by decide) (by decide) (by decide) rfl (fun σ2 hF2 hV2 => ?_)
  rw [zr_165_32 (by decide), if_neg (by decide)]
  obtain ⟨R, r1, r2, hV⟩ := hV2.lo
  refine v_undoN (k1_ok (by decide) _) hV (by decide) (by rw [r2]; rfl) (fun σ3 hF3 hV3 => ?_)
  rw [zr_165_42, if_neg (fun w => w rfl)]
  have hF := (hF1.trans hF2).trans hF3
  obtain ⟨g1, g2⟩ := hF.c
  have hlt := LT.of hV3
  rw [r1, r2] at hlt
  exact law_rounds 8 0 σ3 _ _ _ _ _ rfl (by decide) ⟨_, _, _, hlt, rfl, Nat.le_refl 8, scr_fr hs hF, by omega, by omega⟩
