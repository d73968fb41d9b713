theorem zt_1 (t : Nat) (i : Int) (K : List zF) (σ : zW) : zEv true ((84, 0, [some (.inr (.inr t)), some (.inl i)], []) :: K) σ = zEv true ((84, if i < 0 then 21 else 4, [some (.inr (.inr t)), some (.inl i)], []) :: K) σ := zS_next 1 (by with_unfolding_all rfl)
theorem zt_2 (i : Int) (K : List zF) (σ : zW) : zEv true ((84, 4, [some (.inr (.inr 2)), some (.inl i)], []) :: K) σ = zEv true ((84, if gI σ 2 1 ≤ i then 21 else 12, [some (.inr (.inr 2)), some (.inl i)], []) :: K) σ := zS_next 3 (by with_unfolding_all rfl)
theorem zt_3 (i : Int) (K : List zF) (σ : zW) : zEv true ((84, 12, [some (.inr (.inr 2)), some (.inl i)], []) :: K) σ = (0 ≤ i ∧ i < 600 ∧ zRet true K (some (.inl (gI σ 3 i.toNat))) σ) := by
  rw [zS_if 3 (c := 0 ≤ i ∧ i < 600) (f' := (84, 18, [some (.inr (.inr 2)), some (.inl i)], [.inl (gI σ 3 i.toNat)])) (σ' := σ) (by with_unfolding_all rfl), and_assoc]
  rw [zS_ret 1 (by with_unfolding_all rfl)]
theorem zt_4 (t : Nat) (i : Int) (K : List zF) (σ : zW) (ht : zkd t = 9) : zEv true ((84, 12, [some (.inr (.inr 2)), some (.inl i)], []) :: K) σ = (0 ≤ i ∧ i < 600 ∧ zRet true K (some (.inl (gI σ 3 i.toNat))) σ) := by
  refine (zS_if 3 (c := 0 ≤ i ∧ i < 600) (f' := (84, 18, [some (.inr (.inr 2)), some (.inl i)], [.inl (gI σ 3 i.toNat)])) (σ' := σ) (by with_unfolding_all rfl)).trans ?_
  rw [and_assoc]
  rw [zS_ret 1 (by with_unfolding_all rfl)]
