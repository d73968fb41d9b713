/-! the class's history -/
/-- the class's history: u entries used, H what is kept of each place -/
def cH (u : Nat) (H : Nat → List TRE) (σ : zW) : Prop := gI σ 61 4 = (u : Int) ∧ ∀ p, p < 3 → hch (H p) (gI σ 65 p) u σ
abbrev Xhi : Nat → Nat → Prop := fun k j => (k = 61 ∧ j = 4) ∨ (62 ≤ k ∧ k ≤ 65)
theorem cH_fr {u : Nat} {H : Nat → List TRE} {σ σ' : zW} {X : Nat → Nat → Prop} (h : cH u H σ) (hF : yFr X σ σ') (hX : ∀ k j, Xhi k j → ¬ X k j) : cH u H σ' := by
  refine ⟨(hF.i (hX _ _ (Or.inl ⟨rfl, rfl⟩))).trans h.1, fun p hp => ?_⟩
  rw [hF.i (hX 65 p (by omega))]
  exact hch_fr _ _ _ _ _ (h.2 p hp) (fun k hk => ⟨hF.i (hX _ _ (by omega)), hF.i (hX _ _ (by omega)), fun i hi => hF.l (hX _ _ (by omega))⟩)
theorem c_hclear {K : List zF} {u p : Nat} {H : Nat → List TRE} {σ : zW} (hp : p < 3) (h : cH u H σ) (k : ∀ σ' : zW, yFr (fun k j => k = 65 ∧ j = p) σ σ' → cH u (fup H p []) σ' → zRet true K none σ') : zEv true (zent 28 [.inr (.inr 61), .inl (p : Int)] :: K) σ := by
  have hcp : 0 ≤ (p : Int) ∧ (p : Int) < 3 := by omega
  rw [ze_28, yAnd hcp, Int.toNat_natCast]
  have hF : yFr (fun k j => k = 65 ∧ j = p) σ (sI σ 65 p (-1)) := yFr.rf.I ⟨rfl, rfl⟩
  refine k _ hF ⟨(hF.i (by omega)).trans h.1, fun q hq => ?_⟩
  by_cases e : q = p
  · subst e
    rw [fup_eq, yGI_hit]
    rfl
  · rw [fup_ne e, hF.i (by omega)]
    exact hch_fr _ _ _ _ _ (h.2 q hq) (fun k hk => ⟨hF.i (by omega), hF.i (by omega), fun i hi => hF.l (by omega)⟩)
