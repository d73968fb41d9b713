/-! a tree kept by the class -/
theorem c_keep {K : List zF} {u p t : Nat} {T : TRE} {H : Nat → List TRE} {σ : zW} (hp : p < 3) (ht : zTr t) (hu : u < 512) (hg : tgd T ∧ 1 ≤ T.1) (hR : cRows t T.1 T.2.1 T.2.2 σ) (h : cH u H σ)
    (k : ∀ σ' : zW, yFr Xhi σ σ' → cH (u + 1) (fup H p (T :: H p)) σ' → zRet true K none σ') : zEv true (zent 29 [.inr (.inr 61), .inl (p : Int), .inr (.inr t)] :: K) σ := by
  have hb := zTr_b ht
  have ht6 : t + 2 < 61 ∨ 65 < t := by rcases ht with rfl | rfl | rfl | rfl <;> omega
  have hn := hg.1.1.1
  have hcp : 0 ≤ (p : Int) ∧ (p : Int) < 3 := by omega
  have hcu : 0 ≤ (u : Int) ∧ (u : Int) < 512 := by omega
  have loop : ∀ (m i : Nat) (σ2 : zW), T.1 - i = m → i ≤ T.1 → yFr (fun k j => k = 62 ∧ 20 * u ≤ j ∧ j < 20 * u + 20) σ σ2 → (∀ j, j < i → gL σ2 62 (20 * u + j) = pkc T j) → zEv true ((29, 13, [some (.inr (.inr 61)), some (.inl (p : Int)), some (.inr (.inr t)), some (.inl (i : Int))], []) :: K) σ2 := by
    intro m
    induction m with
    | zero =>
      intro i σ2 hm hi hF hE
      have eu : gI σ2 61 4 = (u : Int) := (hF.i (by omega)).trans h.1
      rw [zj_29_13 ht, (hF.i (by omega)).trans hR.1, if_pos (by omega), eu, yAnd hcu, yAnd hcp, yAnd hcu, yAnd hcp, Int.toNat_natCast, Int.toNat_natCast, zw_id (by omega) (by omega), show (u : Int) + 1 = ((u + 1 : Nat) : Int) by omega]
      have e65 : gI σ2 65 p = gI σ 65 p := hF.i (by omega)
      rw [e65]
      have hF2 : yFr (fun k j => (k = 63 ∧ j = u) ∨ (k = 64 ∧ j = u) ∨ (k = 65 ∧ j = p) ∨ (k = 61 ∧ j = 4)) σ2 (sI (sI (sI (sI σ2 63 u (T.1 : Int)) 64 u (gI σ 65 p)) 65 p (u : Int)) 61 4 ((u + 1 : Nat) : Int)) := (((yFr.rf.I (by omega)).I (by omega)).I (by omega)).I (by omega)
      have q61 : gI (sI (sI (sI (sI σ2 63 u (T.1 : Int)) 64 u (gI σ 65 p)) 65 p (u : Int)) 61 4 ((u + 1 : Nat) : Int)) 61 4 = ((u + 1 : Nat) : Int) := yGI_hit
      have q65 : gI (sI (sI (sI (sI σ2 63 u (T.1 : Int)) 64 u (gI σ 65 p)) 65 p (u : Int)) 61 4 ((u + 1 : Nat) : Int)) 65 p = (u : Int) := by rw [gI_sI, if_neg (by omega), yGI_hit]
      have q64 : gI (sI (sI (sI (sI σ2 63 u (T.1 : Int)) 64 u (gI σ 65 p)) 65 p (u : Int)) 61 4 ((u + 1 : Nat) : Int)) 64 u = gI σ 65 p := by rw [gI_sI, if_neg (by omega), gI_sI, if_neg (by omega), yGI_hit]
      have q63 : gI (sI (sI (sI (sI σ2 63 u (T.1 : Int)) 64 u (gI σ 65 p)) 65 p (u : Int)) 61 4 ((u + 1 : Nat) : Int)) 63 u = (T.1 : Int) := by rw [gI_sI, if_neg (by omega), gI_sI, if_neg (by omega), gI_sI, if_neg (by omega), yGI_hit]
      generalize sI (sI (sI (sI σ2 63 u (T.1 : Int)) 64 u (gI σ 65 p)) 65 p (u : Int)) 61 4 ((u + 1 : Nat) : Int) = σ3 at hF2 q61 q65 q64 q63 ⊢
      have hold : ∀ q, q < 3 → hch (H q) (gI σ 65 q) u σ3 := fun q hq => hch_fr _ _ _ _ _ (h.2 q hq) (fun k hk => ⟨(hF2.i (by omega)).trans (hF.i (by omega)), (hF2.i (by omega)).trans (hF.i (by omega)), fun i hi => (hF2.l (by omega)).trans (hF.l (by omega))⟩)
      refine k σ3 ((hF.mono (fun k j h => by omega)).trans (hF2.mono (fun k j h => by omega))) ⟨q61, fun q hq => ?_⟩
      by_cases e : q = p
      · subst e
        rw [fup_eq, q65]
        refine ⟨u, rfl, by omega, q63, hg, fun j hj => (hF2.l (by omega)).trans (hE j (by omega)), ?_⟩
        rw [q64]; exact hold q hq
      · rw [fup_ne e, hF2.i (by omega), hF.i (by omega)]
        exact hch_mono _ _ _ _ _ (hold q hq) (by omega)
    | succ m ih =>
      intro i σ2 hm hi hF hE
      have hi' : i < T.1 := by omega
      have hcc : 0 ≤ (i : Int) ∧ (i : Int) < 20 := by omega
      have eu : gI σ2 61 4 = (u : Int) := (hF.i (by omega)).trans h.1
      have ex : w32 (w32 ((u : Int) * 20) + (i : Int)) = ((20 * u + i : Nat) : Int) := by rw [zw_id (z := (u : Int) * 20) (by omega) (by omega), zw_id (by omega) (by omega)]; omega
      have hcx : 0 ≤ ((20 * u + i : Nat) : Int) ∧ ((20 * u + i : Nat) : Int) < 10240 := by omega
      have e1 : gL σ2 (t + 1) i = T.2.1 i := (hF.l (by omega)).trans (hR.2 i hi').1
      have e2 : gI σ2 (t + 2) i = (T.2.2 i : Nat) := (hF.i (by omega)).trans (hR.2 i hi').2
      rw [zj_29_13 ht, (hF.i (by omega)).trans hR.1, if_neg (by omega), eu, ex, yAnd hcc, yAnd hcc, yAnd hcx, Int.toNat_natCast, Int.toNat_natCast, e1, e2, zw_id (by omega) (by omega), show (i : Int) + 1 = ((i + 1 : Nat) : Int) by omega]
      refine ih (i + 1) _ (by omega) (by omega) (hF.L (by omega)) (fun j hj => ?_)
      rw [gL_sL]
      by_cases e : j = i
      · subst e; rw [if_pos ⟨rfl, rfl⟩]; rfl
      · rw [if_neg (by omega)]; exact hE j (by omega)
  rw [ze_29, h.1, if_pos (by omega)]
  exact loop T.1 0 σ (Nat.sub_zero _) (Nat.zero_le _) yFr.rf (fun j hj => by omega)
