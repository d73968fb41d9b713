/-! the bench takes a tree and gives it -/
theorem c_take {K : List zF} {t : Nat} {T : TRE} {σ : zW} (ht : zTr t) (hg : tgd T) (hR : cRows t T.1 T.2.1 T.2.2 σ)
    (k : ∀ σ' : zW, yFr Xbp σ σ' → bR (T.1, T.2.1, T.2.2, fun i => (i : Int)) σ' → gI σ' 54 8 = 20 → gI σ' 54 9 = 0 → zRet true K none σ') : zEv true (zent 1 [.inr (.inr 54), .inr (.inr t)] :: K) σ := by
  have hb := zTr_b ht
  have ht6 : t + 2 < 54 ∨ 60 < t := by rcases ht with rfl | rfl | rfl | rfl <;> omega
  have ht12 : ¬ (t = 54) := by omega
  have hn := hg.1.1
  have loop : ∀ (n i : Nat) (σ2 : zW), T.1 - i = n → i ≤ T.1 → yFr (fun k j => (k = 54 ∧ j = 6) ∨ (55 ≤ k ∧ k ≤ 57)) σ σ2 → gI σ2 54 6 = (T.1 : Int) → (∀ j, j < i → rwq 55 56 57 σ2 j (T.2.1 j) (T.2.2 j) (j : Int)) → zEv true ((1, 10, [some (.inr (.inr 54)), some (.inr (.inr t)), some (.inl (i : Int))], []) :: K) σ2 := by
    intro n
    induction n with
    | zero =>
      intro i σ2 hm hi hF e6 hE
      have hF3 : yFr (fun k j => k = 54 ∧ (j = 8 ∨ j = 9)) σ2 (sI (sI σ2 54 8 20) 54 9 0) := (yFr.rf.I (by omega)).I (by omega)
      rw [zj_1_10 ht, e6, if_pos (by omega)]
      refine k _ ((hF.mono (fun k j h => by omega)).trans (hF3.mono (fun k j h => by omega))) ⟨(hF3.i (by omega)).trans e6, fun j hj => ?_⟩ ?_ yGI_hit
      · have hj2 : j < T.1 := hj
        exact rwq_fr (hE j (by omega)) hF3 (by omega) (by omega) (by omega)
      · rw [gI_sI, if_neg (by omega), yGI_hit]
    | succ n ih =>
      intro i σ2 hm hi hF e6 hE
      have hi' : i < T.1 := by omega
      have hcc : 0 ≤ (i : Int) ∧ (i : Int) < 20 := by omega
      have e1 : gL σ2 (t + 1) i = T.2.1 i := (hF.l (by omega)).trans (hR.2 i hi').1
      have e2 : gI σ2 (t + 2) i = (T.2.2 i : Nat) := (hF.i (by omega)).trans (hR.2 i hi').2
      rw [zj_1_10 ht, e6, if_neg (by omega), yAnd hcc, yAnd hcc, yAnd hcc, yAnd hcc, yAnd hcc, Int.toNat_natCast, e1, e2, zw_id (by omega) (by omega), show (i : Int) + 1 = ((i + 1 : Nat) : Int) by omega]
      have hF2 : yFr (fun k j => 55 ≤ k ∧ k ≤ 57) σ2 (sI (sI (sL σ2 55 i (T.2.1 i)) 56 i ((T.2.2 i : Nat) : Int)) 57 i (i : Int)) := ((yFr.rf.L (by omega)).I (by omega)).I (by omega)
      refine ih (i + 1) _ (by omega) (by omega) (hF.trans (hF2.mono (fun k j h => by omega))) ((hF2.i (by omega)).trans e6) (fun j hj => ?_)
      by_cases e : j = i
      · subst e; exact rwq_bw
      · exact rwq_bo e (hE j (by omega))
  rw [ze_1 ht, hR.1]
  have hF0 : yFr (fun k j => k = 54 ∧ j = 6) σ (sI σ 54 6 (T.1 : Int)) := yFr.rf.I ⟨rfl, rfl⟩
  exact loop T.1 0 _ (Nat.sub_zero _) (Nat.zero_le _) (hF0.mono (fun k j h => Or.inl h)) yGI_hit (fun j hj => by omega)
theorem c_giveTo {K : List zF} (hK : K.length + 4 ≤ 60) {t : Nat} {fr : Int} {r : ROW} {σ : zW} (ht : zTr t) (hg : rgd r fr) (hR : bR r σ)
    (k : ∀ σ' : zW, yFr (fun k j => (t + 1 ≤ k ∧ k ≤ t + 11) ∨ (k = t ∧ 11 ≤ j)) σ σ' → cTr t (r.1, r.2.1, r.2.2.1) σ' → zRet true K none σ') : zEv true (zent 2 [.inr (.inr 54), .inr (.inr t)] :: K) σ := by
  have hb := zTr_b ht
  have ht6 : t + 11 < 54 ∨ 60 < t := by rcases ht with rfl | rfl | rfl | rfl <;> omega
  have hn := hg.1.1
  have hgt : tgd (r.1, r.2.1, r.2.2.1) := ⟨hg.1, hg.2.2.1⟩
  have loop : ∀ (n i : Nat) (σ2 : zW), r.1 - i = n → i ≤ r.1 → yFr (fun k j => k = t + 1 ∨ k = t + 2 ∨ (k = t ∧ j = 12)) σ σ2 → gI σ2 t 12 = (r.1 : Int) → (∀ j, j < i → gL σ2 (t + 1) j = r.2.1 j ∧ gI σ2 (t + 2) j = (r.2.2.1 j : Nat)) → zEv true ((2, 10, [some (.inr (.inr 54)), some (.inr (.inr t)), some (.inl (i : Int))], []) :: K) σ2 := by
    intro n
    induction n with
    | zero =>
      intro i σ2 hm hi hF e12 hE
      rw [zj_2_10 (by omega) ht, (hF.i (by omega)).trans hR.1, if_pos (by omega)]
      refine c_settle_tree (T := (r.1, r.2.1, r.2.2.1)) (yKK (K := K) (by omega)) ht hgt ⟨e12, fun j hj => hE j (by have : j < r.1 := hj; omega)⟩ (fun σ3 hF3 hT3 => ?_)
      rw [zr_2_52]
      exact k σ3 ((hF.mono (fun k j h => by omega)).trans (hF3.mono (fun k j h => by omega))) hT3
    | succ n ih =>
      intro i σ2 hm hi hF e12 hE
      have hi' : i < r.1 := by omega
      have hcc : 0 ≤ (i : Int) ∧ (i : Int) < 20 := by omega
      have hq : rwr 55 56 57 σ2 i r i := rwq_fr (hR.2 i hi') hF (by omega) (by omega) (by omega)
      rw [zj_2_10 (by omega) ht, (hF.i (by omega)).trans hR.1, if_neg (by omega), yAnd hcc, yAnd hcc, yAnd hcc, yAnd hcc, Int.toNat_natCast, hq.1, hq.2.1, zw_id (by omega) (by omega), show (i : Int) + 1 = ((i + 1 : Nat) : Int) by omega]
      refine ih (i + 1) _ (by omega) (by omega) ((hF.L (by omega)).I (by omega)) ?_ (fun j hj => ?_)
      · rw [gI_sI, if_neg (by omega), gI_sL]; exact e12
      · by_cases ej : j = i
        · subst ej
          exact ⟨by rw [gL_sI, gL_sL, if_pos ⟨rfl, rfl⟩], yGI_hit⟩
        · exact ⟨by rw [gL_sI, gL_sL, if_neg (fun w => ej w.2)]; exact (hE j (by omega)).1, by rw [gI_sI, if_neg (fun w => ej w.2), gI_sL]; exact (hE j (by omega)).2⟩
  rw [ze_2 ht, hR.1]
  exact loop r.1 0 _ (Nat.sub_zero _) (Nat.zero_le _) (yFr.rf.I (by omega)) yGI_hit (fun j hj => by omega)
