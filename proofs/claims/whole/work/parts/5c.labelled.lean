/-! the model counts the nodes with the tape as their label -/
theorem m_labs_loop {K : List zF} {f : Nat → Int} {L p b : Nat} {v : Int64} {T : TRE} {σ2 : zW} (hp3 : p < 3) (hg : tgd T) (hM2 : mTr p T σ2) (hb0 : b = 0 → ∀ w, lgs w → ¬ spl f L w) (hb1 : b = 1 → ∀ w, lgs w → (spl f L w ↔ w = v)) (hb : b ≤ 1)
    (k : zRet true K (some (.inl ((cns f L T.2.1 T.1 : Nat) : Int))) σ2) : zEv true ((186, 101, [some (.inr (.inr 122)), some (.inl (p : Int)), some (.inr (.inl v)), none, some (.inl (b : Int)), some (.inl 0), some (.inl 0)], []) :: K) σ2 := by
  have hn := hg.1.1
  have hcp : 0 ≤ (p : Int) ∧ (p : Int) < 3 := by omega
  have loop : ∀ (m i : Nat), T.1 - i = m → i ≤ T.1 → zEv true ((186, 101, [some (.inr (.inr 122)), some (.inl (p : Int)), some (.inr (.inl v)), none, some (.inl (b : Int)), some (.inl ((cns f L T.2.1 i : Nat) : Int)), some (.inl (i : Int))], []) :: K) σ2 := by
    intro m
    induction m with
    | zero =>
      intro i hm hi
      rw [zj_186_101, yAnd hcp, Int.toNat_natCast, hM2.1, if_pos (by omega), show i = T.1 by omega]
      exact k
    | succ m ih =>
      intro i hm hi
      have hi' : i < T.1 := by omega
      have hle := cns_le (f := f) (L := L) (lab := T.2.1) i
      have ex : w32 (w32 (20 * (p : Int)) + (i : Int)) = ((20 * p + i : Nat) : Int) := by rw [zw_id (z := 20 * (p : Int)) (by omega) (by omega), zw_id (by omega) (by omega)]; omega
      have hcx : 0 ≤ ((20 * p + i : Nat) : Int) ∧ ((20 * p + i : Nat) : Int) < 60 := by omega
      rw [zj_186_101, yAnd hcp, Int.toNat_natCast, hM2.1, if_neg (by omega)]
      by_cases hb0' : b = 0
      · have e0 : cns f L T.2.1 T.1 = cns f L T.2.1 i := by
          have : ∀ j, j ≤ T.1 → cns f L T.2.1 j = 0 := fun j => by
            induction j with
            | zero => intro _; rfl
            | succ j ihj => intro hj; rw [cns_n (hb0 hb0' _ (hg.2 j (by omega)))]; exact ihj (by omega)
          rw [this T.1 (Nat.le_refl _), this i hi]
        rw [if_pos (by omega), ← e0]
        exact k
      · have hb1' : b = 1 := by omega
        rw [if_neg (show ¬ (b : Int) = 0 by omega), ex, yAnd hcx, Int.toNat_natCast, (hM2.2 i hi').1, zw_id (z := (i : Int) + 1) (by omega) (by omega), show (i : Int) + 1 = ((i + 1 : Nat) : Int) by omega]
        have e2 : w32 (((cns f L T.2.1 i : Nat) : Int) + (if ¬ zlc (T.2.1 i) v = 0 then 0 else 1 : Int)) = ((cns f L T.2.1 (i + 1) : Nat) : Int) := by
          by_cases q : T.2.1 i = v
          · rw [if_neg (fun w => w (zlc_eq.mpr q)), cns_y ((hb1 hb1' _ (hg.2 i hi')).mpr q), zw_id (by omega) (by omega)]; omega
          · rw [if_pos (fun w => q (zlc_eq.mp w)), cns_n (fun w => q ((hb1 hb1' _ (hg.2 i hi')).mp w)), zw_id (by omega) (by omega)]; omega
        rw [e2]
        exact ih (i + 1) (by omega) (by omega)
  exact loop T.1 0 rfl (Nat.zero_le _)
theorem m_labelled {K : List zF} (hK : K.length + 2 ≤ 60) {f : Nat → Int} {L : Nat} {z : Int} {σ : zW} (hT : mT f L σ)
    (k1 : ∀ σ' : zW, ¬ (0 ≤ z ∧ z ≤ 2) → yFr (fun k j => k = 122 ∧ (j = 1 ∨ j = 88)) σ σ' → gI σ' 122 1 = 0 → gI σ' 122 88 = 1 → zRet true K (some (.inl 0)) σ')
    (k : ∀ σ' : zW, (0 ≤ z ∧ z ≤ 2) → yFr (fun k j => k = 122 ∧ (j = 1 ∨ j = 88)) σ σ' → gI σ' 122 1 = 0 → gI σ' 122 88 = 0 → ∀ (p : Nat) (T : TRE), z = (p : Int) → tgd T → mTr p T σ → zRet true K (some (.inl ((cns f L T.2.1 T.1 : Nat) : Int))) σ')
    (hz : ∀ p : Nat, z = (p : Int) → p < 3 → ∃ T, tgd T ∧ mTr p T σ) :
    zEv true (zent 186 [.inr (.inr 122), .inl z] :: K) σ := by
  obtain ⟨q1, q2, h6, hf⟩ := hT
  -- the bytes are read
  have part2 : ∀ (b : Nat) (v : Int64) (o5 o6 : Option zV), (b = 0 → ∀ w, lgs w → ¬ spl f L w) → (b = 1 → ∀ w, lgs w → (spl f L w ↔ w = v)) → b ≤ 1 → zEv true ((186, 71, [some (.inr (.inr 122)), some (.inl z), some (.inr (.inl v)), none, some (.inl (b : Int)), o5, o6], []) :: K) σ := by
    intro b v o5 o6 hb0 hb1 hb
    rw [zj_186_71 (by omega), m_isPlace (yL (by omega)), zr_186_84 (by omega), m_goes, zr_186_95]
    have hF : ∀ x : Int, yFr (fun k j => k = 122 ∧ (j = 1 ∨ j = 88)) σ (sI (sI σ 122 1 0) 122 88 x) := fun x => (yFr.rf.I (by omega)).I (by omega)
    by_cases hp : 0 ≤ z ∧ z ≤ 2
    · have e : (if (if 0 ≤ z ∧ z ≤ 2 then (1 : Int) else 0) = 0 then (1 : Int) else 0) = 0 := by rw [if_pos hp]; exact if_neg (by decide)
      rw [e, if_pos (show (0 : Int) = 0 from rfl), if_neg (show ¬ (1 : Int) = 0 by decide)]
      obtain ⟨p, rfl⟩ : ∃ p : Nat, z = (p : Int) := ⟨z.toNat, by omega⟩
      obtain ⟨T, hg, hM⟩ := hz p rfl (by omega)
      have e1 : gI (sI (sI σ 122 1 0) 122 88 0) 122 1 = 0 := by rw [gI_sI, if_neg (by omega), yGI_hit]
      have k := k _ hp (hF 0) e1 yGI_hit p T rfl hg hM
      have hM2 : mTr p T (sI (sI σ 122 1 0) 122 88 0) := mTr_fr hM (hF 0) (fun k j h => by omega)
      generalize sI (sI σ 122 1 0) 122 88 0 = σ2 at k hM2 ⊢
      exact m_labs_loop (by omega) hg hM2 hb0 hb1 hb k
    · have e : (if (if 0 ≤ z ∧ z ≤ 2 then (1 : Int) else 0) = 0 then (1 : Int) else 0) = 1 := by rw [if_neg hp]; exact if_pos rfl
      rw [e, if_neg (show ¬ (1 : Int) = 0 by decide), if_pos (show (0 : Int) = 0 from rfl)]
      exact k1 _ hp (hF 1) (by rw [gI_sI, if_neg (by omega), yGI_hit]) yGI_hit
  rw [ze_186 (by omega), m_isIn, zr_186_12, q2]
  by_cases c : 1 ≤ (L : Int) ∧ (L : Int) ≤ 6
  · rw [if_pos c]
    have loop : ∀ (m i : Nat) (o6 : Option zV), L - i = m → i ≤ L → (∀ j, j < i → 0 < f j) → zEv true ((186, 17, [some (.inr (.inr 122)), some (.inl z), some (.inr (.inl (pkf f i))), none, some (.inl 1), some (.inl (i : Int)), o6], []) :: K) σ := by
      intro m
      induction m with
      | zero =>
        intro i o6 hm hi hp
        have ei : i = L := by omega
        subst ei
        rw [zj_186_17, q2, if_pos (by omega)]
        exact part2 1 _ _ _ (fun w => absurd w (by decide)) (fun _ w _ => ⟨fun q => q.2.2, fun q => ⟨⟨by omega, by omega⟩, hp, q⟩⟩) (Nat.le_refl _)
      | succ m ih =>
        intro i o6 hm hi hp
        have hcc : 0 ≤ (i : Int) ∧ (i : Int) < 600 := by omega
        rw [zj_186_17, q2, if_neg (by omega), if_neg (show ¬ (1 : Int) = 0 by decide), yAnd hcc, yAnd hcc, Int.toNat_natCast, q1 i, zw_id (z := 8 * (i : Int)) (by omega) (by omega), zw_id (by omega) (by omega), show (i : Int) + 1 = ((i + 1 : Nat) : Int) by omega, show (8 * (i : Int)) = ((8 * i : Nat) : Int) by omega]
        by_cases e : f i ≤ 0
        · have hno : ∀ w, lgs w → ¬ spl f L w := fun w _ q => by have := q.2.1 i (by omega); omega
          rw [if_pos e, zj_186_17, if_pos (show (0 : Int) = 0 from rfl), ite_self]
          exact part2 0 _ _ _ (fun _ => hno) (fun w => absurd w (by decide)) (Nat.zero_le _)
        · rw [if_neg e]
          exact ih (i + 1) _ (by omega) (by omega) (fun j hj => by
            by_cases ej : j = i
            · rw [ej]; omega
            · exact hp j (by omega))
    exact loop L 0 none rfl (Nat.zero_le _) (fun j hj => by omega)
  · rw [if_neg c, zj_186_17, if_pos (show (0 : Int) = 0 from rfl), ite_self]
    exact part2 0 _ _ _ (fun _ w _ q => c (by have := q.1; omega)) (fun w => absurd w (by decide)) (Nat.zero_le _)
