/-! operators read by the model -/
theorem m_op {K : List zF} (hK : K.length + 4 ≤ 60) {f : Nat → Int} {L a : Nat} {σ : zW} (hT : mT f L σ) (ha : gI σ 122 2 = (a : Int)) (haL : a ≤ L)
    (k0 : ∀ (σ' : zW) (e : Nat × Nat), opR f L a = .inl e → yFr Xlb σ σ' → gI σ' 122 6 = (e.1 : Nat) → gI σ' 122 7 = (e.2 : Nat) → zRet true K (some (.inl 0)) σ')
    (k1 : ∀ (σ' : zW) (m n q : Nat), opR f L a = .inr (m, n, q) → yFr Xlb σ σ' → gI σ' 122 2 = (q : Nat) → gL σ' 122 3 = zi2l (n : Nat) → zRet true K (some (.inl (m : Nat))) σ') :
    zEv true (zent 159 [.inr (.inr 122)] :: K) σ := by
  have h6 := hT.2.2.1
  have hs := sk_le (f := f) haL
  have z0 : zi2l ((0 : Nat) : Int) = 0 := by decide +kernel
  rw [ze_159 (by omega), m_sign (yKK (by omega)) hT ha, zr_159_4 (by omega)]
  unfold opR opS at k0 k1
  generalize sk f L a = p at hs k0 k1 ⊢
  have hF : yFr Xlb σ (sL (sI σ 122 2 (p : Nat)) 122 3 0) := (yFr.rf.I (by omega)).L (by omega)
  have hT1 := mT_fr hT hF (fun k j h => by omega)
  have e2 : gI (sL (sI σ 122 2 (p : Nat)) 122 3 0) 122 2 = (p : Nat) := by rw [gI_sL, yGI_hit]
  have e3 : gL (sL (sI σ 122 2 (p : Nat)) 122 3 0) 122 3 = 0 := yGL_hit
  generalize sL (sI σ 122 2 (p : Nat)) 122 3 0 = σ1 at hF hT1 e2 e3 ⊢
  have st1 : p < L → w32 (gI σ1 122 2 + 1) = ((p + 1 : Nat) : Int) := fun h => by rw [e2, zw_id (by omega) (by omega)]; omega
  by_cases h1 : tb f L p = 60
  · have hp := tb_in (f := f) (L := L) (p := p) (by omega)
    rw [if_pos h1] at k0 k1
    rw [if_pos h1, zj_159_52 (by omega), if_pos h1, st1 hp, zj_159_74 (by omega), h1]
    refine m_dom (b := 0) (K := _) (yKK (K := K) (by omega)) (mT_u hT1 (by omega)) yGI_hit hp (by rw [gL_sI]; exact e3) (Or.inl rfl) (fun σ' e he hF2 h3 h4 => ?_) (fun σ' m n q he hF2 h3 h4 m1 m2 => ?_)
    · rw [zr_159_79, if_neg (show ¬ ¬ (0 : Int) = 0 from fun w => w rfl)]
      exact k0 σ' e he ((hF.I (by omega)).trans hF2) h3 h4
    · rw [zr_159_79, if_pos (show ¬ ((m : Nat) : Int) = 0 by omega), if_neg (show ¬ ¬ (60 : Int) = 60 from fun w => w rfl)]
      rw [Nat.zero_add] at he
      exact k1 σ' m n q he ((hF.I (by omega)).trans hF2) h3 h4
  · rw [if_neg h1] at k0 k1
    rw [if_neg h1]
    by_cases h2 : tb f L p = 62
    · have hp := tb_in (f := f) (L := L) (p := p) (by omega)
      rw [if_pos h2] at k0 k1
      rw [if_pos h2, zj_159_52 (by omega), if_neg h1, if_neg (show ¬ ¬ tb f L p = 62 from fun w => w h2), st1 hp, zj_159_74 (by omega), h2]
      refine m_dom (b := 5) (K := _) (yKK (K := K) (by omega)) (mT_u hT1 (by omega)) yGI_hit hp (by rw [gL_sI]; exact e3) (Or.inr rfl) (fun σ' e he hF2 h3 h4 => ?_) (fun σ' m n q he hF2 h3 h4 m1 m2 => ?_)
      · rw [zr_159_79, if_neg (show ¬ ¬ (0 : Int) = 0 from fun w => w rfl)]
        exact k0 σ' e he ((hF.I (by omega)).trans hF2) h3 h4
      · rw [zr_159_79, if_pos (show ¬ ((m : Nat) : Int) = 0 by omega), if_pos (show ¬ (62 : Int) = 60 by omega), zw_id (by omega) (by omega), show (5 : Int) + (m : Nat) = ((5 + m : Nat) : Int) by omega]
        exact k1 σ' (5 + m) n q he ((hF.I (by omega)).trans hF2) h3 h4
    · rw [if_neg h2] at k0 k1
      rw [if_neg h2]
      have one : (tb f L p = 46 ∨ tb f L p = 44) → ∀ m : Nat, (if ¬ tb f L p = 46 then (13 : Int) else 11) = (m : Int) → m ≤ 13 → (∀ (σ' : zW), yFr Xlb σ σ' → gI σ' 122 2 = ((dblR f L m (tb f L p) p).2.2 : Nat) → gL σ' 122 3 = zi2l ((dblR f L m (tb f L p) p).2.1 : Nat) → zRet true K (some (.inl ((dblR f L m (tb f L p) p).1 : Nat))) σ') → zEv true ((159, 52, [some (.inr (.inr 122)), some (.inl (tb f L p)), none, none], []) :: K) σ1 := by
        intro hc m hm hmm k
        have hp := tb_in (f := f) (L := L) (p := p) (by omega)
        rw [zj_159_52 (by omega), if_neg h1, if_pos h2, if_pos (show ¬ tb f L p = 36 by omega), st1 hp, m_code (mT_u hT1 (by omega)) yGI_hit, zr_159_225, hm, yGI_hit]
        unfold dblR at k
        by_cases h : tb f L (p + 1) = tb f L p
        · rw [if_pos h] at k
          have e : (if ¬ tb f L (p + 1) = tb f L p then (0 : Int) else 1) = 1 := if_neg (fun w => w h)
          have hlt := tb_in (f := f) (L := L) (p := p + 1) (by omega)
          rw [e, if_neg (show ¬ (1 : Int) = 0 by omega), zw_id (by omega) (by omega), zw_id (by omega) (by omega), sI_sI, show (m : Int) + 1 = ((m + 1 : Nat) : Int) by omega, show ((p + 1 : Nat) : Int) + 1 = ((p + 2 : Nat) : Int) by omega]
          exact k _ (hF.I (by omega)) yGI_hit (by rw [gL_sI, e3, z0])
        · rw [if_neg h] at k
          have e : (if ¬ tb f L (p + 1) = tb f L p then (0 : Int) else 1) = 0 := if_pos h
          rw [e, if_pos (show (0 : Int) = 0 from rfl), Int.add_zero, Int.add_zero, zw_id (by omega) (by omega), zw_id (by omega) (by omega), sI_sI]
          exact k _ (hF.I (by omega)) yGI_hit (by rw [gL_sI, e3, z0])
      by_cases h3 : tb f L p = 46
      · rw [if_pos h3] at k1
        rw [if_pos h3]
        refine one (Or.inl h3) 11 (if_neg (fun w => w h3)) (by omega) (fun σ' hF2 g2 g3 => ?_)
        rw [h3] at g2 g3 ⊢
        exact k1 σ' _ _ _ rfl hF2 g2 g3
      · rw [if_neg h3] at k0 k1
        rw [if_neg h3]
        by_cases h4 : tb f L p = 44
        · rw [if_pos h4] at k1
          rw [if_pos h4]
          refine one (Or.inr h4) 13 (if_pos h3) (by omega) (fun σ' hF2 g2 g3 => ?_)
          rw [h4] at g2 g3 ⊢
          exact k1 σ' _ _ _ rfl hF2 g2 g3
        · rw [if_neg h4] at k0 k1
          rw [if_neg h4]
          by_cases h5 : tb f L p = 36
          · have hp := tb_in (f := f) (L := L) (p := p) (by omega)
            rw [if_pos h5] at k1
            rw [if_pos h5, zj_159_52 (by omega), if_neg h1, if_pos h2, if_neg (show ¬ ¬ tb f L p = 36 from fun w => w h5), st1 hp]
            have hT2 : mT f L (sI σ1 122 2 ((p + 1 : Nat) : Int)) := mT_u hT1 (by omega)
            rw [m_code hT2 yGI_hit, zr_159_112 (by omega)]
            -- the second sign of two
            have two : ∀ (z : Int) (m : Nat) (o1 : Option zV), (z = 46 ∧ m = 16) ∨ (z = 44 ∧ m = 18) → p + 1 < L → (∀ (σ' : zW), yFr Xlb σ σ' → gI σ' 122 2 = ((dblR f L m z (p + 1)).2.2 : Nat) → gL σ' 122 3 = zi2l ((dblR f L m z (p + 1)).2.1 : Nat) → zRet true K (some (.inl ((dblR f L m z (p + 1)).1 : Nat))) σ') → zEv true (zent 144 [.inr (.inr 122)] :: (159, 169, [some (.inr (.inr 122)), o1, some (.inl (m : Int)), none], []) :: K) (sI σ1 122 2 ((p + 2 : Nat) : Int)) := by
              intro z m o1 hzm hlt k
              have hzz : (if ¬ ((m : Nat) : Int) = 16 then (44 : Int) else 46) = z := by
                rcases hzm with ⟨rfl, rfl⟩ | ⟨rfl, rfl⟩ <;> decide
              rw [m_code (mT_u hT1 (by omega)) yGI_hit, zr_159_169, hzz]
              unfold dblR at k
              by_cases h : tb f L (p + 2) = z
              · rw [if_pos (show tb f L (p + 1 + 1) = z from h)] at k
                have hlt2 := tb_in (f := f) (L := L) (p := p + 2) (by omega)
                rw [if_neg (show ¬ ¬ tb f L (p + 2) = z from fun w => w h), if_neg (show ¬ (1 : Int) = 0 by omega), yGI_hit, zw_id (by omega) (by omega), zw_id (by omega) (by omega), sI_sI, show (m : Int) + 1 = ((m + 1 : Nat) : Int) by omega, show ((p + 2 : Nat) : Int) + 1 = ((p + 1 + 2 : Nat) : Int) by omega]
                exact k _ (hF.I (by omega)) yGI_hit (by rw [gL_sI, e3, z0])
              · rw [if_neg (show ¬ tb f L (p + 1 + 1) = z from h)] at k
                rw [if_pos h, zj_159_189, if_pos (show (0 : Int) = 0 from rfl), Int.add_zero, Int.add_zero, yGI_hit, zw_id (by omega) (by omega), zw_id (by omega) (by omega), sI_sI]
                exact k _ (hF.I (by omega)) yGI_hit (by rw [gL_sI, e3, z0])
            by_cases h6' : tb f L (p + 1) = 46
            · have hlt := tb_in (f := f) (L := L) (p := p + 1) (by omega)
              rw [if_pos h6'] at k1
              have e15 : (if ¬ (16 : Int) = 15 then (1 : Int) else 0) = 1 := if_pos (by omega)
              rw [if_neg (show ¬ ¬ tb f L (p + 1) = 46 from fun w => w h6'), if_neg (show ¬ (16 : Int) ≤ 15 by omega), e15, yGI_hit, zw_id (by omega) (by omega), sI_sI, show ((p + 1 : Nat) : Int) + 1 = ((p + 2 : Nat) : Int) by omega]
              exact two 46 16 _ (Or.inl ⟨rfl, rfl⟩) hlt (fun σ' hF2 g2 g3 => k1 σ' _ _ _ rfl hF2 g2 g3)
            · rw [if_neg h6'] at k1
              rw [if_pos h6', m_code hT2 yGI_hit, zr_159_126 (by omega)]
              by_cases h7 : tb f L (p + 1) = 44
              · have hlt := tb_in (f := f) (L := L) (p := p + 1) (by omega)
                rw [if_pos h7] at k1
                have e18 : (if ¬ tb f L (p + 1) = 44 then (15 : Int) else 18) = 18 := if_neg (fun w => w h7)
                have e15 : (if ¬ (18 : Int) = 15 then (1 : Int) else 0) = 1 := if_pos (by omega)
                rw [e18, if_neg (show ¬ (18 : Int) ≤ 15 by omega), e15, yGI_hit, zw_id (by omega) (by omega), sI_sI, show ((p + 1 : Nat) : Int) + 1 = ((p + 2 : Nat) : Int) by omega]
                exact two 44 18 _ (Or.inr ⟨rfl, rfl⟩) hlt (fun σ' hF2 g2 g3 => k1 σ' _ _ _ rfl hF2 g2 g3)
              · rw [if_neg h7] at k1
                have e18 : (if ¬ tb f L (p + 1) = 44 then (15 : Int) else 18) = 15 := if_pos h7
                have e15 : (if ¬ (15 : Int) = 15 then (1 : Int) else 0) = 0 := if_neg (fun w => w rfl)
                rw [e18, if_pos (show (15 : Int) ≤ 15 by omega), e15, yGI_hit, Int.add_zero, zw_id (by omega) (by omega), sI_sI, zj_159_189, if_pos (show (0 : Int) = 0 from rfl), Int.add_zero, Int.add_zero, yGI_hit, zw_id (by omega) (by omega), zw_id (by omega) (by omega), sI_sI]
                exact k1 _ 15 0 (p + 1) rfl (hF.I (by omega)) yGI_hit (by rw [gL_sI, e3, z0])
          · rw [if_neg h5] at k0
            rw [if_neg h5, m_fails, zr_159_49, yGI_hit]
            exact k0 _ (1, p) rfl ((hF.I (by omega)).I (by omega)) (by rw [gI_sI, if_neg (by omega), yGI_hit]; rfl) yGI_hit
