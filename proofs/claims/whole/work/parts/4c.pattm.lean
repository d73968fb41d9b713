/-! the parts of a pattern read by the model -/
theorem m_nm {K : List zF} (hK : K.length + 4 ≤ 60) {f : Nat → Int} {L a : Nat} {σ : zW} (hT : mT f L σ) (ha : gI σ 122 2 = (a : Int)) (haL : a ≤ L)
    (k0 : ∀ (σ' : zW) (p : Nat), nmA f L a = .inl p → yFr Xlb σ σ' → gI σ' 122 6 = 1 → gI σ' 122 7 = (p : Nat) → zRet true K (some (.inl 0)) σ')
    (k1 : ∀ (σ' : zW) (x q : Nat), nmA f L a = .inr (x, q) → yFr Xlb σ σ' → gI σ' 122 2 = (q : Nat) → gI σ' 122 5 = ((q - 1 : Nat) : Int) → gL σ' 122 3 = zi2l ((x : Nat) + 97) → zRet true K (some (.inl 1)) σ') :
    zEv true (zent 154 [.inr (.inr 122)] :: K) σ := by
  have h6 := hT.2.2.1
  have hs := sk_le (f := f) haL
  rw [ze_154 (by omega), m_passes (yL (by omega)) hT ha, zr_154_4 (by omega), yGI_hit]
  have hF : yFr Xlb σ (sI (sI σ 122 2 (sk f L a : Nat)) 122 5 (sk f L a : Nat)) := (yFr.rf.I (by omega)).I (by omega)
  have hT2 := mT_fr hT hF (fun k j h => by omega)
  have e2 : gI (sI (sI σ 122 2 (sk f L a : Nat)) 122 5 (sk f L a : Nat)) 122 2 = (sk f L a : Nat) := by simp (disch := omega) only [if_pos, if_neg, yAnd, Int.toNat_natCast, zw_id, gI_sI, gI_sL, gI_sR, gL_sI, gL_sL, gL_sR, gR_sI, gR_sL, gR_sR, true_and, and_true, and_self, ite_true, ite_false, ite_self, not_true_eq_false, not_false_eq_true, or_true, true_or, or_false, false_or, yB0, yB1, Decidable.not_not]
  have e5 : gI (sI (sI σ 122 2 (sk f L a : Nat)) 122 5 (sk f L a : Nat)) 122 5 = (sk f L a : Nat) := yGI_hit
  generalize sI (sI σ 122 2 (sk f L a : Nat)) 122 5 (sk f L a : Nat) = σ1 at hF hT2 e2 e5 ⊢
  rw [m_code hT2 e2, zr_154_16 (by omega), m_isSmall (yL (by omega)), zr_154_19 (by omega)]
  unfold nmA at k0 k1
  by_cases h : zsml (tb f L (sk f L a))
  · have hlt := tb_in (f := f) (L := L) (p := sk f L a) (by omega)
    rw [if_pos h] at k1
    rw [if_pos (show ¬ (if zsml (tb f L (sk f L a)) then (1 : Int) else 0) = 0 by rw [if_pos h]; omega), m_code hT2 e2, zr_154_37, e2, zw_id (by omega) (by omega)]
    refine k1 _ _ _ rfl ((hF.L (by omega)).I (by omega)) (by rw [yGI_hit]; omega) ?_ ?_
    · rw [gI_sI, if_neg (by omega), gI_sL, e5]; omega
    · rw [gL_sI, yGL_hit, show (((tb f L (sk f L a) - 97).toNat : Nat) : Int) + 97 = tb f L (sk f L a) by omega]
  · rw [if_neg h] at k0
    rw [if_neg (show ¬ ¬ (if zsml (tb f L (sk f L a)) then (1 : Int) else 0) = 0 by rw [if_neg h]; omega), m_fails, zr_154_31, yAnd (Or.inl rfl), e2]
    exact k0 _ _ rfl ((hF.I (by omega)).I (by omega)) (by rw [gI_sI, if_neg (by omega), yGI_hit]) yGI_hit
theorem m_dom {K : List zF} (hK : K.length + 2 ≤ 60) {f : Nat → Int} {L p b : Nat} {z : Int} {σ : zW} (hT : mT f L σ) (ha : gI σ 122 2 = ((p + 1 : Nat) : Int)) (hpL : p < L) (h3 : gL σ 122 3 = 0) (hz : z = 60 ∨ z = 62)
    (k0 : ∀ (σ' : zW) (e : Nat × Nat), relR f L b z p = .inl e → yFr Xlb σ σ' → gI σ' 122 6 = (e.1 : Nat) → gI σ' 122 7 = (e.2 : Nat) → zRet true K (some (.inl 0)) σ')
    (k1 : ∀ (σ' : zW) (m n q : Nat), relR f L b z p = .inr (b + m, n, q) → yFr Xlb σ σ' → gI σ' 122 2 = (q : Nat) → gL σ' 122 3 = zi2l (n : Nat) → 1 ≤ m → m ≤ 5 → zRet true K (some (.inl (m : Nat))) σ') :
    zEv true (zent 160 [.inr (.inr 122), .inl z] :: K) σ := by
  have h6 := hT.2.2.1
  have z0 : zi2l ((0 : Nat) : Int) = 0 := by decide +kernel
  rw [ze_160 (by omega), m_code hT ha, zr_160_4 (by omega), m_code hT ha, zr_160_19 (by omega)]
  unfold relR at k0 k1
  have two : ∀ o2 : Option zV, p + 1 < L → (tb f L (p + 1) = z ∨ tb f L (p + 1) = 58) → zEv true ((160, 32, [some (.inr (.inr 122)), some (.inl z), o2], []) :: K) σ := by
    intro o2 hlt hc
    have e1 : w32 (gI σ 122 2 + 1) = ((p + 2 : Nat) : Int) := by rw [ha, zw_id (by omega) (by omega)]; omega
    have e2 : w32 (((p + 2 : Nat) : Int) - 1) = ((p + 1 : Nat) : Int) := by rw [zw_id (by omega) (by omega)]; omega
    have e3 : gI σ 123 (p + 1) = tb f L (p + 1) := by rw [hT.1, tb_lt hlt]
    have hcc : 0 ≤ ((p + 1 : Nat) : Int) ∧ ((p + 1 : Nat) : Int) < 600 := by omega
    rw [zj_160_32, e1, e2, yAnd hcc, Int.toNat_natCast, e3]
    have hF : yFr Xlb σ (sI σ 122 2 ((p + 2 : Nat) : Int)) := yFr.rf.I (by omega)
    by_cases h1 : tb f L (p + 1) = z
    · rw [if_pos h1] at k1
      rw [if_neg (show ¬ ¬ tb f L (p + 1) = z from fun w => w h1)]
      exact k1 _ 2 0 (p + 2) rfl hF yGI_hit (by rw [gL_sI, h3, z0]) (by omega) (by omega)
    · have h2 : tb f L (p + 1) = 58 := hc.elim (fun w => absurd w h1) id
      rw [if_neg h1, if_pos h2] at k1
      rw [if_pos h1]
      exact k1 _ 3 0 (p + 2) rfl hF yGI_hit (by rw [gL_sI, h3, z0]) (by omega) (by omega)
  by_cases h1 : tb f L (p + 1) = z
  · rw [if_pos h1]
    exact two _ (tb_in (f := f) (by omega)) (Or.inl h1)
  · rw [if_neg h1, m_code hT ha, zr_160_27 (by omega)]
    by_cases h2 : tb f L (p + 1) = 58
    · rw [if_neg (show ¬ ¬ tb f L (p + 1) = 58 from fun w => w h2)]
      exact two _ (tb_in (f := f) (by omega)) (Or.inr h2)
    · rw [if_neg h1, if_neg h2] at k0 k1
      rw [if_pos h2, ha]
      have dig : ∀ (σ1 : zW) (x2 : Int) (q : Nat) (o1 : Option zV), mT f L σ1 → gI σ1 122 2 = (q : Int) → q ≤ L → zEv true ((zent 144 [.inr (.inr 122)]) :: (160, 85, [some (.inr (.inr 122)), o1, some (.inl x2)], []) :: K) σ1 = (if 49 ≤ tb f L q ∧ tb f L q ≤ 57 then zRet true K (some (.inl (if x2 = 0 then 4 else 5))) (sI (sL σ1 122 3 (zi2l (tb f L q - 48))) 122 2 ((q + 1 : Nat) : Int)) else if x2 = 0 then zRet true K (some (.inl 1)) σ1 else zRet true K (some (.inl 0)) (sI (sI σ1 122 6 1) 122 7 (q : Int))) := by
        intro σ1 x2 q o1 hT1 hq hqL
        rw [m_code hT1 hq, zr_160_85 (by omega), m_isIn, zr_160_92 (by omega)]
        by_cases hd : 49 ≤ tb f L q ∧ tb f L q ≤ 57
        · rw [if_neg (show ¬ (if 49 ≤ tb f L q ∧ tb f L q ≤ 57 then (1 : Int) else 0) = 0 by rw [if_pos hd]; omega), m_code hT1 hq, zr_160_100, if_pos hd, hq, zw_id (by omega) (by omega), zw_id (by omega) (by omega)]
          rfl
        · rw [if_pos (show (if 49 ≤ tb f L q ∧ tb f L q ≤ 57 then (1 : Int) else 0) = 0 by rw [if_neg hd]), if_neg hd]
          by_cases hx : x2 = 0
          · rw [if_pos hx, if_pos hx, zj_160_141, if_pos hx]
          · rw [if_neg hx, if_neg hx, m_fails, zr_160_140, zj_160_141, if_neg hx, hq]
      by_cases h45 : tb f L (p + 1) = 45
      · have hlt := tb_in (f := f) (L := L) (p := p + 1) (by omega)
        have e45 : (if ¬ tb f L (p + 1) = 45 then (0 : Int) else 1) = 1 := if_neg (fun w => w h45)
        rw [if_pos h45] at k0 k1
        rw [e45, if_neg (show ¬ (1 : Int) = 0 by omega), zw_id (by omega) (by omega), show ((p + 1 : Nat) : Int) + 1 = ((p + 2 : Nat) : Int) by omega, dig _ _ (p + 2) _ (mT_u hT (by omega)) yGI_hit (by omega)]
        have hF : yFr Xlb σ (sI σ 122 2 ((p + 2 : Nat) : Int)) := yFr.rf.I (by omega)
        by_cases hd : 49 ≤ tb f L (p + 2) ∧ tb f L (p + 2) ≤ 57
        · rw [if_pos hd] at k1
          rw [if_pos hd, if_neg (show ¬ (1 : Int) = 0 by omega)]
          refine k1 _ 5 _ (p + 3) rfl ((hF.L (by omega)).I (by omega)) yGI_hit ?_ (by omega) (by omega)
          rw [gL_sI, yGL_hit, show (((tb f L (p + 2) - 48).toNat : Nat) : Int) = tb f L (p + 2) - 48 by omega]
        · rw [if_neg hd] at k0
          rw [if_neg hd, if_neg (show ¬ (1 : Int) = 0 by omega)]
          exact k0 _ (1, p + 2) rfl ((hF.I (by omega)).I (by omega)) (by rw [gI_sI, if_neg (by omega), yGI_hit]; rfl) yGI_hit
      · have e45 : (if ¬ tb f L (p + 1) = 45 then (0 : Int) else 1) = 0 := if_pos h45
        rw [if_neg h45] at k0 k1
        rw [e45, if_pos (show (0 : Int) = 0 from rfl), Int.add_zero, zw_id (by omega) (by omega), dig _ _ (p + 1) _ (mT_u hT (by omega)) yGI_hit (by omega)]
        have hF : yFr Xlb σ (sI σ 122 2 ((p + 1 : Nat) : Int)) := yFr.rf.I (by omega)
        by_cases hd : 49 ≤ tb f L (p + 1) ∧ tb f L (p + 1) ≤ 57
        · rw [if_pos hd] at k1
          rw [if_pos hd, if_pos (show (0 : Int) = 0 from rfl)]
          refine k1 _ 4 _ (p + 2) rfl ((hF.L (by omega)).I (by omega)) yGI_hit ?_ (by omega) (by omega)
          rw [gL_sI, yGL_hit, show (((tb f L (p + 1) - 48).toNat : Nat) : Int) = tb f L (p + 1) - 48 by omega]
        · rw [if_neg hd] at k1
          rw [if_neg hd, if_pos (show (0 : Int) = 0 from rfl)]
          exact k1 _ 1 0 (p + 1) rfl hF yGI_hit (by rw [gL_sI, h3, z0]) (by omega) (by omega)
