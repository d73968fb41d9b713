/-! the search is prepared -/
theorem bsI {P Q : Nat → Prop} {n : Nat} (h : ∀ i, i < n → (P i ↔ Q i)) : ((bs P n : Nat) : Int) = ((bs Q n : Nat) : Int) := by rw [bs_c h]
abbrev rlp (T : TRE) (R : PRW) (p a b : Nat) : Prop := relP T (R 17 p).toNat (R 16 p).toNat a b
/-- what the search leans on -/
def sOn (t tp : Nat) (T : TRE) (st : PST) (σ : zW) : Prop := zTr t ∧ zPn tp ∧ gR σ 41 10 = t ∧ gR σ 41 11 = tp ∧ cTr t T σ ∧ cP tp st σ
theorem cP_fr2 {t : Nat} {st : PST} {σ σ' : zW} {X : Nat → Nat → Prop} (h : cP t st σ) (hF : yFr X σ σ') (hX : ∀ k j, t ≤ k → k ≤ t + 14 → ¬ X k j) : cP t st σ' := by
  obtain ⟨a1, a2, a3, a4, a5, a6, a7⟩ := h
  exact ⟨(hF.i (hX _ _ (by omega) (by omega))).trans a1, (hF.i (hX _ _ (by omega) (by omega))).trans a2, (hF.i (hX _ _ (by omega) (by omega))).trans a3, fun q i q1 q2 q3 hi => (hF.i (hX _ _ (by omega) (by omega))).trans (a4 q i q1 q2 q3 hi), fun x hx => (hF.i (hX _ _ (by omega) (by omega))).trans (a5 x hx), fun i hi => (hF.i (hX _ _ (by omega) (by omega))).trans (a6 i hi), fun i hi => (hF.l (hX _ _ (by omega) (by omega))).trans (a7 i hi)⟩
theorem sOn_fr {t tp : Nat} {T : TRE} {st : PST} {σ σ' : zW} {X : Nat → Nat → Prop} (h : sOn t tp T st σ) (hF : yFr X σ σ') (hX : ∀ k j, X k j → (k = 41 ∧ j ≠ 10 ∧ j ≠ 11) ∨ (42 ≤ k ∧ k ≤ 52)) : sOn t tp T st σ' := by
  obtain ⟨h1, h2, h3, h4, h5, h6⟩ := h
  have hb := zTr_b h1
  have hb2 := zPn_b h2
  have ht : t + 11 < 41 ∨ 52 < t := by rcases h1 with rfl | rfl | rfl | rfl <;> omega
  have ht41 : t ≠ 41 := by omega
  refine ⟨h1, h2, (hF.r (fun w => by have := hX _ _ w; omega)).trans h3, (hF.r (fun w => by have := hX _ _ w; omega)).trans h4, cTr_fr h5 hF (fun k j w q => ?_), cP_fr2 h6 hF (fun k j w1 w2 q => ?_)⟩
  · have := hX k j q; omega
  · have := hX k j q
    have : 80 ≤ tp := by rcases h2 with rfl | rfl <;> omega
    omega
theorem w160 {p a : Nat} (h : 20 * p + a < 160) : w32 (w32 ((p : Int) * 20) + (a : Int)) = ((20 * p + a : Nat) : Int) := idx20r (by omega)
theorem c_prepFits {K : List zF} (hK : K.length + 1 ≤ 60) {t tp p : Nat} {T : TRE} {st : PST} {pd : Nat → Nat} {σ : zW} (hgT : tgd T) (hg : pgd st pd) (hc : st.1 ≤ 8) (hl : st.2.1 ≤ 300) (hp : p < st.1) (hS : sOn t tp T st σ)
    (k : ∀ σ' : zW, yFr (fun k j => k = 42 ∧ j = p) σ σ' → gI σ' 42 p = ((bs (fun a => ftP st.2.2.2.1 st.2.2.2.2 p (T.2.1 a)) T.1 : Nat) : Int) → zRet true K none σ') : zEv true (zent 67 [.inr (.inr 41), .inl (p : Int)] :: K) σ := by
  have hn := hgT.1.1
  have hcp : 0 ≤ (p : Int) ∧ (p : Int) < 8 := by omega
  have loop : ∀ (d i : Nat) (σ2 : zW), T.1 - i = d → i ≤ T.1 → yFr (fun k j => k = 42 ∧ j = p) σ σ2 → gI σ2 42 p = ((bs (fun a => a < i ∧ ftP st.2.2.2.1 st.2.2.2.2 p (T.2.1 a)) T.1 : Nat) : Int) → zEv true ((67, 9, [some (.inr (.inr 41)), some (.inl (p : Int)), some (.inl (i : Int))], []) :: K) σ2 := by
    intro d
    induction d with
    | zero =>
      intro i σ2 hd hi hF hE
      obtain ⟨s1, s2, s3, s4, s5, s6⟩ := sOn_fr hS hF (fun k j w => by omega)
      rw [zj_67_9 (by omega) (by rw [s3]; exact s1) (by rw [s4]; exact s2), s3, s5.1.1, if_pos (by omega)]
      exact k σ2 hF (hE.trans (bsI (fun a ha => ⟨fun w => w.2, fun w => ⟨by omega, w⟩⟩)))
    | succ d ih =>
      intro i σ2 hd hi hF hE
      have hi' : i < T.1 := by omega
      have hci : 0 ≤ (i : Int) ∧ (i : Int) < 20 := by omega
      obtain ⟨s1, s2, s3, s4, s5, s6⟩ := sOn_fr hS hF (fun k j w => by omega)
      rw [zj_67_9 (by omega) (by rw [s3]; exact s1) (by rw [s4]; exact s2), s3, s4, s5.1.1, if_neg (by omega), yAnd hcp, yAnd hci, Int.toNat_natCast, Int.toNat_natCast, (s5.1.2 i hi').1, c_isFitting s2 s6 hg hc hl hp rfl, zr_67_44, yAnd hcp, Int.toNat_natCast, zw_id (by omega) (by omega), show (i : Int) + 1 = ((i + 1 : Nat) : Int) by omega, hE]
      have e : zor ((bs (fun a => a < i ∧ ftP st.2.2.2.1 st.2.2.2.2 p (T.2.1 a)) T.1 : Nat) : Int) (if zb (ftP st.2.2.2.1 st.2.2.2.2 p (T.2.1 i)) = 0 then 0 else zshl 1 (i : Int) : Int) = ((bs (fun a => a < i + 1 ∧ ftP st.2.2.2.1 st.2.2.2.2 p (T.2.1 a)) T.1 : Nat) : Int) := by
        have hb31 := bs_lt31 (fun a => a < i ∧ ftP st.2.2.2.1 st.2.2.2.2 p (T.2.1 a)) hn
        rcases Classical.em (ftP st.2.2.2.1 st.2.2.2.2 p (T.2.1 i)) with h | h
        · rw [if_neg (fun w => zb0.mp w h), zshl_all i (by omega), zor_nat hb31 (Nat.pow_lt_pow_right (by omega) (by omega)), bs_add hi']
          exact bsI (fun a ha => ⟨fun w => by rcases w with w | w; exact ⟨by omega, w.2⟩; exact ⟨by omega, by rw [w]; exact h⟩, fun w => by
            by_cases c : a = i
            · exact Or.inr c
            · exact Or.inl ⟨by omega, w.2⟩⟩)
        · rw [if_pos (zb0.mpr h), show (0 : Int) = ((0 : Nat) : Int) from rfl, zor_nat hb31 (by omega), Nat.or_zero]
          exact bsI (fun a ha => ⟨fun w => ⟨by omega, w.2⟩, fun w => ⟨by
            by_cases c : a = i
            · rw [c] at w; exact absurd w.2 h
            · omega, w.2⟩⟩)
      rw [e]
      clear e hE
      exact ih (i + 1) _ (by omega) (by omega) (hF.I ⟨rfl, rfl⟩) yGI_hit
  rw [ze_67, yAnd hcp, Int.toNat_natCast]
  refine loop T.1 0 _ (Nat.sub_zero _) (Nat.zero_le _) (yFr.rf.I ⟨rfl, rfl⟩) ?_
  rw [yGI_hit]
  have : bs (fun a => a < 0 ∧ ftP st.2.2.2.1 st.2.2.2.2 p (T.2.1 a)) T.1 = 0 := bs_zero.mpr (fun i _ w => absurd w.1 (Nat.not_lt_zero _))
  rw [this]; rfl
