/-! the relations prepared -/
theorem ixb {p i : Nat} (h : 20 * p + i < 100000) : w32 (((20 * p : Nat) : Int) + (i : Int)) = ((20 * p + i : Nat) : Int) := by rw [zw_id (by omega) (by omega)]; omega
/-- reaches and backs of part p: which pairs have been looked at -/
def rbS (T : TRE) (R : PRW) (p : Nat) (V : Nat → Nat → Prop) (σ : zW) : Prop := ∀ a, a < T.1 → gI σ 43 (20 * p + a) = ((bs (fun b => V a b ∧ rlp T R p a b) T.1 : Nat) : Int) ∧ gI σ 44 (20 * p + a) = ((bs (fun b => V b a ∧ rlp T R p b a) T.1 : Nat) : Int)
theorem rbS_c {T : TRE} {R : PRW} {p : Nat} {V V' : Nat → Nat → Prop} {σ : zW} (h : rbS T R p V σ) (hv : ∀ a b, a < T.1 → b < T.1 → (V a b ∧ rlp T R p a b ↔ V' a b ∧ rlp T R p a b)) : rbS T R p V' σ := fun a ha => ⟨(h a ha).1.trans (bsI (fun b hb => hv a b ha hb)), (h a ha).2.trans (bsI (fun b hb => hv b a hb ha))⟩
theorem c_prepReaches {K : List zF} (hK : K.length + 1 ≤ 60) {t tp p : Nat} {T : TRE} {st : PST} {pd : Nat → Nat} {σ : zW} (hgT : tgd T) (hg : pgd st pd) (hc : st.1 ≤ 8) (hp : p < st.1) (hS : sOn t tp T st σ)
    (k : ∀ σ' : zW, yFr (fun k j => (k = 43 ∨ k = 44) ∧ 20 * p ≤ j ∧ j < 20 * p + 20) σ σ' → rbS T st.2.2.2.1 p (fun _ _ => True) σ' → zRet true K none σ') : zEv true (zent 68 [.inr (.inr 41), .inl (p : Int)] :: K) σ := by
  have hn := hgT.1.1
  have hcp : 0 ≤ (p : Int) ∧ (p : Int) < 8 := by omega
  have hop := (hg.2.1 p hp).2.2.2.1
  obtain ⟨m, kk, hm17, hk16, hm19, hk9, -, h5⟩ := hop
  have hrlp : ∀ a b, rlp T st.2.2.2.1 p a b ↔ relP T m kk a b := fun a b => by
    show relP T (st.2.2.2.1 17 p).toNat (st.2.2.2.1 16 p).toNat a b ↔ _
    rw [hm17, hk16, Int.toNat_natCast, Int.toNat_natCast]
  have X0 : ∀ σ2 : zW, yFr (fun k j => (k = 43 ∨ k = 44) ∧ 20 * p ≤ j ∧ j < 20 * p + 20) σ σ2 → sOn t tp T st σ2 := fun σ2 hF => sOn_fr hS hF (fun k j w => by omega)
  have inner : ∀ (d i j : Nat) (σ2 : zW), T.1 - j = d → i < T.1 → j ≤ T.1 → yFr (fun k j => (k = 43 ∨ k = 44) ∧ 20 * p ≤ j ∧ j < 20 * p + 20) σ σ2 → rbS T st.2.2.2.1 p (fun a b => a < i ∨ (a = i ∧ b < j)) σ2 →
      (∀ σ3 : zW, yFr (fun k j => (k = 43 ∨ k = 44) ∧ 20 * p ≤ j ∧ j < 20 * p + 20) σ σ3 → rbS T st.2.2.2.1 p (fun a b => a < i + 1) σ3 → zEv true ((68, 44, [some (.inr (.inr 41)), some (.inl (p : Int)), some (.inl ((20 * p : Nat) : Int)), some (.inl ((i + 1 : Nat) : Int)), some (.inl (T.1 : Int))], []) :: K) σ3) →
      zEv true ((68, 58, [some (.inr (.inr 41)), some (.inl (p : Int)), some (.inl ((20 * p : Nat) : Int)), some (.inl (i : Int)), some (.inl (j : Int))], []) :: K) σ2 := by
    intro d
    induction d with
    | zero =>
      intro i j σ2 hd hi hj hF hE kk2
      obtain ⟨s1, s2, s3, s4, s5, s6⟩ := X0 σ2 hF
      have ej : j = T.1 := by omega
      subst ej
      rw [zj_68_58 (by omega) (by rw [s3]; exact s1) (by rw [s4]; exact s2), s3, s5.1.1, if_pos (Int.le_refl _), zw_id (by omega) (by omega), show (i : Int) + 1 = ((i + 1 : Nat) : Int) by omega]
      exact kk2 σ2 hF (rbS_c hE (fun a b ha hb => ⟨fun w => ⟨by have := w.1; omega, w.2⟩, fun w => ⟨by have := w.1; omega, w.2⟩⟩))
    | succ d ih =>
      intro i j σ2 hd hi hj hF hE kk2
      have hj' : j < T.1 := by omega
      have hci : 0 ≤ ((20 * p + i : Nat) : Int) ∧ ((20 * p + i : Nat) : Int) < 160 := by omega
      have hcj : 0 ≤ ((20 * p + j : Nat) : Int) ∧ ((20 * p + j : Nat) : Int) < 160 := by omega
      have hn1 : ¬ (T.1 : Int) ≤ (j : Int) := by omega
      have hd1 : T.1 - (j + 1) = d := by omega
      obtain ⟨s1, s2, s3, s4, s5, s6⟩ := X0 σ2 hF
      have e5 : gI σ2 (tp + 5) p = cop m kk := (s6.2.2.2.1 5 p (by omega) (by omega) (by omega) hp).trans h5
      have bj : w32 ((j : Int) + 1) = ((j + 1 : Nat) : Int) := by rw [zw_id (by omega) (by omega)]; omega
      rw [zj_68_58 (by omega) (by rw [s3]; exact s1) (by rw [s4]; exact s2), s3, s4, s5.1.1, if_neg hn1, yAnd hcp, Int.toNat_natCast, e5, c_isRelated s1 hgT s5 rfl hm19 hk9 hi hj' rfl rfl, zr_68_89, bj]
      clear bj e5
      rcases Classical.em (relP T m kk i j) with h | h
      · have hr : rlp T st.2.2.2.1 p i j := (hrlp i j).mpr h
        rw [if_neg (fun w => zb0.mp w h), ixb (by omega), ixb (by omega), yAnd hci, yAnd hci, yAnd hcj, yAnd hcj, Int.toNat_natCast, Int.toNat_natCast, zshl_all j (by omega), zshl_all i (by omega), (hE i hi).1, (hE j hj').2]
        have z1 := zor_nat (bs_lt31 (fun b => (i < i ∨ i = i ∧ b < j) ∧ rlp T st.2.2.2.1 p i b) hn) (Nat.pow_lt_pow_right (a := 2) (by omega) (show j < 31 by omega))
        have z2 := zor_nat (bs_lt31 (fun b => (b < i ∨ b = i ∧ j < j) ∧ rlp T st.2.2.2.1 p b j) hn) (Nat.pow_lt_pow_right (a := 2) (by omega) (show i < 31 by omega))
        rw [z1, z2, bs_add hj', bs_add hi]
        clear z1 z2
        refine ih i (j + 1) _ hd1 hi hj' ((hF.I (by omega)).I (by omega)) (fun a ha => ⟨?_, ?_⟩) kk2
        · rw [gI_sI, if_neg (by omega), gI_sI]
          by_cases e : a = i
          · subst e
            rw [if_pos ⟨rfl, rfl⟩]
            refine bsI (fun b hb => ⟨fun w => ?_, fun w => ?_⟩)
            · rcases w with w | w
              · exact ⟨by have := w.1; omega, w.2⟩
              · exact ⟨by omega, by rw [w]; exact hr⟩
            · by_cases eb : b = j
              · exact Or.inr eb
              · exact Or.inl ⟨by have := w.1; omega, w.2⟩
          · rw [if_neg (by omega), (hE a ha).1]
            exact bsI (fun b hb => ⟨fun w => ⟨by have := w.1; omega, w.2⟩, fun w => ⟨by have := w.1; omega, w.2⟩⟩)
        · rw [gI_sI]
          by_cases e : a = j
          · subst e
            rw [if_pos ⟨rfl, rfl⟩]
            refine bsI (fun b hb => ⟨fun w => ?_, fun w => ?_⟩)
            · rcases w with w | w
              · exact ⟨by have := w.1; omega, w.2⟩
              · exact ⟨by omega, by rw [w]; exact hr⟩
            · by_cases eb : b = i
              · exact Or.inr eb
              · exact Or.inl ⟨by have := w.1; omega, w.2⟩
          · rw [if_neg (by omega), gI_sI, if_neg (by omega), (hE a ha).2]
            exact bsI (fun b hb => ⟨fun w => ⟨by have := w.1; omega, w.2⟩, fun w => ⟨by have := w.1; omega, w.2⟩⟩)
      · have hr : ¬ rlp T st.2.2.2.1 p i j := fun w => h ((hrlp i j).mp w)
        rw [if_pos (zb0.mpr h)]
        refine ih i (j + 1) σ2 hd1 hi hj' hF (rbS_c hE (fun a b ha hb => ⟨fun w => ⟨by have := w.1; omega, w.2⟩, fun w => ⟨?_, w.2⟩⟩)) kk2
        by_cases e : a = i ∧ b = j
        · rw [e.1, e.2] at w; exact absurd w.2 hr
        · have := w.1; omega
  have outer : ∀ (d i : Nat) (o4 : Option zV) (σ2 : zW), T.1 - i = d → i ≤ T.1 → yFr (fun k j => (k = 43 ∨ k = 44) ∧ 20 * p ≤ j ∧ j < 20 * p + 20) σ σ2 → rbS T st.2.2.2.1 p (fun a b => a < i) σ2 → zEv true ((68, 44, [some (.inr (.inr 41)), some (.inl (p : Int)), some (.inl ((20 * p : Nat) : Int)), some (.inl (i : Int)), o4], []) :: K) σ2 := by
    intro d
    induction d with
    | zero =>
      intro i o4 σ2 hd hi hF hE
      obtain ⟨s1, s2, s3, s4, s5, s6⟩ := X0 σ2 hF
      rw [zj_68_44 (by rw [s3]; exact s1), s3, s5.1.1, if_pos (by omega)]
      exact k σ2 hF (rbS_c hE (fun a b ha hb => ⟨fun w => ⟨trivial, w.2⟩, fun w => ⟨by omega, w.2⟩⟩))
    | succ d ih =>
      intro i o4 σ2 hd hi hF hE
      obtain ⟨s1, s2, s3, s4, s5, s6⟩ := X0 σ2 hF
      rw [zj_68_44 (by rw [s3]; exact s1), s3, s5.1.1, if_neg (by omega)]
      exact inner T.1 i 0 σ2 (Nat.sub_zero _) (by omega) (Nat.zero_le _) hF (rbS_c hE (fun a b ha hb => ⟨fun w => ⟨Or.inl w.1, w.2⟩, fun w => ⟨by have := w.1; omega, w.2⟩⟩)) (fun σ3 hF3 hE3 => ih (i + 1) _ σ3 (by omega) (by omega) hF3 hE3)
  have zero : ∀ (d i : Nat) (σ2 : zW), T.1 - i = d → i ≤ T.1 → yFr (fun k j => (k = 43 ∨ k = 44) ∧ 20 * p ≤ j ∧ j < 20 * p + 20) σ σ2 → (∀ a, a < i → gI σ2 43 (20 * p + a) = 0 ∧ gI σ2 44 (20 * p + a) = 0) → zEv true ((68, 7, [some (.inr (.inr 41)), some (.inl (p : Int)), some (.inl ((20 * p : Nat) : Int)), some (.inl (i : Int)), none], []) :: K) σ2 := by
    intro d
    induction d with
    | zero =>
      intro i σ2 hd hi hF hE
      obtain ⟨s1, s2, s3, s4, s5, s6⟩ := X0 σ2 hF
      rw [zj_68_7 (by rw [s3]; exact s1), s3, s5.1.1, if_pos (by omega)]
      refine outer T.1 0 _ σ2 (Nat.sub_zero _) (Nat.zero_le _) hF (fun a ha => ?_)
      have h1 : bs (fun b => a < 0 ∧ rlp T st.2.2.2.1 p a b) T.1 = 0 := bs_zero.mpr (fun i _ w => absurd w.1 (Nat.not_lt_zero _))
      have h2 : bs (fun b => b < 0 ∧ rlp T st.2.2.2.1 p b a) T.1 = 0 := bs_zero.mpr (fun i _ w => absurd w.1 (Nat.not_lt_zero _))
      rw [h1, h2]
      exact hE a (by omega)
    | succ d ih =>
      intro i σ2 hd hi hF hE
      have hci : 0 ≤ ((20 * p + i : Nat) : Int) ∧ ((20 * p + i : Nat) : Int) < 160 := by omega
      have hn1 : ¬ (T.1 : Int) ≤ (i : Int) := by omega
      have hd1 : T.1 - (i + 1) = d := by omega
      have hi1 : i + 1 ≤ T.1 := by omega
      obtain ⟨s1, s2, s3, s4, s5, s6⟩ := X0 σ2 hF
      have bj : w32 ((i : Int) + 1) = ((i + 1 : Nat) : Int) := by rw [zw_id (by omega) (by omega)]; omega
      rw [zj_68_7 (by rw [s3]; exact s1), s3, s5.1.1, if_neg hn1, bj, ixb (by clear bj; omega), yAnd hci, yAnd hci, Int.toNat_natCast]
      clear bj
      refine ih (i + 1) _ hd1 hi1 ((hF.I (by omega)).I (by omega)) (fun a ha => ?_)
      by_cases e : a = i
      · subst e
        exact ⟨by rw [gI_sI, if_neg (by omega), yGI_hit], yGI_hit⟩
      · exact ⟨by rw [gI_sI, if_neg (by omega), gI_sI, if_neg (by omega)]; exact (hE a (by omega)).1, by rw [gI_sI, if_neg (by omega), gI_sI, if_neg (by omega)]; exact (hE a (by omega)).2⟩
  rw [ze_68, zw_id (by omega) (by omega), show (p : Int) * 20 = ((20 * p : Nat) : Int) by omega]
  exact zero T.1 0 σ (Nat.sub_zero _) (Nat.zero_le _) yFr.rf (fun a ha => by omega)
