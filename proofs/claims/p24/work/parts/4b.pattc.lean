/-! patterns read by the class, the whole -/
theorem c_pt_loop {K : List zF} (hK : K.length + 7 ≤ 60) {f : Nat → Int} {L t : Nat} (ht : zPn t) : ∀ (n a s d here : Nat) (st : PST) (σ : zW) (o5 o6 o7 o8 : Option zV), L < a + n → a ≤ L → s ≤ a → 2 * st.2.1 ≤ a + 1 → d ≤ a → cT f L σ → gI σ 2 2 = (a : Int) → cP t st σ → pw st → pup st → chn st.2.2.2.1 st.1 d here →
    (∀ (σ' : zW) (e : Nat × Nat), ptR f L n st here d a = .inl e → yFr (Xpt t) σ σ' → gI σ' 2 3 = (e.1 : Nat) → gI σ' 2 4 = (e.2 : Nat) → zRet true K (some (.inl 0)) σ') →
    (∀ (σ' : zW) (st' : PST), ptR f L n st here d a = .inr st' → yFr (Xpg t) σ σ' → cP t st' σ' → pw st' → pup st' → 1 ≤ st'.1 → (∀ j, j < st'.1 → gI σ' (t + 10) j = pstR st' j) → zRet true K (some (.inl 1)) σ') →
    zEv true ((37, 28, [some (.inr (.inr t)), some (.inr (.inr 2)), some (.inl (here : Int)), some (.inl (d : Int)), some (.inl (s : Int)), o5, o6, o7, o8], []) :: K) σ := by
  have hb := zPn_b ht
  intro n
  induction n with
  | zero => intro a s d here st σ o5 o6 o7 o8 h1 h2; omega
  | succ n ih =>
    intro a s d here st σ o5 o6 o7 o8 hn haL hsa hl hd hT ha hP hw hu hch k0 k1
    have h6 := hT.2.2.1
    have hs := sk_le (f := f) haL
    have hg := sk_ge f L a
    have hlt := chn_lt hch
    have hc8 := hw.1
    rw [ptR_st] at k0 k1
    rw [zj_37_28 (by omega), if_neg (by omega), c_next (yL (by omega)) hT ha]
    generalize hpp : sk f L a = p at k0 k1 hs hg ⊢
    have hF1 : yFr (fun k j => k = 2 ∧ j = 2) σ (sI σ 2 2 (p : Nat)) := yFr.rf.I ⟨rfl, rfl⟩
    have hT1 : cT f L (sI σ 2 2 (p : Nat)) := cT_u hT (by omega)
    have hP1 := cP_fr ht hP hF1 (fun k j h => by omega)
    have g2 : gI (sI σ 2 2 (p : Nat)) 2 2 = (p : Int) := yGI_hit
    generalize sI σ 2 2 (p : Nat) = σ1 at hF1 hT1 hP1 g2 ⊢
    have r3 := hP1.2.2.2.1 3 here (by omega) (by omega) (by omega) hlt
    have r9 := hP1.2.2.2.1 9 here (by omega) (by omega) (by omega) hlt
    have r11 := hP1.2.2.2.1 11 here (by omega) (by omega) (by omega) hlt
    have hcc : 0 ≤ (here : Int) ∧ (here : Int) < 8 := by omega
    have rel : ¬ (d = 0 ∧ tb f L p = -1) → ¬ (0 < d ∧ tb f L p = 41) → ∀ o5 o6 o7 o8 : Option zV, zEv true ((37, 92, [some (.inr (.inr t)), some (.inr (.inr 2)), some (.inl (here : Int)), some (.inl (d : Int)), some (.inl (s : Int)), o5, o6, o7, o8], []) :: K) σ1 := by
      intro c1 c2 o5 o6 o7 o8
      rw [if_neg c1, if_neg c2] at k0 k1
      have hsp : sk f L p = p := by rw [← hpp]; exact sk_sk f L a
      refine c_rel hK ht hT1 g2 hs hsp hP1 hw (by omega) hlt (by omega) (by omega) (fun σ' e he hF h3 h4 => ?_) (fun σ' x o5 o6 o7 o8 hx hF n1 n2 n3 n4 n5 n6 v2 v4 v5 => ?_)
      · rw [he] at k0
        exact k0 σ' e rfl ((hF1.mono (fun k j h => by omega)).trans hF) h3 h4
      · rw [hx] at k0 k1
        simp only at k0 k1
        have hFr : yFr (Xpg t) σ σ' := (hF1.mono (fun k j h => by omega)).trans hF
        have hT' := cT_fr hT hFr (fun k j h => by omega)
        have hup' : pup x.2.1 := by
          intro i i1 i2
          by_cases e : i = st.1
          · rw [e, v5]; omega
          · rw [v4 i (by omega)]; exact hu i i1 (by omega)
        have hch' : chn x.2.1.2.2.2.1 x.2.1.1 d here := chn_mono (by omega) v4 d here hch
        refine ih x.2.2 (s + 1) _ _ x.2.1 σ' _ _ _ _ (by omega) n1 (by omega) n3 ?_ hT' n4 n5 n6 hup' ?_ (fun σ2 e he hF2 => k0 σ2 e he ((hFr.mono (fun k j h => by omega)).trans hF2)) (fun σ2 st2 he hF2 => k1 σ2 st2 he (hFr.trans hF2))
        · split <;> omega
        · by_cases h40 : tb f L (sk f L x.1) = 40
          · rw [if_pos h40, if_pos h40]
            refine ⟨by omega, by rw [v5]; omega, ?_⟩
            rw [v5, Int.toNat_natCast]
            exact hch'
          · rw [if_neg h40, if_neg h40]
            exact hch'
    -- the head
    rw [zr_37_40 (by omega) ht]
    have go58 : ¬ (d = 0 ∧ tb f L p = -1) → zEv true ((37, 58, [some (.inr (.inr t)), some (.inr (.inr 2)), some (.inl (here : Int)), some (.inl (d : Int)), some (.inl (s : Int)), some (.inl (tb f L p)), o6, o7, o8], []) :: K) σ1 := by
      intro c1
      rw [zj_37_58 ht]
      by_cases h0 : d = 0
      · rw [if_pos (by omega)]
        exact rel c1 (by omega) _ _ _ _
      · rw [if_neg (by omega)]
        by_cases h41 : tb f L p = 41
        · have hpl := tb_in (f := f) (L := L) (p := p) (by omega)
          rw [if_neg c1, if_pos ⟨by omega, h41⟩] at k0 k1
          obtain ⟨d', rfl⟩ : ∃ d', d = d' + 1 := ⟨d - 1, by omega⟩
          obtain ⟨x1, x2, x3⟩ := hch
          have r3' : gI (sI σ1 2 2 (w32 (gI σ1 2 2 + 1))) (t + 3) here = (((st.2.2.2.1 3 here).toNat : Nat) : Int) := by
            rw [gI_sI, if_neg (by omega), r3]; omega
          rw [if_neg (fun w => w h41), yAnd hcc, Int.toNat_natCast, r3', g2, zw_id (by omega) (by omega), zw_id (by omega) (by omega), zw_id (by omega) (by omega), show (p : Int) + 1 = ((p + 1 : Nat) : Int) by omega, show ((d' + 1 : Nat) : Int) + -1 = (d' : Int) by omega, show (s : Int) + 1 = ((s + 1 : Nat) : Int) by omega]
          have hF2 : yFr (fun k j => k = 2 ∧ j = 2) σ (sI σ1 2 2 ((p + 1 : Nat) : Int)) := hF1.I ⟨rfl, rfl⟩
          have hP2 := cP_fr ht hP hF2 (fun k j h => by omega)
          exact ih (p + 1) (s + 1) d' _ st _ _ _ _ _ (by omega) (by omega) (by omega) (by omega) (by omega) (cT_u hT1 (by omega)) yGI_hit hP2 hw hu x3 (fun σ2 e he hF3 => k0 σ2 e he ((hF2.mono (fun k j h => by omega)).trans hF3)) (fun σ2 st2 he hF3 => k1 σ2 st2 he ((hF2.mono (fun k j h => by omega)).trans hF3))
        · rw [if_pos h41]
          exact rel c1 (by omega) _ _ _ _
    by_cases h0 : d = 0
    · rw [if_neg (by omega)]
      by_cases he : tb f L p = -1
      · rw [if_pos ⟨h0, he⟩] at k1
        rw [if_neg (fun w => w he)]
        refine c_settle ht hP1 hw hu (by omega) (fun σ' hF h => ?_)
        rw [zr_37_56]
        exact k1 σ' st rfl ((hF1.mono (fun k j h => by omega)).trans (hF.mono (fun k j h => by omega))) (cP_fr ht hP1 hF (fun k j h => by omega)) hw hu (by omega) h
      · rw [if_pos he]
        exact go58 (by omega)
    · rw [if_pos (by omega)]
      exact go58 (by omega)
/-- Pattern.read -/
theorem c_pattern {K : List zF} (hK : K.length + 7 ≤ 60) {f : Nat → Int} {L t : Nat} {σ : zW} (ht : zPn t) (hT : cT f L σ)
    (k0 : ∀ (σ' : zW) (e : Nat × Nat), pread f L = .inl e → yFr (Xpt t) σ σ' → gI σ' 2 3 = (e.1 : Nat) → gI σ' 2 4 = (e.2 : Nat) → zRet true K (some (.inl 0)) σ')
    (k1 : ∀ (σ' : zW) (st : PST), pread f L = .inr st → yFr (Xpt t) σ σ' → gI σ' 2 3 = 0 → gI σ' 2 4 = 0 → cP t st σ' → pw st → pup st → 1 ≤ st.1 → (∀ j, j < st.1 → gI σ' (t + 10) j = pstR st j) → zRet true K (some (.inl 1)) σ') :
    zEv true (zent 37 [.inr (.inr t), .inr (.inr 2)] :: K) σ := by
  have hb := zPn_b ht
  rw [ze_37 (by omega), c_begin, zr_37_4 (by omega) ht]
  have hF0 : yFr (fun k j => k = 2 ∧ 2 ≤ j ∧ j ≤ 4) σ (sI (sI (sI σ 2 2 0) 2 3 0) 2 4 0) := ((yFr.rf.I (by omega)).I (by omega)).I (by omega)
  have e2 : gI (sI (sI (sI σ 2 2 0) 2 3 0) 2 4 0) 2 2 = 0 := by simp (disch := omega) only [if_pos, if_neg, yAnd, Int.toNat_natCast, zw_id, gI_sI, gI_sL, gI_sR, gL_sI, gL_sL, gL_sR, gR_sI, gR_sL, gR_sR, true_and, and_true, and_self, ite_true, ite_false, ite_self, not_true_eq_false, not_false_eq_true, or_true, true_or, or_false, false_or, yB0, yB1, Decidable.not_not]
  have e3 : gI (sI (sI (sI σ 2 2 0) 2 3 0) 2 4 0) 2 3 = 0 := by simp (disch := omega) only [if_pos, if_neg, yAnd, Int.toNat_natCast, zw_id, gI_sI, gI_sL, gI_sR, gL_sI, gL_sL, gL_sR, gR_sI, gR_sL, gR_sR, true_and, and_true, and_self, ite_true, ite_false, ite_self, not_true_eq_false, not_false_eq_true, or_true, true_or, or_false, false_or, yB0, yB1, Decidable.not_not]
  have e4 : gI (sI (sI (sI σ 2 2 0) 2 3 0) 2 4 0) 2 4 = 0 := by simp (disch := omega) only [if_pos, if_neg, yAnd, Int.toNat_natCast, zw_id, gI_sI, gI_sL, gI_sR, gL_sI, gL_sL, gL_sR, gR_sI, gR_sL, gR_sR, true_and, and_true, and_self, ite_true, ite_false, ite_self, not_true_eq_false, not_false_eq_true, or_true, true_or, or_false, false_or, yB0, yB1, Decidable.not_not]
  generalize sI (sI (sI σ 2 2 0) 2 3 0) 2 4 0 = σ0 at hF0 e2 e3 e4 ⊢
  refine c_clear ht (fun σ1 hF1 c14 c15 c16 c13 => ?_)
  rw [zr_37_8 (by omega) ht]
  have hFa : yFr (Xpt t) σ σ1 := (hF0.mono (fun k j h => by omega)).trans (hF1.mono (fun k j h => by omega))
  have hT1 := cT_fr hT hFa (fun k j h => by omega)
  have hP1 : cP t (0, 0, 0, fun k _ => if k = 13 then -1 else 0, fun _ => 0) σ1 := ⟨c15, c14, c16, fun q i q1 q2 q3 q4 => absurd q4 (Nat.not_lt_zero _), fun x hx => c13 x hx, fun i hi => absurd hi (Nat.not_lt_zero _), fun i hi => absurd hi (Nat.not_lt_zero _)⟩
  have hw0 : pw (0, 0, 0, fun k _ => if k = 13 then -1 else 0, fun _ => 0) := ⟨by decide, by decide, fun x hx => ⟨by show (-1 : Int) ≤ -1; omega, by show (-1 : Int) < 0; omega⟩, fun i hi => absurd hi (Nat.not_lt_zero _)⟩
  have g2 : gI σ1 2 2 = ((0 : Nat) : Int) := (hF1.i (by omega)).trans e2
  have g3 : gI σ1 2 3 = 0 := (hF1.i (by omega)).trans e3
  have g4 : gI σ1 2 4 = 0 := (hF1.i (by omega)).trans e4
  unfold pread at k0 k1
  refine c_node (m := 0) (k := 0) (yKK (K := K) (by omega)) ht hT1 g2 (Nat.zero_le _) hP1 hw0 (by decide) (Or.inl rfl) (fun σ' e he hF h3 h4 => ?_) (fun σ' r hr hF n1 n2 n3 n4 n5 n6 => ?_)
  · rw [he] at k0
    rw [zr_37_16, if_neg (fun w => w rfl)]
    exact k0 σ' e rfl (hFa.trans hF) h3 h4
  · rw [hr] at k0 k1
    simp only at k0 k1
    obtain ⟨v1, v2, v3, v4, v5⟩ := nodP_pw hw0 (Or.inl rfl) hr
    have hT' := cT_fr hT1 hF (fun k j h => by omega)
    rw [zr_37_16, if_pos (by omega)]
    refine c_pt_loop hK ht (L + 1) r.2 0 0 0 r.1 σ' _ _ _ _ (by omega) n1 (by omega) n3 (by omega) hT' n4 n5 n6 (fun i i1 i2 => by simp only at v2; omega) (show 0 < r.1.1 by omega) (fun σ2 e he hF2 => k0 σ2 e he ((hFa.trans (hF.mono (fun k j h => by omega))).trans hF2)) (fun σ2 st2 he hF2 => k1 σ2 st2 he ((hFa.trans (hF.mono (fun k j h => by omega))).trans (hF2.mono (fun k j h => by omega))) ?_ ?_)
    · rw [hF2.i (by omega), hF.i (by omega)]; exact g3
    · rw [hF2.i (by omega), hF.i (by omega)]; exact g4
