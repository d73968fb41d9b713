/-! trees read by the model -/
abbrev Xlb : Nat → Nat → Prop := fun k j => k = 122 ∧ 2 ≤ j ∧ j ≤ 7
abbrev Xrm : Nat → Nat → Prop := fun k j => (k = 122 ∧ ((2 ≤ j ∧ j ≤ 7) ∨ j = 13)) ∨ k = 127 ∨ k = 128
/-- the rows as the model reads them: labels and parents -/
def mRows (c : Nat) (lab : Nat → Int64) (dep : Nat → Nat) (σ : zW) : Prop := gI σ 122 13 = (c : Int) ∧ ∀ i, i < c → gL σ 127 i = lab i ∧ gI σ 128 i = pa dep (dep i) i
theorem mLab_fr {X : Nat → Nat → Prop} {σ σ' : zW} {a n : Nat} {v : Int64} (h : yFr X σ σ') (hX : ∀ j, 2 ≤ j → j ≤ 5 → X 122 j) : yFr X σ (mLab σ' a n v) := (((h.I (hX 5 (by omega) (by omega))).L (hX 3 (by omega) (by omega))).I (hX 4 (by omega) (by omega))).I (hX 2 (by omega) (by omega))
theorem mLab_i {σ : zW} {a n k j : Nat} {v : Int64} (h : ¬ (k = 122 ∧ 2 ≤ j ∧ j ≤ 5)) : gI (mLab σ a n v) k j = gI σ k j := by unfold mLab; simp (disch := omega) only [if_pos, if_neg, yAnd, Int.toNat_natCast, zw_id, gI_sI, gI_sL, gI_sR, gL_sI, gL_sL, gL_sR, gR_sI, gR_sL, gR_sR, true_and, and_true, and_self, ite_true, ite_false, ite_self, not_true_eq_false, not_false_eq_true, or_true, true_or, or_false, false_or, yB0, yB1, Decidable.not_not]
theorem mLab_l {σ : zW} {a n k j : Nat} {v : Int64} (h : ¬ (k = 122 ∧ 2 ≤ j ∧ j ≤ 5)) : gL (mLab σ a n v) k j = gL σ k j := by unfold mLab; simp (disch := omega) only [if_pos, if_neg, yAnd, Int.toNat_natCast, zw_id, gI_sI, gI_sL, gI_sR, gL_sI, gL_sL, gL_sR, gR_sI, gR_sL, gR_sR, true_and, and_true, and_self, ite_true, ite_false, ite_self, not_true_eq_false, not_false_eq_true, or_true, true_or, or_false, false_or, yB0, yB1, Decidable.not_not]
theorem mrl_fr {X : Nat → Nat → Prop} {f : Nat → Int} {L a : Nat} {σ σ' : zW} (h : yFr X σ σ') (hX : ∀ j, 2 ≤ j → j ≤ 7 → X 122 j) : yFr X σ (mrlW f L a σ') := by
  unfold mrlW
  have h2 : yFr X σ (sI σ' 122 2 (sk f L a : Nat)) := h.I (hX 2 (by omega) (by omega))
  split
  · exact ((mLab_fr h2 (fun j h1 h2 => hX j h1 (by omega))).I (hX 6 (by omega) (by omega))).I (hX 7 (by omega) (by omega))
  · exact mLab_fr h2 (fun j h1 h2 => hX j h1 (by omega))
theorem mrl_fault {f : Nat → Int} {L a : Nat} {σ : zW} {e : Nat × Nat} (h : rdl f L a = .inl e) : gI (mrlW f L a σ) 122 6 = (e.1 : Nat) ∧ gI (mrlW f L a σ) 122 7 = (e.2 : Nat) := by
  unfold mrlW
  rw [h]
  constructor <;> simp (disch := omega) only [if_pos, if_neg, yAnd, Int.toNat_natCast, zw_id, gI_sI, gI_sL, gI_sR, gL_sI, gL_sL, gL_sR, gR_sI, gR_sL, gR_sR, true_and, and_true, and_self, ite_true, ite_false, ite_self, not_true_eq_false, not_false_eq_true, or_true, true_or, or_false, false_or, yB0, yB1, Decidable.not_not]
theorem mrl_ok {f : Nat → Int} {L a q : Nat} {v : Int64} {σ : zW} (h : rdl f L a = .inr (v, q)) : gI (mrlW f L a σ) 122 2 = (q : Int) ∧ gL (mrlW f L a σ) 122 3 = v ∧ gI (mrlW f L a σ) 122 6 = gI σ 122 6 ∧ gI (mrlW f L a σ) 122 7 = gI σ 122 7 := by
  obtain ⟨h1, h2, h3, h4, h5, h6⟩ := rdl_ok h
  unfold mrlW
  rw [h]
  simp only
  refine ⟨?_, ?_, ?_, ?_⟩
  · rw [mLab_2, h6]
  · rw [mLab_3, h5]
  · rw [mLab_i (by omega)]; simp (disch := omega) only [if_pos, if_neg, yAnd, Int.toNat_natCast, zw_id, gI_sI, gI_sL, gI_sR, gL_sI, gL_sL, gL_sR, gR_sI, gR_sL, gR_sR, true_and, and_true, and_self, ite_true, ite_false, ite_self, not_true_eq_false, not_false_eq_true, or_true, true_or, or_false, false_or, yB0, yB1, Decidable.not_not]
  · rw [mLab_i (by omega)]; simp (disch := omega) only [if_pos, if_neg, yAnd, Int.toNat_natCast, zw_id, gI_sI, gI_sL, gI_sR, gL_sI, gL_sL, gL_sR, gR_sI, gR_sL, gR_sR, true_and, and_true, and_self, ite_true, ite_false, ite_self, not_true_eq_false, not_false_eq_true, or_true, true_or, or_false, false_or, yB0, yB1, Decidable.not_not]
theorem mT_fr {f : Nat → Int} {L : Nat} {X : Nat → Nat → Prop} {σ σ' : zW} (h : mT f L σ) (hF : yFr X σ σ') (hX : ∀ k j, X k j → k ≠ 123 ∧ ¬ (k = 122 ∧ j = 1)) : mT f L σ' := by
  refine ⟨fun i => ?_, ?_, h.2.2.1, h.2.2.2⟩
  · rw [hF.i (fun w => (hX _ _ w).1 rfl)]; exact h.1 i
  · rw [hF.i (fun w => (hX _ _ w).2 ⟨rfl, rfl⟩)]; exact h.2.1
theorem cT_fr {f : Nat → Int} {L : Nat} {X : Nat → Nat → Prop} {σ σ' : zW} (h : cT f L σ) (hF : yFr X σ σ') (hX : ∀ k j, X k j → k ≠ 3 ∧ ¬ (k = 2 ∧ j = 1)) : cT f L σ' := by
  refine ⟨fun i => ?_, ?_, h.2.2.1, h.2.2.2⟩
  · rw [hF.i (fun w => (hX _ _ w).1 rfl)]; exact h.1 i
  · rw [hF.i (fun w => (hX _ _ w).2 ⟨rfl, rfl⟩)]; exact h.2.1
theorem m_tree_loop {K : List zF} (hK : K.length + 5 ≤ 60) {f : Nat → Int} {L : Nat} : ∀ (n a c o : Nat) (lab : Nat → Int64) (dep : Nat → Nat) (σ : zW) (o3 o4 : Option zV), L + 1 ≤ a + n → a ≤ L → wfo c o dep → mT f L σ → gI σ 122 2 = (a : Int) → mRows c lab dep σ →
    (∀ (σ' : zW) (e : Nat × Nat), tpr f L n a c o lab dep = .inl e → yFr Xrm σ σ' → gI σ' 122 6 = (e.1 : Nat) → gI σ' 122 7 = (e.2 : Nat) → zRet true K (some (.inl 0)) σ') →
    (∀ (σ' : zW) (r : TRE), tpr f L n a c o lab dep = .inr r → yFr Xrm σ σ' → mRows r.1 r.2.1 r.2.2 σ' → zRet true K (some (.inl 1)) σ') →
    zEv true ((153, 9, [some (.inr (.inr 122)), some (.inl (pa dep o c)), some (.inl (if 0 < c ∧ o = 0 then 1 else 0)), o3, o4], []) :: K) σ := by
  intro n
  induction n with
  | zero => intro a c o lab dep σ o3 o4 hn ha; omega
  | succ n ih =>
    intro a c o lab dep σ o3 o4 hn haL hw hT ha hR k0 k1
    have h6 := hT.2.2.1
    have hs := sk_le (f := f) haL
    have hg := sk_ge f L a
    have ho := wfo_o hw
    have hc20 := hw.1.1
    rw [tpr] at k0 k1
    have hT2 : mT f L (sI σ 122 2 (sk f L a : Nat)) := mT_u hT (by omega)
    have ha2 : gI (sI σ 122 2 (sk f L a : Nat)) 122 2 = (sk f L a : Nat) := yGI_hit
    have hc2 : gI (sI σ 122 2 (sk f L a : Nat)) 122 13 = (c : Int) := by rw [gI_sI, if_neg (by omega)]; exact hR.1
    have hF : ∀ x : Int, yFr Xrm σ (sI σ 122 2 x) := fun x => yFr.rf.I (by omega)
    have hR2 : ∀ x : Int, mRows c lab dep (sI σ 122 2 x) := fun x => ⟨by rw [gI_sI, if_neg (by omega)]; exact hR.1, fun i hi => ⟨(hR.2 i hi).1, by rw [gI_sI, if_neg (by omega)]; exact (hR.2 i hi).2⟩⟩
    rw [zj_153_9 (by omega)]
    by_cases h0 : 0 < c ∧ o = 0
    · rw [if_pos h0] at k0 k1
      rw [if_pos (by rw [if_pos h0]; omega), m_noEnd (yKK (by omega)) hT ha]
      by_cases hE : tb f L (sk f L a) = -1
      · rw [if_pos hE] at k1
        rw [if_pos hE, zr_153_231, yAnd (Or.inr rfl)]
        exact k1 _ (c, lab, dep) rfl (hF _) (hR2 _)
      · rw [if_neg hE] at k0
        rw [if_neg hE, zr_153_231, yAnd (Or.inl rfl)]
        refine k0 _ (1, sk f L a) rfl (((hF _).I ?_).I ?_) ?_ yGI_hit <;> first | omega | (simp (disch := omega) only [if_pos, if_neg, yAnd, Int.toNat_natCast, zw_id, gI_sI, gI_sL, gI_sR, gL_sI, gL_sL, gL_sR, gR_sI, gR_sL, gR_sR, true_and, and_true, and_self, ite_true, ite_false, ite_self, not_true_eq_false, not_false_eq_true, or_true, true_or, or_false, false_or, yB0, yB1, Decidable.not_not]; done) | (simp (disch := omega) only [if_pos, if_neg, yAnd, Int.toNat_natCast, zw_id, gI_sI, gI_sL, gI_sR, gL_sI, gL_sL, gL_sR, gR_sI, gR_sL, gR_sR, true_and, and_true, and_self, ite_true, ite_false, ite_self, not_true_eq_false, not_false_eq_true, or_true, true_or, or_false, false_or, yB0, yB1, Decidable.not_not]; rfl) | (simp (disch := omega) only [if_pos, if_neg, yAnd, Int.toNat_natCast, zw_id, gI_sI, gI_sL, gI_sR, gL_sI, gL_sL, gL_sR, gR_sI, gR_sL, gR_sR, true_and, and_true, and_self, ite_true, ite_false, ite_self, not_true_eq_false, not_false_eq_true, or_true, true_or, or_false, false_or, yB0, yB1, Decidable.not_not]; omega)
    · rw [if_neg h0] at k0 k1
      rw [if_neg (by rw [if_neg h0]; omega), m_sign (yKK (by omega)) hT ha, zr_153_17, ha2]
      by_cases h1 : tb f L (sk f L a) = 41 ∧ 0 < o
      · rw [if_pos h1] at k0 k1
        have hlt : sk f L a < L := by
          rcases Nat.lt_or_ge (sk f L a) L with q | q
          · exact q
          · rw [tb_ge q] at h1; omega
        obtain ⟨j, hj⟩ := pa_some hw h1.2
        obtain ⟨g1, g2, g3⟩ := pa_spec hj
        have hup := pa_up hw hj
        have hval : gI (sI σ 122 2 (sk f L a : Nat)) 128 j = pa dep (o - 1) c := by rw [(hR2 _).2 j g1 |>.2, hup]
        rw [if_neg (fun w => w h1.1), if_neg (by omega), yAnd (by omega), hj, Int.toNat_natCast, hval, zw_id (by omega) (by omega), sI_sI, show (((sk f L a : Nat) : Int) + 1) = ((sk f L a + 1 : Nat) : Int) by omega]
        have hov : (if ¬ pa dep (o - 1) c = -1 then (0 : Int) else 1) = (if 0 < c ∧ o - 1 = 0 then 1 else 0) := by
          by_cases e : o - 1 = 0
          · rw [e, pa_zero, if_neg (fun w => w rfl), if_pos (by omega)]
          · obtain ⟨j2, hj2⟩ := pa_some (wfo_pop hw) (by omega)
            rw [hj2, if_pos (by omega), if_neg (by omega)]
        rw [hov]
        exact ih (sk f L a + 1) c (o - 1) lab dep _ _ _ (by omega) (by omega) (wfo_pop hw) (mT_u hT (by omega)) yGI_hit (hR2 _) (fun σ' e he hF2 => k0 σ' e he ((hF _).trans hF2)) (fun σ' r hr hF2 => k1 σ' r hr ((hF _).trans hF2))
      · rw [if_neg h1] at k0 k1
        have go : ∀ o2 : Option zV, zEv true ((153, 66, [some (.inr (.inr 122)), some (.inl (pa dep o c)), o2, some (.inl (tb f L (sk f L a))), some (.inl (sk f L a : Nat))], []) :: K) (sI σ 122 2 (sk f L a : Nat)) := by
          intro o2
          rw [zj_153_66 (by omega)]
          have node : tb f L (sk f L a) = 40 ∨ zlet (tb f L (sk f L a)) → ∀ o2 : Option zV, zEv true ((153, 79, [some (.inr (.inr 122)), some (.inl (pa dep o c)), o2, some (.inl (tb f L (sk f L a))), some (.inl (sk f L a : Nat))], []) :: K) (sI σ 122 2 (sk f L a : Nat)) := by
            intro hsg o2
            have hlt : sk f L a < L := by
              rcases Nat.lt_or_ge (sk f L a) L with q | q
              · exact q
              · rw [tb_ge q] at hsg; omega
            have rest : ¬ (tb f L (sk f L a) = 40 ∧ 20 ≤ c) → zEv true ((153, 102, [some (.inr (.inr 122)), some (.inl (pa dep o c)), o2, some (.inl (tb f L (sk f L a))), some (.inl (sk f L a : Nat))], []) :: K) (sI σ 122 2 (sk f L a : Nat)) := by
              intro hn4
              unfold nodeR at k0 k1
              rw [if_neg hn4] at k0 k1
              have hpp : w32 (((sk f L a : Nat) : Int) + (if ¬ tb f L (sk f L a) = 40 then 0 else 1)) = ((if tb f L (sk f L a) = 40 then sk f L a + 1 else sk f L a : Nat) : Int) := by
                by_cases h4 : tb f L (sk f L a) = 40
                · rw [if_neg (fun w => w h4), if_pos h4, zw_id (by omega) (by omega)]; omega
                · rw [if_pos h4, if_neg h4, zw_id (by omega) (by omega)]; omega
              rw [zj_153_102 (by omega), ha2, hpp, sI_sI]
              generalize hp9 : (if tb f L (sk f L a) = 40 then sk f L a + 1 else sk f L a) = p9 at k0 k1 ⊢
              rw [m_rightLabel (yKK (by omega)) (mT_u hT (by omega)) yGI_hit]
              have hFL : yFr Xlb (sI σ 122 2 (p9 : Nat)) (mrlW f L p9 (sI σ 122 2 (p9 : Nat))) := mrl_fr yFr.rf (fun j h1 h2 => by omega)
              have hFW : yFr Xrm σ (mrlW f L p9 (sI σ 122 2 (p9 : Nat))) := (hF _).trans (hFL.mono (fun k j h => by omega))
              have hcW : gI (mrlW f L p9 (sI σ 122 2 (p9 : Nat))) 122 13 = (c : Int) := by rw [hFL.i (by omega), gI_sI, if_neg (by omega)]; exact hR.1
              have hRW : ∀ i, i < c → gL (mrlW f L p9 (sI σ 122 2 (p9 : Nat))) 127 i = lab i ∧ gI (mrlW f L p9 (sI σ 122 2 (p9 : Nat))) 128 i = pa dep (dep i) i := fun i hi => by
                rw [hFL.l (by omega), hFL.i (by omega), gL_sI, gI_sI, if_neg (by omega)]
                exact hR.2 i hi
              have hTW : mT f L (mrlW f L p9 (sI σ 122 2 (p9 : Nat))) := mT_fr (mT_u hT (by omega)) hFL (fun k j h => by omega)
              generalize hσ9 : mrlW f L p9 (sI σ 122 2 (p9 : Nat)) = σ9 at hFL hFW hcW hRW hTW ⊢
              cases hr : rdl f L p9 with
              | inl e =>
                rw [hr] at k0
                simp only at k0
                rw [zr_153_126 (by omega)]
                show if ¬ (0 : Int) = 0 then _ else _
                rw [if_neg (fun w => w rfl)]
                rw [← hσ9]
                exact k0 _ e rfl (by rw [hσ9]; exact hFW) (mrl_fault hr).1 (mrl_fault hr).2
              | inr w9 =>
                obtain ⟨v, q⟩ := w9
                rw [hr] at k0 k1
                simp only at k0 k1
                have hk := rdl_ok hr
                have ho9 : gI σ9 122 2 = (q : Int) ∧ gL σ9 122 3 = v := by rw [← hσ9]; exact ⟨(mrl_ok hr).1, (mrl_ok hr).2.1⟩
                have hq2 : sk f L a < q := by
                  rw [← hp9] at hk
                  have := hk.1
                  split at this <;> omega
                rw [zr_153_126 (by omega)]
                show if ¬ (1 : Int) = 0 then _ else _
                rw [if_pos (by omega), hcW]
                by_cases h20 : 20 ≤ c
                · rw [if_pos h20] at k0
                  rw [if_neg (by omega), m_fails, zr_153_147, yAnd (Or.inl rfl)]
                  refine k0 _ (3, sk f L a) rfl ((hFW.I ?_).I ?_) ?_ yGI_hit <;> first | omega | (simp (disch := omega) only [if_pos, if_neg, yAnd, Int.toNat_natCast, zw_id, gI_sI, gI_sL, gI_sR, gL_sI, gL_sL, gL_sR, gR_sI, gR_sL, gR_sR, true_and, and_true, and_self, ite_true, ite_false, ite_self, not_true_eq_false, not_false_eq_true, or_true, true_or, or_false, false_or, yB0, yB1, Decidable.not_not]; done) | (simp (disch := omega) only [if_pos, if_neg, yAnd, Int.toNat_natCast, zw_id, gI_sI, gI_sL, gI_sR, gL_sI, gL_sL, gL_sR, gR_sI, gR_sL, gR_sR, true_and, and_true, and_self, ite_true, ite_false, ite_self, not_true_eq_false, not_false_eq_true, or_true, true_or, or_false, false_or, yB0, yB1, Decidable.not_not]; rfl) | (simp (disch := omega) only [if_pos, if_neg, yAnd, Int.toNat_natCast, zw_id, gI_sI, gI_sL, gI_sR, gL_sI, gL_sL, gL_sR, gR_sI, gR_sL, gR_sR, true_and, and_true, and_self, ite_true, ite_false, ite_self, not_true_eq_false, not_false_eq_true, or_true, true_or, or_false, false_or, yB0, yB1, Decidable.not_not]; omega)
                · rw [if_neg h20] at k0 k1
                  simp only at k0 k1
                  rw [if_pos (by omega), yAnd (by omega), yAnd (by omega), Int.toNat_natCast, ho9.2]
                  have hFF : yFr Xrm σ (sI (sI (sL σ9 127 c v) 128 c (pa dep o c)) 122 13 ((c + 1 : Nat) : Int)) := ((hFW.L (by omega)).I (by omega)).I (by omega)
                  have hpc : ∀ i, i ≤ c → pa (fup dep c o) (dep i) i = pa dep (dep i) i := fun i hi => pa_congr (fun j hj => fup_ne (by omega))
                  have fin : ∀ o3 o4 : Option zV, zEv true ((153, 9, [some (.inr (.inr 122)), some (.inl (pa (fup dep c o) (if tb f L (sk f L a) = 40 then o + 1 else o) (c + 1))), some (.inl (if 0 < c + 1 ∧ (if tb f L (sk f L a) = 40 then o + 1 else o) = 0 then 1 else 0)), o3, o4], []) :: K) (sI (sI (sL σ9 127 c v) 128 c (pa dep o c)) 122 13 ((c + 1 : Nat) : Int)) := by
                    intro o3 o4
                    refine ih q (c + 1) _ (fup lab c v) (fup dep c o) _ o3 o4 (by omega) (by omega) (wfo_push hw (by omega) h0 (by split <;> omega)) (mT_u (mT_u (mT_l hTW) (by omega)) (by omega)) ?_ ⟨yGI_hit, fun i hi => ?_⟩ (fun σ' e he hF2 => k0 σ' e he (hFF.trans hF2)) (fun σ' r hr hF2 => k1 σ' r hr (hFF.trans hF2))
                    · simp (disch := omega) only [ho9.1, if_pos, if_neg, yAnd, Int.toNat_natCast, zw_id, gI_sI, gI_sL, gI_sR, gL_sI, gL_sL, gL_sR, gR_sI, gR_sL, gR_sR, true_and, and_true, and_self, ite_true, ite_false, ite_self, not_true_eq_false, not_false_eq_true, or_true, true_or, or_false, false_or, yB0, yB1, Decidable.not_not]
                    · by_cases e : i = c
                      · subst e
                        rw [fup_eq, fup_eq]
                        refine ⟨by simp (disch := omega) only [if_pos, if_neg, yAnd, Int.toNat_natCast, zw_id, gI_sI, gI_sL, gI_sR, gL_sI, gL_sL, gL_sR, gR_sI, gR_sL, gR_sR, true_and, and_true, and_self, ite_true, ite_false, ite_self, not_true_eq_false, not_false_eq_true, or_true, true_or, or_false, false_or, yB0, yB1, Decidable.not_not], ?_⟩
                        rw [pa_congr (dep := fup dep i o) (dep' := dep) (fun j hj => fup_ne (by omega))]
                        simp (disch := omega) only [if_pos, if_neg, yAnd, Int.toNat_natCast, zw_id, gI_sI, gI_sL, gI_sR, gL_sI, gL_sL, gL_sR, gR_sI, gR_sL, gR_sR, true_and, and_true, and_self, ite_true, ite_false, ite_self, not_true_eq_false, not_false_eq_true, or_true, true_or, or_false, false_or, yB0, yB1, Decidable.not_not]
                      · rw [fup_ne e, fup_ne e, hpc i (by omega)]
                        have := hRW i (by omega)
                        simp (disch := omega) only [this.1, this.2, if_pos, if_neg, yAnd, Int.toNat_natCast, zw_id, gI_sI, gI_sL, gI_sR, gL_sI, gL_sL, gL_sR, gR_sI, gR_sL, gR_sR, true_and, and_true, and_self, ite_true, ite_false, ite_self, not_true_eq_false, not_false_eq_true, or_true, true_or, or_false, false_or, yB0, yB1, Decidable.not_not]
                  have h186 : zEv true ((153, 186, [some (.inr (.inr 122)), some (.inl (pa dep o c)), o2, some (.inl (tb f L (sk f L a))), some (.inl (sk f L a : Nat))], []) :: K) (sI (sL σ9 127 c v) 128 c (pa dep o c)) ∨ (¬ tb f L (sk f L a) = 40 ∧ pa dep o c = -1) := by
                    by_cases h4 : tb f L (sk f L a) = 40
                    · left
                      rw [zj_153_186, if_neg (fun w => w h4)]
                      have e1 : pa (fup dep c o) (if tb f L (sk f L a) = 40 then o + 1 else o) (c + 1) = (c : Int) := by
                        rw [if_pos h4, pa, fup_eq, if_pos (by omega)]
                      have := fin (some (.inl (tb f L (sk f L a)))) (some (.inl (sk f L a : Nat)))
                      rw [e1, if_neg (by rw [if_pos h4]; omega)] at this
                      simp (disch := omega) only [hcW, if_pos, if_neg, yAnd, Int.toNat_natCast, zw_id, gI_sI, gI_sL, gI_sR, gL_sI, gL_sL, gL_sR, gR_sI, gR_sL, gR_sR, true_and, and_true, and_self, ite_true, ite_false, ite_self, not_true_eq_false, not_false_eq_true, or_true, true_or, or_false, false_or, yB0, yB1, Decidable.not_not]
                      exact this
                    · by_cases h5 : pa dep o c = -1
                      · exact Or.inr ⟨h4, h5⟩
                      · left
                        rw [zj_153_186, if_pos h4]
                        have e1 : pa (fup dep c o) (if tb f L (sk f L a) = 40 then o + 1 else o) (c + 1) = pa dep o c := by
                          rw [if_neg h4, pa, fup_eq, if_neg (by omega)]
                          exact pa_congr (fun j hj => fup_ne (by omega))
                        have ho0 : ¬ o = 0 := fun e => h5 (by rw [e]; exact pa_zero _ _)
                        have := fin (some (.inl (tb f L (sk f L a)))) (some (.inl (sk f L a : Nat)))
                        rw [e1, if_neg (by rw [if_neg h4]; omega)] at this
                        simp (disch := omega) only [hcW, if_pos, if_neg, yAnd, Int.toNat_natCast, zw_id, gI_sI, gI_sL, gI_sR, gL_sI, gL_sL, gL_sR, gR_sI, gR_sL, gR_sR, true_and, and_true, and_self, ite_true, ite_false, ite_self, not_true_eq_false, not_false_eq_true, or_true, true_or, or_false, false_or, yB0, yB1, Decidable.not_not]
                        exact this
                  rcases h186 with h186 | ⟨h4, h5⟩
                  · by_cases h4 : tb f L (sk f L a) = 40
                    · rw [if_pos h4]; exact h186
                    · rw [if_neg h4]
                      by_cases h5 : pa dep o c = -1
                      · have ho0 : o = 0 := by
                          rcases Nat.eq_zero_or_pos o with e | e
                          · exact e
                          · obtain ⟨j, hj⟩ := pa_some hw e
                            omega
                        have e1 : pa (fup dep c o) (if tb f L (sk f L a) = 40 then o + 1 else o) (c + 1) = pa dep o c := by
                          rw [if_neg h4, pa, fup_eq, if_neg (by omega)]
                          exact pa_congr (fun j hj => fup_ne (by omega))
                        have := fin (some (.inl (tb f L (sk f L a)))) (some (.inl (sk f L a : Nat)))
                        rw [e1, if_pos (by rw [if_neg h4]; omega)] at this
                        rw [if_neg (fun w => w h5), if_pos h4, zw_id (by omega) (by omega)]
                        exact this
                      · rw [if_pos h5]; exact h186
                  · have ho0 : o = 0 := by
                      rcases Nat.eq_zero_or_pos o with e | e
                      · exact e
                      · obtain ⟨j, hj⟩ := pa_some hw e
                        omega
                    have e1 : pa (fup dep c o) (if tb f L (sk f L a) = 40 then o + 1 else o) (c + 1) = pa dep o c := by
                      rw [if_neg h4, pa, fup_eq, if_neg (by omega)]
                      exact pa_congr (fun j hj => fup_ne (by omega))
                    have := fin (some (.inl (tb f L (sk f L a)))) (some (.inl (sk f L a : Nat)))
                    rw [e1, if_pos (by rw [if_neg h4]; omega)] at this
                    rw [if_neg h4, if_neg (fun w => w h5), if_pos h4, zw_id (by omega) (by omega)]
                    exact this
            rw [zj_153_79 (by omega), hc2]
            by_cases h4 : tb f L (sk f L a) = 40
            · rw [if_neg (fun w => w h4)]
              by_cases h20 : 20 ≤ c
              · rw [if_neg (by omega), m_fails, zr_153_101, yAnd (Or.inl rfl)]
                unfold nodeR at k0
                rw [if_pos ⟨h4, h20⟩] at k0
                refine k0 _ (3, sk f L a) rfl (((hF _).I ?_).I ?_) ?_ yGI_hit <;> first | omega | (simp (disch := omega) only [if_pos, if_neg, yAnd, Int.toNat_natCast, zw_id, gI_sI, gI_sL, gI_sR, gL_sI, gL_sL, gL_sR, gR_sI, gR_sL, gR_sR, true_and, and_true, and_self, ite_true, ite_false, ite_self, not_true_eq_false, not_false_eq_true, or_true, true_or, or_false, false_or, yB0, yB1, Decidable.not_not]; done) | (simp (disch := omega) only [if_pos, if_neg, yAnd, Int.toNat_natCast, zw_id, gI_sI, gI_sL, gI_sR, gL_sI, gL_sL, gL_sR, gR_sI, gR_sL, gR_sR, true_and, and_true, and_self, ite_true, ite_false, ite_self, not_true_eq_false, not_false_eq_true, or_true, true_or, or_false, false_or, yB0, yB1, Decidable.not_not]; rfl) | (simp (disch := omega) only [if_pos, if_neg, yAnd, Int.toNat_natCast, zw_id, gI_sI, gI_sL, gI_sR, gL_sI, gL_sL, gL_sR, gR_sI, gR_sL, gR_sR, true_and, and_true, and_self, ite_true, ite_false, ite_self, not_true_eq_false, not_false_eq_true, or_true, true_or, or_false, false_or, yB0, yB1, Decidable.not_not]; omega)
              · rw [if_pos (by omega)]; exact rest (fun w => h20 w.2)
            · rw [if_pos h4]; exact rest (fun w => h4 w.1)
          by_cases h4 : tb f L (sk f L a) = 40
          · rw [if_pos h4]; exact node (Or.inl h4) _
          · rw [if_neg h4, m_isLetter (yKK (by omega)), zr_153_76 (by omega)]
            by_cases hz : zlet (tb f L (sk f L a))
            · rw [if_neg (by rw [if_pos hz]; omega)]; exact node (Or.inr hz) _
            · rw [if_pos (by rw [if_neg hz]), m_fails, zr_153_223, yAnd (Or.inl rfl)]
              unfold nodeR rdl at k0
              rw [if_neg (fun w => h4 w.1), if_neg h4, sk_sk, wl_zero hz, if_pos rfl] at k0
              refine k0 _ (1, sk f L a) rfl (((hF _).I ?_).I ?_) ?_ yGI_hit <;> first | omega | (simp (disch := omega) only [if_pos, if_neg, yAnd, Int.toNat_natCast, zw_id, gI_sI, gI_sL, gI_sR, gL_sI, gL_sL, gL_sR, gR_sI, gR_sL, gR_sR, true_and, and_true, and_self, ite_true, ite_false, ite_self, not_true_eq_false, not_false_eq_true, or_true, true_or, or_false, false_or, yB0, yB1, Decidable.not_not]; done) | (simp (disch := omega) only [if_pos, if_neg, yAnd, Int.toNat_natCast, zw_id, gI_sI, gI_sL, gI_sR, gL_sI, gL_sL, gL_sR, gR_sI, gR_sL, gR_sR, true_and, and_true, and_self, ite_true, ite_false, ite_self, not_true_eq_false, not_false_eq_true, or_true, true_or, or_false, false_or, yB0, yB1, Decidable.not_not]; rfl) | (simp (disch := omega) only [if_pos, if_neg, yAnd, Int.toNat_natCast, zw_id, gI_sI, gI_sL, gI_sR, gL_sI, gL_sL, gL_sR, gR_sI, gR_sL, gR_sR, true_and, and_true, and_self, ite_true, ite_false, ite_self, not_true_eq_false, not_false_eq_true, or_true, true_or, or_false, false_or, yB0, yB1, Decidable.not_not]; omega)
        by_cases h2 : tb f L (sk f L a) = 41
        · rw [if_neg (fun w => w h2), if_pos (by rw [show o = 0 by omega]; exact pa_zero _ _)]
          exact go _
        · rw [if_pos h2]; exact go _
