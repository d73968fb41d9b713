/-! the calls of the class that read the tape -/
theorem c_tree {K : List zF} (hK : K.length + 4 ≤ 60) {f : Nat → Int} {L t : Nat} {σ : zW} (ht : zTr t) (hT : cT f L σ)
    (k0 : ∀ (σ' : zW) (e : Nat × Nat), tread f L = .inl e → yFr (Xrd t) σ σ' → gI σ' 2 3 = (e.1 : Nat) → gI σ' 2 4 = (e.2 : Nat) → zRet true K (some (.inl 0)) σ')
    (k1 : ∀ (σ' : zW) (r : TRE), tread f L = .inr r → yFr (Xrd t) σ σ' → gI σ' 2 3 = 0 → gI σ' 2 4 = 0 → cRows t r.1 r.2.1 r.2.2 σ' → zRet true K (some (.inl 1)) σ') : zEv true (zent 93 [.inr (.inr t), .inr (.inr 2)] :: K) σ := by
  have hb := zTr_b ht
  rw [ze_93 (by omega), c_begin, zr_93_4 ht]
  have hF0 : yFr (Xrd t) σ (sI (sI (sI (sI σ 2 2 0) 2 3 0) 2 4 0) t 12 0) := (((yFr.rf.I (by omega)).I (by omega)).I (by omega)).I (by omega)
  have e2 : gI (sI (sI (sI (sI σ 2 2 0) 2 3 0) 2 4 0) t 12 0) 2 2 = 0 := by rw [gI_sI, if_neg (by omega)]; simp (disch := omega) only [if_pos, if_neg, yAnd, Int.toNat_natCast, zw_id, gI_sI, gI_sL, gI_sR, gL_sI, gL_sL, gL_sR, gR_sI, gR_sL, gR_sR, true_and, and_true, and_self, ite_true, ite_false, ite_self, not_true_eq_false, not_false_eq_true, or_true, true_or, or_false, false_or, yB0, yB1, Decidable.not_not]
  have e3 : gI (sI (sI (sI (sI σ 2 2 0) 2 3 0) 2 4 0) t 12 0) 2 3 = 0 := by rw [gI_sI, if_neg (by omega)]; simp (disch := omega) only [if_pos, if_neg, yAnd, Int.toNat_natCast, zw_id, gI_sI, gI_sL, gI_sR, gL_sI, gL_sL, gL_sR, gR_sI, gR_sL, gR_sR, true_and, and_true, and_self, ite_true, ite_false, ite_self, not_true_eq_false, not_false_eq_true, or_true, true_or, or_false, false_or, yB0, yB1, Decidable.not_not]
  have e4 : gI (sI (sI (sI (sI σ 2 2 0) 2 3 0) 2 4 0) t 12 0) 2 4 = 0 := by rw [gI_sI, if_neg (by omega)]; simp (disch := omega) only [if_pos, if_neg, yAnd, Int.toNat_natCast, zw_id, gI_sI, gI_sL, gI_sR, gL_sI, gL_sL, gL_sR, gR_sI, gR_sL, gR_sR, true_and, and_true, and_self, ite_true, ite_false, ite_self, not_true_eq_false, not_false_eq_true, or_true, true_or, or_false, false_or, yB0, yB1, Decidable.not_not]
  have eR : cRows t 0 (fun _ => 0) (fun _ => 0) (sI (sI (sI (sI σ 2 2 0) 2 3 0) 2 4 0) t 12 0) := ⟨yGI_hit, fun i hi => absurd hi (Nat.not_lt_zero i)⟩
  generalize sI (sI (sI (sI σ 2 2 0) 2 3 0) 2 4 0) t 12 0 = σ0 at hF0 e2 e3 e4 eR ⊢
  have hT0 := cT_fr hT hF0 (fun k j h => by omega)
  refine c_tree_loop hK ht (L + 1) 0 0 0 0 _ _ σ0 _ _ (by omega) (Nat.zero_le _) (Nat.le_refl _) ⟨⟨Nat.zero_le _, fun h => absurd h (Nat.lt_irrefl _), fun i hi => absurd hi (Nat.not_lt_zero _)⟩, fun _ => rfl, fun h => absurd h (Nat.lt_irrefl _)⟩ hT0 e2 e3 e4 eR (fun σ' e he hF h3 h4 => k0 σ' e he (hF0.trans hF) h3 h4) (fun σ' r hr hF h3 h4 hR => k1 σ' r hr (hF0.trans hF) h3 h4 hR)
theorem c_takeFault {K : List zF} (hK : K.length < 60) {a b : Int} {σ : zW} (h3 : gI σ 2 3 = a) (h4 : gI σ 2 4 = b)
    (k : ∀ σ' : zW, yFr (fun k j => (k = 1 ∧ (j = 13 ∨ j = 14)) ∨ (k = 2 ∧ j = 1)) σ σ' → gI σ' 1 13 = a → gI σ' 1 14 = b → gI σ' 2 1 = 0 → zRet true K none σ') : zEv true (zent 129 [.inr (.inr 1)] :: K) σ := by
  rw [ze_129 hK, c_drop, zr_129_29, h3, h4]
  have hF : yFr (fun k j => (k = 1 ∧ (j = 13 ∨ j = 14)) ∨ (k = 2 ∧ j = 1)) σ (sI (sI (sI σ 1 13 a) 1 14 b) 2 1 0) := ((yFr.rf.I (by omega)).I (by omega)).I (by omega)
  refine k _ hF ?_ ?_ yGI_hit
  · rw [gI_sI, if_neg (by omega), gI_sI, if_neg (by omega)]; exact yGI_hit
  · rw [gI_sI, if_neg (by omega)]; exact yGI_hit
theorem c_forget {K : List zF} {σ : zW} (k : ∀ σ' : zW, yFr (fun k j => (k = 1 ∧ j = 15) ∨ (k = 50 ∧ j = 1) ∨ (k = 52 ∧ j = 1)) σ σ' → gI σ' 1 15 = -1 → gI σ' 50 1 = -1 → gI σ' 52 1 = -1 → zRet true K none σ') : zEv true (zent 132 [.inr (.inr 1)] :: K) σ := by
  rw [ze_132]
  have hF : yFr (fun k j => (k = 1 ∧ j = 15) ∨ (k = 50 ∧ j = 1) ∨ (k = 52 ∧ j = 1)) σ (sI (sI (sI σ 1 15 (-1)) 50 1 (-1)) 52 1 (-1)) := ((yFr.rf.I (by omega)).I (by omega)).I (by omega)
  refine k _ hF ?_ ?_ yGI_hit
  · rw [gI_sI, if_neg (by omega), gI_sI, if_neg (by omega)]; exact yGI_hit
  · rw [gI_sI, if_neg (by omega)]; exact yGI_hit
/-- frames that reach the spare objects -/
theorem kTr_fr2 {Ts : Nat → TRE} {σ σ' : zW} {X : Nat → Nat → Prop} (h : kTr Ts σ) (hF : yFr X σ σ') (hX : ∀ k j, X k j → k ≠ 4 ∧ ¬ (k = 1 ∧ j = 8) ∧ ((5 ≤ k ∧ k ≤ 40) ∨ (68 ≤ k ∧ k ≤ 79) → gR σ 1 8 ≤ k ∧ k ≤ gR σ 1 8 + 11)) : kTr Ts σ' := by
  have e4 : ∀ p, gR σ' 4 p = gR σ 4 p := fun p => hF.r (fun x => (hX _ _ x).1 rfl)
  have e1 : gR σ' 1 8 = gR σ 1 8 := hF.r (fun x => (hX _ _ x).2.1 ⟨rfl, rfl⟩)
  obtain ⟨h1, h2, h3⟩ := h
  refine ⟨fun p hp => ?_, by rw [e1]; exact h2, fun p q hp hq hpq => by rw [e4, e4]; exact h3 p q hp hq hpq⟩
  obtain ⟨a, b, c⟩ := h1 p hp
  rw [e4, e1]
  refine ⟨a, cTr_fr b hF (fun k j w x => ?_), c⟩
  have hx := hX k j x
  have ha : gR σ 4 p = 5 ∨ gR σ 4 p = 17 ∨ gR σ 4 p = 29 ∨ gR σ 4 p = 68 := a
  have hs : gR σ 1 8 = 5 ∨ gR σ 1 8 = 17 ∨ gR σ 1 8 = 29 ∨ gR σ 1 8 = 68 := h2
  omega
theorem kPt_fr2 {ps : Option (PST × (Nat → Nat))} {σ σ' : zW} {X : Nat → Nat → Prop} (h : kPt ps σ) (hF : yFr X σ σ') (hX : ∀ k j, X k j → ¬ (k = 1 ∧ (j = 9 ∨ j = 10)) ∧ ((80 ≤ k ∧ k ≤ 109) → gR σ 1 10 ≤ k ∧ k ≤ gR σ 1 10 + 14)) : kPt ps σ' := by
  have e1 : gR σ' 1 9 = gR σ 1 9 := hF.r (fun x => (hX _ _ x).1 ⟨rfl, Or.inl rfl⟩)
  have e2 : gR σ' 1 10 = gR σ 1 10 := hF.r (fun x => (hX _ _ x).1 ⟨rfl, Or.inr rfl⟩)
  obtain ⟨h1, h2, h3, h4, h5⟩ := h
  have ha : gR σ 1 9 = 80 ∨ gR σ 1 9 = 95 := h1
  have hb : gR σ 1 10 = 80 ∨ gR σ 1 10 = 95 := h2
  have hx : ∀ k j, gR σ 1 9 ≤ k → k ≤ gR σ 1 9 + 14 → ¬ X k j := fun k j a b x => by have := hX k j x; omega
  refine ⟨by rw [e1]; exact h1, by rw [e2]; exact h2, by rw [e1, e2]; exact h3, fun e => ?_, fun st pd e => ?_⟩
  · rw [e1]
    obtain ⟨a, b⟩ := h4 e
    exact ⟨(hF.i (hx _ _ (Nat.le_refl _) (Nat.le_add_right _ _))).trans a, (hF.i (hx _ _ (Nat.le_refl _) (Nat.le_add_right _ _))).trans b⟩
  · rw [e1]
    obtain ⟨a, b⟩ := h5 st pd e
    exact ⟨cP_fr2 a hF hx, fun j hj => (hF.i (hx _ _ (by omega) (by omega))).trans (b j hj)⟩
theorem kSc_fr2 {sc : Nat × (Nat → EDT)} {σ σ' : zW} {X : Nat → Nat → Prop} (h : kSc sc σ) (hF : yFr X σ σ') (hX : ∀ k j, X k j → ¬ (k = 1 ∧ (j = 11 ∨ j = 12)) ∧ ((110 ≤ k ∧ k ≤ 121) → gR σ 1 12 ≤ k ∧ k ≤ gR σ 1 12 + 5)) : kSc sc σ' := by
  have e1 : gR σ' 1 11 = gR σ 1 11 := hF.r (fun x => (hX _ _ x).1 ⟨rfl, Or.inl rfl⟩)
  have e2 : gR σ' 1 12 = gR σ 1 12 := hF.r (fun x => (hX _ _ x).1 ⟨rfl, Or.inr rfl⟩)
  obtain ⟨h1, h2, h3, h4, h5⟩ := h
  have ha : gR σ 1 11 = 110 ∨ gR σ 1 11 = 116 := h1
  have hb : gR σ 1 12 = 110 ∨ gR σ 1 12 = 116 := h2
  have hx : ∀ k j, gR σ 1 11 ≤ k → k ≤ gR σ 1 11 + 5 → ¬ X k j := fun k j a b x => by have := hX k j x; omega
  refine ⟨by rw [e1]; exact h1, by rw [e2]; exact h2, by rw [e1, e2]; exact h3, ?_, fun i hi => ?_⟩
  · rw [e1]
    exact (hF.i (hx _ _ (Nat.le_refl _) (Nat.le_add_right _ _))).trans h4
  · rw [e1]
    exact cEd_fr (h5 i hi) hF (fun k k1 k2 => hx _ _ (by omega) (by omega))
theorem kPr_fr2 {Ts : Nat → TRE} {ps : Option (PST × (Nat → Nat))} {σ σ' : zW} {X : Nat → Nat → Prop} (h : kPr Ts ps σ) (hT : kTr Ts σ) (hP : kPt ps σ) (hF : yFr X σ σ') (hX : ∀ k j, X k j → ¬ (k = 1 ∧ (j = 9 ∨ j = 15)) ∧ k ≠ 4 ∧ ¬ (k = 41 ∧ (j = 8 ∨ j = 10 ∨ j = 11)) ∧ ¬ (42 ≤ k ∧ k ≤ 45) ∧ k ≠ 49 ∧ ((5 ≤ k ∧ k ≤ 40) ∨ (68 ≤ k ∧ k ≤ 79) → gR σ 1 8 ≤ k ∧ k ≤ gR σ 1 8 + 11) ∧ ((80 ≤ k ∧ k ≤ 109) → gR σ 1 10 ≤ k ∧ k ≤ gR σ 1 10 + 14)) : kPr Ts ps σ' := by
  have e1 : gR σ' 1 9 = gR σ 1 9 := hF.r (fun x => (hX _ _ x).1 ⟨rfl, Or.inl rfl⟩)
  have e4 : ∀ p, gR σ' 4 p = gR σ 4 p := fun p => hF.r (fun x => (hX _ _ x).2.1 rfl)
  have e15 : gI σ' 1 15 = gI σ 1 15 := hF.i (fun x => (hX _ _ x).1 ⟨rfl, Or.inr rfl⟩)
  rcases h with h | ⟨p, st, pd, m, h1, h2, h3, h4, h5, h6, h7⟩
  · exact Or.inl (e15.trans h)
  · refine Or.inr ⟨p, st, pd, m, h1, h2, e15.trans h3, ?_, h5, (hF.i (fun x => (hX _ _ x).2.2.1 ⟨rfl, Or.inl rfl⟩)).trans h6, fun j hj => (hF.i (fun x => (hX _ _ x).2.2.2.2.1 rfl)).trans (h7 j hj)⟩
    rw [e1, e4]
    obtain ⟨a1, a2, a3⟩ := hT.1 p h1
    have ha : gR σ 4 p = 5 ∨ gR σ 4 p = 17 ∨ gR σ 4 p = 29 ∨ gR σ 4 p = 68 := a1
    have hs : gR σ 1 8 = 5 ∨ gR σ 1 8 = 17 ∨ gR σ 1 8 = 29 ∨ gR σ 1 8 = 68 := hT.2.1
    have hb : gR σ 1 9 = 80 ∨ gR σ 1 9 = 95 := hP.1
    have hb2 : gR σ 1 10 = 80 ∨ gR σ 1 10 = 95 := hP.2.1
    have hb3 := hP.2.2.1
    exact sAll_fr2 h4 hF (fun k j x => by have := hX k j x; omega)
/-- a read that failed: the fault, the tape dropped, the spare objects as they may be -/
theorem CS_fail {S : STA} {u : Nat} {a b : Int} {σ σ' : zW} {X : Nat → Nat → Prop} (hC : CS S u σ) (hF : yFr X σ σ') (h13 : gI σ' 1 13 = a) (h14 : gI σ' 1 14 = b) (h21 : gI σ' 2 1 = 0)
    (hX : ∀ k j, X k j → k ≤ 121 ∧ (k = 1 → j = 13 ∨ j = 14) ∧ k ≠ 3 ∧ k ≠ 4 ∧ ((5 ≤ k ∧ k ≤ 40) ∨ (68 ≤ k ∧ k ≤ 79) → gR σ 1 8 ≤ k ∧ k ≤ gR σ 1 8 + 11) ∧ ((80 ≤ k ∧ k ≤ 109) → gR σ 1 10 ≤ k ∧ k ≤ gR σ 1 10 + 14) ∧ ((110 ≤ k ∧ k ≤ 121) → gR σ 1 12 ≤ k ∧ k ≤ gR σ 1 12 + 5) ∧ ¬ (41 ≤ k ∧ k ≤ 67)) : CS ((qF S, 0), qT S, qP S, qS S, (a, b), qO S, qH S) u σ' := by
  obtain ⟨h1, h2, h3, h4, h5, h6, h7, h8, h9, h10⟩ := hC
  exact ⟨⟨fun i => (hF.i (fun x => by have := hX _ _ x; omega)).trans (h1.1 i), h21, Nat.zero_le _, fun i hi => absurd hi (Nat.not_lt_zero i)⟩, kTr_fr2 h2 hF (fun k j x => by have := hX k j x; omega), kPt_fr2 h3 hF (fun k j x => by have := hX k j x; omega), kSc_fr2 h4 hF (fun k j x => by have := hX k j x; omega), ⟨h13, h14⟩, cO_fr h6 hF (fun k j x => by have := hX k j x; omega), cH_fr h7 hF (fun k j w x => by have := hX k j x; omega), kPr_fr2 h8 h2 h3 hF (fun k j x => by have := hX k j x; omega), kFd_fr h9 hF (fun k j x => by have := hX k j x; omega), kFd_fr h10 hF (fun k j x => by have := hX k j x; omega)⟩
noncomputable def oPlant (S : STA) (z : Int) : OUT := if 0 ≤ z ∧ z < 3 then (match tread (qF S) (qL S) with
  | .inl e => (2, 0, ((qF S, 0), qT S, qP S, qS S, ((e.1 : Int), (e.2 : Int)), qO S, qH S))
  | .inr T => (0, (T.1 : Int), ((qF S, 0), fup (qT S) z.toNat T, qP S, qS S, (0, 0), qO S, fup (qH S) z.toNat []))) else (1, 0, qDr S)
noncomputable def pdO (st : PST) : Nat → Nat := Classical.epsilon (fun pd => pgd st pd)
theorem pdO_g {f : Nat → Int} {L : Nat} {st : PST} (h : pread f L = .inr st) : pgd st (pdO st) := Classical.epsilon_spec (pread_gd h)
noncomputable def oPattern (S : STA) : OUT := match pread (qF S) (qL S) with
  | .inl e => (1, 0, ((qF S, 0), qT S, qP S, qS S, ((e.1 : Int), (e.2 : Int)), qO S, qH S))
  | .inr st => @ite OUT (pw st ∧ pup st ∧ 1 ≤ st.1) (Classical.propDecidable _) (0, (st.2.2.1 : Int), ((qF S, 0), qT S, some (st, pdO st), qS S, (0, 0), qO S, qH S)) (0, 0, S)
noncomputable def oScript (S : STA) : OUT := match sread (qF S) (qL S) with
  | .inl e => (1, 0, ((qF S, 0), qT S, qP S, qS S, ((e.1 : Int), (e.2 : Int)), qO S, qH S))
  | .inr r => @ite OUT (r.1 ≤ 8) (Classical.propDecidable _) (0, (r.1 : Int), ((qF S, 0), qT S, qP S, r, (0, 0), qO S, qH S)) (0, 0, S)
theorem l_script {K : List zF} (hK : K.length + 12 ≤ 60) {S : STA} {u : Nat} {σ : zW} (hC : CS S u σ) (k : kOp κR S u σ K (oScript S)) : zEv true (zent 107 [.inr (.inr 1)] :: K) σ := by
  have hs2 := hC.2.2.2.1.2.1
  rw [ze_107 (by show K.length < 60; omega) hs2]
  unfold oScript at k
  have ht : gR σ 1 12 = 110 ∨ gR σ 1 12 = 116 := hs2
  refine c_script (by show K.length + 1 + 7 ≤ 60; omega) hs2 hC.1 (fun σ1 e he hF1 h3 h4 => ?_) (fun σ1 r hr hF1 h3 h4 h5 h8 hE => ?_)
  · rw [he] at k
    simp only at k
    rw [zr_107_11 (by show K.length < 60; omega)]
    refine c_takeFault (by show K.length + 1 < 60; omega) h3 h4 (fun σ2 hF2 h13 h14 h21 => ?_)
    have hs3 : zSc (gR σ2 1 12) := by rw [hF2.r (by omega), hF1.r (by omega)]; exact hs2
    rw [zr_107_16 hs3, if_neg (fun x => x rfl)]
    have hF : yFr (fun k j => Xss (gR σ 1 12) k j ∨ ((k = 1 ∧ (j = 13 ∨ j = 14)) ∨ (k = 2 ∧ j = 1))) σ σ2 := (hF1.mono (fun k j x => Or.inl x)).trans (hF2.mono (fun k j x => Or.inr x))
    exact k_ex (e := 1) k rfl (by decide) (hF.mono (fun k j x => by omega)) (CS_fail hC hF h13 h14 h21 (fun k j x => by omega)) (Nat.le_refl u)
  · rw [hr] at k
    simp only at k
    rw [if_pos h8] at k
    rw [zr_107_11 (by show K.length < 60; omega)]
    refine c_takeFault (by show K.length + 1 < 60; omega) h3 h4 (fun σ2 hF2 h13 h14 h21 => ?_)
    have e12 : gR σ2 1 12 = gR σ 1 12 := by rw [hF2.r (by omega), hF1.r (by omega)]
    have e11 : gR σ2 1 11 = gR σ 1 11 := by rw [hF2.r (by omega), hF1.r (by omega)]
    have h5' : gI σ2 (gR σ 1 12) 5 = (r.1 : Int) := (hF2.i (by omega)).trans h5
    have hE' : ∀ i, i < r.1 → cEd (gR σ 1 12) i (r.2 i) σ2 := fun i hi => cEd_fr (hE i hi) hF2 (fun k k1 k2 => by omega)
    rw [zr_107_16 (by rw [e12]; exact hs2), if_pos (by decide), e12, e11, h5']
    have hF3 : yFr (fun k j => k = 1 ∧ (j = 11 ∨ j = 12)) σ2 (sR (sR σ2 1 11 (gR σ 1 12)) 1 12 (gR σ 1 11)) := (yFr.rf.R (by omega)).R (by omega)
    have r11 : gR (sR (sR σ2 1 11 (gR σ 1 12)) 1 12 (gR σ 1 11)) 1 11 = gR σ 1 12 := by rw [gR_sR, if_neg (by omega), gR_sR, if_pos ⟨rfl, rfl⟩]
    have r12 : gR (sR (sR σ2 1 11 (gR σ 1 12)) 1 12 (gR σ 1 11)) 1 12 = gR σ 1 11 := by rw [gR_sR, if_pos ⟨rfl, rfl⟩]
    generalize sR (sR σ2 1 11 (gR σ 1 12)) 1 12 (gR σ 1 11) = σ3 at hF3 r11 r12 ⊢
    have hF : yFr (fun k j => Xss (gR σ 1 12) k j ∨ ((k = 1 ∧ (11 ≤ j ∧ j ≤ 14)) ∨ (k = 2 ∧ j = 1))) σ σ3 := ((hF1.mono (fun k j x => Or.inl x)).trans (hF2.mono (fun k j x => by omega))).trans (hF3.mono (fun k j x => by omega))
    obtain ⟨b1, b2, b3, b4, b5, b6, b7, b8, b9, b10⟩ := hC
    refine k_ok k rfl rfl (hF.mono (fun k j x => by omega)) (u' := u) ⟨⟨fun i => (hF.i (by omega)).trans (b1.1 i), (hF3.i (by omega)).trans h21, Nat.zero_le _, fun i hi => absurd hi (Nat.not_lt_zero i)⟩, kTr_fr b2 hF (fun k j x => by omega), kPt_fr b3 hF (fun k j x => by omega), ⟨by rw [r11]; exact hs2, by rw [r12]; exact b4.1, by rw [r11, r12]; exact fun x => b4.2.2.1 x.symm, ?_, fun i hi => ?_⟩, ⟨(hF3.i (by omega)).trans h13, (hF3.i (by omega)).trans h14⟩, cO_fr b6 hF (fun k j x => by omega), cH_fr b7 hF (fun k j w x => by omega), kPr_fr b8 hF (fun k j x => by omega), kFd_fr b9 hF (fun k j x => by omega), kFd_fr b10 hF (fun k j x => by omega)⟩ (Nat.le_refl u)
    · rw [r11]; exact (hF3.i (by omega)).trans h5'
    · rw [r11]; exact cEd_fr (hE' i hi) hF3 (fun k k1 k2 => by omega)
theorem l_pattern {K : List zF} (hK : K.length + 12 ≤ 60) {S : STA} {u : Nat} {σ : zW} (hC : CS S u σ) (k : kOp κR S u σ K (oPattern S)) : zEv true (zent 106 [.inr (.inr 1)] :: K) σ := by
  have hs2 := hC.2.2.1.2.1
  rw [ze_106 (by show K.length < 60; omega) hs2]
  unfold oPattern at k
  have ht : gR σ 1 10 = 80 ∨ gR σ 1 10 = 95 := hs2
  have ht9 : gR σ 1 9 = 80 ∨ gR σ 1 9 = 95 := hC.2.2.1.1
  refine c_pattern (by show K.length + 1 + 7 ≤ 60; omega) hs2 hC.1 (fun σ1 e he hF1 h3 h4 => ?_) (fun σ1 st hr hF1 h3 h4 hP hw hup h1c hpa => ?_)
  · rw [he] at k
    simp only at k
    rw [zr_106_11 (by show K.length < 60; omega)]
    refine c_takeFault (by show K.length + 1 < 60; omega) h3 h4 (fun σ2 hF2 h13 h14 h21 => ?_)
    rw [zr_106_16 (by show K.length < 60; omega), if_neg (fun x => x rfl)]
    have hF : yFr (fun k j => Xpt (gR σ 1 10) k j ∨ ((k = 1 ∧ (j = 13 ∨ j = 14)) ∨ (k = 2 ∧ j = 1))) σ σ2 := (hF1.mono (fun k j x => Or.inl x)).trans (hF2.mono (fun k j x => Or.inr x))
    exact k_ex (e := 1) k rfl (by decide) (hF.mono (fun k j x => by omega)) (CS_fail hC hF h13 h14 h21 (fun k j x => by omega)) (Nat.le_refl u)
  · rw [hr] at k
    simp only at k
    rw [if_pos ⟨hw, hup, h1c⟩] at k
    have hg := pdO_g hr
    rw [zr_106_11 (by show K.length < 60; omega)]
    refine c_takeFault (by show K.length + 1 < 60; omega) h3 h4 (fun σ2 hF2 h13 h14 h21 => ?_)
    have e9 : gR σ2 1 9 = gR σ 1 9 := by rw [hF2.r (by omega), hF1.r (by omega)]
    have e10 : gR σ2 1 10 = gR σ 1 10 := by rw [hF2.r (by omega), hF1.r (by omega)]
    have hP2 := cP_fr2 hP hF2 (fun k j k1 k2 => by omega)
    have hA2 : ∀ j, j < st.1 → gI σ2 (gR σ 1 10 + 10) j = (ed (pdO st) st.1 j : Nat) := fun j hj => (hF2.i (by omega)).trans ((hpa j hj).trans (pst_ed hg hj))
    rw [zr_106_16 (by show K.length < 60; omega), if_pos (by decide), e9, e10]
    have hF3 : yFr (fun k j => k = 1 ∧ (j = 9 ∨ j = 10)) σ2 (sR (sR σ2 1 9 (gR σ 1 10)) 1 10 (gR σ 1 9)) := (yFr.rf.R (by omega)).R (by omega)
    have r9 : gR (sR (sR σ2 1 9 (gR σ 1 10)) 1 10 (gR σ 1 9)) 1 9 = gR σ 1 10 := by rw [gR_sR, if_neg (by omega), gR_sR, if_pos ⟨rfl, rfl⟩]
    have r10 : gR (sR (sR σ2 1 9 (gR σ 1 10)) 1 10 (gR σ 1 9)) 1 10 = gR σ 1 9 := by rw [gR_sR, if_pos ⟨rfl, rfl⟩]
    generalize sR (sR σ2 1 9 (gR σ 1 10)) 1 10 (gR σ 1 9) = σ3 at hF3 r9 r10 ⊢
    refine c_forget (fun σ4 hF4 f1 f2 f3 => ?_)
    have q9 : gR σ4 1 9 = gR σ 1 10 := by rw [hF4.r (by omega), r9]
    have q10 : gR σ4 1 10 = gR σ 1 9 := by rw [hF4.r (by omega), r10]
    have hF34 : yFr (fun k j => (k = 1 ∧ (j = 9 ∨ j = 10 ∨ j = 15)) ∨ (k = 50 ∧ j = 1) ∨ (k = 52 ∧ j = 1)) σ2 σ4 := (hF3.mono (fun k j x => by omega)).trans (hF4.mono (fun k j x => by omega))
    have hP4 := cP_fr2 hP2 hF34 (fun k j k1 k2 => by omega)
    rw [zr_106_52 (by rw [q9]; exact hs2), q9, hP4.2.2.1]
    have hF : yFr (fun k j => Xpt (gR σ 1 10) k j ∨ ((k = 1 ∧ (9 ≤ j ∧ j ≤ 15 ∧ j ≠ 11 ∧ j ≠ 12)) ∨ (k = 2 ∧ j = 1)) ∨ (k = 50 ∧ j = 1) ∨ (k = 52 ∧ j = 1)) σ σ4 := ((hF1.mono (fun k j x => Or.inl x)).trans (hF2.mono (fun k j x => by omega))).trans (hF34.mono (fun k j x => by omega))
    obtain ⟨b1, b2, b3, b4, b5, b6, b7, b8, b9, b10⟩ := hC
    refine k_ok k rfl rfl (hF.mono (fun k j x => by omega)) (u' := u) ⟨⟨fun i => (hF.i (by omega)).trans (b1.1 i), (hF34.i (by omega)).trans h21, Nat.zero_le _, fun i hi => absurd hi (Nat.not_lt_zero i)⟩, kTr_fr b2 hF (fun k j x => by omega), ⟨by rw [q9]; exact hs2, by rw [q10]; exact b3.1, by rw [q9, q10]; exact fun x => b3.2.2.1 x.symm, fun x => (by cases x), fun st' pd' x => ?_⟩, kSc_fr b4 hF (fun k j x => by omega), ⟨(hF34.i (by omega)).trans h13, (hF34.i (by omega)).trans h14⟩, cO_fr b6 hF (fun k j x => by omega), cH_fr b7 hF (fun k j w x => by omega), Or.inl f1, Or.inl f2, Or.inl f3⟩ (Nat.le_refl u)
    have x1 := congrArg Prod.fst (Option.some.inj x)
    have x2 := congrArg Prod.snd (Option.some.inj x)
    simp only at x1 x2
    rw [← x1, ← x2, q9]
    exact ⟨hP4, fun j hj => (hF34.i (by omega)).trans (hA2 j hj)⟩
