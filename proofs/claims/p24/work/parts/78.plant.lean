/-! the calls of the class that change a tree -/
theorem kTr_put {Ts : Nat → TRE} {p : Nat} {T : TRE} {σ σ' : zW} {X : Nat → Nat → Prop} (h : kTr Ts σ) (hp : p < 3) (hF : yFr X σ σ') (hT : cTr (gR σ 4 p) T σ') (hX : ∀ k j, X k j → k ≠ 4 ∧ ¬ (k = 1 ∧ j = 8) ∧ ((5 ≤ k ∧ k ≤ 40) ∨ (68 ≤ k ∧ k ≤ 79) → gR σ 4 p ≤ k ∧ k ≤ gR σ 4 p + 11)) : kTr (fup Ts p T) σ' := by
  have e4 : ∀ p, gR σ' 4 p = gR σ 4 p := fun p => hF.r (fun x => (hX _ _ x).1 rfl)
  have e1 : gR σ' 1 8 = gR σ 1 8 := hF.r (fun x => (hX _ _ x).2.1 ⟨rfl, rfl⟩)
  obtain ⟨h1, h2, h3⟩ := h
  refine ⟨fun q hq => ?_, by rw [e1]; exact h2, fun p q hp hq hpq => by rw [e4, e4]; exact h3 p q hp hq hpq⟩
  obtain ⟨a, b, c⟩ := h1 q hq
  rw [e4, e1]
  refine ⟨a, ?_, c⟩
  by_cases e : q = p
  · rw [e, fup_eq]; exact hT
  · rw [fup_ne e]
    refine cTr_fr b hF (fun k j w x => ?_)
    have hx := hX k j x
    have hne := h3 q p hq hp e
    have ha : gR σ 4 q = 5 ∨ gR σ 4 q = 17 ∨ gR σ 4 q = 29 ∨ gR σ 4 q = 68 := a
    have hs : gR σ 4 p = 5 ∨ gR σ 4 p = 17 ∨ gR σ 4 p = 29 ∨ gR σ 4 p = 68 := (h1 p hp).1
    omega
noncomputable def oUndo (S : STA) (z : Int) : OUT := if 0 ≤ z ∧ z < 3 then (match qH S z.toNat with
  | [] => (2, 0, S)
  | T :: l => (0, (T.1 : Int), (S.1, fup (qT S) z.toNat T, qP S, qS S, qX S, qO S, fup (qH S) z.toNat l))) else (1, 0, S)
theorem l_undo {K : List zF} (hK : K.length + 12 ≤ 60) {S : STA} {u : Nat} {z : Int} {σ : zW} (hC : CS S u σ) (hu : u ≤ 512) (k : kOp κP S u σ K (oUndo S z)) : zEv true (zent 121 [.inr (.inr 1), .inl z] :: K) σ := by
  rw [ze_121 (by show K.length < 60; omega), c_requirePlace (by show K.length + 1 < 60; omega)]
  unfold oUndo at k
  by_cases hp : 0 ≤ z ∧ z < 3
  · rw [if_pos hp] at k ⊢
    obtain ⟨p, rfl⟩ : ∃ p : Nat, z = p := ⟨z.toNat, by omega⟩
    have hp3 : p < 3 := by omega
    obtain ⟨t1, t2, t3⟩ := hC.2.1.1 p hp3
    have ht : gR σ 4 p = 5 ∨ gR σ 4 p = 17 ∨ gR σ 4 p = 29 ∨ gR σ 4 p = 68 := t1
    rw [Int.toNat_natCast] at k
    rw [zr_121_4 (by show K.length < 60; omega), yAnd hp, Int.toNat_natCast]
    obtain ⟨b1, b2, b3, b4, b5, b6, b7, b8, b9, b10⟩ := id hC
    refine c_giveBack (by show K.length + 1 + 4 ≤ 60; omega) hp3 t1 hu b7 (fun he => ?_) (fun T l σ1 he hT hF1 hT1 hH1 => ?_)
    · rw [he] at k
      simp only at k
      rw [zr_121_18 (by show K.length < 60; omega), if_neg (fun x => x rfl)]
      exact k_ex (e := 2) k rfl (by decide) yFr.rf hC (Nat.le_refl u)
    · rw [he] at k
      simp only at k
      rw [zr_121_18 (by show K.length < 60; omega), if_pos (by decide)]
      refine c_forget (fun σ2 hF2 f1 f2 f3 => ?_)
      have hF : yFr (fun k j => ((k = 65 ∧ j = p) ∨ (gR σ 4 p + 1 ≤ k ∧ k ≤ gR σ 4 p + 11) ∨ (k = gR σ 4 p ∧ 11 ≤ j)) ∨ (k = 1 ∧ j = 15) ∨ (k = 50 ∧ j = 1) ∨ (k = 52 ∧ j = 1)) σ σ2 := (hF1.mono (fun k j x => Or.inl x)).trans (hF2.mono (fun k j x => Or.inr x))
      have hT2 : cTr (gR σ 4 p) T σ2 := cTr_fr hT1 hF2 (fun k j w x => by omega)
      have hK2 := kTr_put b2 hp3 hF hT2 (fun k j x => by omega)
      have e4 : gR σ2 4 p = gR σ 4 p := hF.r (by omega)
      rw [zr_121_36 (by rw [Int.toNat_natCast, e4]; exact t1), yAnd hp, Int.toNat_natCast, e4, hT2.1.1]
      exact k_ok k rfl rfl (hF.mono (fun k j x => by omega)) (u' := u) ⟨cT_fr b1 hF (fun k j x => by omega), hK2, kPt_fr b3 hF (fun k j x => by omega), kSc_fr b4 hF (fun k j x => by omega), kFl_fr b5 hF (fun k j x => by omega), cO_fr b6 hF (fun k j x => by omega), cH_fr hH1 hF2 (fun k j w x => by omega), Or.inl f1, Or.inl f2, Or.inl f3⟩ (Nat.le_refl u)
  · rw [if_neg hp] at k ⊢
    rw [zThr_no (m := 121) rfl]
    exact k_ex (e := 1) k rfl (by decide) yFr.rf hC (Nat.le_refl u)
theorem c_isNoPlace {K : List zF} {z : Int} {σ : zW} : zEv true (zent 125 [.inl z] :: K) σ = zRet true K (some (.inl (if 0 ≤ z ∧ z < 3 then 0 else 1))) σ := by
  rw [ze_125]
  by_cases h1 : z < 0
  · rw [if_pos h1, if_neg (by omega)]
  · rw [if_neg h1]
    by_cases h2 : z < 3
    · rw [if_pos h2, if_pos ⟨by omega, h2⟩]
    · rw [if_neg h2, if_neg (fun x => h2 x.2)]
theorem l_plant {K : List zF} (hK : K.length + 12 ≤ 60) {S : STA} {u : Nat} {z : Int} {σ : zW} (hC : CS S u σ) (k : kOp κP S u σ K (oPlant S z)) : zEv true (zent 105 [.inr (.inr 1), .inl z] :: K) σ := by
  have hs2 := hC.2.1.2.1
  have ht : gR σ 1 8 = 5 ∨ gR σ 1 8 = 17 ∨ gR σ 1 8 = 29 ∨ gR σ 1 8 = 68 := hs2
  rw [ze_105 (by show K.length < 60; omega), c_isNoPlace, zr_105_4 (by show K.length < 60; omega) hs2]
  unfold oPlant at k
  by_cases hp : 0 ≤ z ∧ z < 3
  · rw [if_pos hp] at k ⊢
    obtain ⟨p, rfl⟩ : ∃ p : Nat, z = p := ⟨z.toNat, by omega⟩
    have hp3 : p < 3 := by omega
    obtain ⟨t1, t2, t3⟩ := hC.2.1.1 p hp3
    have htp : gR σ 4 p = 5 ∨ gR σ 4 p = 17 ∨ gR σ 4 p = 29 ∨ gR σ 4 p = 68 := t1
    rw [Int.toNat_natCast] at k
    rw [if_pos rfl]
    refine c_tree (by show K.length + 1 + 4 ≤ 60; omega) hs2 hC.1 (fun σ1 e he hF1 h3 h4 => ?_) (fun σ1 T hr hF1 h3 h4 hR => ?_)
    · rw [he] at k
      simp only at k
      rw [zr_105_35 (by show K.length < 60; omega)]
      refine c_takeFault (by show K.length + 1 < 60; omega) h3 h4 (fun σ2 hF2 h13 h14 h21 => ?_)
      have e8 : gR σ2 1 8 = gR σ 1 8 := by rw [hF2.r (by omega), hF1.r (by omega)]
      rw [zr_105_40 (by show K.length < 60; omega) (by rw [e8]; exact hs2), if_neg (fun x => x rfl)]
      have hF : yFr (fun k j => Xrd (gR σ 1 8) k j ∨ ((k = 1 ∧ (j = 13 ∨ j = 14)) ∨ (k = 2 ∧ j = 1))) σ σ2 := (hF1.mono (fun k j x => Or.inl x)).trans (hF2.mono (fun k j x => Or.inr x))
      exact k_ex (e := 2) k rfl (by decide) (hF.mono (fun k j x => by omega)) (CS_fail hC hF h13 h14 h21 (fun k j x => by omega)) (Nat.le_refl u)
    · rw [hr] at k
      simp only at k
      have hgT := tread_gd hr
      rw [zr_105_35 (by show K.length < 60; omega)]
      refine c_takeFault (by show K.length + 1 < 60; omega) h3 h4 (fun σ2 hF2 h13 h14 h21 => ?_)
      have e8 : gR σ2 1 8 = gR σ 1 8 := by rw [hF2.r (by omega), hF1.r (by omega)]
      have e4 : ∀ q, gR σ2 4 q = gR σ 4 q := fun q => by rw [hF2.r (by omega), hF1.r (by omega)]
      rw [zr_105_40 (by show K.length < 60; omega) (by rw [e8]; exact hs2), if_pos (by decide), yAnd hp, yAnd hp, yAnd hp, Int.toNat_natCast, e8, e4]
      have hF3 : yFr (fun k j => (k = 4 ∧ j = p) ∨ (k = 1 ∧ j = 8)) σ2 (sR (sR σ2 4 p (gR σ 1 8)) 1 8 (gR σ 4 p)) := (yFr.rf.R (by omega)).R (by omega)
      have r4 : gR (sR (sR σ2 4 p (gR σ 1 8)) 1 8 (gR σ 4 p)) 4 p = gR σ 1 8 := by rw [gR_sR, if_neg (by omega), gR_sR, if_pos ⟨rfl, rfl⟩]
      have r8 : gR (sR (sR σ2 4 p (gR σ 1 8)) 1 8 (gR σ 4 p)) 1 8 = gR σ 4 p := by rw [gR_sR, if_pos ⟨rfl, rfl⟩]
      generalize sR (sR σ2 4 p (gR σ 1 8)) 1 8 (gR σ 4 p) = σ3 at hF3 r4 r8 ⊢
      have hF23 : yFr (fun k j => (k = 1 ∧ (j = 8 ∨ j = 13 ∨ j = 14)) ∨ (k = 2 ∧ j = 1) ∨ (k = 4 ∧ j = p)) σ1 σ3 := (hF2.mono (fun k j x => by omega)).trans (hF3.mono (fun k j x => by omega))
      have hR3 : cRows (gR σ 1 8) T.1 T.2.1 T.2.2 σ3 := ⟨(hF23.i (by omega)).trans hR.1, fun i hi => ⟨(hF23.l (by omega)).trans (hR.2 i hi).1, (hF23.i (by omega)).trans (hR.2 i hi).2⟩⟩
      refine c_settle_tree (by show K.length + 1 + 3 ≤ 60; omega) hs2 hgT.1 hR3 (fun σ4 hF4 hT4 => ?_)
      rw [zr_105_85 (by show K.length < 60; omega)]
      have hF14 : yFr (fun k j => ((k = 1 ∧ (j = 8 ∨ j = 13 ∨ j = 14)) ∨ (k = 2 ∧ j = 1) ∨ (k = 4 ∧ j = p)) ∨ Xst (gR σ 1 8) k j) σ1 σ4 := (hF23.mono (fun k j x => Or.inl x)).trans (hF4.mono (fun k j x => Or.inr x))
      have hF04 : yFr (fun k j => ((k = 1 ∧ (j = 8 ∨ j = 13 ∨ j = 14)) ∨ (k = 2 ∧ 1 ≤ j ∧ j ≤ 4) ∨ (k = 4 ∧ j = p)) ∨ (gR σ 1 8 ≤ k ∧ k ≤ gR σ 1 8 + 11)) σ σ4 := (hF1.mono (fun k j x => by omega)).trans (hF14.mono (fun k j x => by omega))
      obtain ⟨b1, b2, b3, b4, b5, b6, b7, b8, b9, b10⟩ := id hC
      have hH4 := cH_fr b7 hF04 (fun k j w x => by omega)
      refine c_hclear hp3 hH4 (fun σ5 hF5 hH5 => ?_)
      rw [zr_105_93 (by show K.length < 60; omega)]
      refine c_forget (fun σ6 hF6 f1 f2 f3 => ?_)
      have hF46 : yFr (fun k j => (k = 65 ∧ j = p) ∨ (k = 1 ∧ j = 15) ∨ (k = 50 ∧ j = 1) ∨ (k = 52 ∧ j = 1)) σ4 σ6 := (hF5.mono (fun k j x => by omega)).trans (hF6.mono (fun k j x => by omega))
      have hF06 : yFr (fun k j => (((k = 1 ∧ (j = 8 ∨ j = 13 ∨ j = 14)) ∨ (k = 2 ∧ 1 ≤ j ∧ j ≤ 4) ∨ (k = 4 ∧ j = p)) ∨ (gR σ 1 8 ≤ k ∧ k ≤ gR σ 1 8 + 11)) ∨ ((k = 65 ∧ j = p) ∨ (k = 1 ∧ j = 15) ∨ (k = 50 ∧ j = 1) ∨ (k = 52 ∧ j = 1))) σ σ6 := (hF04.mono (fun k j x => Or.inl x)).trans (hF46.mono (fun k j x => Or.inr x))
      have q4 : gR σ6 4 p = gR σ 1 8 := by rw [hF46.r (by omega), hF4.r (by omega), r4]
      have q8 : gR σ6 1 8 = gR σ 4 p := by rw [hF46.r (by omega), hF4.r (by omega), r8]
      have q4n : ∀ q, q ≠ p → gR σ6 4 q = gR σ 4 q := fun q hq => hF06.r (by omega)
      have hT6 : cTr (gR σ 1 8) T σ6 := cTr_fr hT4 hF46 (fun k j w x => by omega)
      have hK6 : kTr (fup (qT S) p T) σ6 := by
        refine ⟨fun q hq => ?_, by rw [q8]; exact t1, fun a b ha hb hab => ?_⟩
        · by_cases e : q = p
          · rw [e, q4, fup_eq, q8]
            exact ⟨hs2, hT6, fun x => t3 x.symm⟩
          · obtain ⟨a1, a2, a3⟩ := b2.1 q hq
            have hne := b2.2.2 q p hq hp3 e
            have ha : gR σ 4 q = 5 ∨ gR σ 4 q = 17 ∨ gR σ 4 q = 29 ∨ gR σ 4 q = 68 := a1
            rw [q4n q e, fup_ne e, q8]
            exact ⟨a1, cTr_fr a2 hF06 (fun k j w x => by omega), hne⟩
        · by_cases ea : a = p
          · have eb : b ≠ p := fun x => hab (ea.trans x.symm)
            rw [ea, q4, q4n b eb]
            exact fun x => (b2.1 b hb).2.2 x.symm
          · rw [q4n a ea]
            by_cases eb : b = p
            · rw [eb, q4]; exact (b2.1 a ha).2.2
            · rw [q4n b eb]; exact b2.2.2 a b ha hb hab
      rw [zr_105_97 (by rw [Int.toNat_natCast, q4]; exact hs2), yAnd hp, Int.toNat_natCast, q4, hT6.1.1]
      have hF26 : yFr (fun k j => (k = 1 ∧ (j = 8 ∨ j = 15)) ∨ (k = 4 ∧ j = p) ∨ Xst (gR σ 1 8) k j ∨ (k = 65 ∧ j = p) ∨ (k = 50 ∧ j = 1) ∨ (k = 52 ∧ j = 1)) σ2 σ6 := ((hF3.mono (fun k j x => by omega)).trans (hF4.mono (fun k j x => Or.inr (Or.inr (Or.inl x))))).trans (hF46.mono (fun k j x => by omega))
      exact k_ok k rfl rfl (hF06.mono (fun k j x => by omega)) (u' := u) ⟨⟨fun i => (hF06.i (by omega)).trans (b1.1 i), (hF26.i (by omega)).trans h21, Nat.zero_le _, fun i hi => absurd hi (Nat.not_lt_zero i)⟩, hK6, kPt_fr b3 hF06 (fun k j x => by omega), kSc_fr b4 hF06 (fun k j x => by omega), ⟨(hF26.i (by omega)).trans h13, (hF26.i (by omega)).trans h14⟩, cO_fr b6 hF06 (fun k j x => by omega), cH_fr hH5 hF6 (fun k j w x => by omega), Or.inl f1, Or.inl f2, Or.inl f3⟩ (Nat.le_refl u)
  · rw [if_neg hp] at k ⊢
    obtain ⟨hF1, hC1⟩ := CS_drop hC
    rw [if_neg (by decide), c_drop, zr_105_14]
    exact k_ex (e := 1) k rfl (by decide) (hF1.mono (fun k j x => by omega)) hC1 (Nat.le_refl u)
