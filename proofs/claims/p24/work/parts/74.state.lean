/-! the state that the class and the model share -/
abbrev STA : Type := ((Nat → Int) × Nat) × (Nat → TRE) × Option (PST × (Nat → Nat)) × (Nat × (Nat → EDT)) × (Int × Int) × TX × (Nat → List TRE)
abbrev qF (S : STA) : Nat → Int := S.1.1
abbrev qL (S : STA) : Nat := S.1.2
abbrev qT (S : STA) : Nat → TRE := S.2.1
abbrev qP (S : STA) : Option (PST × (Nat → Nat)) := S.2.2.1
abbrev qS (S : STA) : Nat × (Nat → EDT) := S.2.2.2.1
abbrev qX (S : STA) : Int × Int := S.2.2.2.2.1
abbrev qO (S : STA) : TX := S.2.2.2.2.2.1
abbrev qH (S : STA) : Nat → List TRE := S.2.2.2.2.2.2
def SG (S : STA) : Prop := (∀ p, p < 3 → tgd (qT S p)) ∧ (∀ st pd, qP S = some (st, pd) → pgd st pd ∧ pw st ∧ pup st ∧ 1 ≤ st.1 ∧ st.2.1 ≤ 300) ∧ (qS S).1 ≤ 8 ∧ (∀ i, i < (qS S).1 → egd ((qS S).2 i)) ∧ (qO S).1 ≤ 184
def kTr (Ts : Nat → TRE) (σ : zW) : Prop := (∀ p, p < 3 → zTr (gR σ 4 p) ∧ cTr (gR σ 4 p) (Ts p) σ ∧ gR σ 4 p ≠ gR σ 1 8) ∧ zTr (gR σ 1 8) ∧ ∀ p q, p < 3 → q < 3 → p ≠ q → gR σ 4 p ≠ gR σ 4 q
def kPt (ps : Option (PST × (Nat → Nat))) (σ : zW) : Prop := zPn (gR σ 1 9) ∧ zPn (gR σ 1 10) ∧ gR σ 1 9 ≠ gR σ 1 10 ∧ (ps = none → gI σ (gR σ 1 9) 15 = 0 ∧ gI σ (gR σ 1 9) 16 = 0) ∧ ∀ st pd, ps = some (st, pd) → cP (gR σ 1 9) st σ ∧ cPa (gR σ 1 9) st pd σ
def kSc (sc : Nat × (Nat → EDT)) (σ : zW) : Prop := zSc (gR σ 1 11) ∧ zSc (gR σ 1 12) ∧ gR σ 1 11 ≠ gR σ 1 12 ∧ gI σ (gR σ 1 11) 5 = (sc.1 : Int) ∧ ∀ i, i < sc.1 → cEd (gR σ 1 11) i (sc.2 i) σ
def kFl (x : Int × Int) (σ : zW) : Prop := gI σ 1 13 = x.1 ∧ gI σ 1 14 = x.2
def plK (T : TRE) (st : PST) (m : Nat) : Prop := m ≤ st.2.2.1 ∧ (∀ j, j < m → bst T st (chs T st j) st.2.2.1 ≠ -1) ∧ bst T st (chs T st m) st.2.2.1 = -1
def kPr (Ts : Nat → TRE) (ps : Option (PST × (Nat → Nat))) (σ : zW) : Prop := gI σ 1 15 = -1 ∨ ∃ (p : Nat) (st : PST) (pd : Nat → Nat) (m : Nat), p < 3 ∧ ps = some (st, pd) ∧ gI σ 1 15 = (p : Int) ∧ sAll (gR σ 4 p) (gR σ 1 9) (Ts p) st pd σ ∧ plK (Ts p) st m ∧ gI σ 41 8 = (m : Int) ∧ ∀ j, j < m → gI σ 49 j = (pl (Ts p) st j : Int)
def nPs (ps : Option (PST × (Nat → Nat))) : Nat := match ps with
  | none => 0
  | some x => x.1.2.2.1
def mPs (T : TRE) (ps : Option (PST × (Nat → Nat))) (c : Nat) : Prop := match ps with
  | none => False
  | some x => MT T x.1 c
def kFd (tf : Nat) (Ts : Nat → TRE) (ps : Option (PST × (Nat → Nat))) (σ : zW) : Prop := gI σ tf 1 = -1 ∨ ∃ p : Nat, p < 3 ∧ gI σ tf 1 = (p : Int) ∧ fdS tf ((Ts p).1 + 1) (nPs ps) (mPs (Ts p) ps) σ
def CS (S : STA) (u : Nat) (σ : zW) : Prop := cT (qF S) (qL S) σ ∧ kTr (qT S) σ ∧ kPt (qP S) σ ∧ kSc (qS S) σ ∧ kFl (qX S) σ ∧ cO (qO S) σ ∧ cH u (qH S) σ ∧ kPr (qT S) (qP S) σ ∧ kFd 50 (qT S) (qP S) σ ∧ kFd 52 (qT S) (qP S) σ
/-- cells of the class that hold nothing that is kept -/
def Xcf (k j : Nat) : Prop := 122 ≤ k ∨ (k = 2 ∧ 2 ≤ j ∧ j ≤ 4) ∨ (k = 41 ∧ (j = 9 ∨ j = 12)) ∨ (46 ≤ k ∧ k ≤ 48) ∨ (54 ≤ k ∧ k ≤ 60)
theorem kTr_fr {Ts : Nat → TRE} {σ σ' : zW} {X : Nat → Nat → Prop} (h : kTr Ts σ) (hF : yFr X σ σ') (hX : ∀ k j, X k j → k ≠ 4 ∧ ¬ (k = 1 ∧ j = 8) ∧ ¬ (5 ≤ k ∧ k ≤ 40) ∧ ¬ (68 ≤ k ∧ k ≤ 79)) : kTr Ts σ' := by
  have e4 : ∀ p, gR σ' 4 p = gR σ 4 p := fun p => hF.r (fun x => (hX _ _ x).1 rfl)
  have e1 : gR σ' 1 8 = gR σ 1 8 := hF.r (fun x => (hX _ _ x).2.1 ⟨rfl, rfl⟩)
  obtain ⟨h1, h2, h3⟩ := h
  refine ⟨fun p hp => ?_, by rw [e1]; exact h2, fun p q hp hq hpq => by rw [e4, e4]; exact h3 p q hp hq hpq⟩
  obtain ⟨a, b, c⟩ := h1 p hp
  rw [e4, e1]
  refine ⟨a, cTr_fr b hF (fun k j w x => ?_), c⟩
  have hx := hX k j x
  have ha : gR σ 4 p = 5 ∨ gR σ 4 p = 17 ∨ gR σ 4 p = 29 ∨ gR σ 4 p = 68 := a
  omega
theorem kPt_fr {ps : Option (PST × (Nat → Nat))} {σ σ' : zW} {X : Nat → Nat → Prop} (h : kPt ps σ) (hF : yFr X σ σ') (hX : ∀ k j, X k j → ¬ (k = 1 ∧ (j = 9 ∨ j = 10)) ∧ ¬ (80 ≤ k ∧ k ≤ 109)) : kPt ps σ' := by
  have e1 : gR σ' 1 9 = gR σ 1 9 := hF.r (fun x => (hX _ _ x).1 ⟨rfl, Or.inl rfl⟩)
  have e2 : gR σ' 1 10 = gR σ 1 10 := hF.r (fun x => (hX _ _ x).1 ⟨rfl, Or.inr rfl⟩)
  obtain ⟨h1, h2, h3, h4, h5⟩ := h
  have ha : gR σ 1 9 = 80 ∨ gR σ 1 9 = 95 := h1
  have hx : ∀ k j, gR σ 1 9 ≤ k → k ≤ gR σ 1 9 + 14 → ¬ X k j := fun k j a b x => by have := hX k j x; omega
  refine ⟨by rw [e1]; exact h1, by rw [e2]; exact h2, by rw [e1, e2]; exact h3, fun e => ?_, fun st pd e => ?_⟩
  · rw [e1]
    obtain ⟨a, b⟩ := h4 e
    exact ⟨(hF.i (hx _ _ (Nat.le_refl _) (Nat.le_add_right _ _))).trans a, (hF.i (hx _ _ (Nat.le_refl _) (Nat.le_add_right _ _))).trans b⟩
  · rw [e1]
    obtain ⟨a, b⟩ := h5 st pd e
    exact ⟨cP_fr2 a hF hx, fun j hj => (hF.i (hx _ _ (by omega) (by omega))).trans (b j hj)⟩
theorem kSc_fr {sc : Nat × (Nat → EDT)} {σ σ' : zW} {X : Nat → Nat → Prop} (h : kSc sc σ) (hF : yFr X σ σ') (hX : ∀ k j, X k j → ¬ (k = 1 ∧ (j = 11 ∨ j = 12)) ∧ ¬ (110 ≤ k ∧ k ≤ 121)) : kSc sc σ' := by
  have e1 : gR σ' 1 11 = gR σ 1 11 := hF.r (fun x => (hX _ _ x).1 ⟨rfl, Or.inl rfl⟩)
  have e2 : gR σ' 1 12 = gR σ 1 12 := hF.r (fun x => (hX _ _ x).1 ⟨rfl, Or.inr rfl⟩)
  obtain ⟨h1, h2, h3, h4, h5⟩ := h
  have ha : gR σ 1 11 = 110 ∨ gR σ 1 11 = 116 := h1
  have hx : ∀ k j, gR σ 1 11 ≤ k → k ≤ gR σ 1 11 + 5 → ¬ X k j := fun k j a b x => by have := hX k j x; omega
  refine ⟨by rw [e1]; exact h1, by rw [e2]; exact h2, by rw [e1, e2]; exact h3, ?_, fun i hi => ?_⟩
  · rw [e1]
    exact (hF.i (hx _ _ (Nat.le_refl _) (Nat.le_add_right _ _))).trans h4
  · rw [e1]
    exact cEd_fr (h5 i hi) hF (fun k k1 k2 => hx _ _ (by omega) (by omega))
theorem kFl_fr {x : Int × Int} {σ σ' : zW} {X : Nat → Nat → Prop} (h : kFl x σ) (hF : yFr X σ σ') (hX : ∀ k j, X k j → ¬ (k = 1 ∧ (j = 13 ∨ j = 14))) : kFl x σ' := ⟨(hF.i (fun w => hX _ _ w ⟨rfl, Or.inl rfl⟩)).trans h.1, (hF.i (fun w => hX _ _ w ⟨rfl, Or.inr rfl⟩)).trans h.2⟩
theorem cO_fr {x : TX} {σ σ' : zW} {X : Nat → Nat → Prop} (h : cO x σ) (hF : yFr X σ σ') (hX : ∀ k j, X k j → ¬ (k = 66 ∧ j = 1) ∧ k ≠ 67) : cO x σ' := ⟨(hF.i (fun w => (hX _ _ w).1 ⟨rfl, rfl⟩)).trans h.1, fun j hj => (hF.i (fun w => (hX _ _ w).2 rfl)).trans (h.2 j hj)⟩
theorem sAll_fr2 {t tp : Nat} {T : TRE} {st : PST} {pd : Nat → Nat} {σ σ' : zW} {X : Nat → Nat → Prop} (h : sAll t tp T st pd σ) (hF : yFr X σ σ') (hX : ∀ k j, X k j → ¬ (k = 41 ∧ (j = 10 ∨ j = 11)) ∧ ¬ (42 ≤ k ∧ k ≤ 45) ∧ ¬ (t ≤ k ∧ k ≤ t + 11) ∧ ¬ (tp ≤ k ∧ k ≤ tp + 14)) : sAll t tp T st pd σ' := by
  obtain ⟨⟨s1, s2, s3, s4, s5, s6⟩, h2, h3⟩ := h
  refine ⟨⟨s1, s2, (hF.r (fun x => (hX _ _ x).1 ⟨rfl, Or.inl rfl⟩)).trans s3, (hF.r (fun x => (hX _ _ x).1 ⟨rfl, Or.inr rfl⟩)).trans s4, cTr_fr s5 hF (fun k j w x => (hX k j x).2.2.1 (by omega)), cP_fr2 s6 hF (fun k j k1 k2 x => (hX k j x).2.2.2 ⟨k1, k2⟩)⟩, fun j hj => (hF.i (fun x => (hX _ _ x).2.2.2 ⟨by omega, by omega⟩)).trans (h2 j hj), sPr_fr h3 hF (fun k j x => by have := (hX k j x).2.1; omega)⟩
theorem kPr_fr {Ts : Nat → TRE} {ps : Option (PST × (Nat → Nat))} {σ σ' : zW} {X : Nat → Nat → Prop} (h : kPr Ts ps σ) (hF : yFr X σ σ') (hX : ∀ k j, X k j → ¬ (k = 1 ∧ (j = 9 ∨ j = 15)) ∧ k ≠ 4 ∧ ¬ (k = 41 ∧ (j = 8 ∨ j = 10 ∨ j = 11)) ∧ ¬ (42 ≤ k ∧ k ≤ 45) ∧ k ≠ 49 ∧ ¬ (5 ≤ k ∧ k ≤ 40) ∧ ¬ (68 ≤ k ∧ k ≤ 109)) : kPr Ts ps σ' := by
  have e1 : gR σ' 1 9 = gR σ 1 9 := hF.r (fun x => (hX _ _ x).1 ⟨rfl, Or.inl rfl⟩)
  have e4 : ∀ p, gR σ' 4 p = gR σ 4 p := fun p => hF.r (fun x => (hX _ _ x).2.1 rfl)
  have e15 : gI σ' 1 15 = gI σ 1 15 := hF.i (fun x => (hX _ _ x).1 ⟨rfl, Or.inr rfl⟩)
  rcases h with h | ⟨p, st, pd, m, h1, h2, h3, h4, h5, h6, h7⟩
  · exact Or.inl (e15.trans h)
  · refine Or.inr ⟨p, st, pd, m, h1, h2, e15.trans h3, ?_, h5, (hF.i (fun x => (hX _ _ x).2.2.1 ⟨rfl, Or.inl rfl⟩)).trans h6, fun j hj => (hF.i (fun x => (hX _ _ x).2.2.2.2.1 rfl)).trans (h7 j hj)⟩
    rw [e1, e4]
    have hs := h4.1
    have ha : gR σ 4 p = 5 ∨ gR σ 4 p = 17 ∨ gR σ 4 p = 29 ∨ gR σ 4 p = 68 := hs.1
    have hb : gR σ 1 9 = 80 ∨ gR σ 1 9 = 95 := hs.2.1
    exact sAll_fr2 h4 hF (fun k j x => by have := hX k j x; omega)
theorem kFd_fr {tf : Nat} {Ts : Nat → TRE} {ps : Option (PST × (Nat → Nat))} {σ σ' : zW} {X : Nat → Nat → Prop} (h : kFd tf Ts ps σ) (hF : yFr X σ σ') (hX : ∀ k j, X k j → k ≠ tf ∧ k ≠ tf + 1) : kFd tf Ts ps σ' := by
  have e1 : gI σ' tf 1 = gI σ tf 1 := hF.i (fun x => (hX _ _ x).1 rfl)
  rcases h with h | ⟨p, h1, h2, h3⟩
  · exact Or.inl (e1.trans h)
  · exact Or.inr ⟨p, h1, e1.trans h2, fdS_fr h3 hF (fun k j x => ⟨fun y => (hX k j x).1 y.1, (hX k j x).2⟩)⟩
theorem CS_fr {S : STA} {u : Nat} {σ σ' : zW} {X : Nat → Nat → Prop} (h : CS S u σ) (hF : yFr X σ σ') (hX : ∀ k j, X k j → Xcf k j) : CS S u σ' := by
  have hX' : ∀ k j, X k j → 122 ≤ k ∨ (k = 2 ∧ 2 ≤ j ∧ j ≤ 4) ∨ (k = 41 ∧ (j = 9 ∨ j = 12)) ∨ (46 ≤ k ∧ k ≤ 48) ∨ (54 ≤ k ∧ k ≤ 60) := hX
  obtain ⟨h1, h2, h3, h4, h5, h6, h7, h8, h9, h10⟩ := h
  exact ⟨cT_fr h1 hF (fun k j x => by have := hX' k j x; omega), kTr_fr h2 hF (fun k j x => by have := hX' k j x; omega), kPt_fr h3 hF (fun k j x => by have := hX' k j x; omega), kSc_fr h4 hF (fun k j x => by have := hX' k j x; omega), kFl_fr h5 hF (fun k j x => by have := hX' k j x; omega), cO_fr h6 hF (fun k j x => by have := hX' k j x; omega), cH_fr h7 hF (fun k j w x => by have := hX' k j x; omega), kPr_fr h8 hF (fun k j x => by have := hX' k j x; omega), kFd_fr h9 hF (fun k j x => by have := hX' k j x; omega), kFd_fr h10 hF (fun k j x => by have := hX' k j x; omega)⟩
/-- cells of the model that hold nothing that is kept -/
def Xmq (k j : Nat) : Prop := k < 122 ∨ 186 ≤ k ∨ (k = 122 ∧ ((2 ≤ j ∧ j ≤ 5) ∨ j = 13 ∨ j = 35 ∨ j = 49 ∨ j = 50 ∨ j = 58 ∨ j = 77 ∨ j = 81 ∨ j = 85 ∨ j = 88)) ∨ k = 127 ∨ k = 128 ∨ (146 ≤ k ∧ k ≤ 159) ∨ (165 ≤ k ∧ k ≤ 169) ∨ (174 ≤ k ∧ k ≤ 176) ∨ (178 ≤ k ∧ k ≤ 184)
/-- a frame over a throw -/
def yFx (X : Nat → Nat → Prop) (σ σ' : zW) : Prop := (∀ k j, ¬ X k j → gI σ' k j = gI σ k j ∧ gL σ' k j = gL σ k j ∧ gR σ' k j = gR σ k j) ∧ gC σ' ≤ gC σ + 1 ∧ gS σ' ≤ gS σ + 6
theorem yFx.of {X : Nat → Nat → Prop} {σ σ' : zW} (h : yFr X σ σ') : yFx X σ σ' := ⟨h.1, by have := h.2.2.1; omega, by have := h.2.2.2; omega⟩
theorem yFx.ex {X : Nat → Nat → Prop} {σ σ' : zW} (h : yFr X σ σ') : yFx X σ (zex σ') := ⟨h.1, by have := h.2.2.1; show gC σ' + 1 ≤ _; omega, by have := h.2.2.2; show gS σ' + 6 ≤ _; omega⟩
theorem yFx.un {X : Nat → Nat → Prop} {σ σ' : zW} (h : yFx X σ σ') : yFr X σ (σ'.1, σ'.2.1, σ'.2.2.1, gN σ, gC σ, gS σ) := ⟨h.1, rfl, rfl, rfl⟩
theorem CS_ex {S : STA} {u : Nat} {σ : zW} (h : CS S u σ) : CS S u (zex σ) := by
  obtain ⟨h1, h2, h3, h4, h5, h6, h7, h8, h9, h10⟩ := h
  exact ⟨h1, h2, h3, h4, h5, h6, ⟨h7.1, fun p hp => hch_fr _ _ _ σ _ (h7.2 p hp) (fun k _ => ⟨rfl, rfl, fun _ _ => rfl⟩)⟩, h8, h9, h10⟩
