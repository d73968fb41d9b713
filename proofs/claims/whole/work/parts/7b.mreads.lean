/-! the calls of the model that read the tape -/
theorem m_tree {K : List zF} (hK : K.length + 5 ≤ 60) {f : Nat → Int} {L : Nat} {σ : zW} (hT : mT f L σ) (h2 : gI σ 122 2 = 0)
    (k0 : ∀ (σ' : zW) (e : Nat × Nat), tread f L = .inl e → yFr Xrm σ σ' → gI σ' 122 6 = (e.1 : Nat) → gI σ' 122 7 = (e.2 : Nat) → zRet true K (some (.inl 0)) σ')
    (k1 : ∀ (σ' : zW) (r : TRE), tread f L = .inr r → yFr Xrm σ σ' → mRows r.1 r.2.1 r.2.2 σ' → zRet true K (some (.inl 1)) σ') : zEv true (zent 153 [.inr (.inr 122)] :: K) σ := by
  rw [ze_153]
  have hF0 : yFr Xrm σ (sI σ 122 13 0) := yFr.rf.I (by omega)
  have e13 : gI (sI σ 122 13 0) 122 13 = 0 := yGI_hit
  have e2 : gI (sI σ 122 13 0) 122 2 = 0 := by rw [gI_sI, if_neg (by omega)]; exact h2
  generalize sI σ 122 13 0 = σ0 at hF0 e13 e2 ⊢
  have hT0 := mT_fr hT hF0 (fun k j h => by omega)
  have h := m_tree_loop hK (L + 1) 0 0 0 (fun _ => 0) (fun _ => 0) σ0 none none (by omega) (Nat.zero_le _) ⟨⟨Nat.zero_le _, fun h => absurd h (Nat.lt_irrefl _), fun i hi => absurd hi (Nat.not_lt_zero _)⟩, fun _ => rfl, fun h => absurd h (Nat.lt_irrefl _)⟩ hT0 e2 ⟨e13, fun i hi => absurd hi (Nat.not_lt_zero i)⟩ (fun σ' e he hF h3 h4 => k0 σ' e he (hF0.trans hF) h3 h4) (fun σ' r hr hF hR => k1 σ' r hr (hF0.trans hF) hR)
  exact h
theorem m_used {K : List zF} {S : STA} {m : Nat} {b : Int} {σ : zW} (hb : b = 0 ∨ b = 1) (k : ∀ σ' : zW, yFr (fun k j => k = 122 ∧ (j = 1 ∨ j = 6 ∨ j = 7 ∨ j = 64)) σ σ' → gI σ' 122 1 = 0 → (b = 0 → gI σ' 122 6 = gI σ 122 6 ∧ gI σ' 122 7 = gI σ 122 7 ∧ gI σ' 122 64 = gI σ 122 64) → (b = 1 → gI σ' 122 6 = 0 ∧ gI σ' 122 7 = 0 ∧ gI σ' 122 64 = -1) → zRet true K (some (.inl b)) σ') : zEv true (zent 171 [.inr (.inr 122), .inl b] :: K) σ := by
  rw [ze_171, yAnd hb]
  have g : ∀ x y z : Int, gI (sI (sI (sI (sI σ 122 1 0) 122 6 x) 122 7 y) 122 64 z) 122 1 = 0 ∧ gI (sI (sI (sI (sI σ 122 1 0) 122 6 x) 122 7 y) 122 64 z) 122 6 = x ∧ gI (sI (sI (sI (sI σ 122 1 0) 122 6 x) 122 7 y) 122 64 z) 122 7 = y ∧ gI (sI (sI (sI (sI σ 122 1 0) 122 6 x) 122 7 y) 122 64 z) 122 64 = z := fun x y z => by
    refine ⟨?_, ?_, ?_, yGI_hit⟩
    · rw [gI_sI, if_neg (by omega), gI_sI, if_neg (by omega), gI_sI, if_neg (by omega)]; exact yGI_hit
    · rw [gI_sI, if_neg (by omega), gI_sI, if_neg (by omega)]; exact yGI_hit
    · rw [gI_sI, if_neg (by omega)]; exact yGI_hit
  have hF : ∀ x y z : Int, yFr (fun k j => k = 122 ∧ (j = 1 ∨ j = 6 ∨ j = 7 ∨ j = 64)) σ (sI (sI (sI (sI σ 122 1 0) 122 6 x) 122 7 y) 122 64 z) := fun x y z => (((yFr.rf.I (by omega)).I (by omega)).I (by omega)).I (by omega)
  rcases hb with e | e
  · rw [e, if_pos rfl, if_pos rfl, if_pos rfl]
    obtain ⟨g1, g2, g3, g4⟩ := g (gI σ 122 6) (gI σ 122 7) (gI σ 122 64)
    rw [e] at k
    exact k _ (hF _ _ _) g1 (fun _ => ⟨g2, g3, g4⟩) (fun x => absurd x (by decide))
  · rw [e, if_neg (by decide), if_neg (by decide), if_neg (by decide)]
    obtain ⟨g1, g2, g3, g4⟩ := g 0 0 (-1)
    rw [e] at k
    exact k _ (hF _ _ _) g1 (fun x => absurd x (by decide)) (fun _ => ⟨g2, g3, g4⟩)
/-- a read that failed -/
theorem MS_fail {S : STA} {m : Nat} {a b : Int} {σ σ' : zW} {X : Nat → Nat → Prop} (hM : MS S m σ) (hF : yFr X σ σ') (h1 : gI σ' 122 1 = 0) (h6 : gI σ' 122 6 = a) (h7 : gI σ' 122 7 = b) (h64 : gI σ' 122 64 = gI σ 122 64)
    (hX : ∀ k j, X k j → Xmq k j ∨ (k = 122 ∧ (j = 1 ∨ j = 6 ∨ j = 7 ∨ j = 64))) : MS ((qF S, 0), qT S, qP S, qS S, (a, b), qO S, qH S) m σ' := by
  have hX' : ∀ k j, X k j → (k < 122 ∨ 186 ≤ k ∨ (k = 122 ∧ ((2 ≤ j ∧ j ≤ 5) ∨ j = 13 ∨ j = 35 ∨ j = 49 ∨ j = 50 ∨ j = 58 ∨ j = 77 ∨ j = 81 ∨ j = 85 ∨ j = 88)) ∨ k = 127 ∨ k = 128 ∨ (146 ≤ k ∧ k ≤ 159) ∨ (165 ≤ k ∧ k ≤ 169) ∨ (174 ≤ k ∧ k ≤ 176) ∨ (178 ≤ k ∧ k ≤ 184)) ∨ (k = 122 ∧ (j = 1 ∨ j = 6 ∨ j = 7 ∨ j = 64)) := hX
  obtain ⟨b1, b2, b3, b4, b5, b6, b7, c1, c2⟩ := hM
  have e75 : gI σ' 122 75 = gI σ 122 75 := hF.i (fun x => by have := hX' _ _ x; omega)
  refine ⟨⟨fun i => (hF.i (fun x => by have := hX' _ _ x; omega)).trans (b1.1 i), h1, Nat.zero_le _, fun i hi => absurd hi (Nat.not_lt_zero i)⟩, fun p hp => mTr_fr (b2 p hp) hF (fun k j x => by have := hX' k j x; omega), kMp_fr b3 hF (fun k j x => by have := hX' k j x; omega), kMs_fr b4 hF (fun k j x => by have := hX' k j x; omega), ⟨h6, h7⟩, mO_fr b6 hF (fun k j x => by have := hX' k j x; omega), mHi_fr b7 hF (fun k j w x => by have := hX' k j x; omega), ?_, ?_⟩
  · rcases c1 with h | ⟨q, a1, a2, a3⟩
    · exact Or.inl (h64.trans h)
    · exact Or.inr ⟨q, a1, h64.trans a2, mLd_fr a3 hF (fun k j x => by have := hX' k j x; omega)⟩
  · rcases c2 with h | h | ⟨q, st, a1, a2, a3, a4⟩
    · exact Or.inl (e75.trans h)
    · exact Or.inr (Or.inl (h64.trans h))
    · exact Or.inr (Or.inr ⟨q, st, a1, a2, h64.trans a3, fST_fr a4 hF (fun k j x => by have := hX' k j x; omega)⟩)
theorem n_script {K : List zF} (hK : K.length + 12 ≤ 60) {S : STA} {m : Nat} {σ : zW} (hM : MS S m σ) (k : nOp S m σ K (oScript S)) : zEv true (zent 175 [.inr (.inr 122)] :: K) σ := by
  unfold oScript at k
  rw [ze_175 (by omega), ze_172, zr_175_4 (by omega)]
  have hF0 : yFr (fun k j => k = 122 ∧ j = 2) σ (sI σ 122 2 0) := yFr.rf.I (by omega)
  have e2 : gI (sI σ 122 2 0) 122 2 = 0 := yGI_hit
  generalize sI σ 122 2 0 = σ0 at hF0 e2 ⊢
  have hT0 := mT_fr hM.1 hF0 (fun k j h => by omega)
  refine m_script (by show K.length + 1 + 7 ≤ 60; omega) hT0 e2 (fun σ1 e he hF1 h6 h7 => ?_) (fun σ1 r hr hF1 h58 h8 hE => ?_)
  · rw [he] at k
    simp only at k
    rw [zr_175_8 (by omega)]
    refine m_used (S := S) (m := m) (Or.inl rfl) (fun σ2 hF2 h1 hb0 hb1 => ?_)
    obtain ⟨c1, c2, c3⟩ := hb0 rfl
    rw [zr_175_15 (by omega), if_pos rfl, m_goes, if_neg (by decide), zr_175_26 (by omega), if_neg (fun h => h rfl)]
    have hF : yFr (fun k j => Xms k j ∨ (k = 122 ∧ (j = 1 ∨ j = 2 ∨ j = 6 ∨ j = 7 ∨ j = 64))) σ σ2 := ((hF0.mono (fun k j x => by omega)).trans (hF1.mono (fun k j x => Or.inl x))).trans (hF2.mono (fun k j x => by omega))
    have e64 : gI σ2 122 64 = gI σ 122 64 := c3.trans ((hF1.i (by omega)).trans (hF0.i (by omega)))
    have hM2 := MS_fail hM hF h1 (c1.trans h6) (c2.trans h7) e64 (fun k j x => by
      show (k < 122 ∨ 186 ≤ k ∨ (k = 122 ∧ ((2 ≤ j ∧ j ≤ 5) ∨ j = 13 ∨ j = 35 ∨ j = 49 ∨ j = 50 ∨ j = 58 ∨ j = 77 ∨ j = 81 ∨ j = 85 ∨ j = 88)) ∨ k = 127 ∨ k = 128 ∨ (146 ≤ k ∧ k ≤ 159) ∨ (165 ≤ k ∧ k ≤ 169) ∨ (174 ≤ k ∧ k ≤ 176) ∨ (178 ≤ k ∧ k ≤ 184)) ∨ (k = 122 ∧ (j = 1 ∨ j = 6 ∨ j = 7 ∨ j = 64))
      omega)
    obtain ⟨d1, d2, d3, d4⟩ := n_go (x := 1) hM2
    exact k _ m _ ((hF.mono (fun k j x => by omega)).trans d1) d2 (Nat.le_succ m) d3 (fun (x : (1 : Nat) = 0) => absurd x (by decide))
  · rw [hr] at k
    simp only at k
    rw [if_pos h8] at k
    rw [zr_175_8 (by omega)]
    refine m_used (S := S) (m := m) (Or.inr rfl) (fun σ2 hF2 h1 hb0 hb1 => ?_)
    obtain ⟨c1, c2, c3⟩ := hb1 rfl
    rw [zr_175_15 (by omega), if_neg (by decide), m_goes, if_pos rfl, zr_175_26 (by omega), if_pos (by decide)]
    have hF3 : yFr (fun k j => k = 122 ∧ j = 88) σ2 (sI σ2 122 88 0) := yFr.rf.I ⟨rfl, rfl⟩
    have e88 : gI (sI σ2 122 88 0) 122 88 = 0 := yGI_hit
    generalize sI σ2 122 88 0 = σ3 at hF3 e88 ⊢
    have hF23 : yFr (fun k j => k = 122 ∧ (j = 1 ∨ j = 6 ∨ j = 7 ∨ j = 64 ∨ j = 88)) σ1 σ3 := (hF2.mono (fun k j x => by omega)).trans (hF3.mono (fun k j x => by omega))
    refine m_takesScript h8 ((hF23.i (by omega)).trans h58) (fun σ4 hF4 h52 hcp => ?_)
    have hF : yFr (fun k j => Xms k j ∨ (k = 122 ∧ (j = 1 ∨ j = 2 ∨ j = 6 ∨ j = 7 ∨ j = 64 ∨ j = 88 ∨ j = 52)) ∨ (160 ≤ k ∧ k ≤ 164)) σ σ4 := (((hF0.mono (fun k j x => by omega)).trans (hF1.mono (fun k j x => Or.inl x))).trans (hF23.mono (fun k j x => by omega))).trans (hF4.mono (fun k j x => by omega))
    have e64 : gI σ4 122 64 = -1 := (hF4.i (by omega)).trans ((hF3.i (by omega)).trans c3)
    rw [zr_175_35, h52]
    obtain ⟨b1, b2, b3, b4, b5, b6, b7, b8⟩ := hM
    refine k σ4 m _ (hF.mono (fun k j x => by omega)) ⟨⟨fun i => (hF.i (by omega)).trans (b1.1 i), (hF4.i (by omega)).trans ((hF3.i (by omega)).trans h1), Nat.zero_le _, fun i hi => absurd hi (Nat.not_lt_zero i)⟩, fun p hp => mTr_fr (b2 p hp) hF (fun k j x => by omega), kMp_fr b3 hF (fun k j x => by omega), ⟨h52, fun i hi => ?_⟩, ⟨(hF4.i (by omega)).trans ((hF3.i (by omega)).trans c1), (hF4.i (by omega)).trans ((hF3.i (by omega)).trans c2)⟩, mO_fr b6 hF (fun k j x => by omega), mHi_fr b7 hF (fun k j w x => by omega), ⟨Or.inl e64, Or.inr (Or.inl e64)⟩⟩ (Nat.le_succ m) ((hF4.i (by omega)).trans e88) (fun _ => rfl)
    obtain ⟨x1, x2, x3, x4, x5⟩ := hcp i hi
    obtain ⟨y1, y2, y3, y4, y5⟩ := hE i hi
    have f : ∀ k, 165 ≤ k → k ≤ 169 → gI σ3 k i = gI σ1 k i ∧ gL σ3 k i = gL σ1 k i := fun k k1 k2 => ⟨hF23.i (by omega), hF23.l (by omega)⟩
    exact ⟨x1.trans ((f 165 (by omega) (by omega)).2.trans y1), x2.trans ((f 166 (by omega) (by omega)).1.trans y2), x3.trans ((f 167 (by omega) (by omega)).1.trans y3), fun h => x4.trans ((f 168 (by omega) (by omega)).2.trans (y4 h)), fun h => x5.trans ((f 169 (by omega) (by omega)).2.trans (y5 h))⟩
theorem n_pattern {K : List zF} (hK : K.length + 13 ≤ 60) {S : STA} {m : Nat} {σ : zW} (hM : MS S m σ) (k : nOp S m σ K (oPattern S)) : zEv true (zent 174 [.inr (.inr 122)] :: K) σ := by
  unfold oPattern at k
  rw [ze_174 (by omega), ze_172, zr_174_4 (by omega)]
  have hF0 : yFr (fun k j => k = 122 ∧ j = 2) σ (sI σ 122 2 0) := yFr.rf.I (by omega)
  have e2 : gI (sI σ 122 2 0) 122 2 = 0 := yGI_hit
  generalize sI σ 122 2 0 = σ0 at hF0 e2 ⊢
  have hT0 := mT_fr hM.1 hF0 (fun k j h => by omega)
  refine m_pattern (by show K.length + 1 + 11 ≤ 60; omega) hT0 e2 (fun σ1 e he hF1 h6 h7 => ?_) (fun σ1 st hr hF1 hP hw hnw hup h1c => ?_)
  · rw [he] at k
    simp only at k
    rw [zr_174_8 (by omega)]
    refine m_used (S := S) (m := m) (Or.inl rfl) (fun σ2 hF2 h1 hb0 hb1 => ?_)
    obtain ⟨c1, c2, c3⟩ := hb0 rfl
    rw [zr_174_15 (by omega), if_pos rfl, m_goes, if_neg (by decide), zr_174_26 (by omega), if_neg (fun h => h rfl)]
    have hF : yFr (fun k j => Xmp k j ∨ (k = 122 ∧ (j = 1 ∨ j = 2 ∨ j = 6 ∨ j = 7 ∨ j = 64))) σ σ2 := ((hF0.mono (fun k j x => by omega)).trans (hF1.mono (fun k j x => Or.inl x))).trans (hF2.mono (fun k j x => by omega))
    have e64 : gI σ2 122 64 = gI σ 122 64 := c3.trans ((hF1.i (by omega)).trans (hF0.i (by omega)))
    have hM2 := MS_fail hM hF h1 (c1.trans h6) (c2.trans h7) e64 (fun k j x => by
      show (k < 122 ∨ 186 ≤ k ∨ (k = 122 ∧ ((2 ≤ j ∧ j ≤ 5) ∨ j = 13 ∨ j = 35 ∨ j = 49 ∨ j = 50 ∨ j = 58 ∨ j = 77 ∨ j = 81 ∨ j = 85 ∨ j = 88)) ∨ k = 127 ∨ k = 128 ∨ (146 ≤ k ∧ k ≤ 159) ∨ (165 ≤ k ∧ k ≤ 169) ∨ (174 ≤ k ∧ k ≤ 176) ∨ (178 ≤ k ∧ k ≤ 184)) ∨ (k = 122 ∧ (j = 1 ∨ j = 6 ∨ j = 7 ∨ j = 64))
      omega)
    obtain ⟨d1, d2, d3, d4⟩ := n_go (x := 1) hM2
    exact k _ m _ ((hF.mono (fun k j x => by omega)).trans d1) d2 (Nat.le_succ m) d3 (fun (x : (1 : Nat) = 0) => absurd x (by decide))
  · rw [hr] at k
    simp only at k
    rw [if_pos ⟨hw, hup, h1c⟩] at k
    have hg := pdO_g hr
    have hl := pread_l hr
    have hL6 := hM.1.2.2.1
    rw [zr_174_8 (by omega)]
    refine m_used (S := S) (m := m) (Or.inr rfl) (fun σ2 hF2 h1 hb0 hb1 => ?_)
    obtain ⟨c1, c2, c3⟩ := hb1 rfl
    rw [zr_174_15 (by omega), if_neg (by decide), m_goes, if_pos rfl, zr_174_26 (by omega), if_pos (by decide)]
    have hF3 : yFr (fun k j => k = 122 ∧ j = 88) σ2 (sI σ2 122 88 0) := yFr.rf.I ⟨rfl, rfl⟩
    have e88 : gI (sI σ2 122 88 0) 122 88 = 0 := yGI_hit
    generalize sI σ2 122 88 0 = σ3 at hF3 e88 ⊢
    have hF23 : yFr (fun k j => k = 122 ∧ (j = 1 ∨ j = 6 ∨ j = 7 ∨ j = 64 ∨ j = 88)) σ1 σ3 := (hF2.mono (fun k j x => by omega)).trans (hF3.mono (fun k j x => by omega))
    have hP3 : mP st σ3 := by
      obtain ⟨a1, a2, a3, a4, a5⟩ := hP
      exact ⟨(hF23.i (by omega)).trans a1, (hF23.i (by omega)).trans a2, (hF23.i (by omega)).trans a3, fun q i q1 q2 hi => (hF23.i (by omega)).trans (a4 q i q1 q2 hi), fun i hi => (hF23.l (by omega)).trans (a5 i hi)⟩
    refine m_takesPattern hP3 hw hg (by omega) (fun σ4 hF4 hG => ?_)
    have hF4' : yFr (fun k j => (k = 122 ∧ (j = 18 ∨ j = 32 ∨ j = 34)) ∨ (132 ≤ k ∧ k ≤ 145)) σ3 σ4 := hF4
    have hF : yFr (fun k j => Xmp k j ∨ (k = 122 ∧ (j = 1 ∨ j = 2 ∨ j = 6 ∨ j = 7 ∨ j = 64 ∨ j = 88 ∨ j = 18 ∨ j = 32 ∨ j = 34)) ∨ (132 ≤ k ∧ k ≤ 145)) σ σ4 := (((hF0.mono (fun k j x => by omega)).trans (hF1.mono (fun k j x => Or.inl x))).trans (hF23.mono (fun k j x => by omega))).trans (hF4'.mono (fun k j x => by omega))
    have e64 : gI σ4 122 64 = -1 := (hF4'.i (by omega)).trans ((hF3.i (by omega)).trans c3)
    rw [zr_174_35, hG.2.2.1]
    obtain ⟨b1, b2, b3, b4, b5, b6, b7, b8⟩ := hM
    refine k σ4 m _ (hF.mono (fun k j x => by omega)) ⟨⟨fun i => (hF.i (by omega)).trans (b1.1 i), (hF4'.i (by omega)).trans ((hF3.i (by omega)).trans h1), Nat.zero_le _, fun i hi => absurd hi (Nat.not_lt_zero i)⟩, fun p hp => mTr_fr (b2 p hp) hF (fun k j x => by omega), ⟨fun x => (by cases x), fun st' pd' x => ?_⟩, kMs_fr b4 hF (fun k j x => by omega), ⟨(hF4'.i (by omega)).trans ((hF3.i (by omega)).trans c1), (hF4'.i (by omega)).trans ((hF3.i (by omega)).trans c2)⟩, mO_fr b6 hF (fun k j x => by omega), mHi_fr b7 hF (fun k j w x => by omega), ⟨Or.inl e64, Or.inr (Or.inl e64)⟩⟩ (Nat.le_succ m) ((hF4'.i (by omega)).trans e88) (fun _ => rfl)
    have x1 := congrArg Prod.fst (Option.some.inj x)
    simp only at x1
    rw [← x1]
    exact ⟨hG, hnw⟩
theorem m_plantLoop {K : List zF} {p : Nat} {T : TRE} {σ : zW} (hp : p < 3) (hn : T.1 ≤ 20) (hR : mRows T.1 T.2.1 T.2.2 σ) {o2 : Option zV}
    (k : ∀ (σ' : zW) (o2 : Option zV), yFr (fun k j => (k = 125 ∨ k = 126) ∧ 20 * p ≤ j ∧ j < 20 * p + 20) σ σ' → (∀ i, i < T.1 → gL σ' 125 (20 * p + i) = T.2.1 i ∧ gI σ' 126 (20 * p + i) = par T.2.2 i) → zEv true (zent 244 [.inr (.inr 122), .inl (p : Int)] :: (173, 122, [some (.inr (.inr 122)), some (.inl (p : Int)), o2, some (.inl (T.1 : Int))], []) :: K) σ') (hK : K.length < 60) :
    ∀ (d i : Nat) (o2 : Option zV) (σ2 : zW), T.1 - i = d → i ≤ T.1 → yFr (fun k j => (k = 125 ∨ k = 126) ∧ 20 * p ≤ j ∧ j < 20 * p + 20) σ σ2 → (∀ i', i' < i → gL σ2 125 (20 * p + i') = T.2.1 i' ∧ gI σ2 126 (20 * p + i') = par T.2.2 i') → zEv true ((173, 69, [some (.inr (.inr 122)), some (.inl (p : Int)), o2, some (.inl (i : Int))], []) :: K) σ2 := by
  intro d
  induction d with
  | zero =>
    intro i o2 σ2 hd hi hF h
    have e : i = T.1 := by omega
    have h13 : gI σ2 122 13 = (T.1 : Int) := (hF.i (by omega)).trans hR.1
    rw [zj_173_69 hK, h13, e, if_pos (Int.le_refl _)]
    rw [e] at h
    exact k σ2 o2 hF h
  | succ d ih =>
    intro i o2 σ2 hd hi hF h
    have hi' : i < T.1 := by omega
    have hni : ¬ (T.1 : Int) ≤ (i : Int) := by omega
    have hci : 0 ≤ (i : Int) ∧ (i : Int) < 20 := by omega
    have hd1 : T.1 - (i + 1) = d := by omega
    have hcx : 0 ≤ ((20 * p + i : Nat) : Int) ∧ ((20 * p + i : Nat) : Int) < 60 := by omega
    have ei : ∀ _ : Unit, w32 ((i : Int) + 1) = ((i + 1 : Nat) : Int) := fun _ => w_s (by omega)
    have h13 : gI σ2 122 13 = (T.1 : Int) := (hF.i (by omega)).trans hR.1
    have hl : gL σ2 127 i = T.2.1 i := (hF.l (by omega)).trans (hR.2 i hi').1
    have hv : gI σ2 128 i = par T.2.2 i := (hF.i (by omega)).trans (hR.2 i hi').2
    rw [zj_173_69 hK, h13, if_neg hni, yAnd hci, ix20 hp (by omega), yAnd hcx, yAnd hci, yAnd hcx, Int.toNat_natCast, Int.toNat_natCast, hl, hv, ei ()]
    have hF2 : yFr (fun k j => (k = 125 ∨ k = 126) ∧ j = 20 * p + i) σ2 (sI (sL σ2 125 (20 * p + i) (T.2.1 i)) 126 (20 * p + i) (par T.2.2 i)) := (yFr.rf.L (X := fun k j => (k = 125 ∨ k = 126) ∧ j = 20 * p + i) ⟨Or.inl rfl, rfl⟩).I ⟨Or.inr rfl, rfl⟩
    have e1 : gL (sI (sL σ2 125 (20 * p + i) (T.2.1 i)) 126 (20 * p + i) (par T.2.2 i)) 125 (20 * p + i) = T.2.1 i := by rw [gL_sI, gL_sL]; exact if_pos ⟨rfl, rfl⟩
    have e2 : gI (sI (sL σ2 125 (20 * p + i) (T.2.1 i)) 126 (20 * p + i) (par T.2.2 i)) 126 (20 * p + i) = par T.2.2 i := yGI_hit
    generalize sI (sL σ2 125 (20 * p + i) (T.2.1 i)) 126 (20 * p + i) (par T.2.2 i) = σ3 at hF2 e1 e2 ⊢
    refine ih (i + 1) _ σ3 hd1 hi' (hF.trans (hF2.mono (fun k j x => ⟨x.1, by omega, by omega⟩))) (fun i' hi2 => ?_)
    by_cases e : i' = i
    · rw [e]; exact ⟨e1, e2⟩
    · obtain ⟨a, b⟩ := h i' (by omega)
      exact ⟨(hF2.l (fun x => e (by omega))).trans a, (hF2.i (fun x => e (by omega))).trans b⟩
theorem n_plant {K : List zF} (hK : K.length + 12 ≤ 60) {S : STA} {m : Nat} {z : Int} {σ : zW} (hg : SG S) (hM : MS S m σ) (hm : m ≤ 512) (k : nOp S m σ K (oPlant S z)) : zEv true (zent 173 [.inr (.inr 122), .inl z] :: K) σ := by
  unfold oPlant at k
  rw [ze_173 (by omega), m_isPlace (by show K.length + 1 < 60; omega), zr_173_5 (by omega), m_goes, zr_173_16 (by omega)]
  by_cases hp : 0 ≤ z ∧ z < 3
  · rw [if_pos hp] at k
    obtain ⟨p, rfl⟩ : ∃ p : Nat, z = p := ⟨z.toNat, by omega⟩
    have hp3 : p < 3 := by omega
    rw [Int.toNat_natCast] at k
    rw [plc hp, if_neg (show ¬ (1 : Int) = 0 by decide), if_pos (show (0 : Int) = 0 from rfl), if_pos (show ¬ (1 : Int) = 0 by decide), ze_172, zr_173_30 (by omega)]
    have hF0 : yFr (fun k j => k = 122 ∧ (j = 2 ∨ j = 88)) σ (sI (sI σ 122 88 0) 122 2 0) := (yFr.rf.I (by omega)).I (by omega)
    have e2 : gI (sI (sI σ 122 88 0) 122 2 0) 122 2 = 0 := yGI_hit
    generalize sI (sI σ 122 88 0) 122 2 0 = σ0 at hF0 e2 ⊢
    have hT0 := mT_fr hM.1 hF0 (fun k j h => by omega)
    refine m_tree (by show K.length + 1 + 5 ≤ 60; omega) hT0 e2 (fun σ1 e he hF1 h6 h7 => ?_) (fun σ1 T hr hF1 hR => ?_)
    · rw [he] at k
      simp only at k
      rw [zr_173_34 (by omega)]
      refine m_used (S := S) (m := m) (Or.inl rfl) (fun σ2 hF2 h1 hb0 hb1 => ?_)
      obtain ⟨c1, c2, c3⟩ := hb0 rfl
      rw [zr_173_41 (by omega), if_pos rfl, m_goes, if_neg (by decide), zr_173_52, if_neg (fun h => h rfl)]
      have hF : yFr (fun k j => Xrm k j ∨ (k = 122 ∧ (j = 1 ∨ j = 2 ∨ j = 6 ∨ j = 7 ∨ j = 64 ∨ j = 88))) σ σ2 := ((hF0.mono (fun k j x => by omega)).trans (hF1.mono (fun k j x => Or.inl x))).trans (hF2.mono (fun k j x => by omega))
      have e64 : gI σ2 122 64 = gI σ 122 64 := c3.trans ((hF1.i (by omega)).trans (hF0.i (by omega)))
      have hM2 := MS_fail hM hF h1 (c1.trans h6) (c2.trans h7) e64 (fun k j x => by
        show (k < 122 ∨ 186 ≤ k ∨ (k = 122 ∧ ((2 ≤ j ∧ j ≤ 5) ∨ j = 13 ∨ j = 35 ∨ j = 49 ∨ j = 50 ∨ j = 58 ∨ j = 77 ∨ j = 81 ∨ j = 85 ∨ j = 88)) ∨ k = 127 ∨ k = 128 ∨ (146 ≤ k ∧ k ≤ 159) ∨ (165 ≤ k ∧ k ≤ 169) ∨ (174 ≤ k ∧ k ≤ 176) ∨ (178 ≤ k ∧ k ≤ 184)) ∨ (k = 122 ∧ (j = 1 ∨ j = 6 ∨ j = 7 ∨ j = 64))
        omega)
      obtain ⟨d1, d2, d3, d4⟩ := n_go (x := 2) hM2
      exact k _ m _ ((hF.mono (fun k j x => by omega)).trans d1) d2 (Nat.le_succ m) d3 (fun (x : (2 : Nat) = 0) => absurd x (by decide))
    · rw [hr] at k
      simp only at k
      have hgT := tread_gd hr
      have hn := hgT.1.1.1
      rw [zr_173_34 (by omega)]
      refine m_used (S := S) (m := m) (Or.inr rfl) (fun σ2 hF2 h1 hb0 hb1 => ?_)
      obtain ⟨c1, c2, c3⟩ := hb1 rfl
      rw [zr_173_41 (by omega), if_neg (by decide), m_goes, if_pos rfl, zr_173_52, if_pos (by decide), yAnd hp, Int.toNat_natCast]
      have h13 : gI (sI σ2 122 88 0) 122 13 = (T.1 : Int) := by rw [gI_sI, if_neg (by omega)]; exact (hF2.i (by omega)).trans hR.1
      rw [h13]
      have hF3 : yFr (fun k j => (k = 122 ∧ j = 88) ∨ (k = 124 ∧ j = p)) σ2 (sI (sI σ2 122 88 0) 124 p (T.1 : Int)) := (yFr.rf.I (by omega)).I (by omega)
      have e88 : gI (sI (sI σ2 122 88 0) 124 p (T.1 : Int)) 122 88 = 0 := by rw [gI_sI, if_neg (by omega)]; exact yGI_hit
      have e124 : gI (sI (sI σ2 122 88 0) 124 p (T.1 : Int)) 124 p = (T.1 : Int) := yGI_hit
      generalize sI (sI σ2 122 88 0) 124 p (T.1 : Int) = σ3 at hF3 e88 e124 ⊢
      have hF13 : yFr (fun k j => (k = 122 ∧ (j = 1 ∨ j = 6 ∨ j = 7 ∨ j = 64 ∨ j = 88)) ∨ (k = 124 ∧ j = p)) σ1 σ3 := (hF2.mono (fun k j x => by omega)).trans (hF3.mono (fun k j x => by omega))
      have hR3 : mRows T.1 T.2.1 T.2.2 σ3 := ⟨(hF13.i (by omega)).trans hR.1, fun i hi => ⟨(hF13.l (by omega)).trans (hR.2 i hi).1, (hF13.i (by omega)).trans (hR.2 i hi).2⟩⟩
      refine m_plantLoop (o2 := none) hp3 hn hR3 (fun σ4 o2 hF4 hrow => ?_) (by omega) T.1 0 _ σ3 (Nat.sub_zero _) (Nat.zero_le _) yFr.rf (fun i hi => absurd hi (Nat.not_lt_zero i))
      have hF04 : yFr (fun k j => Xrm k j ∨ (k = 122 ∧ (j = 1 ∨ j = 2 ∨ j = 6 ∨ j = 7 ∨ j = 64 ∨ j = 88)) ∨ (k = 124 ∧ j = p) ∨ ((k = 125 ∨ k = 126) ∧ 20 * p ≤ j ∧ j < 20 * p + 20)) σ σ4 := (((hF0.mono (fun k j x => by omega)).trans (hF1.mono (fun k j x => Or.inl x))).trans (hF13.mono (fun k j x => by omega))).trans (hF4.mono (fun k j x => by omega))
      obtain ⟨b1, b2, b3, b4, b5, b6, b7, b8⟩ := hM
      have hH4 := mHi_fr b7 hF04 (fun k j w x => by omega)
      refine m_forgets (by show K.length + 1 + 1 ≤ 60; omega) hp3 (by omega) hH4 (fun m' σ5 hm' hF5 hH5 => ?_)
      have hF5' : yFr (fun k j => (k = 122 ∧ j = 14) ∨ (129 ≤ k ∧ k ≤ 131)) σ4 σ5 := hF5
      have hF05 : yFr (fun k j => (Xrm k j ∨ (k = 122 ∧ (j = 1 ∨ j = 2 ∨ j = 6 ∨ j = 7 ∨ j = 64 ∨ j = 88)) ∨ (k = 124 ∧ j = p) ∨ ((k = 125 ∨ k = 126) ∧ 20 * p ≤ j ∧ j < 20 * p + 20)) ∨ ((k = 122 ∧ j = 14) ∨ (129 ≤ k ∧ k ≤ 131))) σ σ5 := (hF04.mono (fun k j x => Or.inl x)).trans (hF5'.mono (fun k j x => Or.inr x))
      have hF25 : yFr (fun k j => (k = 122 ∧ (j = 88 ∨ j = 14)) ∨ (k = 124 ∧ j = p) ∨ ((k = 125 ∨ k = 126) ∧ 20 * p ≤ j ∧ j < 20 * p + 20) ∨ (129 ≤ k ∧ k ≤ 131)) σ2 σ5 := ((hF3.mono (fun k j x => by omega)).trans (hF4.mono (fun k j x => by omega))).trans (hF5'.mono (fun k j x => by omega))
      have e64 : gI σ5 122 64 = -1 := (hF25.i (by omega)).trans c3
      have h135 : gI σ5 122 13 = (T.1 : Int) := (hF5'.i (by omega)).trans ((hF4.i (by omega)).trans hR3.1)
      rw [zr_173_122, h135]
      refine k σ5 m' _ (hF05.mono (fun k j x => by omega)) ⟨⟨fun i => (hF05.i (by omega)).trans (b1.1 i), (hF25.i (by omega)).trans h1, Nat.zero_le _, fun i hi => absurd hi (Nat.not_lt_zero i)⟩, fun q hq => ?_, kMp_fr b3 hF05 (fun k j x => by omega), kMs_fr b4 hF05 (fun k j x => by omega), ⟨(hF25.i (by omega)).trans c1, (hF25.i (by omega)).trans c2⟩, mO_fr b6 hF05 (fun k j x => by omega), hH5, ⟨Or.inl e64, Or.inr (Or.inl e64)⟩⟩ (by omega) ((hF5'.i (by omega)).trans ((hF4.i (by omega)).trans e88)) (fun _ => rfl)
      show mTr q (fup (qT S) p T q) σ5
      by_cases e : q = p
      · rw [e, fup_eq]
        refine ⟨(hF5'.i (by omega)).trans ((hF4.i (by omega)).trans e124), fun i hi => ?_⟩
        obtain ⟨a, b⟩ := hrow i hi
        exact ⟨(hF5'.l (by omega)).trans a, (hF5'.i (by omega)).trans b⟩
      · rw [fup_ne e]
        have hn := (hg.1 q hq).1.1
        obtain ⟨d1, d2⟩ := b2 q hq
        exact ⟨(hF05.i (by omega)).trans d1, fun i hi => ⟨(hF05.l (by omega)).trans (d2 i hi).1, (hF05.i (by omega)).trans (d2 i hi).2⟩⟩
  · rw [if_neg hp] at k
    rw [plcn hp, if_pos (show (0 : Int) = 0 from rfl), if_neg (show ¬ (1 : Int) = 0 by decide), if_neg (fun h => h rfl)]
    have hF : yFr (fun k j => k = 122 ∧ (j = 1 ∨ j = 88)) σ (sI (sI σ 122 88 1) 122 1 0) := (yFr.rf.I (by omega)).I (by omega)
    have e88 : gI (sI (sI σ 122 88 1) 122 1 0) 122 88 = 1 := by rw [gI_sI, if_neg (by omega)]; exact yGI_hit
    exact k _ m _ (hF.mono (fun k j x => by omega)) (MS_drop hM hF yGI_hit) (Nat.le_succ m) e88 (fun (x : (1 : Nat) = 0) => absurd x (by decide))
