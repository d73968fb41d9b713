/-! trees read by the class -/
/-- nothing else has changed -/
def yFr (X : Nat → Nat → Prop) (σ σ' : zW) : Prop := (∀ k j, ¬ X k j → gI σ' k j = gI σ k j ∧ gL σ' k j = gL σ k j ∧ gR σ' k j = gR σ k j) ∧ gN σ' = gN σ ∧ gC σ' = gC σ ∧ gS σ' = gS σ
theorem yFr.rf {X : Nat → Nat → Prop} {σ : zW} : yFr X σ σ := ⟨fun _ _ _ => ⟨rfl, rfl, rfl⟩, rfl, rfl, rfl⟩
theorem yFr.trans {X : Nat → Nat → Prop} {σ σ' σ2 : zW} (h : yFr X σ σ') (h' : yFr X σ' σ2) : yFr X σ σ2 :=
  ⟨fun k j q => ⟨(h'.1 k j q).1.trans (h.1 k j q).1, (h'.1 k j q).2.1.trans (h.1 k j q).2.1, (h'.1 k j q).2.2.trans (h.1 k j q).2.2⟩, h'.2.1.trans h.2.1, h'.2.2.1.trans h.2.2.1, h'.2.2.2.trans h.2.2.2⟩
theorem yFr.mono {X Y : Nat → Nat → Prop} {σ σ' : zW} (h : yFr X σ σ') (hXY : ∀ k j, X k j → Y k j) : yFr Y σ σ' := ⟨fun k j q => h.1 k j (fun w => q (hXY k j w)), h.2⟩
theorem yFr.I {X : Nat → Nat → Prop} {σ σ' : zW} (h : yFr X σ σ') {k j : Nat} {x : Int} (hX : X k j) : yFr X σ (sI σ' k j x) := by
  refine ⟨fun k' j' q => ⟨?_, (h.1 k' j' q).2.1, (h.1 k' j' q).2.2⟩, h.2⟩
  rw [gI_sI, if_neg (fun w => q (by rw [w.1, w.2]; exact hX))]
  exact (h.1 k' j' q).1
theorem yFr.L {X : Nat → Nat → Prop} {σ σ' : zW} (h : yFr X σ σ') {k j : Nat} {x : Int64} (hX : X k j) : yFr X σ (sL σ' k j x) := by
  refine ⟨fun k' j' q => ⟨(h.1 k' j' q).1, ?_, (h.1 k' j' q).2.2⟩, h.2⟩
  rw [gL_sL, if_neg (fun w => q (by rw [w.1, w.2]; exact hX))]
  exact (h.1 k' j' q).2.1
theorem yFr.R {X : Nat → Nat → Prop} {σ σ' : zW} (h : yFr X σ σ') {k j : Nat} {x : Nat} (hX : X k j) : yFr X σ (sR σ' k j x) := by
  refine ⟨fun k' j' q => ⟨(h.1 k' j' q).1, (h.1 k' j' q).2.1, ?_⟩, h.2⟩
  rw [gR_sR, if_neg (fun w => q (by rw [w.1, w.2]; exact hX))]
  exact (h.1 k' j' q).2.2
theorem yFr.i {X : Nat → Nat → Prop} {σ σ' : zW} (h : yFr X σ σ') {k j : Nat} (hX : ¬ X k j) : gI σ' k j = gI σ k j := (h.1 k j hX).1
theorem yFr.l {X : Nat → Nat → Prop} {σ σ' : zW} (h : yFr X σ σ') {k j : Nat} (hX : ¬ X k j) : gL σ' k j = gL σ k j := (h.1 k j hX).2.1
theorem yFr.r {X : Nat → Nat → Prop} {σ σ' : zW} (h : yFr X σ σ') {k j : Nat} (hX : ¬ X k j) : gR σ' k j = gR σ k j := (h.1 k j hX).2.2
/-- what is written where a tree is read into t -/
abbrev Xrd (t : Nat) : Nat → Nat → Prop := fun k j => (k = 2 ∧ 2 ≤ j ∧ j ≤ 4) ∨ k = t + 1 ∨ k = t + 2 ∨ (k = t ∧ j = 12)
theorem zTr_b {t : Nat} (h : zTr t) : 5 ≤ t ∧ t ≤ 68 ∧ t ≠ 41 ∧ t ≠ 54 ∧ t ≠ 50 := by rcases h with rfl | rfl | rfl | rfl <;> decide
theorem c_readNode {K : List zF} (hK : K.length + 3 ≤ 60) {f : Nat → Int} {L p c t : Nat} {o : Int} {σ : zW} (ht : zTr t) (hT : cT f L σ) (ha : gI σ 2 2 = (p : Int)) (hpL : p ≤ L) (hc : gI σ t 12 = (c : Int)) (hc20 : c ≤ 20)
    (k0 : ∀ (σ' : zW) (e : Nat × Nat), nodeR f L p c = .inl e → yFr (Xrd t) σ σ' → gI σ' 2 3 = (e.1 : Nat) → gI σ' 2 4 = (e.2 : Nat) → zRet true K (some (.inl 0)) σ')
    (k1 : ∀ (v : Int64) (q : Nat), nodeR f L p c = .inr (v, q) → zRet true K (some (.inl 1)) (sI (sI (sL (sI σ 2 2 (q : Nat)) (t + 1) c v) (t + 2) c o) t 12 ((c + 1 : Nat) : Int))) :
    zEv true (zent 94 [.inr (.inr t), .inr (.inr 2), .inl (if ¬ tb f L p = 40 then 0 else 1), .inl o] :: K) σ := by
  have hb := zTr_b ht
  have h6 := hT.2.2.1
  have hlt : tb f L p = 40 → p < L := fun h => by
    rcases Nat.lt_or_ge p L with q | q
    · exact q
    · rw [tb_ge q] at h; omega
  have main : ∀ o6 o7 : Option zV, ¬ (tb f L p = 40 ∧ 20 ≤ c) → zEv true ((94, 39, [some (.inr (.inr t)), some (.inr (.inr 2)), some (.inl (if ¬ tb f L p = 40 then 0 else 1)), some (.inl o), some (.inl (p : Int)), some (.inl (if (c : Int) < 20 then 0 else 1)), o6, o7], []) :: K) σ := by
    intro o6 o7 hn
    have hw : w32 ((p : Int) + (if (if ¬ tb f L p = 40 then (0 : Int) else 1) = 0 then 0 else 1)) = ((if tb f L p = 40 then p + 1 else p : Nat) : Int) := by
      by_cases h4 : tb f L p = 40
      · have := hlt h4
        rw [if_neg (by rw [if_neg (fun w => w h4)]; omega), if_pos h4, zw_id (by omega) (by omega)]
        omega
      · rw [if_pos (by rw [if_pos h4]), if_neg h4, zw_id (by omega) (by omega)]
        omega
    have hp2 : (if tb f L p = 40 then p + 1 else p) ≤ L := by
      split
      · rename_i h4; exact hlt h4
      · exact hpL
    rw [zj_94_39 (by omega), ha, hw, c_readLabel (yKK (by omega)) (cT_u hT (by omega)) yGI_hit hp2]
    have k0 := k0
    have k1 := k1
    unfold nodeR at k0 k1
    rw [if_neg hn] at k0 k1
    unfold rdlW
    cases hr : rdl f L (if tb f L p = 40 then p + 1 else p) with
    | inl e =>
      rw [hr] at k0
      simp only at k0
      simp only [rdlV]
      rw [zr_94_61 (by omega) ht]
      rw [if_neg (by decide)]
      refine k0 _ e rfl ((((yFr.rf.I ?_).I ?_).I ?_).I ?_) ?_ yGI_hit <;> first | omega | (simp (disch := omega) only [if_pos, if_neg, yAnd, Int.toNat_natCast, zw_id, gI_sI, gI_sL, gI_sR, gL_sI, gL_sL, gL_sR, gR_sI, gR_sL, gR_sR, true_and, and_true, and_self, ite_true, ite_false, ite_self, not_true_eq_false, not_false_eq_true, or_true, true_or, or_false, false_or, yB0, yB1, Decidable.not_not]; done) | (simp (disch := omega) only [if_pos, if_neg, yAnd, Int.toNat_natCast, zw_id, gI_sI, gI_sL, gI_sR, gL_sI, gL_sL, gL_sR, gR_sI, gR_sL, gR_sR, true_and, and_true, and_self, ite_true, ite_false, ite_self, not_true_eq_false, not_false_eq_true, or_true, true_or, or_false, false_or, yB0, yB1, Decidable.not_not]; rfl) | (simp (disch := omega) only [if_pos, if_neg, yAnd, Int.toNat_natCast, zw_id, gI_sI, gI_sL, gI_sR, gL_sI, gL_sL, gL_sR, gR_sI, gR_sL, gR_sR, true_and, and_true, and_self, ite_true, ite_false, ite_self, not_true_eq_false, not_false_eq_true, or_true, true_or, or_false, false_or, yB0, yB1, Decidable.not_not]; omega)
    | inr r =>
      obtain ⟨v, q⟩ := r
      rw [hr] at k0 k1
      simp only at k0 k1
      simp only [rdlV]
      rw [zr_94_61 (by omega) ht, sI_sI, if_pos (zlc0 (rdl_good hr))]
      have hc2 : gI (sI σ 2 2 (q : Nat)) t 12 = (c : Int) := by rw [gI_sI, if_neg (by omega)]; exact hc
      by_cases h20 : 20 ≤ c
      · rw [if_neg (by rw [if_neg (by omega)]; omega), c_fail, zr_94_84, yAnd (Or.inl rfl)]
        rw [if_pos h20] at k0
        refine k0 _ (3, p) rfl (((yFr.rf.I ?_).I ?_).I ?_) ?_ yGI_hit <;> first | omega | (simp (disch := omega) only [if_pos, if_neg, yAnd, Int.toNat_natCast, zw_id, gI_sI, gI_sL, gI_sR, gL_sI, gL_sL, gL_sR, gR_sI, gR_sL, gR_sR, true_and, and_true, and_self, ite_true, ite_false, ite_self, not_true_eq_false, not_false_eq_true, or_true, true_or, or_false, false_or, yB0, yB1, Decidable.not_not]; done) | (simp (disch := omega) only [if_pos, if_neg, yAnd, Int.toNat_natCast, zw_id, gI_sI, gI_sL, gI_sR, gL_sI, gL_sL, gL_sR, gR_sI, gR_sL, gR_sR, true_and, and_true, and_self, ite_true, ite_false, ite_self, not_true_eq_false, not_false_eq_true, or_true, true_or, or_false, false_or, yB0, yB1, Decidable.not_not]; rfl) | (simp (disch := omega) only [if_pos, if_neg, yAnd, Int.toNat_natCast, zw_id, gI_sI, gI_sL, gI_sR, gL_sI, gL_sL, gL_sR, gR_sI, gR_sL, gR_sR, true_and, and_true, and_self, ite_true, ite_false, ite_self, not_true_eq_false, not_false_eq_true, or_true, true_or, or_false, false_or, yB0, yB1, Decidable.not_not]; omega)
      · rw [if_neg h20] at k1
        rw [if_pos (by rw [if_pos (by omega)]), hc2, yAnd (by omega), yAnd (by omega), zw_id (by omega) (by omega)]
        exact k1 v q rfl
  rw [ze_94 (by omega) ht, ha, hc]
  by_cases h4 : tb f L p = 40
  · rw [if_neg (by rw [if_neg (fun w => w h4)]; omega)]
    by_cases h20 : 20 ≤ c
    · rw [if_neg (by rw [if_neg (by omega)]; omega), c_fail, zr_94_38, yAnd (Or.inl rfl)]
      refine k0 _ (3, p) (if_pos ⟨h4, h20⟩) ((yFr.rf.I ?_).I ?_) ?_ yGI_hit <;> first | omega | (simp (disch := omega) only [if_pos, if_neg, yAnd, Int.toNat_natCast, zw_id, gI_sI, gI_sL, gI_sR, gL_sI, gL_sL, gL_sR, gR_sI, gR_sL, gR_sR, true_and, and_true, and_self, ite_true, ite_false, ite_self, not_true_eq_false, not_false_eq_true, or_true, true_or, or_false, false_or, yB0, yB1, Decidable.not_not]; done) | (simp (disch := omega) only [if_pos, if_neg, yAnd, Int.toNat_natCast, zw_id, gI_sI, gI_sL, gI_sR, gL_sI, gL_sL, gL_sR, gR_sI, gR_sL, gR_sR, true_and, and_true, and_self, ite_true, ite_false, ite_self, not_true_eq_false, not_false_eq_true, or_true, true_or, or_false, false_or, yB0, yB1, Decidable.not_not]; rfl) | (simp (disch := omega) only [if_pos, if_neg, yAnd, Int.toNat_natCast, zw_id, gI_sI, gI_sL, gI_sR, gL_sI, gL_sL, gL_sR, gR_sI, gR_sL, gR_sR, true_and, and_true, and_self, ite_true, ite_false, ite_self, not_true_eq_false, not_false_eq_true, or_true, true_or, or_false, false_or, yB0, yB1, Decidable.not_not]; omega)
    · rw [if_pos (by rw [if_pos (by omega)])]
      exact main none none (fun w => h20 w.2)
  · rw [if_pos (by rw [if_pos h4])]
    exact main none none (fun w => h4 w.1)
/-- the rows of a tree in cell t: its labels and depths -/
def cRows (t c : Nat) (lab : Nat → Int64) (dep : Nat → Nat) (σ : zW) : Prop := gI σ t 12 = (c : Int) ∧ ∀ i, i < c → gL σ (t + 1) i = lab i ∧ gI σ (t + 2) i = (dep i : Nat)
theorem c_tree_loop {K : List zF} (hK : K.length + 4 ≤ 60) {f : Nat → Int} {L t : Nat} (ht : zTr t) : ∀ (n a c o step : Nat) (lab : Nat → Int64) (dep : Nat → Nat) (σ : zW) (o4 o5 : Option zV), L + 1 ≤ a + n → a ≤ L → step ≤ a → wfo c o dep → cT f L σ → gI σ 2 2 = (a : Int) → gI σ 2 3 = 0 → gI σ 2 4 = 0 → cRows t c lab dep σ →
    (∀ (σ' : zW) (e : Nat × Nat), tpr f L n a c o lab dep = .inl e → yFr (Xrd t) σ σ' → gI σ' 2 3 = (e.1 : Nat) → gI σ' 2 4 = (e.2 : Nat) → zRet true K (some (.inl 0)) σ') →
    (∀ (σ' : zW) (r : TRE), tpr f L n a c o lab dep = .inr r → yFr (Xrd t) σ σ' → gI σ' 2 3 = 0 → gI σ' 2 4 = 0 → cRows t r.1 r.2.1 r.2.2 σ' → zRet true K (some (.inl 1)) σ') →
    zEv true ((93, 13, [some (.inr (.inr t)), some (.inr (.inr 2)), some (.inl (o : Int)), some (.inl (step : Int)), o4, o5], []) :: K) σ := by
  have hb := zTr_b ht
  intro n
  induction n with
  | zero => intro a c o step lab dep σ o4 o5 hn ha; omega
  | succ n ih =>
    intro a c o step lab dep σ o4 o5 hn haL hst hw hT ha h3 h4 hR k0 k1
    have h6 := hT.2.2.1
    have hs := sk_le (f := f) haL
    have hg := sk_ge f L a
    have ho := wfo_o hw
    have hc20 := hw.1.1
    rw [tpr] at k0 k1
    have hT2 : cT f L (sI σ 2 2 (sk f L a : Nat)) := cT_u hT (by omega)
    have ha2 : gI (sI σ 2 2 (sk f L a : Nat)) 2 2 = (sk f L a : Nat) := yGI_hit
    have hc2 : gI (sI σ 2 2 (sk f L a : Nat)) t 12 = (c : Int) := by rw [gI_sI, if_neg (by omega)]; exact hR.1
    have hF : yFr (Xrd t) σ (sI σ 2 2 (sk f L a : Nat)) := yFr.rf.I (by omega)
    have hR2 : ∀ x : Int, cRows t c lab dep (sI σ 2 2 x) := fun x => ⟨by rw [gI_sI, if_neg (by omega)]; exact hR.1, fun i hi => ⟨(hR.2 i hi).1, by rw [gI_sI, if_neg (by omega)]; exact (hR.2 i hi).2⟩⟩
    rw [zj_93_13 (by omega), if_neg (by omega), c_next (yL (by omega)) hT ha, zr_93_24 (by omega) ht, hc2, ha2]
    by_cases h0 : 0 < c ∧ o = 0
    · rw [if_pos h0] at k0 k1
      rw [if_neg (by omega), if_neg (by omega)]
      by_cases hE : tb f L (sk f L a) = -1
      · rw [if_pos hE] at k1
        rw [if_pos hE]
        exact k1 _ (c, lab, dep) rfl hF (by simp (disch := omega) only [h3, if_pos, if_neg, yAnd, Int.toNat_natCast, zw_id, gI_sI, gI_sL, gI_sR, gL_sI, gL_sL, gL_sR, gR_sI, gR_sL, gR_sR, true_and, and_true, and_self, ite_true, ite_false, ite_self, not_true_eq_false, not_false_eq_true, or_true, true_or, or_false, false_or, yB0, yB1, Decidable.not_not]) (by simp (disch := omega) only [h4, if_pos, if_neg, yAnd, Int.toNat_natCast, zw_id, gI_sI, gI_sL, gI_sR, gL_sI, gL_sL, gL_sR, gR_sI, gR_sL, gR_sR, true_and, and_true, and_self, ite_true, ite_false, ite_self, not_true_eq_false, not_false_eq_true, or_true, true_or, or_false, false_or, yB0, yB1, Decidable.not_not]) (hR2 _)
      · rw [if_neg hE] at k0
        rw [if_neg hE, c_fail, zr_93_56, if_pos rfl]
        refine k0 _ (1, sk f L a) rfl ((hF.I ?_).I ?_) ?_ yGI_hit <;> first | omega | (simp (disch := omega) only [if_pos, if_neg, yAnd, Int.toNat_natCast, zw_id, gI_sI, gI_sL, gI_sR, gL_sI, gL_sL, gL_sR, gR_sI, gR_sL, gR_sR, true_and, and_true, and_self, ite_true, ite_false, ite_self, not_true_eq_false, not_false_eq_true, or_true, true_or, or_false, false_or, yB0, yB1, Decidable.not_not]; done) | (simp (disch := omega) only [if_pos, if_neg, yAnd, Int.toNat_natCast, zw_id, gI_sI, gI_sL, gI_sR, gL_sI, gL_sL, gL_sR, gR_sI, gR_sL, gR_sR, true_and, and_true, and_self, ite_true, ite_false, ite_self, not_true_eq_false, not_false_eq_true, or_true, true_or, or_false, false_or, yB0, yB1, Decidable.not_not]; rfl) | (simp (disch := omega) only [if_pos, if_neg, yAnd, Int.toNat_natCast, zw_id, gI_sI, gI_sL, gI_sR, gL_sI, gL_sL, gL_sR, gR_sI, gR_sL, gR_sR, true_and, and_true, and_self, ite_true, ite_false, ite_self, not_true_eq_false, not_false_eq_true, or_true, true_or, or_false, false_or, yB0, yB1, Decidable.not_not]; omega)
    · rw [if_neg h0] at k0 k1
      have key : ∀ o5 : Option zV, zEv true ((93, 65, [some (.inr (.inr t)), some (.inr (.inr 2)), some (.inl (o : Int)), some (.inl (step : Int)), some (.inl (tb f L (sk f L a))), o5], []) :: K) (sI σ 2 2 (sk f L a : Nat)) := by
        intro o5
        rw [zj_93_65, ha2]
        by_cases h1 : tb f L (sk f L a) = 41 ∧ 0 < o
        · rw [if_pos h1] at k0 k1
          have hlt : sk f L a < L := by
            rcases Nat.lt_or_ge (sk f L a) L with q | q
            · exact q
            · rw [tb_ge q] at h1; omega
          rw [if_neg (fun w => w h1.1), if_neg (by omega), zw_id (by omega) (by omega), zw_id (by omega) (by omega), zw_id (by omega) (by omega), sI_sI, show ((o : Int) + -1) = ((o - 1 : Nat) : Int) by omega, show ((step : Int) + 1) = ((step + 1 : Nat) : Int) by omega, show (((sk f L a : Nat) : Int) + 1) = ((sk f L a + 1 : Nat) : Int) by omega]
          exact ih (sk f L a + 1) c (o - 1) (step + 1) lab dep _ _ _ (by omega) (by omega) (by omega) (wfo_pop hw) (cT_u hT (by omega)) yGI_hit (by simp (disch := omega) only [h3, if_pos, if_neg, yAnd, Int.toNat_natCast, zw_id, gI_sI, gI_sL, gI_sR, gL_sI, gL_sL, gL_sR, gR_sI, gR_sL, gR_sR, true_and, and_true, and_self, ite_true, ite_false, ite_self, not_true_eq_false, not_false_eq_true, or_true, true_or, or_false, false_or, yB0, yB1, Decidable.not_not]) (by simp (disch := omega) only [h4, if_pos, if_neg, yAnd, Int.toNat_natCast, zw_id, gI_sI, gI_sL, gI_sR, gL_sI, gL_sL, gL_sR, gR_sI, gR_sL, gR_sR, true_and, and_true, and_self, ite_true, ite_false, ite_self, not_true_eq_false, not_false_eq_true, or_true, true_or, or_false, false_or, yB0, yB1, Decidable.not_not]) (hR2 _) (fun σ' e he hF2 => k0 σ' e he ((yFr.rf.I (by omega)).trans hF2)) (fun σ' r hr hF2 => k1 σ' r hr ((yFr.rf.I (by omega)).trans hF2))
        · rw [if_neg h1] at k0 k1
          have go : ∀ o5 : Option zV, zEv true ((93, 92, [some (.inr (.inr t)), some (.inr (.inr 2)), some (.inl (o : Int)), some (.inl (step : Int)), some (.inl (tb f L (sk f L a))), o5], []) :: K) (sI σ 2 2 (sk f L a : Nat)) := by
            intro o5
            rw [zj_93_92 (by omega) ht]
            refine c_readNode (yKK (by omega)) ht hT2 ha2 hs hc2 hc20 (fun σ' e he hF2 e3 e4 => ?_) (fun v q hq => ?_)
            · rw [he] at k0
              rw [zr_93_110, if_neg (fun w => w rfl)]
              exact k0 σ' e rfl (hF.trans hF2) e3 e4
            · rw [hq] at k0 k1
              simp only at k0 k1
              obtain ⟨hc, hrd⟩ := nodeR_ok hq
              have hrk := rdl_ok hrd
              have hq2 : sk f L a < q := by
                have := hrk.1
                split at this <;> omega
              rw [zr_93_110, if_pos (by omega)]
              have hoo : w32 ((o : Int) + (if ¬ tb f L (sk f L a) = 40 then 0 else 1)) = ((if tb f L (sk f L a) = 40 then o + 1 else o : Nat) : Int) := by
                by_cases h5 : tb f L (sk f L a) = 40
                · rw [if_neg (fun w => w h5), if_pos h5, zw_id (by omega) (by omega)]; omega
                · rw [if_pos h5, if_neg h5, zw_id (by omega) (by omega)]; omega
              rw [hoo, zw_id (by omega) (by omega), show ((step : Int) + 1) = ((step + 1 : Nat) : Int) by omega, sI_sI]
              have hFF : yFr (Xrd t) σ (sI (sI (sL (sI σ 2 2 (q : Nat)) (t + 1) c v) (t + 2) c (o : Int)) t 12 ((c + 1 : Nat) : Int)) := (((yFr.rf.I (by omega)).L (by omega)).I (by omega)).I (by omega)
              refine ih q (c + 1) (if tb f L (sk f L a) = 40 then o + 1 else o) (step + 1) (fup lab c v) (fup dep c o) _ _ _ (by omega) (by omega) (by omega) (wfo_push hw hc h0 (by split <;> omega)) ?_ ?_ ?_ ?_ ⟨yGI_hit, fun i hi => ?_⟩ (fun σ' e he hF2 => k0 σ' e he (hFF.trans hF2)) (fun σ' r hr hF2 => k1 σ' r hr (hFF.trans hF2))
              · exact cT_u (cT_u (cT_l (cT_u hT (by omega))) (by omega)) (by omega)
              · simp (disch := omega) only [if_pos, if_neg, yAnd, Int.toNat_natCast, zw_id, gI_sI, gI_sL, gI_sR, gL_sI, gL_sL, gL_sR, gR_sI, gR_sL, gR_sR, true_and, and_true, and_self, ite_true, ite_false, ite_self, not_true_eq_false, not_false_eq_true, or_true, true_or, or_false, false_or, yB0, yB1, Decidable.not_not]
              · simp (disch := omega) only [h3, if_pos, if_neg, yAnd, Int.toNat_natCast, zw_id, gI_sI, gI_sL, gI_sR, gL_sI, gL_sL, gL_sR, gR_sI, gR_sL, gR_sR, true_and, and_true, and_self, ite_true, ite_false, ite_self, not_true_eq_false, not_false_eq_true, or_true, true_or, or_false, false_or, yB0, yB1, Decidable.not_not]
              · simp (disch := omega) only [h4, if_pos, if_neg, yAnd, Int.toNat_natCast, zw_id, gI_sI, gI_sL, gI_sR, gL_sI, gL_sL, gL_sR, gR_sI, gR_sL, gR_sR, true_and, and_true, and_self, ite_true, ite_false, ite_self, not_true_eq_false, not_false_eq_true, or_true, true_or, or_false, false_or, yB0, yB1, Decidable.not_not]
              · by_cases e : i = c
                · subst e
                  rw [fup_eq, fup_eq]
                  simp (disch := omega) only [if_pos, if_neg, yAnd, Int.toNat_natCast, zw_id, gI_sI, gI_sL, gI_sR, gL_sI, gL_sL, gL_sR, gR_sI, gR_sL, gR_sR, true_and, and_true, and_self, ite_true, ite_false, ite_self, not_true_eq_false, not_false_eq_true, or_true, true_or, or_false, false_or, yB0, yB1, Decidable.not_not]
                · rw [fup_ne e, fup_ne e]
                  simp (disch := omega) only [(hR.2 i (by omega)).1, (hR.2 i (by omega)).2, if_pos, if_neg, yAnd, Int.toNat_natCast, zw_id, gI_sI, gI_sL, gI_sR, gL_sI, gL_sL, gL_sR, gR_sI, gR_sL, gR_sR, true_and, and_true, and_self, ite_true, ite_false, ite_self, not_true_eq_false, not_false_eq_true, or_true, true_or, or_false, false_or, yB0, yB1, Decidable.not_not]
          by_cases h2 : tb f L (sk f L a) = 41
          · rw [if_neg (fun w => w h2), if_pos (by omega)]; exact go _
          · rw [if_pos h2]; exact go _
      by_cases h1 : c = 0
      · rw [if_pos (by omega)]; exact key _
      · rw [if_neg (by omega), if_pos (by omega)]; exact key _
