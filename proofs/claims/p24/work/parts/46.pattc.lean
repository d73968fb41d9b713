/-! the parts of a pattern read by the class -/
abbrev Xc2 : Nat → Nat → Prop := fun k j => k = 2 ∧ 2 ≤ j ∧ j ≤ 4
theorem c_nm {K : List zF} (hK : K.length + 2 ≤ 60) {f : Nat → Int} {L a : Nat} {σ : zW} (hT : cT f L σ) (ha : gI σ 2 2 = (a : Int)) (haL : a ≤ L) : zEv true (zent 52 [.inr (.inr 2)] :: K) σ = (match nmA f L a with
    | .inl p => zRet true K (some (.inl (-1))) (cfw (1, p) σ)
    | .inr r => zRet true K (some (.inl (r.1 : Nat))) (sI σ 2 2 (r.2 : Nat))) := by
  have h6 := hT.2.2.1
  have hs := sk_le (f := f) haL
  rw [ze_52 (by omega), c_next (yL (by omega)) hT ha, zr_52_4 (by omega), c_isSmall, zr_52_9 (by omega)]
  unfold nmA
  by_cases h : zsml (tb f L (sk f L a))
  · have := tb_in (f := f) (L := L) (p := sk f L a) (by omega)
    rw [if_pos (show ¬ (if zsml (tb f L (sk f L a)) then (1 : Int) else 0) = 0 by rw [if_pos h]; omega), if_pos h, yGI_hit, zw_id (by omega) (by omega), zw_id (by omega) (by omega), sI_sI]
    show zRet true K (some (.inl (tb f L (sk f L a) - 97))) _ = zRet true K (some (.inl (((tb f L (sk f L a) - 97).toNat : Nat) : Int))) _
    rw [Int.toNat_of_nonneg (by omega)]
    rfl
  · rw [if_neg (show ¬ ¬ (if zsml (tb f L (sk f L a)) then (1 : Int) else 0) = 0 by rw [if_neg h]; omega), if_neg h, c_fail, zr_52_21, yGI_hit]
    rfl
theorem c_told {K : List zF} (hK : K.length + 3 ≤ 60) {f : Nat → Int} {L a t c : Nat} {R : PRW} {σ : zW} (ht : zPn t) (hT : cT f L σ) (ha : gI σ 2 2 = (a : Int)) (haL : a ≤ L) (hc : c < 8) (h13 : ∀ x, x < 26 → gI σ (t + 13) x = R 13 x ∧ -1 ≤ R 13 x ∧ R 13 x < c) (hR : ∀ i, i < c → gI σ (t + 11) i = R 11 i ∧ gI σ (t + 9) i = R 9 i)
    (k0 : ∀ (σ' : zW) (e : Nat × Nat), tolR f L R a = .inl e → yFr Xc2 σ σ' → gI σ' 2 3 = (e.1 : Nat) → gI σ' 2 4 = (e.2 : Nat) → zRet true K (some (.inl 0)) σ')
    (k1 : ∀ r : Int × Nat, tolR f L R a = .inr r → r.2 ≤ L → a < r.2 → -1 < r.1 → r.1 < c → zRet true K (some (.inl 1)) (sI (sI σ 2 2 (r.2 : Nat)) (t + 2) c r.1)) :
    zEv true (zent 53 [.inr (.inr t), .inr (.inr 2), .inl (c : Int)] :: K) σ := by
  have hb := zPn_b ht
  have h6 := hT.2.2.1
  have hs := sk_le (f := f) haL
  have hg := sk_ge f L a
  rw [ze_53 (by omega), c_nm (yKK (by omega)) hT ha haL]
  unfold tolR at k0 k1
  cases hn : nmA f L a with
  | inl p =>
    rw [hn] at k0
    simp only at k0 ⊢
    rw [zr_53_4 (by omega) ht, if_neg (fun w => w rfl)]
    refine k0 _ (1, p) rfl (((yFr.rf.I ?_).I ?_).I ?_) ?_ ?_ <;> first | omega | (simp (disch := omega) only [if_pos, if_neg, yAnd, Int.toNat_natCast, zw_id, gI_sI, gI_sL, gI_sR, gL_sI, gL_sL, gL_sR, gR_sI, gR_sL, gR_sR, true_and, and_true, and_self, ite_true, ite_false, ite_self, not_true_eq_false, not_false_eq_true, or_true, true_or, or_false, false_or, yB0, yB1, Decidable.not_not]; done) | (simp (disch := omega) only [if_pos, if_neg, yAnd, Int.toNat_natCast, zw_id, gI_sI, gI_sL, gI_sR, gL_sI, gL_sL, gL_sR, gR_sI, gR_sL, gR_sR, true_and, and_true, and_self, ite_true, ite_false, ite_self, not_true_eq_false, not_false_eq_true, or_true, true_or, or_false, false_or, yB0, yB1, Decidable.not_not]; rfl) | (simp (disch := omega) only [if_pos, if_neg, yAnd, Int.toNat_natCast, zw_id, gI_sI, gI_sL, gI_sR, gL_sI, gL_sL, gL_sR, gR_sI, gR_sL, gR_sR, true_and, and_true, and_self, ite_true, ite_false, ite_self, not_true_eq_false, not_false_eq_true, or_true, true_or, or_false, false_or, yB0, yB1, Decidable.not_not]; omega)
  | inr r =>
    obtain ⟨x, q⟩ := r
    obtain ⟨n1, n2, n3, n4⟩ := nmA_ok hn
    rw [hn] at k0 k1
    simp only at k0 k1 ⊢
    obtain ⟨g1, g2, g3⟩ := h13 x n3
    have bad : (R 13 x = -1 ∨ ¬ pln R (R 13 x).toNat) → ∀ o2 o3 o4 : Option zV, zEv true ((53, 35, [some (.inr (.inr t)), some (.inr (.inr 2)), o2, o3, o4], []) :: K) (sI σ 2 2 (q : Nat)) := by
      intro hw o2 o3 o4
      rw [if_pos hw] at k0
      rw [zj_53_35 (by omega), c_fail, zr_53_46, yAnd (Or.inl rfl), yGI_hit, zw_id (by omega) (by omega)]
      refine k0 _ (4, q - 1) rfl (((yFr.rf.I ?_).I ?_).I ?_) ?_ ?_
      all_goals first | omega | (simp (disch := omega) only [if_pos, if_neg, yAnd, Int.toNat_natCast, zw_id, gI_sI, gI_sL, gI_sR, gL_sI, gL_sL, gL_sR, gR_sI, gR_sL, gR_sR, true_and, and_true, and_self, ite_true, ite_false, ite_self, not_true_eq_false, not_false_eq_true, or_true, true_or, or_false, false_or, yB0, yB1, Decidable.not_not]; done) | (simp (disch := omega) only [if_pos, if_neg, yAnd, Int.toNat_natCast, zw_id, gI_sI, gI_sL, gI_sR, gL_sI, gL_sL, gL_sR, gR_sI, gR_sL, gR_sR, true_and, and_true, and_self, ite_true, ite_false, ite_self, not_true_eq_false, not_false_eq_true, or_true, true_or, or_false, false_or, yB0, yB1, Decidable.not_not]; rfl) | (simp (disch := omega) only [if_pos, if_neg, yAnd, Int.toNat_natCast, zw_id, gI_sI, gI_sL, gI_sR, gL_sI, gL_sL, gL_sR, gR_sI, gR_sL, gR_sR, true_and, and_true, and_self, ite_true, ite_false, ite_self, not_true_eq_false, not_false_eq_true, or_true, true_or, or_false, false_or, yB0, yB1, Decidable.not_not]; omega)
    have hcc : 0 ≤ (x : Int) ∧ (x : Int) < 26 := by omega
    have e13 : gI (sI σ 2 2 (q : Nat)) (t + 13) x = R 13 x := by rw [gI_sI, if_neg (by omega)]; exact g1
    rw [zr_53_4 (by omega) ht, if_pos (by omega), yAnd hcc, Int.toNat_natCast, e13]
    by_cases h1 : R 13 x = -1
    · rw [if_pos h1]
      exact bad (Or.inl h1) _ _ _
    · obtain ⟨i, hi⟩ : ∃ i : Nat, R 13 x = (i : Int) := ⟨(R 13 x).toNat, by omega⟩
      have hic : i < c := by omega
      have hti : (R 13 x).toNat = i := by omega
      rw [if_neg h1, c_plain (u := R 11 i) (w := R 9 i) ht hi (by omega) (by rw [gI_sI, if_neg (by omega)]; exact (hR i hic).1) (by rw [gI_sI, if_neg (by omega)]; exact (hR i hic).2), zr_53_32 ht]
      by_cases hp : pln R i
      · have hcc2 : 0 ≤ (c : Int) ∧ (c : Int) < 8 := by omega
        rw [if_neg (by rw [hti]; exact fun w => w.elim h1 (fun w => w hp))] at k1
        rw [if_pos (show ¬ (if R 11 i = 0 ∧ R 9 i = -1 then (1 : Int) else 0) = 0 by rw [if_pos hp]; omega), yAnd hcc2, Int.toNat_natCast]
        exact k1 (R 13 x, q) rfl (by dsimp only; omega) (by dsimp only; omega) (by dsimp only; omega) (by dsimp only; omega)
      · rw [if_neg (show ¬ ¬ (if R 11 i = 0 ∧ R 9 i = -1 then (1 : Int) else 0) = 0 by rw [if_neg hp]; omega)]
        exact bad (Or.inr (by rw [hti]; exact hp)) _ _ _
abbrev Xgv (t : Nat) : Nat → Nat → Prop := fun k j => (k = 2 ∧ j = 2) ∨ k = t + 13
theorem c_given {K : List zF} (hK : K.length + 3 ≤ 60) {f : Nat → Int} {L a t c : Nat} {R : PRW} {σ : zW} (ht : zPn t) (hT : cT f L σ) (ha : gI σ 2 2 = (a : Int)) (haL : a ≤ L) (h13 : ∀ x, x < 26 → gI σ (t + 13) x = R 13 x ∧ -1 ≤ R 13 x ∧ R 13 x < c)
    (k0 : ∀ (σ' : zW) (e : Nat × Nat), givR f L R a = .inl e → yFr Xc2 σ σ' → gI σ' 2 3 = (e.1 : Nat) → gI σ' 2 4 = (e.2 : Nat) → zRet true K (some (.inl 0)) σ')
    (k1 : ∀ (σ' : zW) (r : Int × Nat), givR f L R a = .inr r → yFr (Xgv t) σ σ' → r.2 ≤ L → a ≤ r.2 → gI σ' 2 2 = (r.2 : Nat) → (∀ x : Nat, x < 26 → gI σ' (t + 13) x = if r.1 = (x : Int) + 97 then (c : Int) else R 13 x) → zRet true K (some (.inl 1)) σ') :
    zEv true (zent 54 [.inr (.inr t), .inr (.inr 2), .inl (c : Int)] :: K) σ := by
  have hb := zPn_b ht
  have h6 := hT.2.2.1
  have hs := sk_le (f := f) haL
  have hg := sk_ge f L a
  rw [ze_54 (by omega), c_next (yL (by omega)) hT ha, zr_54_4 (by omega)]
  unfold givR at k0 k1
  by_cases h61 : tb f L (sk f L a) = 61
  · have hlt := tb_in (f := f) (L := L) (p := sk f L a) (by omega)
    rw [if_pos h61] at k0 k1
    rw [if_pos h61, yGI_hit, zw_id (by omega) (by omega), sI_sI, show ((sk f L a : Nat) : Int) + 1 = ((sk f L a + 1 : Nat) : Int) by omega, c_nm (yKK (by omega)) (cT_u hT (by omega)) yGI_hit (by omega)]
    cases hn : nmA f L (sk f L a + 1) with
    | inl p =>
      rw [hn] at k0
      simp only at k0 ⊢
      rw [zr_54_25 (by omega) ht, if_neg (fun w => w rfl)]
      refine k0 _ (1, p) rfl ((((yFr.rf.I ?_).I ?_).I ?_).I ?_) ?_ ?_ <;> first | omega | (simp (disch := omega) only [if_pos, if_neg, yAnd, Int.toNat_natCast, zw_id, gI_sI, gI_sL, gI_sR, gL_sI, gL_sL, gL_sR, gR_sI, gR_sL, gR_sR, true_and, and_true, and_self, ite_true, ite_false, ite_self, not_true_eq_false, not_false_eq_true, or_true, true_or, or_false, false_or, yB0, yB1, Decidable.not_not]; done) | (simp (disch := omega) only [if_pos, if_neg, yAnd, Int.toNat_natCast, zw_id, gI_sI, gI_sL, gI_sR, gL_sI, gL_sL, gL_sR, gR_sI, gR_sL, gR_sR, true_and, and_true, and_self, ite_true, ite_false, ite_self, not_true_eq_false, not_false_eq_true, or_true, true_or, or_false, false_or, yB0, yB1, Decidable.not_not]; rfl) | (simp (disch := omega) only [if_pos, if_neg, yAnd, Int.toNat_natCast, zw_id, gI_sI, gI_sL, gI_sR, gL_sI, gL_sL, gL_sR, gR_sI, gR_sL, gR_sR, true_and, and_true, and_self, ite_true, ite_false, ite_self, not_true_eq_false, not_false_eq_true, or_true, true_or, or_false, false_or, yB0, yB1, Decidable.not_not]; omega)
    | inr r =>
      obtain ⟨x, q⟩ := r
      obtain ⟨n1, n2, n3, n4⟩ := nmA_ok hn
      have hg2 := sk_ge f L (sk f L a + 1)
      rw [hn] at k0 k1
      simp only at k0 k1 ⊢
      obtain ⟨g1, g2, g3⟩ := h13 x n3
      have hcc : 0 ≤ (x : Int) ∧ (x : Int) < 26 := by omega
      have e13 : gI (sI σ 2 2 (q : Nat)) (t + 13) x = R 13 x := by rw [gI_sI, if_neg (by omega)]; exact g1
      rw [zr_54_25 (by omega) ht, if_pos (by omega), yAnd hcc, Int.toNat_natCast, sI_sI, e13]
      by_cases h1 : R 13 x = -1
      · rw [if_pos h1] at k1
        rw [if_pos h1, yAnd hcc]
        refine k1 _ ((x : Nat) + 97, q) rfl ((yFr.rf.I (by omega)).I (by omega)) (by dsimp only; omega) (by dsimp only; omega) (by simp (disch := omega) only [if_pos, if_neg, yAnd, Int.toNat_natCast, zw_id, gI_sI, gI_sL, gI_sR, gL_sI, gL_sL, gL_sR, gR_sI, gR_sL, gR_sR, true_and, and_true, and_self, ite_true, ite_false, ite_self, not_true_eq_false, not_false_eq_true, or_true, true_or, or_false, false_or, yB0, yB1, Decidable.not_not]) (fun y hy => ?_)
        dsimp only
        rw [gI_sI]
        by_cases e : y = x
        · subst e; rw [if_pos ⟨rfl, rfl⟩, if_pos rfl]
        · rw [if_neg (fun w => e w.2), gI_sI, if_neg (by omega), if_neg (by omega), (h13 y hy).1]
      · rw [if_neg h1] at k0
        rw [if_neg h1, c_fail, zr_54_54, yAnd (Or.inl rfl), yGI_hit, zw_id (by omega) (by omega)]
        refine k0 _ (4, q - 1) rfl (((yFr.rf.I ?_).I ?_).I ?_) ?_ ?_
        all_goals first | omega | (simp (disch := omega) only [if_pos, if_neg, yAnd, Int.toNat_natCast, zw_id, gI_sI, gI_sL, gI_sR, gL_sI, gL_sL, gL_sR, gR_sI, gR_sL, gR_sR, true_and, and_true, and_self, ite_true, ite_false, ite_self, not_true_eq_false, not_false_eq_true, or_true, true_or, or_false, false_or, yB0, yB1, Decidable.not_not]; done) | (simp (disch := omega) only [if_pos, if_neg, yAnd, Int.toNat_natCast, zw_id, gI_sI, gI_sL, gI_sR, gL_sI, gL_sL, gL_sR, gR_sI, gR_sL, gR_sR, true_and, and_true, and_self, ite_true, ite_false, ite_self, not_true_eq_false, not_false_eq_true, or_true, true_or, or_false, false_or, yB0, yB1, Decidable.not_not]; rfl) | (simp (disch := omega) only [if_pos, if_neg, yAnd, Int.toNat_natCast, zw_id, gI_sI, gI_sL, gI_sR, gL_sI, gL_sL, gL_sR, gR_sI, gR_sL, gR_sR, true_and, and_true, and_self, ite_true, ite_false, ite_self, not_true_eq_false, not_false_eq_true, or_true, true_or, or_false, false_or, yB0, yB1, Decidable.not_not]; omega)
  · rw [if_neg h61] at k1
    rw [if_neg h61]
    refine k1 _ (0, sk f L a) rfl (yFr.rf.I (by omega)) hs hg yGI_hit (fun y hy => ?_)
    dsimp only
    rw [gI_sI, if_neg (by omega), if_neg (by omega), (h13 y hy).1]
abbrev Xlb2 (t c : Nat) : Nat → Nat → Prop := fun k j => (k = 2 ∧ j = 2) ∨ k = t + 12 ∨ (k = t ∧ j = 14) ∨ (k = t + 7 ∧ j = c)
abbrev Xlb3 (t c : Nat) : Nat → Nat → Prop := fun k j => (k = 2 ∧ 2 ≤ j ∧ j ≤ 4) ∨ k = t + 12 ∨ (k = t ∧ j = 14) ∨ (k = t + 7 ∧ j = c)
theorem c_labels_loop {K : List zF} (hK : K.length + 4 ≤ 60) {f : Nat → Int} {L t c : Nat} (ht : zPn t) (hc : c < 8) : ∀ (n a l m : Nat) (B : Nat → Int64) (σ : zW) (o4 o5 : Option zV), L < a + n → a ≤ L → 2 * l ≤ a → m ≤ l → cT f L σ → gI σ 2 2 = (a : Int) → gI σ t 14 = (l : Int) → (∀ i, i < l → gL σ (t + 12) i = B i) →
    (∀ (σ' : zW) (e : Nat × Nat), lbR f L n a l B = .inl e → yFr (Xlb3 t c) σ σ' → gI σ' 2 3 = (e.1 : Nat) → gI σ' 2 4 = (e.2 : Nat) → zRet true K (some (.inl 0)) σ') →
    (∀ (σ' : zW) (r : Nat × (Nat → Int64) × Nat), lbR f L n a l B = .inr r → yFr (Xlb2 t c) σ σ' → r.2.2 ≤ L → a < r.2.2 → 2 * r.1 ≤ r.2.2 + 1 → l < r.1 → gI σ' 2 2 = (r.2.2 : Nat) → gI σ' t 14 = (r.1 : Nat) → gI σ' (t + 7) c = (r.1 : Nat) → (∀ i, i < r.1 → gL σ' (t + 12) i = r.2.1 i) → zRet true K (some (.inl 1)) σ') →
    zEv true ((51, 2, [some (.inr (.inr t)), some (.inr (.inr 2)), some (.inl (c : Int)), some (.inl (m : Int)), o4, o5], []) :: K) σ := by
  have hb := zPn_b ht
  intro n
  induction n with
  | zero => intro a l m B σ o4 o5 h1 h2; omega
  | succ n ih =>
    intro a l m B σ o4 o5 hn haL hl hm hT ha h14 hB k0 k1
    have h6 := hT.2.2.1
    rw [lbR] at k0 k1
    rw [zj_51_2 (by omega) ht, if_neg (by omega), h14, if_neg (by omega), c_readLabel (yKK (by omega)) hT ha haL]
    cases hr : rdl f L a with
    | inl e =>
      rw [hr] at k0
      simp only [rdlV, rdlW, hr] at k0 ⊢
      rw [zr_51_23 (by omega) ht, if_neg (fun w => w (by decide +kernel))]
      have := rdl_fault hr
      refine k0 _ e rfl (((yFr.rf.I ?_).I ?_).I ?_) ?_ ?_
      all_goals first | omega | (simp (disch := omega) only [if_pos, if_neg, yAnd, Int.toNat_natCast, zw_id, gI_sI, gI_sL, gI_sR, gL_sI, gL_sL, gL_sR, gR_sI, gR_sL, gR_sR, true_and, and_true, and_self, ite_true, ite_false, ite_self, not_true_eq_false, not_false_eq_true, or_true, true_or, or_false, false_or, yB0, yB1, Decidable.not_not]; done) | (simp (disch := omega) only [if_pos, if_neg, yAnd, Int.toNat_natCast, zw_id, gI_sI, gI_sL, gI_sR, gL_sI, gL_sL, gL_sR, gR_sI, gR_sL, gR_sR, true_and, and_true, and_self, ite_true, ite_false, ite_self, not_true_eq_false, not_false_eq_true, or_true, true_or, or_false, false_or, yB0, yB1, Decidable.not_not]; rfl) | (simp (disch := omega) only [if_pos, if_neg, yAnd, Int.toNat_natCast, zw_id, gI_sI, gI_sL, gI_sR, gL_sI, gL_sL, gL_sR, gR_sI, gR_sL, gR_sR, true_and, and_true, and_self, ite_true, ite_false, ite_self, not_true_eq_false, not_false_eq_true, or_true, true_or, or_false, false_or, yB0, yB1, Decidable.not_not]; omega)
    | inr r =>
      obtain ⟨v, q⟩ := r
      rw [hr] at k0 k1
      simp only [rdlV, rdlW, hr] at k0 k1 ⊢
      obtain ⟨g1, g2, -⟩ := rdl_ok hr
      have hs2 := sk_le (f := f) g2
      have hg2 := sk_ge f L q
      have hcc : 0 ≤ (l : Int) ∧ (l : Int) < 600 := by omega
      have hcc2 : 0 ≤ (c : Int) ∧ (c : Int) < 8 := by omega
      have e14 : gI (sI σ 2 2 (q : Nat)) t 14 = (l : Int) := by rw [gI_sI, if_neg (by omega)]; exact h14
      rw [zr_51_23 (by omega) ht, if_pos (zlc0 (rdl_good hr)), e14, yAnd hcc, yAnd hcc2, Int.toNat_natCast, Int.toNat_natCast, zw_id (by omega) (by omega)]
      have hF : yFr (Xlb2 t c) σ (sI (sI (sL (sI σ 2 2 (q : Nat)) (t + 12) l v) t 14 ((l : Int) + 1)) (t + 7) c ((l : Int) + 1)) := (((yFr.rf.I (by omega)).L (by omega)).I (by omega)).I (by omega)
      have hT2 := cT_fr hT hF (fun k j h => by omega)
      have j2 : gI (sI (sI (sL (sI σ 2 2 (q : Nat)) (t + 12) l v) t 14 ((l : Int) + 1)) (t + 7) c ((l : Int) + 1)) 2 2 = (q : Int) := by simp (disch := omega) only [if_pos, if_neg, yAnd, Int.toNat_natCast, zw_id, gI_sI, gI_sL, gI_sR, gL_sI, gL_sL, gL_sR, gR_sI, gR_sL, gR_sR, true_and, and_true, and_self, ite_true, ite_false, ite_self, not_true_eq_false, not_false_eq_true, or_true, true_or, or_false, false_or, yB0, yB1, Decidable.not_not]
      have j14 : gI (sI (sI (sL (sI σ 2 2 (q : Nat)) (t + 12) l v) t 14 ((l : Int) + 1)) (t + 7) c ((l : Int) + 1)) t 14 = ((l + 1 : Nat) : Int) := by rw [gI_sI, if_neg (by omega), yGI_hit]; omega
      have j7 : gI (sI (sI (sL (sI σ 2 2 (q : Nat)) (t + 12) l v) t 14 ((l : Int) + 1)) (t + 7) c ((l : Int) + 1)) (t + 7) c = ((l + 1 : Nat) : Int) := by rw [yGI_hit]; omega
      have jB : ∀ i, i < l + 1 → gL (sI (sI (sL (sI σ 2 2 (q : Nat)) (t + 12) l v) t 14 ((l : Int) + 1)) (t + 7) c ((l : Int) + 1)) (t + 12) i = fup B l v i := by
        intro i hi
        rw [gL_sI, gL_sI, gL_sL]
        by_cases e : i = l
        · subst e; rw [if_pos ⟨rfl, rfl⟩, fup_eq]
        · rw [if_neg (fun w => e w.2), fup_ne e]; exact hB i (by omega)
      generalize sI (sI (sL (sI σ 2 2 (q : Nat)) (t + 12) l v) t 14 ((l : Int) + 1)) (t + 7) c ((l : Int) + 1) = σ1 at hF hT2 j2 j14 j7 jB ⊢
      rw [c_next (yL (by omega)) hT2 j2, zr_51_69]
      by_cases h124 : tb f L (sk f L q) = 124
      · have hlt := tb_in (f := f) (L := L) (p := sk f L q) (by omega)
        rw [if_pos h124] at k0 k1
        rw [if_pos h124, yGI_hit, zw_id (by omega) (by omega), zw_id (by omega) (by omega), sI_sI, show ((sk f L q : Nat) : Int) + 1 = ((sk f L q + 1 : Nat) : Int) by omega, show ((m : Nat) : Int) + 1 = ((m + 1 : Nat) : Int) by omega]
        have hF2 : yFr (Xlb2 t c) σ (sI σ1 2 2 ((sk f L q + 1 : Nat) : Int)) := hF.I (by omega)
        refine ih (sk f L q + 1) (l + 1) (m + 1) (fup B l v) _ _ _ (by omega) (by omega) (by omega) (by omega) (cT_u hT2 (by omega)) yGI_hit (by rw [gI_sI, if_neg (by omega)]; exact j14) (fun i hi => by rw [gL_sI]; exact jB i hi) (fun σ' e he hF3 b3 b4 => k0 σ' e he ((hF2.mono (fun k j h => by omega)).trans hF3) b3 b4) (fun σ' r hr2 hF3 c1 c2 c3 c4 c5 c6 c7 c8 => k1 σ' r hr2 (hF2.trans hF3) c1 (by omega) c3 (by omega) c5 c6 c7 c8)
      · rw [if_neg h124] at k1
        rw [if_neg h124]
        exact k1 _ (l + 1, fup B l v, sk f L q) rfl (hF.I (by omega)) hs2 (by dsimp only; omega) (by dsimp only; omega) (by dsimp only; omega) yGI_hit (by rw [gI_sI, if_neg (by omega)]; exact j14) (by rw [gI_sI, if_neg (by omega)]; exact j7) (fun i hi => by rw [gL_sI]; exact jB i hi)
theorem c_begun {K : List zF} (hK : K.length + 2 ≤ 60) {f : Nat → Int} {L p t c n nb : Nat} {x y : Int} {σ : zW} (ht : zPn t) (hT : cT f L σ) (ha : gI σ 2 2 = (p : Int)) (hx : x = tb f L p) (hy : y = (nb : Int)) (h15 : gI σ t 15 = (c : Int)) (h16 : gI σ t 16 = (n : Int)) (hnb : nb ≤ 1) : zEv true (zent 48 [.inr (.inr t), .inr (.inr 2), .inl x, .inl y] :: K) σ = (match begR f L p c n nb with
    | some e => zRet true K (some (.inl 0)) (sI (sI σ 2 3 (e.1 : Nat)) 2 4 (e.2 : Nat))
    | none => zRet true K (some (.inl 1)) σ) := by
  have h6 := hT.2.2.1
  subst hx
  subst hy
  rw [ze_48 (by omega), c_isLetter, zr_48_4 (by omega)]
  have full : ∀ o2 o4 o5 : Option zV, zEv true ((48, 69, [some (.inr (.inr t)), some (.inr (.inr 2)), o2, some (.inl (nb : Int)), o4, o5], []) :: K) σ = (match (if 8 ≤ c ∨ (nb = 1 ∧ 4 ≤ n) then some (3, p) else none : Option (Nat × Nat)) with
    | some e => zRet true K (some (.inl 0)) (sI (sI σ 2 3 (e.1 : Nat)) 2 4 (e.2 : Nat))
    | none => zRet true K (some (.inl 1)) σ) := by
    intro o2 o4 o5
    rw [zj_48_69 (by omega) ht, h15, h16]
    by_cases h1 : 8 ≤ c
    · rw [if_pos (by omega), if_neg (by omega), if_pos (Or.inl h1), c_fail, zr_48_111, if_pos rfl, ha]
      rfl
    · rw [if_neg (by omega)]
      by_cases h2 : nb = 0
      · rw [if_pos (by omega), if_neg (by omega), zj_48_94 (by omega), if_pos rfl]
      · rw [if_neg (by omega)]
        by_cases h3 : n < 4
        · rw [if_pos (by omega), if_neg (by omega), zj_48_94 (by omega), if_pos rfl]
        · rw [if_neg (by omega), if_neg (by omega), if_pos (by omega), c_fail, zr_48_111, if_pos rfl, ha]
          rfl
  by_cases hz : zlet (tb f L p)
  · have eB : begR f L p c n nb = if 6 < wl f L p then some (2, p) else if 8 ≤ c ∨ (nb = 1 ∧ 4 ≤ n) then some (3, p) else none := if_neg (fun w => w (Or.inl hz))
    rw [eB, if_pos hz, if_pos (by omega), zj_48_45 (by omega), if_neg (by omega), c_wl (yL (by omega)) hT ha, zr_48_54 (by omega)]
    by_cases h2 : 6 < wl f L p
    · rw [if_neg (by omega), if_pos h2, c_fail, zr_48_68, yAnd (Or.inl rfl), ha]
      rfl
    · rw [if_pos (by omega), if_neg h2, full]
  · have hw := wl_zero hz
    rw [if_neg hz, if_neg (fun w => w rfl)]
    have go : (tb f L p = 42 ∨ tb f L p = 61 ∨ tb f L p = 126 ∨ tb f L p = 33) → ∀ o5 : Option zV, zEv true ((48, 45, [some (.inr (.inr t)), some (.inr (.inr 2)), some (.inl (tb f L p)), some (.inl (nb : Int)), some (.inl 0), o5], []) :: K) σ = (match begR f L p c n nb with
    | some e => zRet true K (some (.inl 0)) (sI (sI σ 2 3 (e.1 : Nat)) 2 4 (e.2 : Nat))
    | none => zRet true K (some (.inl 1)) σ) := by
      intro h o5
      have eB : begR f L p c n nb = if 8 ≤ c ∨ (nb = 1 ∧ 4 ≤ n) then some (3, p) else none := by
        unfold begR
        rw [if_neg (fun w => w (Or.inr h)), if_neg (by omega)]
      rw [zj_48_45 (by omega), if_pos rfl, full, eB]
    by_cases h1 : tb f L p = 42
    · rw [if_pos h1, go (Or.inl h1)]
    · rw [if_neg h1]
      by_cases h2 : tb f L p = 61
      · rw [if_pos h2, go (Or.inr (Or.inl h2))]
      · rw [if_neg h2]
        by_cases h3 : tb f L p = 126
        · rw [if_pos h3, go (Or.inr (Or.inr (Or.inl h3)))]
        · rw [if_neg h3]
          by_cases h4 : tb f L p = 33
          · rw [if_pos h4, go (Or.inr (Or.inr (Or.inr h4)))]
          · have eB : begR f L p c n nb = some (1, p) := if_pos (fun w => w.elim hz (fun w => w.elim h1 (fun w => w.elim h2 (fun w => w.elim h3 h4))))
            rw [if_neg h4, c_fail, zr_48_44, yAnd (Or.inl rfl), ha, eB]
            rfl
