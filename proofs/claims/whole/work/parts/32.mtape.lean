/-! the tape of the model -/
def mT (f : Nat → Int) (L : Nat) (σ : zW) : Prop := (∀ i, gI σ 123 i = f i) ∧ gI σ 122 1 = (L : Int) ∧ L ≤ 600 ∧ ∀ i, i < L → 0 ≤ f i ∧ f i < 256
theorem mT_u {f : Nat → Int} {L : Nat} {σ : zW} (h : mT f L σ) {k j : Nat} {x : Int} (hk : k ≠ 123 ∧ ¬ (k = 122 ∧ j = 1)) : mT f L (sI σ k j x) := by
  obtain ⟨h1, h2, h3, h4⟩ := h
  refine ⟨fun i => ?_, ?_, h3, h4⟩
  · rw [gI_sI, if_neg (fun w => hk.1 w.1.symm)]; exact h1 i
  · rw [gI_sI, if_neg (fun w => hk.2 ⟨w.1.symm, w.2.symm⟩)]; exact h2
theorem mT_l {f : Nat → Int} {L : Nat} {σ : zW} (h : mT f L σ) {k j : Nat} {x : Int64} : mT f L (sL σ k j x) := h
theorem m_isIn {K : List zF} {σ : zW} (z a b : Int) : zEv true (zent 142 [.inl z, .inl a, .inl b] :: K) σ = zRet true K (some (.inl (if a ≤ z ∧ z ≤ b then 1 else 0))) σ := by
  rw [ze_142]
  by_cases h : a ≤ z ∧ z ≤ b <;> simp (disch := omega) only [zj_142_14, if_pos, if_neg, yAnd, Int.toNat_natCast, zw_id, gI_sI, gI_sL, gI_sR, gL_sI, gL_sL, gL_sR, gR_sI, gR_sL, gR_sR, true_and, and_true, and_self, ite_true, ite_false, ite_self, not_true_eq_false, not_false_eq_true, or_true, true_or, or_false, false_or, yB0, yB1, Decidable.not_not]
theorem y01 {P : Prop} [Decidable P] : (if P then (1 : Int) else 0) = 0 ∨ (if P then (1 : Int) else 0) = 1 := by by_cases h : P <;> simp [h]
theorem m_isSmall {K : List zF} (hK : K.length < 60) {σ : zW} (z : Int) : zEv true (zent 146 [.inl z] :: K) σ = zRet true K (some (.inl (if zsml z then 1 else 0))) σ := by
  rw [ze_146 hK, m_isIn, zr_146_8, yAnd y01]
theorem m_isLetter {K : List zF} (hK : K.length + 2 ≤ 60) {σ : zW} (z : Int) : zEv true (zent 147 [.inl z] :: K) σ = zRet true K (some (.inl (if zlet z then 1 else 0))) σ := by
  rw [ze_147 (by omega), m_isSmall (yL (by omega)), zr_147_4 (by omega)]
  by_cases h : zsml z
  · simp (disch := omega) only [if_pos, if_neg, yAnd, Int.toNat_natCast, zw_id, gI_sI, gI_sL, gI_sR, gL_sI, gL_sL, gL_sR, gR_sI, gR_sL, gR_sR, true_and, and_true, and_self, ite_true, ite_false, ite_self, not_true_eq_false, not_false_eq_true, or_true, true_or, or_false, false_or, yB0, yB1, Decidable.not_not]
  · simp (disch := omega) only [m_isIn, zr_147_15, if_pos, if_neg, yAnd, Int.toNat_natCast, zw_id, gI_sI, gI_sL, gI_sR, gL_sI, gL_sL, gL_sR, gR_sI, gR_sL, gR_sR, true_and, and_true, and_self, ite_true, ite_false, ite_self, not_true_eq_false, not_false_eq_true, or_true, true_or, or_false, false_or, yB0, yB1, Decidable.not_not]
    by_cases h2 : 65 ≤ z ∧ z ≤ 90 <;> simp (disch := omega) only [if_pos, if_neg, yAnd, Int.toNat_natCast, zw_id, gI_sI, gI_sL, gI_sR, gL_sI, gL_sL, gL_sR, gR_sI, gR_sL, gR_sR, true_and, and_true, and_self, ite_true, ite_false, ite_self, not_true_eq_false, not_false_eq_true, or_true, true_or, or_false, false_or, yB0, yB1, Decidable.not_not]
theorem m_code {K : List zF} {σ : zW} {f : Nat → Int} {L a : Nat} (hT : mT f L σ) (ha : gI σ 122 2 = (a : Int)) : zEv true (zent 144 [.inr (.inr 122)] :: K) σ = zRet true K (some (.inl (tb f L a))) σ := by
  obtain ⟨h1, h2, h3, h4⟩ := hT
  rw [ze_144, ha, h2]
  by_cases h : a < L
  · simp (disch := omega) only [h1, tb_lt, if_pos, if_neg, yAnd, Int.toNat_natCast, zw_id, gI_sI, gI_sL, gI_sR, gL_sI, gL_sL, gL_sR, gR_sI, gR_sL, gR_sR, true_and, and_true, and_self, ite_true, ite_false, ite_self, not_true_eq_false, not_false_eq_true, or_true, true_or, or_false, false_or, yB0, yB1, Decidable.not_not]
  · simp (disch := omega) only [tb_ge, if_pos, if_neg, yAnd, Int.toNat_natCast, zw_id, gI_sI, gI_sL, gI_sR, gL_sI, gL_sL, gL_sR, gR_sI, gR_sL, gR_sR, true_and, and_true, and_self, ite_true, ite_false, ite_self, not_true_eq_false, not_false_eq_true, or_true, true_or, or_false, false_or, yB0, yB1, Decidable.not_not]
theorem m_fails {K : List zF} {σ : zW} {x y : Int} : zEv true (zent 148 [.inr (.inr 122), .inl x, .inl y] :: K) σ = zRet true K (some (.inl 0)) (sI (sI σ 122 6 x) 122 7 y) := ze_148
theorem m_passes_loop {K : List zF} (hK : K.length < 60) {f : Nat → Int} {L : Nat} : ∀ (n a : Nat) (σ : zW), L - a = n → mT f L σ → gI σ 122 2 = (a : Int) → zEv true ((145, 0, [some (.inr (.inr 122))], []) :: K) σ = zRet true K none (sI σ 122 2 (sk f L a : Nat)) := by
  intro n
  induction n with
  | zero =>
    intro a σ hn hT ha
    rw [zj_145_0 hK, m_code hT ha, tb_ge (by omega), zr_145_4 hK]
    simp (disch := omega) only [m_code hT ha, tb_ge, zr_145_13 hK, zr_145_22, if_pos, if_neg, yAnd, Int.toNat_natCast, zw_id, gI_sI, gI_sL, gI_sR, gL_sI, gL_sL, gL_sR, gR_sI, gR_sL, gR_sR, true_and, and_true, and_self, ite_true, ite_false, ite_self, not_true_eq_false, not_false_eq_true, or_true, true_or, or_false, false_or, yB0, yB1, Decidable.not_not]
    rw [sk_no (by omega), sI_id ha]
  | succ n ih =>
    intro a σ hn hT ha
    have h6 := hT.2.2.1
    have hgo : zbl (f a) → zEv true ((145, 27, [some (.inr (.inr 122))], []) :: K) σ = zRet true K none (sI σ 122 2 (sk f L a : Nat)) := by
      intro hb
      rw [zj_145_27, ha]
      simp (disch := omega) only [if_pos, if_neg, yAnd, Int.toNat_natCast, zw_id, gI_sI, gI_sL, gI_sR, gL_sI, gL_sL, gL_sR, gR_sI, gR_sL, gR_sR, true_and, and_true, and_self, ite_true, ite_false, ite_self, not_true_eq_false, not_false_eq_true, or_true, true_or, or_false, false_or, yB0, yB1, Decidable.not_not]
      rw [ih (a + 1) _ (by omega) (mT_u hT (by omega)) (by simp (disch := omega) only [if_pos, if_neg, yAnd, Int.toNat_natCast, zw_id, gI_sI, gI_sL, gI_sR, gL_sI, gL_sL, gL_sR, gR_sI, gR_sL, gR_sR, true_and, and_true, and_self, ite_true, ite_false, ite_self, not_true_eq_false, not_false_eq_true, or_true, true_or, or_false, false_or, yB0, yB1, Decidable.not_not]; omega), sI_sI, ← sk_go (by omega) hb]
    rw [zj_145_0 hK, m_code hT ha, tb_lt (by omega), zr_145_4 hK]
    by_cases hb : zbl (f a)
    · simp (disch := omega) only [hgo hb, m_code hT ha, tb_lt, zr_145_13 hK, zr_145_22, if_pos, if_neg, yAnd, Int.toNat_natCast, zw_id, gI_sI, gI_sL, gI_sR, gL_sI, gL_sL, gL_sR, gR_sI, gR_sL, gR_sR, true_and, and_true, and_self, ite_true, ite_false, ite_self, not_true_eq_false, not_false_eq_true, or_true, true_or, or_false, false_or, yB0, yB1, Decidable.not_not]
    · simp (disch := omega) only [m_code hT ha, tb_lt, zr_145_13 hK, zr_145_22, if_pos, if_neg, yAnd, Int.toNat_natCast, zw_id, gI_sI, gI_sL, gI_sR, gL_sI, gL_sL, gL_sR, gR_sI, gR_sL, gR_sR, true_and, and_true, and_self, ite_true, ite_false, ite_self, not_true_eq_false, not_false_eq_true, or_true, true_or, or_false, false_or, yB0, yB1, Decidable.not_not]
      rw [sk_no (fun w => hb w.2), sI_id ha]
theorem m_passes {K : List zF} (hK : K.length < 60) {σ : zW} {f : Nat → Int} {L a : Nat} (hT : mT f L σ) (ha : gI σ 122 2 = (a : Int)) : zEv true (zent 145 [.inr (.inr 122)] :: K) σ = zRet true K none (sI σ 122 2 (sk f L a : Nat)) := by
  rw [ze_145]
  exact m_passes_loop hK _ a σ rfl hT ha
theorem m_sign {K : List zF} (hK : K.length + 2 ≤ 60) {σ : zW} {f : Nat → Int} {L a : Nat} (hT : mT f L σ) (ha : gI σ 122 2 = (a : Int)) : zEv true (zent 149 [.inr (.inr 122)] :: K) σ = zRet true K (some (.inl (tb f L (sk f L a)))) (sI σ 122 2 (sk f L a : Nat)) := by
  rw [ze_149 (by omega), m_passes (yL (by omega)) hT ha, zr_149_4 (by omega), m_code (mT_u hT (by omega)) yGI_hit, zr_149_8]
/-- the world behind isLabel -/
def mLab (σ : zW) (a n : Nat) (v : Int64) : zW := sI (sI (sL (sI σ 122 5 (a : Nat)) 122 3 v) 122 4 (n : Nat)) 122 2 ((a + n : Nat) : Int)
theorem yup_ext {f g : Nat → Nat → Int} (h : ∀ k j, f k j = g k j) : f = g := by funext k j; exact h k j
theorem mLab_step (σ : zW) (a n : Nat) (v w : Int64) (x y : Int) : sI (sI (sL (mLab σ a n v) 122 3 w) 122 4 x) 122 2 y = sI (sI (sL (sI σ 122 5 (a : Nat)) 122 3 w) 122 4 x) 122 2 y := by
  refine Prod.ext ?_ (Prod.ext ?_ rfl)
  · funext k j
    show zup (zup (zup (zup (zup σ.1 122 5 (a : Nat)) 122 4 (n : Nat)) 122 2 ((a + n : Nat) : Int)) 122 4 x) 122 2 y k j = zup (zup (zup σ.1 122 5 (a : Nat)) 122 4 x) 122 2 y k j
    unfold zup
    by_cases h2 : k = 122 ∧ j = 2
    · rw [if_pos h2, if_pos h2]
    · rw [if_neg h2]
      by_cases h4 : k = 122 ∧ j = 4
      · rw [if_pos h4, if_neg h2, if_pos h4]
      · rw [if_neg h4, if_neg h2, if_neg h4, if_neg h2, if_neg h4]
  · funext k j
    show zup (zup σ.2.1 122 3 v) 122 3 w k j = zup σ.2.1 122 3 w k j
    unfold zup
    by_cases h : k = 122 ∧ j = 3
    · rw [if_pos h, if_pos h]
    · rw [if_neg h, if_neg h, if_neg h]
theorem mLab_2 {σ : zW} {a n : Nat} {v : Int64} : gI (mLab σ a n v) 122 2 = ((a + n : Nat) : Int) := yGI_hit
theorem mLab_4 {σ : zW} {a n : Nat} {v : Int64} : gI (mLab σ a n v) 122 4 = (n : Int) := by unfold mLab; simp (disch := omega) only [if_pos, if_neg, yAnd, Int.toNat_natCast, zw_id, gI_sI, gI_sL, gI_sR, gL_sI, gL_sL, gL_sR, gR_sI, gR_sL, gR_sR, true_and, and_true, and_self, ite_true, ite_false, ite_self, not_true_eq_false, not_false_eq_true, or_true, true_or, or_false, false_or, yB0, yB1, Decidable.not_not]
theorem mLab_5 {σ : zW} {a n : Nat} {v : Int64} : gI (mLab σ a n v) 122 5 = (a : Int) := by unfold mLab; simp (disch := omega) only [if_pos, if_neg, yAnd, Int.toNat_natCast, zw_id, gI_sI, gI_sL, gI_sR, gL_sI, gL_sL, gL_sR, gR_sI, gR_sL, gR_sR, true_and, and_true, and_self, ite_true, ite_false, ite_self, not_true_eq_false, not_false_eq_true, or_true, true_or, or_false, false_or, yB0, yB1, Decidable.not_not]
theorem mLab_3 {σ : zW} {a n : Nat} {v : Int64} : gL (mLab σ a n v) 122 3 = v := by unfold mLab; simp (disch := omega) only [if_pos, if_neg, yAnd, Int.toNat_natCast, zw_id, gI_sI, gI_sL, gI_sR, gL_sI, gL_sL, gL_sR, gR_sI, gR_sL, gR_sR, true_and, and_true, and_self, ite_true, ite_false, ite_self, not_true_eq_false, not_false_eq_true, or_true, true_or, or_false, false_or, yB0, yB1, Decidable.not_not]
theorem mT_lab {f : Nat → Int} {L : Nat} {σ : zW} (h : mT f L σ) {a n : Nat} {v : Int64} : mT f L (mLab σ a n v) := mT_u (mT_u (mT_l (mT_u h (by omega))) (by omega)) (by omega)
theorem m_lab_loop {K : List zF} (hK : K.length + 3 ≤ 60) {f : Nat → Int} {L a : Nat} {σ : zW} (hT : mT f L σ) : ∀ (n i : Nat), L - (a + i) = n → a + i ≤ L → zEv true ((150, 26, [some (.inr (.inr 122)), some (.inl 1)], []) :: K) (mLab σ a i (pk f a i)) = zRet true K (some (.inl 1)) (mLab σ a (wend f L (a + i) - a) (pk f a (wend f L (a + i) - a))) := by
  have h6 := hT.2.2.1
  intro n
  induction n with
  | zero =>
    intro i hn hi
    have ha : gI (mLab σ a i (pk f a i)) 122 2 = ((a + i : Nat) : Int) := mLab_2
    rw [zj_150_26 (by omega), if_neg (by omega), m_code (mT_lab hT) ha, tb_ge (by omega), zr_150_34 (by omega), m_isLetter (yKK (by omega)), zr_150_37 (by omega)]
    simp (disch := omega) only [m_code (mT_lab hT) ha, tb_ge, if_pos, if_neg, yAnd, Int.toNat_natCast, zw_id, gI_sI, gI_sL, gI_sR, gL_sI, gL_sL, gL_sR, gR_sI, gR_sL, gR_sR, true_and, and_true, and_self, ite_true, ite_false, ite_self, not_true_eq_false, not_false_eq_true, or_true, true_or, or_false, false_or, yB0, yB1, Decidable.not_not]
    rw [zr_150_44 (by omega), m_isIn, zr_150_51]
    simp (disch := omega) only [if_pos, if_neg, yAnd, Int.toNat_natCast, zw_id, gI_sI, gI_sL, gI_sR, gL_sI, gL_sL, gL_sR, gR_sI, gR_sL, gR_sR, true_and, and_true, and_self, ite_true, ite_false, ite_self, not_true_eq_false, not_false_eq_true, or_true, true_or, or_false, false_or, yB0, yB1, Decidable.not_not]
    rw [wend_no (by omega), show a + i - a = i by omega]
  | succ n ih =>
    intro i hn hi
    have ha : gI (mLab σ a i (pk f a i)) 122 2 = ((a + i : Nat) : Int) := mLab_2
    have hl : gI (mLab σ a i (pk f a i)) 122 4 = (i : Int) := mLab_4
    have hv : gL (mLab σ a i (pk f a i)) 122 3 = pk f a i := mLab_3
    have hm : ∀ K' : List zF, zEv true (zent 144 [.inr (.inr 122)] :: K') (mLab σ a i (pk f a i)) = zRet true K' (some (.inl (f (a + i)))) (mLab σ a i (pk f a i)) := fun K' => by rw [m_code (mT_lab hT) ha, tb_lt (by omega)]
    rw [zj_150_26 (by omega), if_neg (by omega), hm, zr_150_34 (by omega), m_isLetter (yKK (by omega)), zr_150_37 (by omega)]
    by_cases hb : zlet (f (a + i)) ∨ zdig (f (a + i))
    · have hgo : zEv true ((150, 54, [some (.inr (.inr 122)), some (.inl 1)], []) :: K) (mLab σ a i (pk f a i)) = zRet true K (some (.inl 1)) (mLab σ a (wend f L (a + i) - a) (pk f a (wend f L (a + i) - a))) := by
        rw [wend_go (by omega) hb, show a + i + 1 = a + (i + 1) by omega, ← ih (i + 1) (by omega) (by omega), zj_150_54 (by omega), hl, ha, hv]
        by_cases h5 : 6 ≤ i
        · rw [if_pos (by omega), zw_id (by omega) (by omega), zw_id (by omega) (by omega), mLab_step]
          have : pk f a i ||| 0 = pk f a (i + 1) := by
            unfold pk
            rw [show min i 6 = 6 by omega, show min (i + 1) 6 = 6 by omega]
            exact Int64.or_zero
          rw [this]
          rfl
        · rw [if_neg (by omega), hm, zr_150_72, hl, ha, zw_id (by omega) (by omega), zw_id (by omega) (by omega), zw_id (by omega) (by omega), mLab_step]
          have : pk f a i ||| zlshl (zi2l (f (a + i))) (8 * (i : Int)) = pk f a (i + 1) := by
            unfold pk
            rw [show min i 6 = i by omega, show min (i + 1) 6 = i + 1 by omega, pkf, show (8 * (i : Int)) = ((8 * i : Nat) : Int) by omega]
          rw [this]
          rfl
      by_cases h1 : zlet (f (a + i))
      · simp (disch := omega) only [hgo, if_pos, if_neg, yAnd, Int.toNat_natCast, zw_id, gI_sI, gI_sL, gI_sR, gL_sI, gL_sL, gL_sR, gR_sI, gR_sL, gR_sR, true_and, and_true, and_self, ite_true, ite_false, ite_self, not_true_eq_false, not_false_eq_true, or_true, true_or, or_false, false_or, yB0, yB1, Decidable.not_not]
      · simp (disch := omega) only [if_pos, if_neg, yAnd, Int.toNat_natCast, zw_id, gI_sI, gI_sL, gI_sR, gL_sI, gL_sL, gL_sR, gR_sI, gR_sL, gR_sR, true_and, and_true, and_self, ite_true, ite_false, ite_self, not_true_eq_false, not_false_eq_true, or_true, true_or, or_false, false_or, yB0, yB1, Decidable.not_not]
        rw [hm, zr_150_44 (by omega), m_isIn, zr_150_51]
        simp (disch := omega) only [hgo, if_pos, if_neg, yAnd, Int.toNat_natCast, zw_id, gI_sI, gI_sL, gI_sR, gL_sI, gL_sL, gL_sR, gR_sI, gR_sL, gR_sR, true_and, and_true, and_self, ite_true, ite_false, ite_self, not_true_eq_false, not_false_eq_true, or_true, true_or, or_false, false_or, yB0, yB1, Decidable.not_not]
    · simp (disch := omega) only [if_pos, if_neg, yAnd, Int.toNat_natCast, zw_id, gI_sI, gI_sL, gI_sR, gL_sI, gL_sL, gL_sR, gR_sI, gR_sL, gR_sR, true_and, and_true, and_self, ite_true, ite_false, ite_self, not_true_eq_false, not_false_eq_true, or_true, true_or, or_false, false_or, yB0, yB1, Decidable.not_not]
      rw [hm, zr_150_44 (by omega), m_isIn, zr_150_51]
      simp (disch := omega) only [if_pos, if_neg, yAnd, Int.toNat_natCast, zw_id, gI_sI, gI_sL, gI_sR, gL_sI, gL_sL, gL_sR, gR_sI, gR_sL, gR_sR, true_and, and_true, and_self, ite_true, ite_false, ite_self, not_true_eq_false, not_false_eq_true, or_true, true_or, or_false, false_or, yB0, yB1, Decidable.not_not]
      rw [wend_no (fun w => hb w.2), show a + i - a = i by omega]
/-- isLabel: 1 if one begins here -/
theorem m_isLabel {K : List zF} (hK : K.length + 3 ≤ 60) {f : Nat → Int} {L a : Nat} {σ : zW} (hT : mT f L σ) (ha : gI σ 122 2 = (a : Int)) : zEv true (zent 150 [.inr (.inr 122)] :: K) σ = zRet true K (some (.inl (if zlet (tb f L a) then 1 else 0))) (mLab σ a (wl f L a) (pk f a (wl f L a))) := by
  have e0 : sI (sL (sI σ 122 5 (a : Nat)) 122 3 0) 122 4 0 = mLab σ a 0 (pk f a 0) := by
    refine Prod.ext ?_ rfl
    funext k j
    show zup (zup σ.1 122 5 (a : Nat)) 122 4 0 k j = zup (zup (zup σ.1 122 5 (a : Nat)) 122 4 ((0 : Nat) : Int)) 122 2 ((a + 0 : Nat) : Int) k j
    unfold zup
    by_cases h2 : k = 122 ∧ j = 2
    · rw [if_pos h2, if_neg (by omega), if_neg (by omega), h2.1, h2.2]
      exact ha
    · rw [if_neg h2]; rfl
  have ha2 : gI (mLab σ a 0 (pk f a 0)) 122 2 = (a : Int) := mLab_2
  rw [ze_150 (by omega), ha, e0, m_code (mT_lab hT) ha2, zr_150_22 (by omega), m_isLetter (yKK (by omega)), zr_150_25]
  by_cases h : zlet (tb f L a)
  · have hp := wl_pos h
    have e1 : wl f L a = wend f L (a + 0) - a := by
      have : wl f L a = wend f L (a + 1) - a := if_pos h
      rw [tb_lt hp.2.2] at h
      show wl f L a = wend f L a - a
      rw [this, wend_go hp.2.2 (Or.inl h)]
    rw [if_pos h, m_lab_loop hK hT _ 0 rfl (by omega), ← e1]
  · rw [if_neg h, wl_zero h, zj_150_26 (by omega), if_pos rfl, yAnd (Or.inl rfl)]
/-- the world behind a label that has to come, and whether it is there -/
def mrlW (f : Nat → Int) (L a : Nat) (σ : zW) : zW := match rdl f L a with
  | .inl e => sI (sI (mLab (sI σ 122 2 (sk f L a : Nat)) (sk f L a) (wl f L (sk f L a)) (pk f (sk f L a) (wl f L (sk f L a)))) 122 6 (e.1 : Nat)) 122 7 (e.2 : Nat)
  | .inr _ => mLab (sI σ 122 2 (sk f L a : Nat)) (sk f L a) (wl f L (sk f L a)) (pk f (sk f L a) (wl f L (sk f L a)))
def mrlV (r : (Nat × Nat) ⊕ (Int64 × Nat)) : Int := match r with
  | .inl _ => 0
  | .inr _ => 1
theorem m_rightLabel {K : List zF} (hK : K.length + 4 ≤ 60) {σ : zW} {f : Nat → Int} {L a : Nat} (hT : mT f L σ) (ha : gI σ 122 2 = (a : Int)) : zEv true (zent 151 [.inr (.inr 122)] :: K) σ = zRet true K (some (.inl (mrlV (rdl f L a)))) (mrlW f L a σ) := by
  rw [ze_151 (by omega), m_passes (yL (by omega)) hT ha, zr_151_4 (by omega), m_isLabel (yKK (by omega)) (mT_u hT (by omega)) yGI_hit, zr_151_8 (by omega)]
  unfold mrlW rdl
  have h4 : ∀ (σ : zW) (a n : Nat) (v : Int64), gI (mLab σ a n v) 122 4 = (n : Int) := fun _ _ _ _ => mLab_4
  have h5 : ∀ (σ : zW) (a n : Nat) (v : Int64), gI (mLab σ a n v) 122 5 = (a : Int) := fun _ _ _ _ => mLab_5
  have h2 : ∀ (σ : zW) (a n : Nat) (v : Int64), gI (mLab σ a n v) 122 2 = ((a + n : Nat) : Int) := fun _ _ _ _ => mLab_2
  rw [h4, h5, h2]
  by_cases h : zlet (tb f L (sk f L a))
  · have hp := wl_pos h
    rw [if_neg (by rw [if_pos h]; omega), if_neg (show ¬ wl f L (sk f L a) = 0 by omega)]
    by_cases h6 : 6 < wl f L (sk f L a)
    · rw [if_neg (by omega), m_fails, zr_151_29, if_pos h6, if_pos rfl]
      rfl
    · rw [if_pos (by omega), if_neg h6]
      rfl
  · rw [if_pos (by rw [if_neg h]), if_pos (wl_zero h), m_fails, zr_151_49, yAnd (Or.inl rfl), wl_zero h]
    rfl
/-- whether the end is here -/
theorem m_noEnd {K : List zF} (hK : K.length + 3 ≤ 60) {σ : zW} {f : Nat → Int} {L a : Nat} (hT : mT f L σ) (ha : gI σ 122 2 = (a : Int)) : zEv true (zent 152 [.inr (.inr 122)] :: K) σ = (if tb f L (sk f L a) = -1 then zRet true K (some (.inl 1)) (sI σ 122 2 (sk f L a : Nat)) else zRet true K (some (.inl 0)) (sI (sI (sI σ 122 2 (sk f L a : Nat)) 122 6 1) 122 7 (sk f L a : Nat))) := by
  rw [ze_152 (by omega), m_sign (yKK (by omega)) hT ha, zr_152_4 (by omega)]
  by_cases h : tb f L (sk f L a) = -1
  · rw [if_pos h, if_pos h]
  · rw [if_neg h, if_neg h, m_fails, zr_152_17, if_pos rfl]
    simp (disch := omega) only [if_pos, if_neg, yAnd, Int.toNat_natCast, zw_id, gI_sI, gI_sL, gI_sR, gL_sI, gL_sL, gL_sR, gR_sI, gR_sL, gR_sR, true_and, and_true, and_self, ite_true, ite_false, ite_self, not_true_eq_false, not_false_eq_true, or_true, true_or, or_false, false_or, yB0, yB1, Decidable.not_not]
