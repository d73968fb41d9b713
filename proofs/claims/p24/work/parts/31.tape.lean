/-! the tape of the class -/
/-- the tape holds the bytes f, L of them -/
def cT (f : Nat → Int) (L : Nat) (σ : zW) : Prop := (∀ i, gI σ 3 i = f i) ∧ gI σ 2 1 = (L : Int) ∧ L ≤ 600 ∧ ∀ i, i < L → 0 ≤ f i ∧ f i < 256
theorem cT_u {f : Nat → Int} {L : Nat} {σ : zW} (h : cT f L σ) {k j : Nat} {x : Int} (hk : k ≠ 3 ∧ ¬ (k = 2 ∧ j = 1)) : cT f L (sI σ k j x) := by
  obtain ⟨h1, h2, h3, h4⟩ := h
  refine ⟨fun i => ?_, ?_, h3, h4⟩
  · rw [gI_sI, if_neg (fun w => hk.1 w.1.symm)]; exact h1 i
  · rw [gI_sI, if_neg (fun w => hk.2 ⟨w.1.symm, w.2.symm⟩)]; exact h2
theorem cT_l {f : Nat → Int} {L : Nat} {σ : zW} (h : cT f L σ) {k j : Nat} {x : Int64} : cT f L (sL σ k j x) := h
theorem c_isLetter {K : List zF} {σ : zW} (z : Int) : zEv true (zent 136 [.inl z] :: K) σ = zRet true K (some (.inl (if zlet z then 1 else 0))) σ := by
  rw [ze_136]
  by_cases h : zlet z <;> simp (disch := omega) only [zj_136_12, zj_136_28, if_pos, if_neg, yAnd, Int.toNat_natCast, zw_id, gI_sI, gI_sL, gI_sR, gL_sI, gL_sL, gL_sR, gR_sI, gR_sL, gR_sR, true_and, and_true, and_self, ite_true, ite_false, ite_self, not_true_eq_false, not_false_eq_true, or_true, true_or, or_false, false_or, yB0, yB1, Decidable.not_not]
theorem c_isDigit {K : List zF} {σ : zW} (z : Int) : zEv true (zent 138 [.inl z] :: K) σ = zRet true K (some (.inl (if zdig z then 1 else 0))) σ := by
  rw [ze_138]
  by_cases h : zdig z <;> simp (disch := omega) only [zj_138_16, if_pos, if_neg, yAnd, Int.toNat_natCast, zw_id, gI_sI, gI_sL, gI_sR, gL_sI, gL_sL, gL_sR, gR_sI, gR_sL, gR_sR, true_and, and_true, and_self, ite_true, ite_false, ite_self, not_true_eq_false, not_false_eq_true, or_true, true_or, or_false, false_or, yB0, yB1, Decidable.not_not]
theorem c_isSmall {K : List zF} {σ : zW} (z : Int) : zEv true (zent 137 [.inl z] :: K) σ = zRet true K (some (.inl (if zsml z then 1 else 0))) σ := by
  rw [ze_137]
  by_cases h : zsml z <;> simp (disch := omega) only [zj_137_16, if_pos, if_neg, yAnd, Int.toNat_natCast, zw_id, gI_sI, gI_sL, gI_sR, gL_sI, gL_sL, gL_sR, gR_sI, gR_sL, gR_sR, true_and, and_true, and_self, ite_true, ite_false, ite_self, not_true_eq_false, not_false_eq_true, or_true, true_or, or_false, false_or, yB0, yB1, Decidable.not_not]
theorem c_byteAt {K : List zF} {σ : zW} {f : Nat → Int} {L a : Nat} {x : Int} (hT : cT f L σ) (hx : x = (a : Int)) : zEv true (zent 84 [.inr (.inr 2), .inl x] :: K) σ = zRet true K (some (.inl (tb f L a))) σ := by
  obtain ⟨h1, h2, h3, h4⟩ := hT
  subst hx
  rw [ze_84, h2]
  by_cases h : a < L
  · simp (disch := omega) only [h1, tb_lt, if_pos, if_neg, yAnd, Int.toNat_natCast, zw_id, gI_sI, gI_sL, gI_sR, gL_sI, gL_sL, gL_sR, gR_sI, gR_sL, gR_sR, true_and, and_true, and_self, ite_true, ite_false, ite_self, not_true_eq_false, not_false_eq_true, or_true, true_or, or_false, false_or, yB0, yB1, Decidable.not_not]
  · simp (disch := omega) only [zj_84_21, tb_ge, if_pos, if_neg, yAnd, Int.toNat_natCast, zw_id, gI_sI, gI_sL, gI_sR, gL_sI, gL_sL, gL_sR, gR_sI, gR_sL, gR_sR, true_and, and_true, and_self, ite_true, ite_false, ite_self, not_true_eq_false, not_false_eq_true, or_true, true_or, or_false, false_or, yB0, yB1, Decidable.not_not]
theorem c_fail {K : List zF} {σ : zW} {x y : Int} : zEv true (zent 86 [.inr (.inr 2), .inl x, .inl y] :: K) σ = zRet true K (some (.inl 0)) (sI (sI σ 2 3 x) 2 4 y) := ze_86
theorem c_next_loop {K : List zF} (hK : K.length < 60) {f : Nat → Int} {L : Nat} : ∀ (n a : Nat) (σ : zW), L - a = n → cT f L σ → gI σ 2 2 = (a : Int) → zEv true ((85, 0, [some (.inr (.inr 2))], []) :: K) σ = zRet true K (some (.inl (tb f L (sk f L a)))) (sI σ 2 2 (sk f L a : Nat)) := by
  intro n
  induction n with
  | zero =>
    intro a σ hn hT ha
    rw [zj_85_0, ha, hT.2.1]
    simp (disch := omega) only [if_pos, if_neg, yAnd, Int.toNat_natCast, zw_id, gI_sI, gI_sL, gI_sR, gL_sI, gL_sL, gL_sR, gR_sI, gR_sL, gR_sR, true_and, and_true, and_self, ite_true, ite_false, ite_self, not_true_eq_false, not_false_eq_true, or_true, true_or, or_false, false_or, yB0, yB1, Decidable.not_not]
    rw [zj_85_66 hK, c_byteAt hT ha, zr_85_74, sk_no (by omega), sI_id ha]
  | succ n ih =>
    intro a σ hn hT ha
    rw [zj_85_0, ha, hT.2.1]
    have h6 := hT.2.2.1
    by_cases hb : zbl (f a)
    · have hgo : zEv true ((85, 53, [some (.inr (.inr 2))], []) :: K) σ = zRet true K (some (.inl (tb f L (sk f L a)))) (sI σ 2 2 (sk f L a : Nat)) := by
        rw [zj_85_53, ha]
        simp (disch := omega) only [if_pos, if_neg, yAnd, Int.toNat_natCast, zw_id, gI_sI, gI_sL, gI_sR, gL_sI, gL_sL, gL_sR, gR_sI, gR_sL, gR_sR, true_and, and_true, and_self, ite_true, ite_false, ite_self, not_true_eq_false, not_false_eq_true, or_true, true_or, or_false, false_or, yB0, yB1, Decidable.not_not]
        rw [ih (a + 1) _ (by omega) (cT_u hT (by omega)) (by simp (disch := omega) only [if_pos, if_neg, yAnd, Int.toNat_natCast, zw_id, gI_sI, gI_sL, gI_sR, gL_sI, gL_sL, gL_sR, gR_sI, gR_sL, gR_sR, true_and, and_true, and_self, ite_true, ite_false, ite_self, not_true_eq_false, not_false_eq_true, or_true, true_or, or_false, false_or, yB0, yB1, Decidable.not_not]; omega), sI_sI, ← sk_go (by omega) hb]
      simp (disch := omega) only [hT.1, hgo, if_pos, if_neg, yAnd, Int.toNat_natCast, zw_id, gI_sI, gI_sL, gI_sR, gL_sI, gL_sL, gL_sR, gR_sI, gR_sL, gR_sR, true_and, and_true, and_self, ite_true, ite_false, ite_self, not_true_eq_false, not_false_eq_true, or_true, true_or, or_false, false_or, yB0, yB1, Decidable.not_not]
    · have hno : zEv true ((85, 66, [some (.inr (.inr 2))], []) :: K) σ = zRet true K (some (.inl (tb f L (sk f L a)))) (sI σ 2 2 (sk f L a : Nat)) := by
        rw [zj_85_66 hK, c_byteAt hT ha, zr_85_74, sk_no (by omega), sI_id ha]
      simp (disch := omega) only [hT.1, hno, if_pos, if_neg, yAnd, Int.toNat_natCast, zw_id, gI_sI, gI_sL, gI_sR, gL_sI, gL_sL, gL_sR, gR_sI, gR_sL, gR_sR, true_and, and_true, and_self, ite_true, ite_false, ite_self, not_true_eq_false, not_false_eq_true, or_true, true_or, or_false, false_or, yB0, yB1, Decidable.not_not]
theorem c_next {K : List zF} (hK : K.length < 60) {σ : zW} {f : Nat → Int} {L a : Nat} (hT : cT f L σ) (ha : gI σ 2 2 = (a : Int)) : zEv true (zent 85 [.inr (.inr 2)] :: K) σ = zRet true K (some (.inl (tb f L (sk f L a)))) (sI σ 2 2 (sk f L a : Nat)) := by
  rw [ze_85]
  exact c_next_loop hK _ a σ rfl hT ha
theorem c_wl_loop {K : List zF} (hK : K.length < 60) {f : Nat → Int} {L a : Nat} {σ : zW} (hT : cT f L σ) (ha : gI σ 2 2 = (a : Int)) (haL : a ≤ L) : ∀ (n e : Nat), L - e = n → e ≤ L → a ≤ e → zEv true ((87, 23, [some (.inr (.inr 2)), some (.inl (e : Int))], []) :: K) σ = zRet true K (some (.inl ((wend f L e : Nat) - (a : Nat) : Int))) σ := by
  have h6 := hT.2.2.1
  have hend : ∀ e : Nat, e ≤ L → a ≤ e → wend f L e = e → zEv true ((87, 61, [some (.inr (.inr 2)), some (.inl (e : Int))], []) :: K) σ = zRet true K (some (.inl ((wend f L e : Nat) - (a : Nat) : Int))) σ := by
    intro e h1 h2 h3
    rw [zj_87_61, ha, h3, zw_id (by omega) (by omega)]
  intro n
  induction n with
  | zero =>
    intro e hn he hae
    rw [zj_87_23 hK, hT.2.1]
    simp (disch := omega) only [if_pos, if_neg, yAnd, Int.toNat_natCast, zw_id, gI_sI, gI_sL, gI_sR, gL_sI, gL_sL, gL_sR, gR_sI, gR_sL, gR_sR, true_and, and_true, and_self, ite_true, ite_false, ite_self, not_true_eq_false, not_false_eq_true, or_true, true_or, or_false, false_or, yB0, yB1, Decidable.not_not]
    exact hend e he hae (wend_no (by omega))
  | succ n ih =>
    intro e hn he hae
    rw [zj_87_23 hK, hT.2.1]
    simp (disch := omega) only [c_isLetter, zr_87_40, hT.1, c_isDigit, zr_87_52, if_pos, if_neg, yAnd, Int.toNat_natCast, zw_id, gI_sI, gI_sL, gI_sR, gL_sI, gL_sL, gL_sR, gR_sI, gR_sL, gR_sR, true_and, and_true, and_self, ite_true, ite_false, ite_self, not_true_eq_false, not_false_eq_true, or_true, true_or, or_false, false_or, yB0, yB1, Decidable.not_not]
    by_cases h : zlet (f e) ∨ zdig (f e)
    · have hgo : zEv true ((87, 23, [some (.inr (.inr 2)), some (.inl ((e : Int) + 1))], []) :: K) σ = zRet true K (some (.inl ((wend f L e : Nat) - (a : Nat) : Int))) σ := by
        rw [wend_go (by omega) h]
        exact ih (e + 1) (by omega) (by omega) (by omega)
      by_cases h1 : zlet (f e)
      · simp (disch := omega) only [hgo, if_pos, if_neg, yAnd, Int.toNat_natCast, zw_id, gI_sI, gI_sL, gI_sR, gL_sI, gL_sL, gL_sR, gR_sI, gR_sL, gR_sR, true_and, and_true, and_self, ite_true, ite_false, ite_self, not_true_eq_false, not_false_eq_true, or_true, true_or, or_false, false_or, yB0, yB1, Decidable.not_not]
      · simp (disch := omega) only [hgo, if_pos, if_neg, yAnd, Int.toNat_natCast, zw_id, gI_sI, gI_sL, gI_sR, gL_sI, gL_sL, gL_sR, gR_sI, gR_sL, gR_sR, true_and, and_true, and_self, ite_true, ite_false, ite_self, not_true_eq_false, not_false_eq_true, or_true, true_or, or_false, false_or, yB0, yB1, Decidable.not_not]
    · simp (disch := omega) only [if_pos, if_neg, yAnd, Int.toNat_natCast, zw_id, gI_sI, gI_sL, gI_sR, gL_sI, gL_sL, gL_sR, gR_sI, gR_sL, gR_sR, true_and, and_true, and_self, ite_true, ite_false, ite_self, not_true_eq_false, not_false_eq_true, or_true, true_or, or_false, false_or, yB0, yB1, Decidable.not_not]
      exact hend e he hae (wend_no (by omega))
theorem c_wl {K : List zF} (hK : K.length < 60) {f : Nat → Int} {L a : Nat} {σ : zW} (hT : cT f L σ) (ha : gI σ 2 2 = (a : Int)) : zEv true (zent 87 [.inr (.inr 2)] :: K) σ = zRet true K (some (.inl (wl f L a : Nat))) σ := by
  rw [ze_87 hK, ha, c_byteAt hT rfl, zr_87_8 hK, c_isLetter, zr_87_11, ha]
  by_cases h : zlet (tb f L a)
  · have hp := wl_pos h
    have h6 := hT.2.2.1
    simp (disch := omega) only [if_pos, if_neg, yAnd, Int.toNat_natCast, zw_id, gI_sI, gI_sL, gI_sR, gL_sI, gL_sL, gL_sR, gR_sI, gR_sL, gR_sR, true_and, and_true, and_self, ite_true, ite_false, ite_self, not_true_eq_false, not_false_eq_true, or_true, true_or, or_false, false_or, yB0, yB1, Decidable.not_not]
    rw [show ((a : Int) + 1) = ((a + 1 : Nat) : Int) by omega, c_wl_loop hK hT ha (by omega) _ (a + 1) rfl (by omega) (by omega)]
    have h1 := wend_ge f L (a + 1)
    have h2 : wl f L a = wend f L (a + 1) - a := if_pos h
    rw [show ((wend f L (a + 1) : Nat) - (a : Nat) : Int) = (wl f L a : Nat) by omega]
  · simp (disch := omega) only [wl_zero h, if_pos, if_neg, yAnd, Int.toNat_natCast, zw_id, gI_sI, gI_sL, gI_sR, gL_sI, gL_sL, gL_sR, gR_sI, gR_sL, gR_sR, true_and, and_true, and_self, ite_true, ite_false, ite_self, not_true_eq_false, not_false_eq_true, or_true, true_or, or_false, false_or, yB0, yB1, Decidable.not_not]
    rfl
theorem c_drop {K : List zF} {σ : zW} : zEv true (zent 82 [.inr (.inr 2)] :: K) σ = zRet true K none (sI σ 2 1 0) := ze_82
theorem c_begin {K : List zF} {σ : zW} : zEv true (zent 83 [.inr (.inr 2)] :: K) σ = zRet true K none (sI (sI (sI σ 2 2 0) 2 3 0) 2 4 0) := ze_83
theorem zand255 {z : Int} (h : 0 ≤ z ∧ z < 256) : zand z 255 = z := by
  unfold zand
  have h1 : (Int32.ofInt z).toInt = z := by rw [z_ofInt]; exact zw_id (by omega) (by omega)
  obtain ⟨n, rfl⟩ : ∃ n : Nat, z = (n : Int) := ⟨z.toNat, by omega⟩
  have hn : n < 256 := by omega
  have : ∀ n : Nat, n < 256 → (Int32.ofInt (n : Int) &&& Int32.ofInt 255).toInt = (n : Int) := by decide +kernel
  exact this n hn
theorem c_packed_loop {K : List zF} (hK : K.length < 60) {f : Nat → Int} {L a m : Nat} {σ : zW} {o : Option zV} (hT : cT f L σ) (ham : a + m ≤ L) : ∀ (n i : Nat), min m 6 - i = n → i ≤ min m 6 → zEv true ((88, 5, [some (.inr (.inr 2)), some (.inl (a : Int)), some (.inl (m : Int)), some (.inr (.inl (pkf (fun i => f (a + i)) i))), none, some (.inl (i : Int))], []) :: K) σ = zRet true K (some (.inr (.inl (pk f a m)))) σ := by
  have h6 := hT.2.2.1
  intro n
  induction n with
  | zero =>
    intro i hn hi
    rw [zj_88_5 hK, show pk f a m = pkf (fun i => f (a + i)) i by unfold pk; rw [show min m 6 = i by omega]]
    by_cases h : m ≤ i
    · simp (disch := omega) only [if_pos, if_neg, yAnd, Int.toNat_natCast, zw_id, gI_sI, gI_sL, gI_sR, gL_sI, gL_sL, gL_sR, gR_sI, gR_sL, gR_sR, true_and, and_true, and_self, ite_true, ite_false, ite_self, not_true_eq_false, not_false_eq_true, or_true, true_or, or_false, false_or, yB0, yB1, Decidable.not_not]
    · simp (disch := omega) only [if_pos, if_neg, yAnd, Int.toNat_natCast, zw_id, gI_sI, gI_sL, gI_sR, gL_sI, gL_sL, gL_sR, gR_sI, gR_sL, gR_sR, true_and, and_true, and_self, ite_true, ite_false, ite_self, not_true_eq_false, not_false_eq_true, or_true, true_or, or_false, false_or, yB0, yB1, Decidable.not_not]
  | succ n ih =>
    intro i hn hi
    rw [zj_88_5 hK]
    simp (disch := omega) only [if_pos, if_neg, yAnd, Int.toNat_natCast, zw_id, gI_sI, gI_sL, gI_sR, gL_sI, gL_sL, gL_sR, gR_sI, gR_sL, gR_sR, true_and, and_true, and_self, ite_true, ite_false, ite_self, not_true_eq_false, not_false_eq_true, or_true, true_or, or_false, false_or, yB0, yB1, Decidable.not_not]
    rw [show ((a : Int) + (i : Int)) = ((a + i : Nat) : Int) by omega, c_byteAt hT rfl, tb_lt (by omega), zr_88_27, zand255 (hT.2.2.2 _ (by omega))]
    simp (disch := omega) only [if_pos, if_neg, yAnd, Int.toNat_natCast, zw_id, gI_sI, gI_sL, gI_sR, gL_sI, gL_sL, gL_sR, gR_sI, gR_sL, gR_sR, true_and, and_true, and_self, ite_true, ite_false, ite_self, not_true_eq_false, not_false_eq_true, or_true, true_or, or_false, false_or, yB0, yB1, Decidable.not_not]
    rw [show (8 * (i : Int)) = ((8 * i : Nat) : Int) by omega, show ((i : Int) + 1) = ((i + 1 : Nat) : Int) by omega]
    exact ih (i + 1) (by omega) (by omega)
theorem c_packed {K : List zF} (hK : K.length < 60) {f : Nat → Int} {L a m : Nat} {σ : zW} {x y : Int} (hT : cT f L σ) (hx : x = (a : Int)) (hy : y = (m : Int)) (ham : a + m ≤ L) : zEv true (zent 88 [.inr (.inr 2), .inl x, .inl y] :: K) σ = zRet true K (some (.inr (.inl (pk f a m)))) σ := by
  subst hx
  subst hy
  rw [ze_88]
  exact c_packed_loop (o := none) hK hT ham _ 0 rfl (Nat.zero_le _)
/-- a label read: a fault, or its number and where it ends -/
def rdl (f : Nat → Int) (L a : Nat) : (Nat × Nat) ⊕ (Int64 × Nat) := if wl f L (sk f L a) = 0 then .inl (1, sk f L a) else if 6 < wl f L (sk f L a) then .inl (2, sk f L a) else .inr (pk f (sk f L a) (wl f L (sk f L a)), sk f L a + wl f L (sk f L a))
theorem rdl_fault {f : Nat → Int} {L a : Nat} {e : Nat × Nat} (h : rdl f L a = .inl e) : e.2 = sk f L a ∧ (e.1 = 1 ∨ e.1 = 2) := by
  unfold rdl at h
  split at h
  · cases h; exact ⟨rfl, Or.inl rfl⟩
  · split at h
    · cases h; exact ⟨rfl, Or.inr rfl⟩
    · cases h
theorem rdl_ok {f : Nat → Int} {L a : Nat} {v : Int64} {q : Nat} (h : rdl f L a = .inr (v, q)) : a < q ∧ q ≤ L ∧ 1 ≤ wl f L (sk f L a) ∧ wl f L (sk f L a) ≤ 6 ∧ v = pk f (sk f L a) (wl f L (sk f L a)) ∧ q = sk f L a + wl f L (sk f L a) := by
  unfold rdl at h
  split at h
  · cases h
  · rename_i h0
    split at h
    · cases h
    · rename_i h1
      cases h
      have h2 : zlet (tb f L (sk f L a)) := Decidable.not_not.mp (fun q => h0 (wl_zero q))
      have h3 := wl_pos h2
      have h4 := sk_ge f L a
      exact ⟨by omega, by omega, by omega, by omega, rfl, rfl⟩
/-- readLabel: 0 and the fault told, or the number, the reading behind it -/
def rdlW (f : Nat → Int) (L a : Nat) (σ : zW) : zW := match rdl f L a with
  | .inl e => sI (sI (sI σ 2 2 (sk f L a : Nat)) 2 3 (e.1 : Nat)) 2 4 (e.2 : Nat)
  | .inr r => sI σ 2 2 (r.2 : Nat)
def rdlV (r : (Nat × Nat) ⊕ (Int64 × Nat)) : Int64 := match r with
  | .inl _ => 0
  | .inr r => r.1
theorem c_readLabel {K : List zF} (hK : K.length + 2 ≤ 60) {σ : zW} {f : Nat → Int} {L a : Nat} (hT : cT f L σ) (ha : gI σ 2 2 = (a : Int)) (haL : a ≤ L) : zEv true (zent 89 [.inr (.inr 2)] :: K) σ = zRet true K (some (.inr (.inl (rdlV (rdl f L a))))) (rdlW f L a σ) := by
  have h6 := hT.2.2.1
  have hs := sk_le (f := f) haL
  have hT2 : cT f L (sI σ 2 2 (sk f L a : Nat)) := cT_u hT (by omega)
  have ha2 : gI (sI σ 2 2 (sk f L a : Nat)) 2 2 = (sk f L a : Nat) := yGI_hit
  rw [ze_89 (by omega), c_next (yL (by omega)) hT ha, zr_89_4 (by omega), c_wl (yL (by omega)) hT2 ha2, zr_89_9 (by omega), ha2]
  unfold rdlW rdl
  by_cases h0 : wl f L (sk f L a) = 0
  · rw [if_pos h0, if_pos (by omega), zj_89_20 (by omega), c_fail, zr_89_37, ha2, if_neg (by omega)]
    rfl
  · rw [if_neg h0, if_neg (by omega)]
    have h2 : zlet (tb f L (sk f L a)) := Decidable.not_not.mp (fun q => h0 (wl_zero q))
    have h3 := wl_pos h2
    by_cases h1 : 6 < wl f L (sk f L a)
    · rw [if_pos h1, if_neg (by omega), zj_89_20 (by omega), c_fail, zr_89_37, ha2, if_pos (by omega)]
      rfl
    · rw [if_neg h1, if_pos (by omega), c_packed (yL (by omega)) hT2 rfl rfl h3.2.1, zr_89_49, ha2, zw_id (by omega) (by omega), sI_sI]
      rfl
