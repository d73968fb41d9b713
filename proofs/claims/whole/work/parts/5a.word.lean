/-! eight bytes of the out -/
def wdr (t : TX) (i : Nat) : Nat → Int64
  | 0 => 0
  | k + 1 => wdr t i k ||| (if 8 * i + k < t.1 then zlshl (zi2l (t.2 (8 * i + k))) ((8 * k : Nat) : Int) else 0)
def wdv (t : TX) (z : Int) : Int64 := if 0 ≤ z ∧ z < 23 then wdr t z.toNat 8 else 0
theorem or_zero64 (x : Int64) : x ||| 0 = x := nv_inj (by rw [nv_or]; exact Nat.or_zero _)
theorem wdr_end {t : TX} {i : Nat} : ∀ (d k : Nat), t.1 ≤ 8 * i + k → wdr t i (k + d) = wdr t i k := by
  intro d
  induction d with
  | zero => intro k _; rfl
  | succ d ih =>
    intro k h
    show wdr t i (k + d) ||| (if 8 * i + (k + d) < t.1 then zlshl (zi2l (t.2 (8 * i + (k + d)))) ((8 * (k + d) : Nat) : Int) else 0) = _
    rw [if_neg (by omega), or_zero64, ih k h]
theorem c_word {K : List zF} {t : TX} {z : Int} {σ : zW} (h : cO t σ) : zEv true (zent 35 [.inr (.inr 66), .inl z] :: K) σ = zRet true K (some (.inr (.inl (wdv t z)))) σ := by
  unfold wdv
  rw [ze_35]
  by_cases h0 : z < 0
  · rw [if_pos h0, if_neg (by omega)]
  · rw [if_neg h0]
    by_cases h1 : z < 23
    · obtain ⟨i, rfl⟩ : ∃ i : Nat, z = (i : Int) := ⟨z.toNat, by omega⟩
      rw [if_pos h1, if_pos (by omega), Int.toNat_natCast]
      have loop : ∀ (m k : Nat), k + m = 8 → zEv true ((35, 17, [some (.inr (.inr 66)), some (.inl (i : Int)), some (.inr (.inl (wdr t i k))), none, some (.inl (k : Int))], []) :: K) σ = zRet true K (some (.inr (.inl (wdr t i 8)))) σ := by
        intro m
        induction m with
        | zero =>
          intro k hk
          rw [zj_35_17, if_pos (by omega), show k = 8 by omega]
        | succ m ih =>
          intro k hk
          have e : w32 (w32 (8 * (i : Int)) + (k : Int)) = ((8 * i + k : Nat) : Int) := by rw [zw_id (z := 8 * (i : Int)) (by omega) (by omega), zw_id (by omega) (by omega)]; omega
          rw [zj_35_17, if_neg (by omega), e, h.1]
          by_cases h2 : 8 * i + k < t.1
          · rw [if_neg (by omega), yAnd (by omega), Int.toNat_natCast, h.2 _ h2, zw_id (z := 8 * (k : Int)) (by omega) (by omega), zw_id (by omega) (by omega), show (k : Int) + 1 = ((k + 1 : Nat) : Int) by omega, show (8 * (k : Int)) = ((8 * k : Nat) : Int) by omega]
            have := ih (k + 1) (by omega)
            rw [wdr, if_pos h2] at this
            exact this
          · rw [if_pos (by omega), show 8 = k + (m + 1) by omega, wdr_end _ _ (by omega)]
      exact loop 8 0 rfl
    · rw [if_neg h1, if_neg (by omega)]
theorem l_at {z : Int} {k : Nat} (h1 : -2147483648 ≤ z) (h2 : z ≤ 2147483647) (hk : k < 8) : ((8 : Int64) * zi2l z + zi2l (k : Int)).toInt = 8 * z + k := by
  have e : (8 : Int64) * zi2l z + zi2l (k : Int) = Int64.ofInt (8 * z + k) := by
    unfold zi2l
    rw [Int64.ofInt_add, Int64.ofInt_mul]
    rfl
  rw [e, Int64.toInt_ofInt_of_le (by omega) (by omega)]
theorem zlc_lt {x y : Int64} : zlc x y < 0 ↔ x.toInt < y.toInt := by
  have := @zlc_ge x y
  omega
theorem zi2l_toInt {z : Int} (h1 : -2147483648 ≤ z) (h2 : z ≤ 2147483647) : (zi2l z).toInt = z := by
  unfold zi2l
  rw [Int64.toInt_ofInt_of_le (by omega) (by omega)]
theorem m_word {K : List zF} {t : TX} {z : Int} {σ : zW} (h : mO t σ) (ht : t.1 ≤ 184) (h1 : -2147483648 ≤ z) (h2 : z ≤ 2147483647) : zEv true (zent 250 [.inr (.inr 122), .inl z] :: K) σ = zRet true K (some (.inr (.inl (wdv t z)))) (sI σ 122 88 0) := by
  have e87 : gI (sI σ 122 88 0) 122 87 = (t.1 : Int) := by rw [gI_sI, if_neg (by omega)]; exact h.1
  have e185 : ∀ j, j < t.1 → gI (sI σ 122 88 0) 185 j = t.2 j := fun j hj => by rw [gI_sI, if_neg (by omega)]; exact h.2 j hj
  -- what is or'ed
  have ev : ∀ k : Nat, k < 8 → (if zlc (8 * zi2l z + zi2l (k : Int)) 0 < 0 then 0 else (if 0 ≤ zlc (8 * zi2l z + zi2l (k : Int)) (zi2l (t.1 : Int)) then 0 else zlshl (zi2l (gI (sI σ 122 88 0) 185 ((zl2i (8 * zi2l z + zi2l (k : Int))).toNat))) (w32 (8 * (k : Int))) : Int64) : Int64) = (if 0 ≤ z ∧ z < 23 ∧ 8 * z.toNat + k < t.1 then zlshl (zi2l (t.2 (8 * z.toNat + k))) ((8 * k : Nat) : Int) else 0) := fun k hk => by
    have hl := l_at h1 h2 hk
    have z0 : (0 : Int64).toInt = 0 := rfl
    by_cases c0 : z < 0
    · rw [if_pos (zlc_lt.mpr (by rw [hl, z0]; omega)), if_neg (by omega)]
    · rw [if_neg (fun w => by have := zlc_lt.mp w; rw [hl, z0] at this; omega)]
      by_cases c1 : 8 * z + k < t.1
      · obtain ⟨i, rfl⟩ : ∃ i : Nat, z = (i : Int) := ⟨z.toNat, by omega⟩
        rw [if_neg (fun w => by have := zlc_ge.mp w; rw [hl, zi2l_toInt (by omega) (by omega)] at this; omega), if_pos (by omega)]
        have e : zl2i (8 * zi2l (i : Int) + zi2l (k : Int)) = ((8 * i + k : Nat) : Int) := by
          unfold zl2i
          rw [Int64.toInt_toInt32, hl, zw_bmod, zw_id (by omega) (by omega)]
          omega
        rw [e, Int.toNat_natCast, e185 _ (by omega), zw_id (by omega) (by omega), Int.toNat_natCast, show (8 * (k : Int)) = ((8 * k : Nat) : Int) by omega]
      · rw [if_pos (zlc_ge.mpr (by rw [hl, zi2l_toInt (by omega) (by omega)]; omega)), if_neg (by omega)]
  have loop : ∀ (m k : Nat) (o5 o6 : Option zV), k + m = 8 → zEv true ((250, 10, [some (.inr (.inr 122)), some (.inl z), some (.inr (.inl (if 0 ≤ z ∧ z < 23 then wdr t z.toNat k else 0))), none, some (.inl (k : Int)), o5, o6], []) :: K) (sI σ 122 88 0) = zRet true K (some (.inr (.inl (wdv t z)))) (sI σ 122 88 0) := by
    intro m
    induction m with
    | zero =>
      intro k o5 o6 hk
      rw [zj_250_10, if_pos (by omega), show k = 8 by omega]
      rfl
    | succ m ih =>
      intro k o5 o6 hk
      have hl := l_at h1 h2 (show k < 8 by omega)
      have z0 : (0 : Int64).toInt = 0 := rfl
      have hcd : ¬ (zlc (8 * zi2l z + zi2l (k : Int)) 0 < 0) → (¬ (0 ≤ zlc (8 * zi2l z + zi2l (k : Int)) (zi2l (t.1 : Int))) → (0 ≤ (zl2i (8 * zi2l z + zi2l (k : Int))) ∧ (zl2i (8 * zi2l z + zi2l (k : Int))) < 512)) := fun q1 q2 => by
        have r1 : ¬ (8 * z + k < 0) := fun w => q1 (zlc_lt.mpr (by rw [hl, z0]; exact w))
        have r2 : ¬ ((t.1 : Int) ≤ 8 * z + k) := fun w => q2 (zlc_ge.mpr (by rw [hl, zi2l_toInt (by omega) (by omega)]; exact w))
        have e : zl2i (8 * zi2l z + zi2l (k : Int)) = 8 * z + k := by
          unfold zl2i
          rw [Int64.toInt_toInt32, hl, zw_bmod, zw_id (by omega) (by omega)]
        rw [e]; omega
      rw [zj_250_10, if_neg (by omega), e87, yAnd hcd, ev k (by omega), zw_id (z := (k : Int) + 1) (by omega) (by omega), show (k : Int) + 1 = ((k + 1 : Nat) : Int) by omega]
      have := ih (k + 1) (some (.inr (.inl (8 * zi2l z + zi2l (k : Int))))) none (by omega)
      by_cases c : 0 ≤ z ∧ z < 23
      · rw [if_pos c] at this ⊢
        rw [wdr] at this
        by_cases c2 : 8 * z.toNat + k < t.1
        · rw [if_pos c2] at this
          rw [if_pos ⟨c.1, c.2, c2⟩]; exact this
        · rw [if_neg c2] at this
          rw [if_neg (fun w => c2 w.2.2)]; exact this
      · rw [if_neg c] at this ⊢
        rw [if_neg (fun w => c ⟨w.1, w.2.1⟩), or_zero64]; exact this
  rw [ze_250]
  have := loop 8 0 none none rfl
  rw [show (if 0 ≤ z ∧ z < 23 then wdr t z.toNat 0 else 0) = (0 : Int64) by split <;> rfl] at this
  exact this
