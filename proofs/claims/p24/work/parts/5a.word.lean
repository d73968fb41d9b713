/-! eight bytes of the out -/
def wdr (t : TX) (i : Nat) : Nat → Int64
  | 0 => 0
  | k + 1 => wdr t i k ||| (if 8 * i + k < t.1 then zlshl (zi2l (t.2 (8 * i + k))) ((8 * k : Nat) : Int) else 0)
def wdv (t : TX) (z : Int) : Int64 := if 0 ≤ z ∧ z < 23 then wdr t z.toNat 8 else 0
theorem or_zero64 (x : Int64) : x ||| 0 = x := nv_inj (by rw [nv_or]; exact Nat.or_zero _)
theorem wdr_end {t : TX} {i : Nat} : ∀ (d k : Nat), t.1 ≤ 8 * i + k → wdr t i (k + d) = wdr t i k := by
  intro d
  induction d with
  | zero => intro k _; rfl
  | succ d ih =>
    intro k h
    show wdr t i (k + d) ||| (if 8 * i + (k + d) < t.1 then zlshl (zi2l (t.2 (8 * i + (k + d)))) ((8 * (k + d) : Nat) : Int) else 0) = _
    rw [if_neg (by omega), or_zero64, ih k h]
theorem c_word {K : List zF} {t : TX} {z : Int} {σ : zW} (h : cO t σ) : zEv true (zent 35 [.inr (.inr 66), .inl z] :: K) σ = zRet true K (some (.inr (.inl (wdv t z)))) σ := by
  unfold wdv
  rw [ze_35]
  by_cases h0 : z < 0
  · rw [if_pos h0, if_neg (by omega)]
  · rw [if_neg h0]
    by_cases h1 : z < 23
    · obtain ⟨i, rfl⟩ : ∃ i : Nat, z = (i : Int) := ⟨z.toNat, by omega⟩
      rw [if_pos h1, if_pos (by omega), Int.toNat_natCast]
      have loop : ∀ (m k : Nat), k + m = 8 → zEv true ((35, 17, [some (.inr (.inr 66)), some (.inl (i : Int)), some (.inr (.inl (wdr t i k))), none, some (.inl (k : Int))], []) :: K) σ = zRet true K (some (.inr (.inl (wdr t i 8)))) σ := by
        intro m
        induction m with
        | zero =>
          intro k hk
          rw [zj_35_17, if_pos (by omega), show k = 8 by omega]
        | succ m ih =>
          intro k hk
          have e : w32 (w32 (8 * (i : Int)) + (k : Int)) = ((8 * i + k : Nat) : Int) := by rw [zw_id (z := 8 * (i : Int)) (by omega) (by omega), zw_id (by omega) (by omega)]; omega
          rw [zj_35_17, if_neg (by omega), e, h.1]
          by_cases h2 : 8 * i + k < t.1
          · rw [if_neg (by omega), yAnd (by omega), Int.toNat_natCast, h.2 _ h2, zw_id (z := 8 * (k : Int)) (by omega) (by omega), zw_id (by omega) (by omega), show (k : Int) + 1 = ((k + 1 : Nat) : Int) by omega, show (8 * (k : Int)) = ((8 * k : Nat) : Int) by omega]
            have := ih (k + 1) (by omega)
            rw [wdr, if_pos h2] at this
            exact this
          · rw [if_pos (by omega), show 8 = k + (m + 1) by omega, wdr_end _ _ (by omega)]
      exact loop 8 0 rfl
    · rw [if_neg h1, if_neg (by omega)]
theorem l_at {z : Int} {k : Nat} (h1 : -2147483648 ≤ z) (h2 : z ≤ 2147483647) (hk : k < 8) : ((8 : Int64) * zi2l z + zi2l (k : Int)).toInt = 8 * z + k := by
  have e : (8 : Int64) * zi2l z + zi2l (k : Int) = Int64.ofInt (8 * z + k) := by
    unfold zi2l
    rw [Int64.ofInt_add, Int64.ofInt_mul]
    rfl
  rw [e, Int64.toInt_ofInt_of_le (by omega) (by omega)]
theorem zlc_lt {x y : Int64} : zlc x y < 0 ↔ x.toInt < y.toInt := by
  have := @zlc_ge x y
  omega
theorem zi2l_toInt {z : Int} (h1 : -2147483648 ≤ z) (h2 : z ≤ 2147483647) : (zi2l z).toInt = z := by
  unfold zi2l
  rw [Int64.toInt_ofInt_of_le (by omega) (by omega)]
