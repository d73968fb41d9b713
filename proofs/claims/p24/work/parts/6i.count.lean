/-! how many bits: what the library's methods answer -/
theorem yus_all : ∀ k : Nat, k < 32 → ((Int32.ofInt (k : Int)).toUInt32 &&& Int32.toUInt32 31) % 32 = UInt32.ofNat k := by decide +kernel
theorem zushr_nat {x k : Nat} (hx : x < 2 ^ 31) (hk : k < 32) : zushr (x : Int) (k : Int) = ((x / 2 ^ k : Nat) : Int) := by
  unfold zushr
  refine i32 ?_ (Nat.lt_of_le_of_lt (Nat.div_le_self _ _) hx)
  rw [UInt32.toBitVec_toInt32, UInt32.toBitVec_shiftRight]
  have h : ((Int32.ofInt (k : Int)).toUInt32 &&& Int32.toUInt32 31).toBitVec % 32 = BitVec.ofNat 32 k := by
    have := congrArg UInt32.toBitVec (yus_all k hk)
    rw [UInt32.toBitVec_mod] at this
    exact this
  rw [h, BitVec.ushiftRight_eq', BitVec.toNat_ushiftRight, BitVec.toNat_ofNat, Nat.mod_eq_of_lt (show k < 2 ^ 32 by omega), Nat.shiftRight_eq_div_pow]
  show (Int32.ofInt (x : Int)).toBitVec.toNat / 2 ^ k = _
  rw [n32 (by omega)]
theorem pop4_sum {q0 q1 q2 q3 : Nat} (h0 : q0 ≤ 8) (h1 : q1 ≤ 8) (h2 : q2 ≤ 8) (h3 : q3 ≤ 8) : ∀ C D E : Nat, C = q0 + 256 * (q1 + 256 * (q2 + 256 * q3)) → D = C + C / 256 → E = D + D / 65536 → E % 64 = q0 + (q1 + (q2 + q3)) := by
  intro C D E hC hD hE
  have e1 : D = (q0 + q1) + 256 * (q1 + q2) + 65536 * (q2 + q3) + 16777216 * q3 := by omega
  clear hC hD
  have e2 : D / 65536 = (q2 + q3) + 256 * q3 := by omega
  omega
theorem pow31 : (2 : Nat) ^ 31 = 2147483648 := by decide
theorem z31 {y : Nat} (h : y < 16777216) : y < 2 ^ 31 := by rw [pow31]; omega
theorem mk_5 : (1431655765 : Int) = ((mk 0x55 4 : Nat) : Int) ∧ mk 0x55 4 < 2 ^ 31 := by decide
theorem mk_3 : (858993459 : Int) = ((mk 0x33 4 : Nat) : Int) ∧ mk 0x33 4 < 2 ^ 31 := by decide
theorem mk_f : (252645135 : Int) = ((mk 0x0F 4 : Nat) : Int) ∧ mk 0x0F 4 < 2 ^ 31 := by decide
theorem w_sub {x y : Nat} (hx : x < 16777216) (hy : y ≤ x) : w32 ((x : Int) - (y : Int)) = ((x - y : Nat) : Int) := by rw [zw_id (by omega) (by omega)]; omega
theorem w_add {x y : Nat} (hx : x < 16777216) (hy : y ≤ x) : w32 ((x : Int) + (y : Int)) = ((x + y : Nat) : Int) := by rw [zw_id (by omega) (by omega)]; omega
theorem w_add2 {x y : Nat} (hx : x < 16777216) (hy : y < 16777216) : w32 ((x : Int) + (y : Int)) = ((x + y : Nat) : Int) := by rw [zw_id (by omega) (by omega)]; omega
theorem b_A {x : Nat} (hx : x < 16777216) : w32 ((x : Int) - zand (zushr (x : Int) 1) 1431655765) = ((X1 4 x : Nat) : Int) := by
  rw [show (1 : Int) = ((1 : Nat) : Int) from rfl, zushr_nat (z31 hx) (by decide), mk_5.1, zand_nat (Nat.lt_of_le_of_lt (Nat.div_le_self _ _) (z31 hx)) mk_5.2]
  exact w_sub hx (Nat.le_trans Nat.and_le_left (Nat.div_le_self _ _))
theorem b_B {x : Nat} (hx : x < 16777216) : w32 (zand (x : Int) 858993459 + zand (zushr (x : Int) 2) 858993459) = ((X2 4 x : Nat) : Int) := by
  rw [show (2 : Int) = ((2 : Nat) : Int) from rfl, zushr_nat (z31 hx) (by decide), mk_3.1, zand_nat (z31 hx) mk_3.2, zand_nat (Nat.lt_of_le_of_lt (Nat.div_le_self _ _) (z31 hx)) mk_3.2]
  exact w_add2 (Nat.lt_of_le_of_lt Nat.and_le_left hx) (Nat.lt_of_le_of_lt (Nat.le_trans Nat.and_le_left (Nat.div_le_self _ _)) hx)
theorem b_C {x : Nat} (hx : x < 4194304) : zand (w32 ((x : Int) + zushr (x : Int) 4)) 252645135 = ((X3 4 x : Nat) : Int) := by
  have hx2 : x < 16777216 := by omega
  rw [show (4 : Int) = ((4 : Nat) : Int) from rfl, zushr_nat (z31 hx2) (by decide), w_add hx2 (Nat.div_le_self _ _), mk_f.1, zand_nat (z31 (by rw [show (2 : Nat) ^ 4 = 16 from rfl]; omega)) mk_f.2]
  rfl
theorem b_D {x : Nat} (hx : x < 16777216) : w32 ((x : Int) + zushr (x : Int) 8) = ((x + x / 256 : Nat) : Int) := by
  rw [show (8 : Int) = ((8 : Nat) : Int) from rfl, zushr_nat (z31 hx) (by decide), w_add hx (Nat.div_le_self _ _)]
theorem b_E {x : Nat} (hx : x < 16777216) : w32 ((x : Int) + zushr (x : Int) 16) = ((x + x / 65536 : Nat) : Int) := by
  rw [show (16 : Int) = ((16 : Nat) : Int) from rfl, zushr_nat (z31 hx) (by decide), w_add hx (Nat.div_le_self _ _)]
theorem X_le {x : Nat} : X1 4 x ≤ x := Nat.sub_le _ _
theorem X2_le {x : Nat} : X2 4 x ≤ x + x := Nat.add_le_add Nat.and_le_left (Nat.le_trans Nat.and_le_left (Nat.div_le_self _ _))
theorem X3_le {x : Nat} : X3 4 x ≤ x + x := Nat.le_trans Nat.and_le_left (Nat.add_le_add_left (Nat.div_le_self _ _) _)
theorem c_bitCount {K : List zF} {x : Nat} {z : Int} {σ : zW} (hx : x < 2 ^ 20) (hz : z = (x : Int)) : zEv true (zent 166 [.inl z] :: K) σ = zRet true K (some (.inl (pop 4 x : Nat))) σ := by
  subst hz
  have hx2 : x < 1048576 := hx
  have lA : X1 4 x < 1048576 := Nat.lt_of_le_of_lt X_le hx2
  have lB := X2_le (x := X1 4 x)
  have lC := X3_le (x := X2 4 (X1 4 x))
  have hpop := X_pop 4 x (Nat.lt_trans hx2 (by decide))
  have aB : X2 4 (X1 4 x) < 2097152 := by clear hpop lC; generalize X2 4 (X1 4 x) = u at *; generalize X1 4 x = v at *; omega
  have aC : X3 4 (X2 4 (X1 4 x)) < 4194304 := by clear hpop lB lA; generalize X3 4 (X2 4 (X1 4 x)) = u at *; generalize X2 4 (X1 4 x) = v at *; omega
  rw [ze_166, b_A (Nat.lt_trans hx2 (by decide)), b_B (Nat.lt_trans lA (by decide)), b_C (Nat.lt_trans aB (by decide))]
  rw [hpop] at aC ⊢
  clear hpop lA lB lC aB
  have fin : ∀ C : Nat, popB 4 x = C → C < 4194304 → zand (w32 (w32 ((C : Int) + zushr (C : Int) 8) + zushr (w32 ((C : Int) + zushr (C : Int) 8)) 16)) 63 = ((pop 4 x : Nat) : Int) := fun C hC aC => by
    have aD : C + C / 256 < 16777216 := by clear hC; omega
    have aE : C + C / 256 + (C + C / 256) / 65536 < 16777216 := by clear hC; omega
    rw [b_D (Nat.lt_trans aC (by decide)), b_E aD, show (63 : Int) = ((63 : Nat) : Int) from rfl, zand_nat (z31 aE) (by decide), show (63 : Nat) = 2 ^ 6 - 1 from rfl, Nat.and_two_pow_sub_one_eq_mod]
    exact congrArg (fun n : Nat => (n : Int)) (pop4_sum (pop8_le (x % 256)) (pop8_le (x / 256 % 256)) (pop8_le (x / 256 / 256 % 256)) (pop8_le (x / 256 / 256 / 256 % 256)) C (C + C / 256) _ hC.symm rfl rfl)
  rw [fin _ rfl aC]
