/-! the bits of longs -/
theorem nv_sub {x y : Int64} (h : nv y ≤ nv x) : nv (x - y) = nv x - nv y := by
  unfold nv at h ⊢
  have h1 := x.toBitVec.isLt
  rw [Int64.toBitVec_sub, BitVec.toNat_sub]
  generalize x.toBitVec.toNat = a at *
  generalize y.toBitVec.toNat = b at *
  omega
theorem nv_add {x y : Int64} (h : nv x + nv y < 2 ^ 64) : nv (x + y) = nv x + nv y := by
  unfold nv at h ⊢
  rw [Int64.toBitVec_add, BitVec.toNat_add, Nat.mod_eq_of_lt h]
theorem nk_5 : nv 6148914691236517205 = mk 0x55 8 := by decide +kernel
theorem nk_3 : nv 3689348814741910323 = mk 0x33 8 := by decide +kernel
theorem nk_f : nv 1085102592571150095 = mk 0x0F 8 := by decide +kernel
theorem nu1 {x : Int64} : nv (zlushr x 1) = nv x / 2 := nv_ushr (k := 1) (by decide)
theorem nu2 {x : Int64} : nv (zlushr x 2) = nv x / 4 := nv_ushr (k := 2) (by decide)
theorem nu4 {x : Int64} : nv (zlushr x 4) = nv x / 16 := nv_ushr (k := 4) (by decide)
theorem nu8 {x : Int64} : nv (zlushr x 8) = nv x / 256 := nv_ushr (k := 8) (by decide)
theorem nu16 {x : Int64} : nv (zlushr x 16) = nv x / 65536 := nv_ushr (k := 16) (by decide)
theorem nu32 {x : Int64} : nv (zlushr x 32) = nv x / 4294967296 := nv_ushr (k := 32) (by decide)
theorem d_A {x : Int64} : nv (x - ((zlushr x 1) &&& 6148914691236517205)) = X1 8 (nv x) := by
  rw [nv_sub (by rw [nv_and, nu1]; exact Nat.le_trans Nat.and_le_left (Nat.div_le_self _ _)), nv_and, nu1, nk_5]
  rfl
theorem X2_lt {x : Nat} : X2 8 x ≤ 2 * mk 0x33 8 := by
  have h1 : x &&& mk 0x33 8 ≤ mk 0x33 8 := Nat.and_le_right
  have h2 : (x / 4) &&& mk 0x33 8 ≤ mk 0x33 8 := Nat.and_le_right
  rw [Nat.two_mul]
  exact Nat.add_le_add h1 h2
theorem m33 : 2 * mk 0x33 8 < 2 ^ 63 := by decide
theorem d_B {x : Int64} : nv ((x &&& 3689348814741910323) + ((zlushr x 2) &&& 3689348814741910323)) = X2 8 (nv x) := by
  have h : nv (x &&& 3689348814741910323) + nv ((zlushr x 2) &&& 3689348814741910323) = X2 8 (nv x) := by
    rw [nv_and, nv_and, nu2, nk_3]; rfl
  rw [nv_add (by rw [h]; exact Nat.lt_of_le_of_lt X2_lt (by decide)), h]
theorem d_C {x : Int64} (hx : nv x < 2 ^ 63) : nv ((x + (zlushr x 4)) &&& 1085102592571150095) = X3 8 (nv x) := by
  rw [nv_and, nk_f, nv_add (by rw [nu4]; have := Nat.div_le_self (nv x) 16; generalize nv x / 16 = u at *; generalize nv x = v at *; omega), nu4]
  rfl
theorem X3_lt {x : Nat} : X3 8 x ≤ mk 0x0F 8 := Nat.and_le_right
theorem d_D {x : Int64} (hx : nv x ≤ mk 0x0F 8) : nv (x + (zlushr x 8)) = nv x + nv x / 256 := by
  have h0 : mk 0x0F 8 < 2 ^ 61 := by decide
  have h1 := Nat.div_le_self (nv x) 256
  rw [nv_add (by rw [nu8]; generalize nv x / 256 = u at *; generalize nv x = v at *; generalize mk 0x0F 8 = w at *; omega), nu8]
theorem d_E {x : Int64} (hx : nv x < 2 ^ 62) : nv (x + (zlushr x 16)) = nv x + nv x / 65536 := by
  have h1 := Nat.div_le_self (nv x) 65536
  rw [nv_add (by rw [nu16]; generalize nv x / 65536 = u at *; generalize nv x = v at *; omega), nu16]
theorem d_F {x : Int64} (hx : nv x < 2 ^ 63) : nv (x + (zlushr x 32)) = nv x + nv x / 4294967296 := by
  have h1 := Nat.div_le_self (nv x) 4294967296
  rw [nv_add (by rw [nu32]; generalize nv x / 4294967296 = u at *; generalize nv x = v at *; omega), nu32]
theorem zand_127 (y : Int64) : zand (zl2i y) 127 = ((nv y % 128 : Nat) : Int) := by
  have h : ∀ z : Int32, (z &&& Int32.ofInt 127).toInt = ((z.toBitVec.toNat % 128 : Nat) : Int) := fun z => by
    have h1 : (z &&& Int32.ofInt 127).toBitVec.toNat = z.toBitVec.toNat % 128 := by
      rw [Int32.toBitVec_and, BitVec.toNat_and]
      exact Nat.and_two_pow_sub_one_eq_mod z.toBitVec.toNat 7
    have h2 : (z &&& Int32.ofInt 127).toInt = (z &&& Int32.ofInt 127).toBitVec.toInt := rfl
    rw [h2, BitVec.toInt_eq_toNat_cond, h1, if_pos (by omega)]
  unfold zand zl2i
  rw [Int32.ofInt_toInt, h, Int64.toBitVec_toInt32, BitVec.signExtend_eq_setWidth_of_le _ (by omega), BitVec.toNat_setWidth]
  unfold nv
  omega
theorem pop8_sum {q0 q1 q2 q3 q4 q5 q6 q7 : Nat} (h0 : q0 ≤ 8) (h1 : q1 ≤ 8) (h2 : q2 ≤ 8) (h3 : q3 ≤ 8) (h4 : q4 ≤ 8) (h5 : q5 ≤ 8) (h6 : q6 ≤ 8) (h7 : q7 ≤ 8) : ∀ C D E F : Nat, C = q0 + 256 * (q1 + 256 * (q2 + 256 * (q3 + 256 * (q4 + 256 * (q5 + 256 * (q6 + 256 * q7)))))) → D = C + C / 256 → E = D + D / 65536 → F = E + E / 4294967296 → F % 128 = q0 + (q1 + (q2 + (q3 + (q4 + (q5 + (q6 + q7)))))) := by
  intro C D E F hC hD hE hF
  have e0 : C / 256 = q1 + 256 * (q2 + 256 * (q3 + 256 * (q4 + 256 * (q5 + 256 * (q6 + 256 * q7))))) := by clear hD hE hF; omega
  rw [e0, hC] at hD
  clear e0 hC C
  have e1 : D / 65536 = (q2 + q3) + 256 * (q3 + q4) + 65536 * (q4 + q5) + 16777216 * (q5 + q6) + 4294967296 * (q6 + q7) + 1099511627776 * q7 := by clear hE hF; omega
  rw [e1, hD] at hE
  clear e1 hD D
  have e2 : E / 4294967296 = (q4 + q5 + q6 + q7) + 256 * (q5 + q6 + q7) + 65536 * (q6 + q7) + 16777216 * q7 := by clear hF; omega
  rw [e2, hE] at hF
  clear e2 hE E
  omega
theorem c_bitCountL {K : List zF} {x : Int64} {σ : zW} : zEv true (zent 168 [.inr (.inl x)] :: K) σ = zRet true K (some (.inl (pop 8 (nv x) : Nat))) σ := by
  have hpop := X_pop 8 (nv x) (Nat.lt_of_lt_of_le (nv_lt x) (by decide))
  rw [ze_168]
  have hA := d_A (x := x)
  generalize x - ((zlushr x 1) &&& 6148914691236517205) = A at hA ⊢
  have hB := d_B (x := A)
  generalize (A &&& 3689348814741910323) + ((zlushr A 2) &&& 3689348814741910323) = B at hB ⊢
  rw [hA] at hB
  have hC := d_C (x := B) (by rw [hB]; exact Nat.lt_of_le_of_lt X2_lt m33)
  rw [hB, hpop] at hC
  generalize (B + (zlushr B 4)) &&& 1085102592571150095 = C at hC ⊢
  have lC : nv C ≤ mk 0x0F 8 := by rw [hC, ← hpop]; exact X3_lt
  clear hpop hA hB
  have hD := d_D lC
  have lD : nv (C + (zlushr C 8)) < 2 ^ 62 := by
    have h0 : mk 0x0F 8 < 2 ^ 61 := by decide
    have h1 := Nat.div_le_self (nv C) 256
    rw [hD]
    generalize nv C / 256 = u at *; generalize nv C = v at *; generalize mk 0x0F 8 = w at *; omega
  generalize C + (zlushr C 8) = D at hD lD ⊢
  have hE := d_E lD
  have lE : nv (D + (zlushr D 16)) < 2 ^ 63 := by
    have h1 := Nat.div_le_self (nv D) 65536
    rw [hE]
    generalize nv D / 65536 = u at *; generalize nv D = v at *; omega
  generalize D + (zlushr D 16) = E at hE lE ⊢
  have hF := d_F lE
  generalize E + (zlushr E 32) = F at hF ⊢
  rw [zand_127]
  have := pop8_sum (pop8_le (nv x % 256)) (pop8_le (nv x / 256 % 256)) (pop8_le (nv x / 256 / 256 % 256)) (pop8_le (nv x / 256 / 256 / 256 % 256)) (pop8_le (nv x / 256 / 256 / 256 / 256 % 256)) (pop8_le (nv x / 256 / 256 / 256 / 256 / 256 % 256)) (pop8_le (nv x / 256 / 256 / 256 / 256 / 256 / 256 % 256)) (pop8_le (nv x / 256 / 256 / 256 / 256 / 256 / 256 / 256 % 256)) (nv C) (nv D) (nv E) (nv F) hC hD hE hF
  rw [this]
  rfl
/-- the lowest bit of a number -/
def low (N k : Nat) : Prop := N.testBit k = true ∧ ∀ i, i < k → N.testBit i = false
theorem low_ex {N : Nat} : ∀ n, (∃ i, i < n ∧ N.testBit i = true) → ∃ k, k < n ∧ low N k := by
  intro n
  induction n with
  | zero => rintro ⟨i, hi, -⟩; omega
  | succ n ih =>
    rintro ⟨i, hi, h⟩
    by_cases q : ∃ i, i < n ∧ N.testBit i = true
    · obtain ⟨k, k1, k2⟩ := ih q; exact ⟨k, by omega, k2⟩
    · have e : i = n := by
        by_cases e : i = n
        · exact e
        · exact absurd ⟨i, by omega, h⟩ q
      rw [e] at h
      refine ⟨n, Nat.lt_succ_self n, h, fun j hj => ?_⟩
      cases hb : N.testBit j with
      | false => rfl
      | true => exact absurd ⟨j, hj, hb⟩ q
theorem low_eq {N k : Nat} (h : low N k) : N = 2 ^ k * (2 * (N / 2 ^ k / 2) + 1) := by
  have h1 : N / 2 ^ k % 2 = 1 := by
    have := h.1
    rw [Nat.testBit_eq_decide_div_mod_eq] at this
    exact of_decide_eq_true this
  have h2 : N % 2 ^ k = 0 := by
    refine Nat.eq_of_testBit_eq (fun i => ?_)
    rw [Nat.testBit_mod_two_pow, Nat.zero_testBit]
    by_cases hi : i < k
    · rw [h.2 i hi, Bool.and_false]
    · rw [decide_eq_false hi, Bool.false_and]
  have h3 := Nat.div_add_mod N (2 ^ k)
  rw [h2, Nat.add_zero] at h3
  have h4 : 2 * (N / 2 ^ k / 2) + 1 = N / 2 ^ k := by clear h3 h2; omega
  rw [h4, h3]
theorem low_pred {N k : Nat} (h : low N k) (i : Nat) : (N - 1).testBit i = if i < k then true else if i = k then false else N.testBit i := by
  have e := low_eq h
  generalize N / 2 ^ k / 2 = m at e
  have hp : 0 < 2 ^ k := Nat.pow_pos (by decide)
  have e2 : N - 1 = 2 ^ k * (2 * m) + (2 ^ k - 1) := by
    rw [e, Nat.mul_add, Nat.mul_one]; clear e; generalize 2 ^ k * (2 * m) = u; omega
  have e3 : N = 2 ^ k * (2 * m + 1) + 0 := e
  rw [e2, Nat.testBit_two_pow_mul_add _ (by omega)]
  by_cases c1 : i < k
  · rw [if_pos c1, if_pos c1, Nat.testBit_two_pow_sub_one, decide_eq_true c1]
  · rw [if_neg c1, if_neg c1]
    by_cases c2 : i = k
    · rw [if_pos c2, c2, Nat.sub_self, Nat.testBit_zero, Nat.mul_mod_right]; rfl
    · rw [if_neg c2, e3, Nat.testBit_two_pow_mul_add _ hp, if_neg c1, show i - k = (i - k - 1) + 1 by omega, Nat.testBit_succ, Nat.testBit_succ]
      congr 1
      omega
/-! trailing zeros -/
def nf74 (y n : Int) : Int := w32 (n + (zushr y 1))
def nf62 (y n : Int) : Int := if y ≤ 4 then nf74 y n else nf74 (zushr y 2) (w32 (n + 2))
def nf49 (y n : Int) : Int := if y ≤ 16 then nf62 y n else nf62 (zushr y 4) (w32 (n + 4))
def nf34 (y n : Int) : Int := if y ≤ 256 then nf49 y n else nf49 (zushr y 8) (w32 (n + 8))
def nfz (y : Int) : Int := if 0 < y then (if y ≤ 65536 then nf34 y 1 else nf34 (zushr y 16) (w32 (1 + 16))) else zand y 32
theorem nfz_all : ∀ k : Nat, k < 32 → nfz (((2 ^ k - 1 : Nat) : Int)) = (k : Int) := by decide +kernel
theorem c_ntz0 {K : List zF} {x : Int} {σ : zW} : zEv true (zent 167 [.inl x] :: K) σ = zRet true K (some (.inl (nfz (zand (zxor x (-1)) (w32 (x - 1)))))) σ := by
  have h74 : ∀ y n : Int, zEv true ((167, 74, [some (.inl y), some (.inl n)], []) :: K) σ = zRet true K (some (.inl (nf74 y n))) σ := fun y n => zj_167_74
  have h62 : ∀ y n : Int, zEv true ((167, 62, [some (.inl y), some (.inl n)], []) :: K) σ = zRet true K (some (.inl (nf62 y n))) σ := fun y n => by
    rw [zj_167_62]; unfold nf62; split <;> rw [h74]
  have h49 : ∀ y n : Int, zEv true ((167, 49, [some (.inl y), some (.inl n)], []) :: K) σ = zRet true K (some (.inl (nf49 y n))) σ := fun y n => by
    rw [zj_167_49]; unfold nf49; split <;> rw [h62]
  have h34 : ∀ y n : Int, zEv true ((167, 34, [some (.inl y), some (.inl n)], []) :: K) σ = zRet true K (some (.inl (nf34 y n))) σ := fun y n => by
    rw [zj_167_34]; unfold nf34; split <;> rw [h49]
  rw [ze_167]
  unfold nfz
  split
  · split <;> rw [h34]
  · rfl
theorem c_ntz1 {X : Int32} {k : Nat} (hk : k < 32) (h : low X.toBitVec.toNat k) : zand (zxor X.toInt (-1)) (w32 (X.toInt - 1)) = ((2 ^ k - 1 : Nat) : Int) := by
  have e1 : Int32.ofInt (w32 (X.toInt - 1)) = X - 1 := by
    have h1 : w32 (X.toInt - 1) = (X - 1).toInt := by rw [z_sub]; rfl
    rw [h1, Int32.ofInt_toInt]
  unfold zand zxor
  rw [e1, Int32.ofInt_toInt, Int32.ofInt_toInt]
  have hp : 2 ^ k ≤ 2 ^ 31 := Nat.pow_le_pow_right (by decide) (by omega)
  refine i32 ?_ (by omega)
  have hne : X.toBitVec.toNat ≠ 0 := fun w => by
    have := h.1
    rw [w, Nat.zero_testBit] at this
    exact absurd this (by decide)
  have hlt := X.toBitVec.isLt
  have e2 : (X - 1).toBitVec.toNat = X.toBitVec.toNat - 1 := by
    rw [Int32.toBitVec_sub, BitVec.toNat_sub]
    have : (1 : Int32).toBitVec.toNat = 1 := rfl
    rw [this]
    generalize X.toBitVec.toNat = a at *
    omega
  have e3 : (Int32.ofInt (-1)).toBitVec.toNat = 2 ^ 32 - 1 := by decide +kernel
  rw [Int32.toBitVec_and, BitVec.toNat_and, Int32.toBitVec_xor, BitVec.toNat_xor, e2, e3]
  refine Nat.eq_of_testBit_eq (fun i => ?_)
  rw [Nat.testBit_and, Nat.testBit_xor, Nat.testBit_two_pow_sub_one, Nat.testBit_two_pow_sub_one, low_pred h]
  by_cases c1 : i < k
  · rw [if_pos c1, decide_eq_true c1, decide_eq_true (show i < 32 by omega), h.2 i c1]; rfl
  · rw [if_neg c1, decide_eq_false c1]
    by_cases c2 : i = k
    · rw [if_pos c2, Bool.and_false]
    · rw [if_neg c2]
      by_cases c3 : i < 32
      · rw [decide_eq_true c3, Bool.xor_true, Bool.not_and_self]
      · have : X.toBitVec.toNat.testBit i = false := Nat.testBit_lt_two_pow (Nat.lt_of_lt_of_le hlt (Nat.pow_le_pow_right (by decide) (by omega)))
        rw [this, Bool.and_false]
theorem c_ntzL {K : List zF} (hK : K.length < 60) {x : Int64} {k : Nat} {σ : zW} (hk : k < 64) (h : low (nv x) k) : zEv true (zent 169 [.inr (.inl x)] :: K) σ = zRet true K (some (.inl (k : Int))) σ := by
  have lo : ∀ y : Int64, (y.toInt32).toBitVec.toNat = nv y % 2 ^ 32 := fun y => by
    rw [Int64.toBitVec_toInt32, BitVec.signExtend_eq_setWidth_of_le _ (by omega), BitVec.toNat_setWidth]
    rfl
  have z0 : ∀ y : Int64, zl2i y = 0 ↔ nv y % 2 ^ 32 = 0 := fun y => by
    rw [← lo]
    unfold zl2i
    constructor
    · intro w
      have : y.toInt32 = 0 := Int32.toInt_inj.mp w
      rw [this]; rfl
    · intro w
      have : y.toInt32 = 0 := Int32.toBitVec_inj.mp (BitVec.eq_of_toNat_eq w)
      rw [this]; rfl
  have bit : ∀ (y : Int64) (j : Nat), j < 32 → low (nv y) j → low (y.toInt32).toBitVec.toNat j := fun y j hj q => by
    rw [lo]
    refine ⟨?_, fun i hi => ?_⟩
    · rw [Nat.testBit_mod_two_pow, decide_eq_true hj, q.1]; rfl
    · rw [Nat.testBit_mod_two_pow, q.2 i hi, Bool.and_false]
  rw [ze_169 hK]
  by_cases c : k < 32
  · have hne : ¬ zl2i x = 0 := fun w => by
      have h1 := (bit x k c h).1
      rw [lo, (z0 x).mp w, Nat.zero_testBit] at h1
      exact absurd h1 (by decide)
    rw [if_pos hne, c_ntz0, zr_169_25]
    have := c_ntz1 c (bit x k c h)
    unfold zl2i
    rw [this, nfz_all k c]
  · have heq : zl2i x = 0 := (z0 x).mpr (Nat.eq_of_testBit_eq (fun i => by
      rw [Nat.testBit_mod_two_pow, Nat.zero_testBit]
      by_cases hi : i < 32
      · rw [h.2 i (by omega), Bool.and_false]
      · rw [decide_eq_false hi, Bool.false_and]))
    rw [if_neg (fun w => w heq), c_ntz0, zr_169_17]
    have hl : low (nv (zlushr x 32)) (k - 32) := by
      rw [nu32, show (4294967296 : Nat) = 2 ^ 32 from rfl]
      refine ⟨?_, fun i hi => ?_⟩
      · rw [Nat.testBit_div_two_pow, show k - 32 + 32 = k by omega]; exact h.1
      · rw [Nat.testBit_div_two_pow]; exact h.2 _ (by omega)
    have := c_ntz1 (show k - 32 < 32 by omega) (bit _ _ (by omega) hl)
    unfold zl2i
    rw [this, nfz_all (k - 32) (by omega), zw_id (by omega) (by omega), show (32 : Int) + ((k - 32 : Nat) : Int) = (k : Int) by omega]
theorem lst_low {P : Nat → Prop} {k : Nat} (h : P k) (hm : ∀ i, i < k → ¬ P i) : ∀ n, k < n → lst P n = k :: lst (fun i => P i ∧ i ≠ k) n := by
  intro n
  induction n with
  | zero => intro h; omega
  | succ n ih =>
    intro hk
    by_cases e : n = k
    · have h0 : ∀ Q : Nat → Prop, (∀ i, i < k → ¬ Q i) → lst Q k = [] := fun Q hQ => by
        have := lst_skip (P := Q) (m := 0) k (Nat.zero_le _) (fun c _ hc => hQ c hc)
        rw [this]; rfl
      rw [e, lst_y h, lst_n (P := fun i => P i ∧ i ≠ k) (fun w => w.2 rfl), h0 P hm, h0 _ (fun i hi w => hm i hi w.1)]
      rfl
    · have := ih (by omega)
      rcases Classical.em (P n) with q | q
      · rw [lst_y q, lst_y (P := fun i => P i ∧ i ≠ k) ⟨q, e⟩, this]; rfl
      · rw [lst_n q, lst_n (P := fun i => P i ∧ i ≠ k) (fun w => q w.1), this]
/-- the lowest bit taken away -/
theorem nv_drop {x : Int64} {k : Nat} (h : low (nv x) k) : ∀ i, (nv (x &&& (x - 1))).testBit i = true ↔ (nv x).testBit i = true ∧ i ≠ k := by
  intro i
  have hne : 1 ≤ nv x := by
    rcases Nat.eq_zero_or_pos (nv x) with w | w
    · have := h.1
      rw [w, Nat.zero_testBit] at this
      exact absurd this (by decide)
    · exact w
  have h1 : nv (1 : Int64) = 1 := rfl
  rw [nv_and, nv_sub (by rw [h1]; exact hne), h1, Nat.testBit_and, low_pred h, Bool.and_eq_true]
  by_cases c1 : i < k
  · rw [h.2 i c1]; exact ⟨fun w => absurd w.1 (by decide), fun w => absurd w.1 (by decide)⟩
  · rw [if_neg c1]
    by_cases c2 : i = k
    · rw [if_pos c2]; exact ⟨fun w => absurd w.2 (by decide), fun w => absurd c2 w.2⟩
    · rw [if_neg c2]; exact ⟨fun w => ⟨w.1, c2⟩, fun w => ⟨w.1, w.1⟩⟩
