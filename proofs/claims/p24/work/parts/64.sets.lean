/-! sets of nodes as bits of numbers -/
theorem n32 {x : Nat} (hx : x < 2 ^ 32) : (Int32.ofInt (x : Int)).toBitVec.toNat = x := by
  rw [Int32.toBitVec_ofInt, BitVec.toNat_ofInt]
  omega
theorem i32 {z : Int32} {N : Nat} (h : z.toBitVec.toNat = N) (hN : N < 2 ^ 31) : z.toInt = (N : Int) := by
  have h2 : z.toInt = z.toBitVec.toInt := rfl
  rw [h2, BitVec.toInt_eq_toNat_cond, h, if_pos (by omega)]
theorem zand_nat {x y : Nat} (hx : x < 2 ^ 31) (hy : y < 2 ^ 31) : zand (x : Int) (y : Int) = ((x &&& y : Nat) : Int) := by
  unfold zand
  refine i32 ?_ (Nat.lt_of_le_of_lt Nat.and_le_left hx)
  rw [Int32.toBitVec_and, BitVec.toNat_and, n32 (by omega), n32 (by omega)]
theorem zor_nat {x y : Nat} (hx : x < 2 ^ 31) (hy : y < 2 ^ 31) : zor (x : Int) (y : Int) = ((x ||| y : Nat) : Int) := by
  unfold zor
  refine i32 ?_ (Nat.or_lt_two_pow hx hy)
  rw [Int32.toBitVec_or, BitVec.toNat_or, n32 (by omega), n32 (by omega)]
theorem zshl_all : ∀ i : Nat, i < 31 → zshl 1 (i : Int) = ((2 ^ i : Nat) : Int) := by decide +kernel
theorem ysr_all : ∀ k : Nat, k < 32 → (Int32.ofInt (k : Int) &&& 31).toBitVec.smod 32 = BitVec.ofNat 32 k := by decide +kernel
theorem zshr_nat {x k : Nat} (hx : x < 2 ^ 31) (hk : k < 32) : zshr (x : Int) (k : Int) = ((x / 2 ^ k : Nat) : Int) := by
  unfold zshr
  refine i32 ?_ (Nat.lt_of_le_of_lt (Nat.div_le_self _ _) hx)
  have hm : (Int32.ofInt (x : Int)).toBitVec.msb = false := by
    rw [BitVec.msb_eq_false_iff_two_mul_lt, n32 (by omega)]; omega
  rw [Int32.toBitVec_shiftRight, ysr_all k hk, BitVec.sshiftRight_eq', BitVec.toNat_ofNat, Nat.mod_eq_of_lt (show k < 2 ^ 32 by omega), BitVec.sshiftRight_eq_of_msb_false hm, BitVec.toNat_ushiftRight, n32 (by omega), Nat.shiftRight_eq_div_pow]
theorem ztest {x k : Nat} (hx : x < 2 ^ 31) (hk : k < 32) : zand (zshr (x : Int) (k : Int)) 1 = 0 ↔ x.testBit k = false := by
  have h1 : x / 2 ^ k < 2 ^ 31 := Nat.lt_of_le_of_lt (Nat.div_le_self _ _) hx
  rw [zshr_nat hx hk, show (1 : Int) = ((1 : Nat) : Int) from rfl, zand_nat h1 (by omega), Nat.and_one_is_mod, Nat.testBit_eq_decide_div_mod_eq]
  have hr : x / 2 ^ k % 2 < 2 := Nat.mod_lt _ (by omega)
  generalize x / 2 ^ k % 2 = r at hr
  constructor
  · intro h; exact decide_eq_false (by omega)
  · intro h; have := of_decide_eq_false h; omega
def ndn (x y : Nat) : Nat := x &&& (y ^^^ (2 ^ 32 - 1))
theorem ndn_lt {x y : Nat} (hx : x < 2 ^ 31) : ndn x y < 2 ^ 31 := Nat.lt_of_le_of_lt Nat.and_le_left hx
theorem znd_nat {x y : Nat} (hx : x < 2 ^ 31) (hy : y < 2 ^ 31) : zand (x : Int) (zxor (y : Int) (-1)) = ((ndn x y : Nat) : Int) := by
  unfold zand zxor
  rw [Int32.ofInt_toInt]
  refine i32 ?_ (ndn_lt hx)
  have h1 : (Int32.ofInt (-1)).toBitVec.toNat = 2 ^ 32 - 1 := by decide +kernel
  rw [Int32.toBitVec_and, BitVec.toNat_and, Int32.toBitVec_xor, BitVec.toNat_xor, n32 (by omega), n32 (by omega), h1]
  rfl
theorem ndn_bit {x y i : Nat} (hx : x < 2 ^ 31) : (ndn x y).testBit i = (x.testBit i && !(y.testBit i)) := by
  unfold ndn
  rw [Nat.testBit_and, Nat.testBit_xor, Nat.testBit_two_pow_sub_one]
  by_cases h : i < 32
  · rw [decide_eq_true h, Bool.xor_true]
  · have : x.testBit i = false := Nat.testBit_lt_two_pow (Nat.lt_of_lt_of_le hx (Nat.pow_le_pow_right (by omega) (by omega)))
    rw [this]; rfl
/-- the set of the nodes below n for which P holds -/
noncomputable def bs (P : Nat → Prop) : Nat → Nat
  | 0 => 0
  | k + 1 => bs P k + @ite Nat (P k) (Classical.propDecidable _) (2 ^ k) 0
theorem bs_lt (P : Nat → Prop) : ∀ n, bs P n < 2 ^ n := by
  intro n
  induction n with
  | zero => exact Nat.one_pos
  | succ n ih =>
    rw [bs, Nat.pow_succ]
    rcases Classical.em (P n) with h | h
    · rw [if_pos h]; omega
    · rw [if_neg h]; omega
theorem bs_lt31 (P : Nat → Prop) {n : Nat} (hn : n ≤ 20) : bs P n < 2 ^ 31 := Nat.lt_of_lt_of_le (bs_lt P n) (Nat.pow_le_pow_right (by omega) (by omega))
theorem bs_bit (P : Nat → Prop) : ∀ n i, (bs P n).testBit i = true ↔ i < n ∧ P i := by
  intro n
  induction n with
  | zero => intro i; rw [bs, Nat.zero_testBit]; exact ⟨fun h => absurd h (by decide), fun h => absurd h.1 (Nat.not_lt_zero _)⟩
  | succ n ih =>
    intro i
    rw [bs]
    have hl := bs_lt P n
    rcases Classical.em (P n) with h | h
    · rw [if_pos h, Nat.add_comm]
      by_cases e : i = n
      · subst e
        rw [Nat.testBit_two_pow_add_eq, Nat.testBit_lt_two_pow hl]
        exact ⟨fun _ => ⟨Nat.lt_succ_self _, h⟩, fun _ => rfl⟩
      · by_cases c : i < n
        · rw [Nat.testBit_two_pow_add_gt c, ih i]
          exact ⟨fun w => ⟨by omega, w.2⟩, fun w => ⟨c, w.2⟩⟩
        · have : 2 ^ n + bs P n < 2 ^ i := Nat.lt_of_lt_of_le (show 2 ^ n + bs P n < 2 ^ (n + 1) by rw [Nat.pow_succ]; omega) (Nat.pow_le_pow_right (by omega) (by omega))
          rw [Nat.testBit_lt_two_pow this]
          exact ⟨fun w => absurd w (by decide), fun w => by have := w.1; omega⟩
    · rw [if_neg h]
      show (bs P n).testBit i = true ↔ _
      rw [ih i]
      exact ⟨fun w => ⟨by omega, w.2⟩, fun w => ⟨by
        by_cases e : i = n
        · exact absurd (e ▸ w.2) h
        · have := w.1; omega, w.2⟩⟩
theorem bs_of {P : Nat → Prop} {n N : Nat} (h : ∀ i, N.testBit i = true ↔ i < n ∧ P i) : N = bs P n := by
  refine Nat.eq_of_testBit_eq (fun i => ?_)
  have h1 := h i
  have h2 := bs_bit P n i
  exact Bool.eq_iff_iff.mpr (h1.trans h2.symm)
theorem bs_c {P Q : Nat → Prop} {n : Nat} (h : ∀ i, i < n → (P i ↔ Q i)) : bs P n = bs Q n := bs_of (fun i => (bs_bit P n i).trans ⟨fun w => ⟨w.1, (h i w.1).mp w.2⟩, fun w => ⟨w.1, (h i w.1).mpr w.2⟩⟩)
theorem bs_and (P Q : Nat → Prop) (n : Nat) : bs P n &&& bs Q n = bs (fun i => P i ∧ Q i) n := bs_of (fun i => by
  rw [Nat.testBit_and, Bool.and_eq_true, bs_bit, bs_bit]
  exact ⟨fun w => ⟨w.1.1, w.1.2, w.2.2⟩, fun w => ⟨⟨w.1, w.2.1⟩, w.1, w.2.2⟩⟩)
theorem bs_or (P Q : Nat → Prop) (n : Nat) : bs P n ||| bs Q n = bs (fun i => P i ∨ Q i) n := bs_of (fun i => by
  rw [Nat.testBit_or, Bool.or_eq_true, bs_bit, bs_bit]
  exact ⟨fun w => by rcases w with w | w; exact ⟨w.1, Or.inl w.2⟩; exact ⟨w.1, Or.inr w.2⟩, fun w => by rcases w.2 with q | q; exact Or.inl ⟨w.1, q⟩; exact Or.inr ⟨w.1, q⟩⟩)
theorem bs_nd (P Q : Nat → Prop) {n : Nat} (hn : n ≤ 20) : ndn (bs P n) (bs Q n) = bs (fun i => P i ∧ ¬ Q i) n := bs_of (fun i => by
  rw [ndn_bit (bs_lt31 P hn), Bool.and_eq_true, bs_bit, Bool.not_eq_true', ← Bool.not_eq_true, bs_bit]
  exact ⟨fun w => ⟨w.1.1, w.1.2, fun q => w.2 ⟨w.1.1, q⟩⟩, fun w => ⟨⟨w.1, w.2.1⟩, fun q => w.2.2 q.2⟩⟩)
theorem bs_one {n a : Nat} (ha : a < n) : 2 ^ a = bs (fun i => i = a) n := bs_of (fun i => by
  rw [Nat.testBit_two_pow]
  constructor
  · intro h; have := of_decide_eq_true h; omega
  · intro h; exact decide_eq_true h.2.symm)
theorem bs_zero {P : Nat → Prop} {n : Nat} : bs P n = 0 ↔ ∀ i, i < n → ¬ P i := by
  constructor
  · intro h i hi hp
    have := (bs_bit P n i).mpr ⟨hi, hp⟩
    rw [h, Nat.zero_testBit] at this
    exact absurd this (by decide)
  · intro h
    symm
    refine bs_of (fun i => ?_)
    rw [Nat.zero_testBit]
    exact ⟨fun w => absurd w (by decide), fun w => absurd w.2 (h i w.1)⟩
/-- or'ing one node in -/
theorem bs_add {P : Nat → Prop} {n a : Nat} (ha : a < n) : bs P n ||| 2 ^ a = bs (fun i => P i ∨ i = a) n := by rw [bs_one ha, bs_or]
theorem bs_none {n : Nat} : (0 : Nat) = bs (fun _ => False) n := (bs_zero.mpr (fun _ _ w => w)).symm
/-- the class's test of a bit -/
theorem bs_test {P : Nat → Prop} {n i : Nat} (hn : n ≤ 20) (hi : i < n) : zand (zshr ((bs P n : Nat) : Int) (i : Int)) 1 = 0 ↔ ¬ P i := by
  rw [ztest (bs_lt31 P hn) (by omega)]
  have := bs_bit P n i
  constructor
  · intro h hp
    have := this.mpr ⟨hi, hp⟩
    rw [h] at this
    exact absurd this (by decide)
  · intro h
    cases hb : (bs P n).testBit i with
    | false => rfl
    | true => exact absurd (this.mp hb).2 h
