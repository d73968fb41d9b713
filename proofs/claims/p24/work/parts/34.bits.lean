/-! longs as numbers without a sign -/
def nv (x : Int64) : Nat := x.toBitVec.toNat
theorem nv_inj {x y : Int64} (h : nv x = nv y) : x = y := Int64.toBitVec_inj.mp (BitVec.eq_of_toNat_eq h)
theorem nv_lt (x : Int64) : nv x < 2 ^ 64 := x.toBitVec.isLt
theorem nv_or (x y : Int64) : nv (x ||| y) = nv x ||| nv y := by unfold nv; rw [Int64.toBitVec_or, BitVec.toNat_or]
theorem nv_and (x y : Int64) : nv (x &&& y) = nv x &&& nv y := by unfold nv; rw [Int64.toBitVec_and, BitVec.toNat_and]
theorem nv_zero : nv 0 = 0 := rfl
theorem ysh_all : ∀ k : Nat, k < 64 → ((Int32.ofInt (k : Int)).toInt64 &&& 63).toBitVec.smod 64 = BitVec.ofNat 64 k := by decide +kernel
theorem nv_shl {x : Int64} {k : Nat} (hk : k < 64) : nv (zlshl x (k : Int)) = nv x * 2 ^ k % 2 ^ 64 := by
  unfold nv zlshl
  rw [Int64.toBitVec_shiftLeft, ysh_all k hk, BitVec.shiftLeft_eq', BitVec.toNat_shiftLeft, BitVec.toNat_ofNat, Nat.mod_eq_of_lt (show k < 2 ^ 64 by omega), Nat.shiftLeft_eq]
theorem yush_all : ∀ k : Nat, k < 64 → ((Int32.ofInt (k : Int)).toInt64.toUInt64 &&& Int64.toUInt64 63) % 64 = UInt64.ofNat k := by decide +kernel
theorem nv_ushr {x : Int64} {k : Nat} (hk : k < 64) : nv (zlushr x (k : Int)) = nv x / 2 ^ k := by
  unfold nv zlushr
  rw [UInt64.toBitVec_toInt64, UInt64.toBitVec_shiftRight]
  have h : ((Int32.ofInt (k : Int)).toInt64.toUInt64 &&& Int64.toUInt64 63).toBitVec % 64 = BitVec.ofNat 64 k := by
    have := congrArg UInt64.toBitVec (yush_all k hk)
    rw [UInt64.toBitVec_mod] at this
    exact this
  rw [h, BitVec.ushiftRight_eq', BitVec.toNat_ushiftRight, BitVec.toNat_ofNat, Nat.mod_eq_of_lt (show k < 2 ^ 64 by omega), Nat.shiftRight_eq_div_pow]
  rfl
theorem nv_i2l {n : Nat} (h : n < 2 ^ 63) : nv (zi2l (n : Int)) = n := by
  unfold nv zi2l
  rw [Int64.toBitVec_ofInt, BitVec.toNat_ofInt]
  omega
theorem nv_of {n : Nat} (h : n < 2 ^ 63) {x : Int64} (hx : nv x = n) : x.toInt = (n : Int) := by
  have h1 : x.toInt = x.toBitVec.toInt := rfl
  rw [h1, BitVec.toInt_eq_toNat_cond]
  unfold nv at hx
  rw [hx, if_pos (by omega)]
theorem zl2i_nv {n : Nat} (h : n < 2 ^ 31) {x : Int64} (hx : nv x = n) : zl2i x = (n : Int) := by
  unfold zl2i
  rw [Int64.toInt_toInt32, nv_of (by omega) hx, zw_bmod, zw_id (by omega) (by omega)]
/-- the number that bytes make, the first one lowest -/
def pkn (g : Nat → Int) : Nat → Nat
  | 0 => 0
  | n + 1 => pkn g n + (g n).toNat * 256 ^ n
theorem pkn_lt {g : Nat → Int} : ∀ (n : Nat), (∀ i, i < n → 0 ≤ g i ∧ g i < 256) → pkn g n < 256 ^ n := by
  intro n
  induction n with
  | zero => intro _; exact Nat.one_pos
  | succ n ih =>
    intro h
    have h1 := ih (fun i hi => h i (by omega))
    have h2 := h n (by omega)
    rw [pkn, Nat.pow_succ]
    have h3 : (g n).toNat ≤ 255 := by omega
    have h4 : (g n).toNat * 256 ^ n ≤ 255 * 256 ^ n := Nat.mul_le_mul_right _ h3
    omega
theorem pow256 (n : Nat) : 256 ^ n = 2 ^ (8 * n) := by rw [Nat.pow_mul]
theorem nv_pkf {g : Nat → Int} : ∀ (n : Nat), n ≤ 7 → (∀ i, i < n → 0 ≤ g i ∧ g i < 256) → nv (pkf g n) = pkn g n := by
  intro n
  induction n with
  | zero => intro _ _; rfl
  | succ n ih =>
    intro hn h
    have h1 := ih (by omega) (fun i hi => h i (by omega))
    have h2 := h n (by omega)
    have h3 := pkn_lt n (fun i hi => h i (by omega))
    obtain ⟨b, hb⟩ : ∃ b : Nat, g n = (b : Int) := ⟨(g n).toNat, by omega⟩
    rw [pkf, nv_or, h1, nv_shl (by omega), hb, nv_i2l (by omega), pkn, hb, Int.toNat_natCast]
    have h4 : b < 256 := by omega
    have h5 : b * 2 ^ (8 * n) < 2 ^ 64 := by
      have : b * 2 ^ (8 * n) < 2 ^ 8 * 2 ^ (8 * n) := Nat.mul_lt_mul_of_pos_right h4 (Nat.two_pow_pos _)
      rw [← Nat.pow_add] at this
      exact Nat.lt_of_lt_of_le this (Nat.pow_le_pow_right (by omega) (by omega))
    rw [Nat.mod_eq_of_lt h5, Nat.or_comm, Nat.mul_comm b, pow256] at *
    rw [← Nat.two_pow_add_eq_or_of_lt h3, Nat.mul_comm b, Nat.add_comm]
theorem pkn_digit {g : Nat → Int} : ∀ (n i : Nat), (∀ i, i < n → 0 ≤ g i ∧ g i < 256) → pkn g n / 256 ^ i % 256 = if i < n then (g i).toNat else 0 := by
  intro n
  induction n with
  | zero => intro i _; rw [if_neg (by omega), pkn, Nat.zero_div]
  | succ n ih =>
    intro i h
    have h1 := ih i (fun i hi => h i (by omega))
    have h3 := pkn_lt n (fun i hi => h i (by omega))
    have h2 := h n (by omega)
    rw [pkn]
    rcases Nat.lt_trichotomy i n with q | q | q
    · rw [if_pos (by omega)]
      rw [if_pos q] at h1
      rw [← h1]
      obtain ⟨m, rfl⟩ : ∃ m, n = i + 1 + m := ⟨n - (i + 1), by omega⟩
      have e : (g (i + 1 + m)).toNat * 256 ^ (i + 1 + m) = 256 ^ i * (256 * ((g (i + 1 + m)).toNat * 256 ^ m)) := by
        rw [Nat.pow_add, Nat.pow_succ]
        rw [Nat.mul_left_comm (256 ^ i) 256, Nat.mul_left_comm (256 ^ i), Nat.mul_comm (256 ^ i) 256, Nat.mul_left_comm 256, Nat.mul_assoc 256]
      rw [e, Nat.add_mul_div_left _ _ (Nat.pow_pos (by omega)), Nat.add_mul_mod_self_left]
    · subst q
      rw [if_pos (by omega), Nat.add_mul_div_right _ _ (Nat.pow_pos (by omega)), Nat.div_eq_of_lt h3, Nat.zero_add, Nat.mod_eq_of_lt (by omega)]
    · rw [if_neg (by omega)]
      have h4 : pkn g n + (g n).toNat * 256 ^ n < 256 ^ (n + 1) := by
        have := pkn_lt (g := g) (n + 1) h
        rw [pkn] at this
        exact this
      have h5 : 256 ^ (n + 1) ≤ 256 ^ i := Nat.pow_le_pow_right (by omega) (by omega)
      rw [Nat.div_eq_of_lt (by omega)]
theorem pkn_inj {g g' : Nat → Int} {n n' : Nat} (h : ∀ i, i < n → 1 ≤ g i ∧ g i < 256) (h' : ∀ i, i < n' → 1 ≤ g' i ∧ g' i < 256) (e : pkn g n = pkn g' n') : n = n' ∧ ∀ i, i < n → g i = g' i := by
  have d := fun i => pkn_digit n i (fun i hi => ⟨by have := h i hi; omega, (h i hi).2⟩)
  have d' := fun i => pkn_digit n' i (fun i hi => ⟨by have := h' i hi; omega, (h' i hi).2⟩)
  have hnn : n = n' := by
    rcases Nat.lt_trichotomy n n' with q | q | q
    · have h1 := d n
      have h2 := d' n
      rw [if_neg (by omega)] at h1
      rw [if_pos q, ← e, h1] at h2
      have := h' n q
      omega
    · exact q
    · have h1 := d n'
      have h2 := d' n'
      rw [if_neg (by omega)] at h2
      rw [if_pos q, e, h2] at h1
      have := h n' q
      omega
  refine ⟨hnn, fun i hi => ?_⟩
  have h1 := d i
  have h2 := d' i
  rw [if_pos hi, e] at h1
  rw [if_pos (by omega), h1] at h2
  have := h i hi
  have := h' i (by omega)
  omega
theorem pkf_inj {g g' : Nat → Int} {n n' : Nat} (hn : n ≤ 7) (hn' : n' ≤ 7) (h : ∀ i, i < n → 1 ≤ g i ∧ g i < 256) (h' : ∀ i, i < n' → 1 ≤ g' i ∧ g' i < 256) : pkf g n = pkf g' n' ↔ n = n' ∧ ∀ i, i < n → g i = g' i := by
  constructor
  · intro e
    have e1 := congrArg nv e
    rw [nv_pkf n hn (fun i hi => ⟨by have := h i hi; omega, (h i hi).2⟩), nv_pkf n' hn' (fun i hi => ⟨by have := h' i hi; omega, (h' i hi).2⟩)] at e1
    exact pkn_inj h h' e1
  · rintro ⟨rfl, e⟩
    exact pkf_congr n e
theorem lgood_nv {v : Int64} (h : lgood v) : nv v < 2 ^ 48 ∧ 0 < nv v := by
  obtain ⟨g, n, h1, h2, h3, rfl⟩ := h
  have hb : ∀ i, i < n → 0 ≤ g i ∧ g i < 256 := fun i hi => ⟨by have := h3 i hi; omega, by have := h3 i hi; omega⟩
  rw [nv_pkf n (by omega) hb]
  have h4 := pkn_lt n hb
  have h5 : 256 ^ n ≤ 256 ^ 6 := Nat.pow_le_pow_right (by omega) h2
  have h6 := pkn_digit n 0 hb
  rw [if_pos (by omega), Nat.pow_zero, Nat.div_one] at h6
  have h7 := h3 0 (by omega)
  refine ⟨Nat.lt_of_lt_of_le h4 h5, ?_⟩
  omega
theorem zlc0 {v : Int64} (h : lgood v) : ¬ zlc v 0 = 0 := by
  have h1 := (lgood_nv h).2
  unfold zlc
  split
  · omega
  · split
    · rename_i h3
      rw [h3, nv_zero] at h1
      omega
    · omega
