/-! how many bits: byte by byte -/
theorem land_cat {a m y n : Nat} (ha : a < 256) (hm : m < 256) : (a + 256 * y) &&& (m + 256 * n) = (a &&& m) + 256 * (y &&& n) := by
  have h1 : ((a + 256 * y) &&& (m + 256 * n)) % 2 ^ 8 = a &&& m := by
    rw [Nat.and_mod_two_pow, show (a + 256 * y) % 2 ^ 8 = a by omega, show (m + 256 * n) % 2 ^ 8 = m by omega]
  have h2 : ((a + 256 * y) &&& (m + 256 * n)) / 2 ^ 8 = y &&& n := by
    rw [Nat.and_div_two_pow, show (a + 256 * y) / 2 ^ 8 = y by omega, show (m + 256 * n) / 2 ^ 8 = n by omega]
  have h3 := Nat.mod_add_div ((a + 256 * y) &&& (m + 256 * n)) (2 ^ 8)
  rw [h1, h2] at h3
  exact h3.symm
def mk (m : Nat) : Nat → Nat
  | 0 => 0
  | n + 1 => m + 256 * mk m n
def X1 (n x : Nat) : Nat := x - ((x / 2) &&& mk 0x55 n)
def X2 (n x : Nat) : Nat := (x &&& mk 0x33 n) + ((x / 4) &&& mk 0x33 n)
def X3 (n x : Nat) : Nat := (x + x / 16) &&& mk 0x0F n
def p1 (a : Nat) : Nat := a - ((a / 2) &&& 0x55)
def p2 (a : Nat) : Nat := (a &&& 0x33) + ((a / 4) &&& 0x33)
def p3 (a : Nat) : Nat := (a + a / 16) &&& 0x0F
theorem p1_f : ∀ a : Nat, a < 256 → p1 a ≤ 0xAA ∧ ((a / 2) &&& 0x55) ≤ a := by decide +kernel
theorem p2_f : ∀ a : Nat, a < 256 → p2 a ≤ 0x66 := by decide +kernel
theorem p21_f : ∀ a : Nat, a < 256 → p2 (p1 a) ≤ 0x44 ∧ p2 (p1 a) % 16 ≤ 4 := by decide +kernel
theorem m5 : ∀ a : Nat, a < 256 → ∀ b : Nat, b < 2 → (a / 2 + 128 * b) &&& 0x55 = (a / 2) &&& 0x55 := by decide +kernel
theorem m3 : ∀ a : Nat, a < 256 → ∀ b : Nat, b < 4 → (a / 4 + 64 * b) &&& 0x33 = (a / 4) &&& 0x33 := by decide +kernel
theorem mf : ∀ a : Nat, a < 69 → ∀ b : Nat, b < 5 → (a + a / 16 + 16 * b) &&& 0x0F = (a + a / 16) &&& 0x0F := by decide +kernel
theorem X1_cat {a y n : Nat} (ha : a < 256) : X1 (n + 1) (a + 256 * y) = p1 a + 256 * X1 n y := by
  unfold X1 p1
  rw [mk, show (a + 256 * y) / 2 = (a / 2 + 128 * (y % 2)) + 256 * (y / 2) by omega, land_cat (by omega) (by decide), m5 a ha _ (Nat.mod_lt _ (by decide))]
  have h1 := (p1_f a ha).2
  have h2 : (y / 2) &&& mk 0x55 n ≤ y := Nat.le_trans Nat.and_le_left (Nat.div_le_self _ _)
  omega
theorem X2_cat {a y n : Nat} (ha : a < 256) : X2 (n + 1) (a + 256 * y) = p2 a + 256 * X2 n y := by
  unfold X2 p2
  rw [mk, land_cat ha (by decide), show (a + 256 * y) / 4 = (a / 4 + 64 * (y % 4)) + 256 * (y / 4) by omega, land_cat (by omega) (by decide), m3 a ha _ (Nat.mod_lt _ (by decide))]
  omega
theorem X3_cat {a y n : Nat} (ha : a ≤ 68) (hy : y % 16 ≤ 4) : X3 (n + 1) (a + 256 * y) = p3 a + 256 * X3 n y := by
  unfold X3 p3
  rw [mk, show a + 256 * y + (a + 256 * y) / 16 = (a + a / 16 + 16 * (y % 16)) + 256 * (y + y / 16) by omega, land_cat (by omega) (by decide), mf a (by omega) _ (by omega)]
theorem X_0 : X1 0 0 = 0 ∧ X2 0 0 = 0 ∧ X3 0 0 = 0 := by decide
/-- a byte's bits -/
def pop8 (a : Nat) : Nat := (a.testBit 0).toNat + (a.testBit 1).toNat + (a.testBit 2).toNat + (a.testBit 3).toNat + (a.testBit 4).toNat + (a.testBit 5).toNat + (a.testBit 6).toNat + (a.testBit 7).toNat
theorem pop8_f : ∀ a : Nat, a < 256 → p3 (p2 (p1 a)) = pop8 a := by decide +kernel
theorem pop8_le (a : Nat) : pop8 a ≤ 8 := by
  unfold pop8
  have h : ∀ b : Bool, b.toNat ≤ 1 := by decide
  have := h (a.testBit 0); have := h (a.testBit 1); have := h (a.testBit 2); have := h (a.testBit 3)
  have := h (a.testBit 4); have := h (a.testBit 5); have := h (a.testBit 6); have := h (a.testBit 7)
  omega
theorem X12_mod {n y : Nat} (h : y < 256 ^ n) : X2 n (X1 n y) % 16 ≤ 4 := by
  cases n with
  | zero => rw [Nat.pow_zero] at h; rw [show y = 0 by omega]; decide
  | succ n =>
    have e : y = y % 256 + 256 * (y / 256) := by omega
    have ha : y % 256 < 256 := Nat.mod_lt _ (by decide)
    have h1 := (p1_f _ ha).1
    have h2 := p21_f _ ha
    rw [e, X1_cat ha, X2_cat (by omega)]
    omega
/-- bytes of the counts -/
def popB : Nat → Nat → Nat
  | 0, _ => 0
  | n + 1, x => pop8 (x % 256) + 256 * popB n (x / 256)
theorem X_pop : ∀ n x : Nat, x < 256 ^ n → X3 n (X2 n (X1 n x)) = popB n x := by
  intro n
  induction n with
  | zero => intro x h; rw [Nat.pow_zero] at h; rw [show x = 0 by omega]; decide
  | succ n ih =>
    intro x h
    have hd : x / 256 < 256 ^ n := by rw [Nat.pow_succ] at h; exact (Nat.div_lt_iff_lt_mul (by decide)).mpr h
    have e : x = x % 256 + 256 * (x / 256) := by omega
    have ha : x % 256 < 256 := Nat.mod_lt _ (by decide)
    have h1 := (p1_f _ ha).1
    have h2 := (p21_f _ ha).1
    have h3 := X12_mod hd
    rw [popB, ← ih _ hd, ← pop8_f _ ha]
    generalize x % 256 = a at e ha h1 h2
    generalize x / 256 = y at e hd h3
    rw [e, X1_cat ha, X2_cat (by omega), X3_cat h2 h3]
/-- how many bits below n -/
def pop : Nat → Nat → Nat
  | 0, _ => 0
  | n + 1, x => pop8 (x % 256) + pop n (x / 256)
theorem pop_le : ∀ n x, pop n x ≤ 8 * n := by
  intro n
  induction n with
  | zero => intro x; exact Nat.le_refl _
  | succ n ih => intro x; have := ih (x / 256); have := pop8_le (x % 256); rw [pop]; omega
theorem cnt_add (P : Nat → Prop) (m : Nat) : ∀ n, (lst P (m + n)).length = (lst P m).length + (lst (fun i => P (m + i)) n).length := by
  intro n
  induction n with
  | zero => rfl
  | succ n ih =>
    rw [← Nat.add_assoc]
    rcases Classical.em (P (m + n)) with h | h
    · rw [lst_y h, lst_y (P := fun i => P (m + i)) h, List.length_append, List.length_append, ih]; exact Nat.add_assoc _ _ _
    · rw [lst_n h, lst_n (P := fun i => P (m + i)) h, ih]
theorem cnt_c {P Q : Nat → Prop} : ∀ n, (∀ i, i < n → (P i ↔ Q i)) → lst P n = lst Q n := by
  intro n
  induction n with
  | zero => intro _; rfl
  | succ n ih =>
    intro h
    have h1 := ih (fun i hi => h i (by omega))
    rcases Classical.em (P n) with q | q
    · rw [lst_y q, lst_y ((h n (by omega)).mp q), h1]
    · rw [lst_n q, lst_n (fun w => q ((h n (by omega)).mpr w)), h1]
theorem cnt_s (P : Nat → Bool) (n : Nat) : (lst (fun i => P i = true) (n + 1)).length = (lst (fun i => P i = true) n).length + (P n).toNat := by
  cases h : P n with
  | true => rw [lst_y h, List.length_append]; rfl
  | false => rw [lst_n (by rw [h]; decide)]; rfl
theorem pop8_cnt (a : Nat) : (lst (fun i => a.testBit i = true) 8).length = pop8 a := by
  rw [cnt_s, cnt_s, cnt_s, cnt_s, cnt_s, cnt_s, cnt_s, cnt_s]
  unfold pop8
  show (List.length [] : Nat) + _ + _ + _ + _ + _ + _ + _ + _ = _
  rw [List.length_nil, Nat.zero_add]
theorem pop_cnt : ∀ n x : Nat, pop n x = (lst (fun i => x.testBit i = true) (8 * n)).length := by
  intro n
  induction n with
  | zero => intro x; rfl
  | succ n ih =>
    intro x
    rw [show 8 * (n + 1) = 8 + 8 * n by omega, cnt_add, pop, ih, ← pop8_cnt]
    congr 1
    · refine congrArg List.length (cnt_c 8 (fun i hi => ?_))
      rw [show (256 : Nat) = 2 ^ 8 from rfl, Nat.testBit_mod_two_pow, decide_eq_true hi, Bool.true_and]
    · refine congrArg List.length (cnt_c _ (fun i hi => ?_))
      rw [show (256 : Nat) = 2 ^ 8 from rfl, Nat.testBit_div_two_pow, Nat.add_comm 8 i]
