/-! matches as numbers -/
/-- the number of the first k values -/
def pcn (r : Nat) (w : Nat → Int) : Nat → Nat
  | 0 => 0
  | k + 1 => pcn r w k * r + (w k + 1).toNat
/-- the values of a number -/
def wdc (r N c : Nat) : Nat → Int := fun k => if k < N then ((c / r ^ (N - 1 - k) % r : Nat) : Int) - 1 else 0
def dgt (r : Nat) (w : Nat → Int) (m : Nat) : Prop := ∀ k, k < m → -1 ≤ w k ∧ w k + 1 < (r : Int)
theorem pcn_lt {r : Nat} {w : Nat → Int} : ∀ m, dgt r w m → pcn r w m < r ^ m := by
  intro m
  induction m with
  | zero => intro _; exact Nat.one_pos
  | succ m ih =>
    intro h
    have h1 := ih (fun k hk => h k (by omega))
    have h2 := h m (by omega)
    rw [pcn, Nat.pow_succ]
    have h3 : (w m + 1).toNat + 1 ≤ r := by omega
    have h4 : (pcn r w m + 1) * r ≤ r ^ m * r := Nat.mul_le_mul_right r h1
    rw [Nat.add_mul, Nat.one_mul] at h4
    omega
theorem pcn_congr {r : Nat} {w w' : Nat → Int} : ∀ m, (∀ k, k < m → w k = w' k) → pcn r w m = pcn r w' m := by
  intro m
  induction m with
  | zero => intro _; rfl
  | succ m ih => intro h; rw [pcn, pcn, ih (fun k hk => h k (by omega)), h m (by omega)]
/-- the first values of a number -/
theorem pcn_pre {r : Nat} {w : Nat → Int} : ∀ (d k : Nat), dgt r w (k + d) → pcn r w (k + d) / r ^ d = pcn r w k := by
  intro d
  induction d with
  | zero => intro k _; rw [Nat.pow_zero, Nat.div_one]; rfl
  | succ d ih =>
    intro k h
    have h2 := h (k + d) (by omega)
    have h3 : (w (k + d) + 1).toNat < r := by omega
    show (pcn r w (k + d) * r + (w (k + d) + 1).toNat) / r ^ (d + 1) = _
    rw [Nat.pow_succ, Nat.mul_comm (r ^ d), ← Nat.div_div_eq_div_mul, Nat.mul_comm (pcn r w (k + d)), Nat.mul_add_div (by omega), Nat.div_eq_of_lt h3, Nat.add_zero]
    exact ih k (fun j hj => h j (by omega))
theorem wdc_pcn {r N : Nat} {w : Nat → Int} (h : dgt r w N) (hz : ∀ k, N ≤ k → w k = 0) : wdc r N (pcn r w N) = w := by
  funext k
  unfold wdc
  by_cases c : k < N
  · rw [if_pos c]
    have h1 := pcn_pre (r := r) (w := w) (N - 1 - k) (k + 1) (by rw [show k + 1 + (N - 1 - k) = N by omega]; exact h)
    rw [show k + 1 + (N - 1 - k) = N by omega] at h1
    have h2 := h k c
    have h3 : (w k + 1).toNat < r := by omega
    rw [h1, pcn, Nat.mul_comm, Nat.mul_add_mod, Nat.mod_eq_of_lt h3]
    omega
  · rw [if_neg c, hz k (by omega)]
theorem wdc_dgt {r N c : Nat} (hr : 0 < r) : dgt r (wdc r N c) N := fun k hk => by
  unfold wdc
  rw [if_pos hk]
  have := Nat.mod_lt (c / r ^ (N - 1 - k)) hr
  omega
theorem pcn_wdc {r N c : Nat} (hr : 0 < r) : ∀ k, k ≤ N → c < r ^ N → pcn r (wdc r N c) k = c / r ^ (N - k) := by
  intro k
  induction k with
  | zero => intro _ hc; rw [pcn, Nat.sub_zero, Nat.div_eq_of_lt hc]
  | succ k ih =>
    intro hk hc
    rw [pcn, ih (by omega) hc]
    have e : (wdc r N c k + 1).toNat = c / r ^ (N - 1 - k) % r := by
      unfold wdc
      rw [if_pos (by omega)]
      omega
    rw [e, show N - k = (N - 1 - k) + 1 by omega, show N - (k + 1) = N - 1 - k by omega, Nat.pow_succ, ← Nat.div_div_eq_div_mul]
    have := Nat.div_add_mod (c / r ^ (N - 1 - k)) r
    rw [Nat.mul_comm] at this
    exact this
theorem wdc_z {r N c : Nat} : ∀ k, N ≤ k → wdc r N c k = 0 := fun k hk => if_neg (by omega)
/-- a number between has these first values -/
theorem wdc_block {r N k c : Nat} {w : Nat → Int} (hr : 0 < r) (hk : k ≤ N) (hd : dgt r w k) (hc : c < r ^ N) (h1 : pcn r w k * r ^ (N - k) ≤ c) (h2 : c < (pcn r w k + 1) * r ^ (N - k)) : ∀ j, j < k → wdc r N c j = w j := by
  have hq : c / r ^ (N - k) = pcn r w k := by
    have hp : 0 < r ^ (N - k) := Nat.pow_pos hr
    apply Nat.le_antisymm
    · have := (Nat.div_lt_iff_lt_mul hp).mpr h2; omega
    · exact (Nat.le_div_iff_mul_le hp).mpr h1
  have h3 := pcn_wdc (r := r) (N := N) (c := c) hr k hk hc
  rw [hq] at h3
  -- values of equal numbers are equal
  have inj : ∀ m, m ≤ k → dgt r w m → pcn r (wdc r N c) m = pcn r w m → ∀ j, j < m → wdc r N c j = w j := by
    intro m
    induction m with
    | zero => intro _ _ _ j hj; omega
    | succ m ih =>
      intro hm hd' he j hj
      rw [pcn, pcn] at he
      have a1 := wdc_dgt (r := r) (N := N) (c := c) hr m (by omega)
      have a2 := hd' m (by omega)
      have b1 : (wdc r N c m + 1).toNat < r := by omega
      have b2 : (w m + 1).toNat < r := by omega
      have e1 := congrArg (fun x => x / r) he
      have e2 := congrArg (fun x => x % r) he
      rw [Nat.mul_comm, Nat.mul_add_div hr, Nat.div_eq_of_lt b1, Nat.mul_comm (pcn r w m), Nat.mul_add_div hr, Nat.div_eq_of_lt b2] at e1
      rw [Nat.mul_comm, Nat.mul_add_mod, Nat.mod_eq_of_lt b1, Nat.mul_comm (pcn r w m), Nat.mul_add_mod, Nat.mod_eq_of_lt b2] at e2
      by_cases ej : j = m
      · rw [ej]; omega
      · exact ih (by omega) (fun i hi => hd' i (by omega)) (by omega) j (by omega)
  exact inj k (Nat.le_refl _) hd h3
/-- the numbers below m for which P holds, rising -/
noncomputable def lst (P : Nat → Prop) : Nat → List Nat
  | 0 => []
  | m + 1 => @ite (List Nat) (P m) (Classical.propDecidable _) (lst P m ++ [m]) (lst P m)
theorem lst_y {P : Nat → Prop} {m : Nat} (h : P m) : lst P (m + 1) = lst P m ++ [m] := by rw [lst, if_pos h]
theorem lst_n {P : Nat → Prop} {m : Nat} (h : ¬ P m) : lst P (m + 1) = lst P m := by rw [lst, if_neg h]
theorem lst_skip {P : Nat → Prop} {m : Nat} : ∀ m', m ≤ m' → (∀ c, m ≤ c → c < m' → ¬ P c) → lst P m' = lst P m := by
  intro m'
  induction m' with
  | zero => intro h _; rw [show m = 0 by omega]
  | succ m' ih =>
    intro h hn
    by_cases e : m = m' + 1
    · rw [e]
    · rw [lst_n (hn m' (by omega) (by omega))]
      exact ih (by omega) (fun c c1 c2 => hn c c1 (by omega))
theorem lst_len {P : Nat → Prop} : ∀ m, (lst P m).length ≤ m := by
  intro m
  induction m with
  | zero => exact Nat.le_refl _
  | succ m ih =>
    rcases Classical.em (P m) with h | h
    · rw [lst_y h, List.length_append]; show _ + 1 ≤ _; omega
    · rw [lst_n h]; omega
theorem lst_mem {P : Nat → Prop} {c : Nat} : ∀ m, c ∈ lst P m ↔ c < m ∧ P c := by
  intro m
  induction m with
  | zero => exact ⟨fun h => absurd h List.not_mem_nil, fun h => absurd h.1 (Nat.not_lt_zero _)⟩
  | succ m ih =>
    rcases Classical.em (P m) with h | h
    · rw [lst_y h, List.mem_append, ih, List.mem_singleton]
      constructor
      · rintro (q | q)
        · exact ⟨by omega, q.2⟩
        · rw [q]; exact ⟨by omega, h⟩
      · intro q
        by_cases e : c = m
        · exact Or.inr e
        · exact Or.inl ⟨by omega, q.2⟩
    · rw [lst_n h, ih]
      exact ⟨fun q => ⟨by omega, q.2⟩, fun q => ⟨by
        by_cases e : c = m
        · rw [e] at q; exact absurd q.2 h
        · omega, q.2⟩⟩
/-- the values in 5 bits each -/
def enN (w : Nat → Int) : Nat → Nat
  | 0 => 0
  | k + 1 => enN w k + (w k + 1).toNat * 32 ^ k
theorem enN_lt {w : Nat → Int} : ∀ m, dgt 21 w m → enN w m < 32 ^ m := by
  intro m
  induction m with
  | zero => intro _; exact Nat.one_pos
  | succ m ih =>
    intro h
    have h1 := ih (fun k hk => h k (by omega))
    have h2 := h m (by omega)
    rw [enN, Nat.pow_succ]
    have h3 : (w m + 1).toNat + 1 ≤ 32 := by omega
    have h4 : ((w m + 1).toNat + 1) * 32 ^ m ≤ 32 * 32 ^ m := Nat.mul_le_mul_right _ h3
    rw [Nat.add_mul, Nat.one_mul, Nat.mul_comm 32] at h4
    omega
theorem zshl5 : ∀ d : Nat, d < 32 → ∀ k : Nat, k < 4 → zshl ((d : Nat) : Int) ((5 * k : Nat) : Int) = ((d * 32 ^ k : Nat) : Int) := by decide +kernel
theorem zor_en {x d k : Nat} (hx : x < 32 ^ k) (hd : d < 32) (hk : k < 4) : zor (x : Int) (((d * 32 ^ k : Nat)) : Int) = ((x + d * 32 ^ k : Nat) : Int) := by
  have h32 : (32 : Nat) ^ k = 2 ^ (5 * k) := by rw [Nat.pow_mul]
  have hk2 : (2 : Nat) ^ (5 * k) ≤ 2 ^ 15 := Nat.pow_le_pow_right (by omega) (by omega)
  have h1 : d * 32 ^ k < 2 ^ 31 := by
    have : d * 32 ^ k ≤ 31 * 2 ^ 15 := Nat.mul_le_mul (by omega) (by rw [h32]; exact hk2)
    omega
  rw [zor_nat (by rw [h32] at hx; omega) h1]
  rw [Nat.or_comm, Nat.mul_comm d, h32, ← Nat.two_pow_add_eq_or_of_lt (by rw [← h32]; exact hx), Nat.add_comm]
