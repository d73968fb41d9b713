/-! numbers in their order -/
theorem cnt_len {P F : Nat → Prop} {e : Nat → Nat} {m : Nat} (hmono : ∀ i j, i < j → j < m → e i < e j) (hP : ∀ c, P c ↔ ∃ k, k < m ∧ c = e k ∧ F k) : ∀ k, k ≤ m → ∀ B, (∀ j, j < k → e j < B) → (∀ j, k ≤ j → j < m → B ≤ e j) → (lst P B).length = (lst F k).length := by
  intro k
  induction k with
  | zero =>
    intro _ B _ h2
    have h0 : lst P B = lst P 0 := lst_skip B (Nat.zero_le _) (fun c _ hc hp => by
      obtain ⟨j, j1, j2, -⟩ := (hP c).mp hp
      have := h2 j (Nat.zero_le _) j1
      omega)
    rw [h0]; rfl
  | succ k ih =>
    intro hk B h1 h2
    have hkm : k < m := by omega
    have hIH := ih (by omega) (e k) (fun j hj => hmono j k hj hkm) (fun j hj hjm => by
      by_cases q : j = k
      · rw [q]; exact Nat.le_refl _
      · exact Nat.le_of_lt (hmono k j (by omega) hjm))
    have h0 : lst P B = lst P (e k + 1) := lst_skip B (h1 k (by omega)) (fun c c1 c2 hp => by
      obtain ⟨j, j1, j2, -⟩ := (hP c).mp hp
      rcases Nat.lt_trichotomy j k with q | q | q
      · have := hmono j k q hkm; omega
      · rw [q] at j2; omega
      · have := h2 j (by omega) j1; omega)
    have hPe : P (e k) ↔ F k := by
      rw [hP]
      constructor
      · rintro ⟨j, j1, j2, j3⟩
        rcases Nat.lt_trichotomy j k with q | q | q
        · have := hmono j k q hkm; omega
        · rw [q] at j3; exact j3
        · have := hmono k j q j1; omega
      · intro h; exact ⟨k, hkm, rfl, h⟩
    rw [h0]
    by_cases q : F k
    · rw [lst_y (hPe.mpr q), lst_y q, List.length_append, List.length_append, hIH]; rfl
    · rw [lst_n (fun w => q (hPe.mp w)), lst_n q, hIH]
theorem cnt_all {P F : Nat → Prop} {e : Nat → Nat} {m M : Nat} (hmono : ∀ i j, i < j → j < m → e i < e j) (hP : ∀ c, P c ↔ ∃ k, k < m ∧ c = e k ∧ F k) (hM : ∀ j, j < m → e j < M) : (lst P M).length = (lst F m).length ∧ ∀ k, k < m → F k → (lst F k).length < (lst P M).length ∧ (lst P M).getD (lst F k).length 0 = e k := by
  refine ⟨cnt_len hmono hP m (Nat.le_refl _) M hM (fun j j1 j2 => by omega), fun k hk hF => ?_⟩
  have h1 := cnt_len hmono hP k (by omega) (e k) (fun j hj => hmono j k hj hk) (fun j hj hjm => by
    by_cases q : j = k
    · rw [q]; exact Nat.le_refl _
    · exact Nat.le_of_lt (hmono k j (by omega) hjm))
  have h2 := lst_lt ((hP (e k)).mpr ⟨k, hk, rfl, hF⟩) M (hM k hk)
  rw [← h1]
  exact h2
theorem mono_dig {f : Nat → Nat} (hf : ∀ i j, i < j → f i < f j) {n : Nat} (hn : 0 < n) : ∀ i j, i < j → f (i / n) * (n + 1) + (i % n + 1) < f (j / n) * (n + 1) + (j % n + 1) := by
  intro i j h
  have m1 := Nat.mod_lt i hn
  have m2 := Nat.mod_lt j hn
  have hd : i / n ≤ j / n := Nat.div_le_div_right (Nat.le_of_lt h)
  rcases Nat.lt_or_ge (i / n) (j / n) with q | q
  · have h1 := hf _ _ q
    have h2 : (f (i / n) + 1) * (n + 1) ≤ f (j / n) * (n + 1) := Nat.mul_le_mul_right _ h1
    rw [Nat.add_mul, Nat.one_mul] at h2
    omega
  · have e : i / n = j / n := by omega
    have h3 := Nat.div_add_mod i n
    have h4 := Nat.div_add_mod j n
    rw [e] at h3 ⊢
    omega
/-- the number of the k-th pair, of the k-th triple -/
def enc2 (n k : Nat) : Nat := (k / n + 1) * (n + 1) + (k % n + 1)
def enc3 (n k : Nat) : Nat := ((k / n / n + 1) * (n + 1) + (k / n % n + 1)) * (n + 1) + (k % n + 1)
theorem enc2_mono {n : Nat} (hn : 0 < n) : ∀ i j, i < j → enc2 n i < enc2 n j := mono_dig (f := fun i => i + 1) (fun i j h => by omega) hn
theorem enc3_mono {n : Nat} (hn : 0 < n) : ∀ i j, i < j → enc3 n i < enc3 n j := mono_dig (f := enc2 n) (enc2_mono hn) hn
theorem div_dig {n a b : Nat} (hb : b < n) : (a * n + b) / n = a ∧ (a * n + b) % n = b := by
  have hn : 0 < n := by omega
  constructor
  · rw [Nat.mul_comm, Nat.mul_add_div hn, Nat.div_eq_of_lt hb, Nat.add_zero]
  · rw [Nat.mul_comm, Nat.mul_add_mod, Nat.mod_eq_of_lt hb]
theorem dig_lt {n a b m : Nat} (ha : a < m) (hb : b < n) : a * n + b < m * n := by
  have : (a + 1) * n ≤ m * n := Nat.mul_le_mul_right _ ha
  rw [Nat.add_mul, Nat.one_mul] at this
  omega
theorem div_lt {n k m : Nat} (h : k < m * n) : k / n < m := by
  rcases Nat.eq_zero_or_pos n with q | q
  · subst q; rw [Nat.mul_zero] at h; omega
  · exact (Nat.div_lt_iff_lt_mul q).mpr h
theorem dgt_vec {n a b d : Nat} (ha : a < n) (hb : b < n) (hd : d < n) : dgt (n + 1) (vec a b d) 3 := by
  intro k hk
  have hk' : k = 0 ∨ k = 1 ∨ k = 2 := by omega
  rcases hk' with rfl | rfl | rfl
  · show -1 ≤ (a : Int) ∧ (a : Int) + 1 < _; omega
  · show -1 ≤ (b : Int) ∧ (b : Int) + 1 < _; omega
  · show -1 ≤ (d : Int) ∧ (d : Int) + 1 < _; omega
theorem pcn_vec {r a b d : Nat} : pcn r (vec a b d) 3 = ((a + 1) * r + (b + 1)) * r + (d + 1) := by
  show ((0 * r + ((a : Int) + 1).toNat) * r + ((b : Int) + 1).toNat) * r + ((d : Int) + 1).toNat = _
  rw [Nat.zero_mul, Nat.zero_add, show ((a : Int) + 1).toNat = a + 1 by omega, show ((b : Int) + 1).toNat = b + 1 by omega, show ((d : Int) + 1).toNat = d + 1 by omega]
theorem wdc_enc3 {n k : Nat} (hk : k < n * n * n) : enc3 n k < (n + 1) ^ 3 ∧ wdc (n + 1) 3 (enc3 n k) = vec (k / n / n) (k / n % n) (k % n) := by
  have hn : 0 < n := by
    rcases Nat.eq_zero_or_pos n with q | q
    · subst q; simp at hk
    · exact q
  have h1 := div_lt hk
  have h2 := div_lt h1
  have hd := dgt_vec h2 (Nat.mod_lt (k / n) hn) (Nat.mod_lt k hn)
  have e : enc3 n k = pcn (n + 1) (vec (k / n / n) (k / n % n) (k % n)) 3 := pcn_vec.symm
  rw [e]
  exact ⟨pcn_lt _ hd, wdc_pcn hd (fun k hk => by unfold vec; rw [if_neg (by omega), if_neg (by omega), if_neg (by omega)])⟩
theorem dgt_vec2 {n a b : Nat} (ha : a < n) (hb : b < n) : dgt (n + 1) (vec2 a b) 2 := by
  intro k hk
  have hk' : k = 0 ∨ k = 1 := by omega
  rcases hk' with rfl | rfl
  · show -1 ≤ (a : Int) ∧ (a : Int) + 1 < _; omega
  · show -1 ≤ (b : Int) ∧ (b : Int) + 1 < _; omega
theorem pcn_vec2 {r a b : Nat} : pcn r (vec2 a b) 2 = (a + 1) * r + (b + 1) := by
  show (0 * r + ((a : Int) + 1).toNat) * r + ((b : Int) + 1).toNat = _
  rw [Nat.zero_mul, Nat.zero_add, show ((a : Int) + 1).toNat = a + 1 by omega, show ((b : Int) + 1).toNat = b + 1 by omega]
theorem wdc_enc2 {n k : Nat} (hk : k < n * n) : enc2 n k < (n + 1) ^ 2 ∧ wdc (n + 1) 2 (enc2 n k) = vec2 (k / n) (k % n) := by
  have hn : 0 < n := by
    rcases Nat.eq_zero_or_pos n with q | q
    · subst q; simp at hk
    · exact q
  have h1 := div_lt hk
  have hd := dgt_vec2 h1 (Nat.mod_lt k hn)
  have e : enc2 n k = pcn (n + 1) (vec2 (k / n) (k % n)) 2 := pcn_vec2.symm
  rw [e]
  exact ⟨pcn_lt _ hd, wdc_pcn hd (fun k hk => by unfold vec2; rw [if_neg (by omega), if_neg (by omega)])⟩
/-- whether the k-th triple is a match -/
def F3 (T : TRE) (lb : Nat → Int) (w x k : Nat) : Prop := (fitP lb w (k / T.1 / T.1) ∧ fitP lb (w / 52) (k / T.1 % T.1) ∧ fitP lb (x / 26) (k % T.1)) ∧ relP T (opm (w / 4 % 13)) 0 (k / T.1 / T.1) (k / T.1 % T.1) ∧ relP T (opm (x / 2 % 13)) 0 (if x % 2 = 0 then k / T.1 % T.1 else k / T.1 / T.1) (k % T.1)
theorem MT_F3 {T : TRE} {lb : Nat → Int} {w x q q2 : Nat} {pd : Nat → Nat} (hg : pgd (st3 w x q q2) pd) (hl : labT T lb) : ∀ c, MT T (st3 w x q q2) c ↔ ∃ k, k < T.1 * T.1 * T.1 ∧ c = enc3 T.1 k ∧ F3 T lb w x k := by
  intro c
  rw [MT_3 hg hl]
  constructor
  · rintro ⟨a, b, d, ha, hb, hd, hc, h1, h2, h3, h4, h5⟩
    have hab := div_dig (a := a) hb
    have habd := div_dig (a := a * T.1 + b) hd
    refine ⟨(a * T.1 + b) * T.1 + d, dig_lt (dig_lt ha hb) hd, ?_, ?_⟩
    · unfold enc3
      rw [habd.1, habd.2, hab.1, hab.2]; exact hc
    · unfold F3
      rw [habd.1, habd.2, hab.1, hab.2]
      exact ⟨⟨h1, h2, h3⟩, h4, h5⟩
  · rintro ⟨k, hk, hc, ⟨h1, h2, h3⟩, h4, h5⟩
    have hn : 0 < T.1 := by
      rcases Nat.eq_zero_or_pos T.1 with q | q
      · rw [q] at hk; simp at hk
      · exact q
    have hh := div_lt hk
    exact ⟨k / T.1 / T.1, k / T.1 % T.1, k % T.1, div_lt hh, Nat.mod_lt _ hn, Nat.mod_lt _ hn, hc, h1, h2, h3, h4, h5⟩
/-- whether the k-th pair is one -/
def F2 (T : TRE) (lb : Nat → Int) (w k : Nat) : Prop := fitP lb w (k / T.1) ∧ fitP lb (w / 52) (k % T.1) ∧ relP T (opm (w / 4 % 13)) 0 (k / T.1) (k % T.1)
theorem MT_F2 {T : TRE} {lb : Nat → Int} {w q : Nat} {pd : Nat → Nat} (hg : pgd (st2 w q) pd) (hl : labT T lb) : ∀ c, MT T (st2 w q) c ↔ ∃ k, k < T.1 * T.1 ∧ c = enc2 T.1 k ∧ F2 T lb w k := by
  intro c
  rw [MT_2 hg hl]
  constructor
  · rintro ⟨a, b, ha, hb, hc, h1, h2, h4⟩
    have hab := div_dig (a := a) hb
    refine ⟨a * T.1 + b, dig_lt ha hb, ?_, ?_⟩
    · unfold enc2
      rw [hab.1, hab.2]; exact hc
    · unfold F2
      rw [hab.1, hab.2]
      exact ⟨h1, h2, h4⟩
  · rintro ⟨k, hk, hc, h1, h2, h4⟩
    have hn : 0 < T.1 := by
      rcases Nat.eq_zero_or_pos T.1 with q | q
      · rw [q] at hk; simp at hk
      · exact q
    exact ⟨k / T.1, k % T.1, div_lt hk, Nat.mod_lt _ hn, hc, h1, h2, h4⟩
