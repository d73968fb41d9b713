/-! the model finds, counts and tells -/
theorem num_pos {st : PST} {pd : Nat → Nat} (hg : pgd st pd) (h1c : 1 ≤ st.1) : 1 ≤ st.2.2.1 ∧ np st 0 = 0 := by
  obtain ⟨-, -, -, -, -, -, a7, -, a9, -⟩ := hg.2.1 0 h1c
  obtain ⟨-, -, b3, b4⟩ := a9 rfl
  obtain ⟨k, k1, k2, k3⟩ := a7 ⟨b3, b4⟩
  refine ⟨by omega, ?_⟩
  by_cases e : k = 0
  · rw [e] at k3; unfold np; rw [k3]; rfl
  · have := np_lt hg (show 0 < k by omega) k2
    have h : np st k = 0 := by unfold np; rw [k3]; rfl
    omega
theorem enN_dg {w : Nat → Int} : ∀ m j, j < m → dgt 21 w m → enN w m / 32 ^ j % 32 = (w j + 1).toNat := by
  intro m
  induction m with
  | zero => intro j hj; omega
  | succ m ih =>
    intro j hj hd
    have hd' : dgt 21 w m := fun k hk => hd k (by omega)
    have h1 := enN_lt m hd'
    rw [enN]
    by_cases e : j = m
    · have h2 := hd m (by omega)
      rw [e, Nat.add_mul_div_right _ _ (Nat.pow_pos (by decide)), Nat.div_eq_of_lt h1, Nat.zero_add]
      exact Nat.mod_eq_of_lt (by clear h1; omega)
    · have e2 : (w m + 1).toNat * 32 ^ m = ((w m + 1).toNat * 32 ^ (m - 1 - j)) * 32 * 32 ^ j := by
        rw [Nat.mul_assoc, Nat.mul_assoc, ← Nat.pow_succ', ← Nat.pow_add]
        congr 2
        clear h1
        omega
      rw [e2, Nat.add_mul_div_right _ _ (Nat.pow_pos (by decide)), Nat.add_mul_mod_self_right]
      exact ih j (by clear h1 e2; omega) hd'
theorem zgv {w : Nat → Int} {m j : Nat} (hm : m ≤ 4) (hj : j < m) (hd : dgt 21 w m) : zand (zshr ((enN w m : Nat) : Int) ((5 * j : Nat) : Int)) 31 = w j + 1 := by
  have h1 := enN_lt m hd
  have h2 : (32 : Nat) ^ m ≤ 32 ^ 4 := Nat.pow_le_pow_right (by decide) hm
  have h3 : (32 : Nat) ^ 4 < 2 ^ 31 := by decide
  have h4 : enN w m < 2 ^ 31 := Nat.lt_of_lt_of_le h1 (Nat.le_of_lt (Nat.lt_of_le_of_lt h2 h3))
  have h5 : enN w m / 2 ^ (5 * j) < 2 ^ 31 := Nat.lt_of_le_of_lt (Nat.div_le_self _ _) h4
  have h6 := hd j hj
  rw [zshr_nat h4 (by clear h1 h2 h3 h4 h5; omega), show (31 : Int) = ((31 : Nat) : Int) from rfl, zand_nat h5 (by decide), show (31 : Nat) = 2 ^ 5 - 1 from rfl, Nat.and_two_pow_sub_one_eq_mod, Nat.pow_mul, show (2 : Nat) ^ 5 = 32 from rfl, enN_dg m j hj hd]
  clear h1 h2 h3 h4 h5
  omega
/-- the matches of a tree -/
noncomputable def mts (T : TRE) (st : PST) : List Nat := lst (MT T st) ((T.1 + 1) ^ st.2.2.1)
theorem mts_len {T : TRE} {st : PST} (hn : T.1 ≤ 20) (hN : st.2.2.1 ≤ 4) : (mts T st).length ≤ 194481 := Nat.le_trans (lst_len _) (pow_21 hn hN)
theorem mts_at {T : TRE} {st : PST} {i c : Nat} (h : (mts T st)[i]? = some c) : MT T st c := ((lst_mem _).mp (List.mem_of_getElem? h)).2
theorem lst_pre {P : Nat → Prop} {m : Nat} : ∀ m', m ≤ m' → ∀ i, i < (lst P m).length → (lst P m')[i]? = (lst P m)[i]? := by
  intro m'
  induction m' with
  | zero => intro h i _; rw [show m = 0 by omega]
  | succ m' ih =>
    intro h i hi
    by_cases e : m = m' + 1
    · rw [e]
    · have h2 := ih (by omega) i hi
      have hlen : i < (lst P m').length := by
        have : (lst P m')[i]? = some ((lst P m)[i]) := by rw [h2]; exact List.getElem?_eq_getElem hi
        exact (List.getElem?_eq_some_iff.mp this).1
      rcases Classical.em (P m') with q | q
      · rw [lst_y q, List.getElem?_append_left hlen]; exact h2
      · rw [lst_n q]; exact h2
abbrev Xmf (k j : Nat) : Prop := Xly k j ∨ fXf k j
