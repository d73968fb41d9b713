/-! the model finds: one level -/
def wst (w : Nat → Int) (k : Nat) (x : Int) : Nat → Int := fun j => if j = k then x else w j
theorem wst_e {w : Nat → Int} {k : Nat} {x : Int} : wst w k x k = x := if_pos rfl
theorem wst_n {w : Nat → Int} {k j : Nat} {x : Int} (h : j ≠ k) : wst w k x j = w j := if_neg h
theorem pcn_wst {r : Nat} {w : Nat → Int} {k u : Nat} : pcn r (wst w k ((u : Int) - 1)) (k + 1) = pcn r w k * r + u := by
  rw [pcn, wst_e, pcn_congr (w' := w) k (fun j hj => wst_n (by omega))]
  omega
theorem pre_le {T : TRE} {st : PST} {w : Nat → Int} {m m' : Nat} (h : pre T st w m) (hm : m' ≤ m) : pre T st w m' := fun k hk => h k (by omega)
theorem blk_no {T : TRE} {st : PST} {pd : Nat → Nat} {w : Nat → Int} {k : Nat} (hg : pgd st pd) (hw8 : pw st) (hu : pup st) (hk : k < st.2.2.1) (hd : dgt (T.1 + 1) w (k + 1)) (hn : ¬ pre T st w (k + 1)) : ∀ c, pcn (T.1 + 1) w (k + 1) * (T.1 + 1) ^ (st.2.2.1 - 1 - k) ≤ c → c < (pcn (T.1 + 1) w (k + 1) + 1) * (T.1 + 1) ^ (st.2.2.1 - 1 - k) → ¬ MT T st c := fun c h1 h2 hM => by
  have e : st.2.2.1 - (k + 1) = st.2.2.1 - 1 - k := by omega
  have h := wdc_block (r := T.1 + 1) (N := st.2.2.1) (k := k + 1) (c := c) (w := w) (Nat.succ_pos _) hk hd hM.1 (by rw [e]; exact h1) (by rw [e]; exact h2)
  exact hn (pre_c hg hw8 hu hk h (pre_le hM.2.1 hk))
theorem pre_ext {T : TRE} {st : PST} {pd : Nat → Nat} {w : Nat → Int} {k : Nat} {x : Int} (hg : pgd st pd) (hw8 : pw st) (hu : pup st) (hk : k < st.2.2.1) (hp : pre T st w k) (hx : -1 ≤ x ∧ x < (T.1 : Int)) (h9 : st.2.2.2.1 9 (np st k) = -1 → 0 ≤ x) (hc : canP T st (wst w k x) k) : pre T st (wst w k x) (k + 1) := fun j hj => by
  by_cases e : j = k
  · rw [e, wst_e]; exact ⟨hx, h9, hc⟩
  · exact pre_c hg hw8 hu (show k ≤ st.2.2.1 by omega) (fun i hi => (wst_n (by omega)).symm) hp j (by omega)
theorem blk_pow {P r e : Nat} : (P * r + 0) * r ^ e = P * r ^ (e + 1) := by rw [Nat.add_zero, Nat.pow_succ, Nat.mul_assoc, Nat.mul_comm r]
theorem blk_pow1 {P r e : Nat} : (P * r + r) * r ^ e = (P + 1) * r ^ (e + 1) := by rw [show P * r + r = (P + 1) * r by rw [Nat.add_mul, Nat.one_mul], Nat.pow_succ, Nat.mul_assoc, Nat.mul_comm r]
theorem pow_21 {n N : Nat} (hn : n ≤ 20) (hN : N ≤ 4) : (n + 1) ^ N ≤ 194481 := by
  have h1 : (n + 1) ^ N ≤ 21 ^ N := Nat.pow_le_pow_left (by omega) N
  have h2 : (21 : Nat) ^ N ≤ 21 ^ 4 := Nat.pow_le_pow_right (by omega) hN
  have h3 : (21 : Nat) ^ 4 = 194481 := by decide
  omega
abbrev fXf (k j : Nat) : Prop := (174 ≤ k ∧ k ≤ 177) ∨ (k = 122 ∧ j = 73)
