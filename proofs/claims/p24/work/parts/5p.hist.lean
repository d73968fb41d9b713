/-! trees kept: the class -/
theorem nv_48 {v : Int64} {x : Nat} (hv : nv v < 2 ^ 48) (hx : x < 100) : nv (v ||| zlshl (zi2l (x : Int)) 48) = nv v + x * 2 ^ 48 := by
  have h1 : nv (zlshl (zi2l (x : Int)) 48) = x * 2 ^ 48 := by
    have := nv_shl (x := zi2l (x : Int)) (k := 48) (by omega)
    rw [nv_i2l (by omega)] at this
    rw [show ((48 : Nat) : Int) = 48 from rfl] at this
    rw [this, Nat.mod_eq_of_lt (by omega)]
  rw [nv_or, h1, Nat.or_comm, Nat.mul_comm x, ← Nat.two_pow_add_eq_or_of_lt hv, Nat.add_comm]
theorem pk48_lab {v : Int64} {x : Nat} (hv : nv v < 2 ^ 48) (hx : x < 100) : (v ||| zlshl (zi2l (x : Int)) 48) &&& 281474976710655 = v := by
  refine nv_inj ?_
  have h2 : nv (281474976710655 : Int64) = 2 ^ 48 - 1 := by decide +kernel
  rw [nv_and, nv_48 hv hx, h2, Nat.and_two_pow_sub_one_eq_mod]
  omega
theorem pk48_c {v : Int64} {x : Nat} (hv : nv v < 2 ^ 48) (hx : x < 100) : zl2i (zlushr (v ||| zlshl (zi2l (x : Int)) 48) 48) = (x : Int) := by
  refine zl2i_nv (by omega) ?_
  have := nv_ushr (x := v ||| zlshl (zi2l (x : Int)) 48) (k := 48) (by omega)
  rw [show ((48 : Nat) : Int) = 48 from rfl] at this
  rw [this, nv_48 hv hx]
  omega
theorem nv_sshr {y : Int64} {k : Nat} (hk : k < 64) (h : nv y < 2 ^ 63) : nv (zlshr y (k : Int)) = nv y / 2 ^ k := by
  unfold nv at h ⊢
  unfold zlshr
  rw [Int64.toBitVec_shiftRight, ysh_all k hk, BitVec.sshiftRight_eq', BitVec.toNat_ofNat, Nat.mod_eq_of_lt (show k < 2 ^ 64 by omega)]
  rw [BitVec.sshiftRight_eq_of_msb_false (by rw [BitVec.msb_eq_false_iff_two_mul_lt]; omega), BitVec.toNat_ushiftRight, Nat.shiftRight_eq_div_pow]
theorem pk48_m {v : Int64} {x : Nat} (hv : nv v < 2 ^ 48) (hx : x < 100) : zl2i (zlshr (v ||| zlshl (zi2l (x : Int)) 48) 48) = (x : Int) := by
  refine zl2i_nv (by omega) ?_
  have := nv_sshr (y := v ||| zlshl (zi2l (x : Int)) 48) (k := 48) (by omega) (by rw [nv_48 hv hx]; omega)
  rw [show ((48 : Nat) : Int) = 48 from rfl] at this
  rw [this, nv_48 hv hx]
  omega
theorem lgs_nv {v : Int64} (h : lgs v) : nv v < 2 ^ 48 := (lgood_nv (lgs_good h)).1
/-- the cell of node i of a tree that is kept -/
def pkc (T : TRE) (i : Nat) : Int64 := T.2.1 i ||| zlshl (zi2l ((T.2.2 i : Nat) : Int)) 48
/-- the chain of the trees kept, from entry e on, all of them below u -/
def hch : List TRE → Int → Nat → zW → Prop
  | [], e, _, _ => e = -1
  | T :: l, e, u, σ => ∃ k : Nat, e = (k : Int) ∧ k < u ∧ gI σ 63 k = (T.1 : Int) ∧ (tgd T ∧ 1 ≤ T.1) ∧ (∀ i, i < T.1 → gL σ 62 (20 * k + i) = pkc T i) ∧ hch l (gI σ 64 k) k σ
theorem hch_fr : ∀ (l : List TRE) (e : Int) (u : Nat) (σ σ' : zW), hch l e u σ → (∀ k, k < u → gI σ' 63 k = gI σ 63 k ∧ gI σ' 64 k = gI σ 64 k ∧ ∀ i, i < 20 → gL σ' 62 (20 * k + i) = gL σ 62 (20 * k + i)) → hch l e u σ' := by
  intro l
  induction l with
  | nil => intro e u σ σ' h _; exact h
  | cons T l ih =>
    intro e u σ σ' h hF
    obtain ⟨k, h1, h2, h3, h4, h5, h6⟩ := h
    have hn := h4.1.1.1
    refine ⟨k, h1, h2, (hF k h2).1.trans h3, h4, fun i hi => ((hF k h2).2.2 i (by omega)).trans (h5 i hi), ?_⟩
    rw [(hF k h2).2.1]
    exact ih _ k σ σ' h6 (fun k' hk' => hF k' (by omega))
theorem hch_mono : ∀ (l : List TRE) (e : Int) (u u' : Nat) (σ : zW), hch l e u σ → u ≤ u' → hch l e u' σ := by
  intro l
  cases l with
  | nil => intro e u u' σ h _; exact h
  | cons T l =>
    intro e u u' σ h hu
    obtain ⟨k, h1, h2, h3⟩ := h
    exact ⟨k, h1, by omega, h3⟩
