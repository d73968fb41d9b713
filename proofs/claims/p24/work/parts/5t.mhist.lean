/-! trees kept: the model -/
def pkm (T : TRE) (i : Nat) : Int64 := T.2.1 i ||| zlshl (zi2l (par T.2.2 i + 1)) 48
theorem par_n20 {T : TRE} {i : Nat} (h : tgd T) (hi : i < T.1) : ∃ x : Nat, par T.2.2 i + 1 = (x : Int) ∧ x < 100 := by
  have h1 := par_lt T.2.2 i
  have h2 := h.1.1
  exact ⟨(par T.2.2 i + 1).toNat, by omega, by omega⟩
theorem pkm_lab {T : TRE} {i : Nat} (h : tgd T) (hi : i < T.1) : pkm T i &&& 281474976710655 = T.2.1 i := by
  obtain ⟨x, h1, h2⟩ := par_n20 h hi
  unfold pkm
  rw [h1]
  exact pk48_lab (lgs_nv (h.2 i hi)) h2
theorem pkm_par {T : TRE} {i : Nat} (h : tgd T) (hi : i < T.1) : w32 (zl2i (zlshr (pkm T i) 48) - 1) = par T.2.2 i := by
  obtain ⟨x, h1, h2⟩ := par_n20 h hi
  unfold pkm
  rw [h1, pk48_m (lgs_nv (h.2 i hi)) h2, zw_id (by omega) (by omega)]
  omega
abbrev hgd (q : Nat) (T : TRE) : Prop := q < 3 ∧ tgd T ∧ 1 ≤ T.1
/-- what is kept of a place, the latest first -/
def hl (pl : Nat → Nat) (Ts : Nat → TRE) (q : Nat) : Nat → List TRE
  | 0 => []
  | k + 1 => if pl k = q then Ts k :: hl pl Ts q k else hl pl Ts q k
abbrev Xmh : Nat → Nat → Prop := fun k j => (k = 122 ∧ j = 14) ∨ (129 ≤ k ∧ k ≤ 131)
theorem hl_congr {pl pl' : Nat → Nat} {Ts Ts' : Nat → TRE} {q : Nat} : ∀ m, (∀ k, k < m → pl k = pl' k ∧ Ts k = Ts' k) → hl pl Ts q m = hl pl' Ts' q m := by
  intro m
  induction m with
  | zero => intro _; rfl
  | succ m ih =>
    intro h
    rw [hl, hl, ih (fun k hk => h k (by omega)), (h m (by omega)).1, (h m (by omega)).2]
theorem hl_none {pl : Nat → Nat} {Ts : Nat → TRE} {q : Nat} : ∀ m, (∀ k, k < m → pl k ≠ q) → hl pl Ts q m = [] := by
  intro m
  induction m with
  | zero => intro _; rfl
  | succ m ih => intro h; rw [hl, if_neg (h m (by omega))]; exact ih (fun k hk => h k (by omega))
theorem hl_skip {pl : Nat → Nat} {Ts : Nat → TRE} {q k : Nat} : ∀ m, k ≤ m → (∀ j, k ≤ j → j < m → pl j ≠ q) → hl pl Ts q m = hl pl Ts q k := by
  intro m
  induction m with
  | zero => intro h _; rw [show k = 0 by omega]
  | succ m ih =>
    intro h hn
    by_cases e : k = m + 1
    · rw [e]
    · rw [hl, if_neg (hn m (by omega) (by omega))]
      exact ih (by omega) (fun j j1 j2 => hn j j1 (by omega))
theorem hl_dropO {pl : Nat → Nat} {Ts : Nat → TRE} {q k : Nat} (hq : pl k ≠ q) : ∀ m, k ≤ m → hl (shl k 1 pl) (shl k 1 Ts) q m = hl pl Ts q (m + 1) := by
  intro m
  induction m with
  | zero =>
    intro h
    have : k = 0 := by omega
    subst this
    show [] = _
    rw [hl, if_neg hq]; rfl
  | succ m ih =>
    intro h
    by_cases e : k = m + 1
    · subst e
      rw [hl_congr (pl' := pl) (Ts' := Ts) (m + 1) (fun j hj => ⟨shl_lo hj, shl_lo hj⟩)]
      conv => rhs; rw [hl]
      rw [if_neg hq]
    · rw [hl, ih (by omega), shl_hi (by omega), shl_hi (by omega)]
      conv => rhs; rw [hl]
theorem hl_dropK {pl : Nat → Nat} {Ts : Nat → TRE} {q k m : Nat} (hq : pl k = q) (hkm : k < m) (hl1 : ∀ j, k < j → j < m → pl j ≠ q) : hl pl Ts q m = Ts k :: hl (shl k 1 pl) (shl k 1 Ts) q (m - 1) := by
  rw [hl_skip (k := k + 1) m (by omega) (fun j j1 j2 => hl1 j (by omega) j2), hl, if_pos hq]
  congr 1
  rw [hl_skip (k := k) (m - 1) (by omega) (fun j j1 j2 => by rw [shl_hi j1]; exact hl1 (j + 1) (by omega) (by omega))]
  exact hl_congr k (fun j hj => ⟨(shl_lo hj).symm, (shl_lo hj).symm⟩)
/-- the latest entry of a place -/
def laI (m : Nat) (pl : Nat → Nat) (p : Nat) (z : Int) : Prop := (∃ k : Nat, k < m ∧ pl k = p ∧ (∀ j, k < j → j < m → pl j ≠ p) ∧ z = (k : Int)) ∨ ((∀ k, k < m → pl k ≠ p) ∧ z = -1)
theorem laI_ex (m : Nat) (pl : Nat → Nat) (p : Nat) : ∃ z : Int, laI m pl p z := by
  induction m with
  | zero => exact ⟨-1, Or.inr ⟨fun k hk => absurd hk (Nat.not_lt_zero _), rfl⟩⟩
  | succ m ih =>
    by_cases e : pl m = p
    · exact ⟨(m : Int), Or.inl ⟨m, by omega, e, fun j j1 j2 => by omega, rfl⟩⟩
    · obtain ⟨z, ⟨k, h1, h2, h3, h4⟩ | ⟨h1, h2⟩⟩ := ih
      · refine ⟨z, Or.inl ⟨k, by omega, h2, fun j j1 j2 => ?_, h4⟩⟩
        by_cases ej : j = m
        · rw [ej]; exact e
        · exact h3 j j1 (by omega)
      · refine ⟨z, Or.inr ⟨fun k hk => ?_, h2⟩⟩
        by_cases ej : k = m
        · rw [ej]; exact e
        · exact h1 k (by omega)
