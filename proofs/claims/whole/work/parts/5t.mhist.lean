/-! trees kept: the model -/
def pkm (T : TRE) (i : Nat) : Int64 := T.2.1 i ||| zlshl (zi2l (par T.2.2 i + 1)) 48
theorem par_n20 {T : TRE} {i : Nat} (h : tgd T) (hi : i < T.1) : ∃ x : Nat, par T.2.2 i + 1 = (x : Int) ∧ x < 100 := by
  have h1 := par_lt T.2.2 i
  have h2 := h.1.1
  exact ⟨(par T.2.2 i + 1).toNat, by omega, by omega⟩
theorem pkm_lab {T : TRE} {i : Nat} (h : tgd T) (hi : i < T.1) : pkm T i &&& 281474976710655 = T.2.1 i := by
  obtain ⟨x, h1, h2⟩ := par_n20 h hi
  unfold pkm
  rw [h1]
  exact pk48_lab (lgs_nv (h.2 i hi)) h2
theorem pkm_par {T : TRE} {i : Nat} (h : tgd T) (hi : i < T.1) : w32 (zl2i (zlshr (pkm T i) 48) - 1) = par T.2.2 i := by
  obtain ⟨x, h1, h2⟩ := par_n20 h hi
  unfold pkm
  rw [h1, pk48_m (lgs_nv (h.2 i hi)) h2, zw_id (by omega) (by omega)]
  omega
/-- entry k of the model's -/
def mHe (σ : zW) (k q : Nat) (T : TRE) : Prop := gI σ 129 k = (q : Int) ∧ gI σ 130 k = (T.1 : Int) ∧ ∀ i, i < T.1 → gL σ 131 (20 * k + i) = pkm T i
abbrev hgd (q : Nat) (T : TRE) : Prop := q < 3 ∧ tgd T ∧ 1 ≤ T.1
def mH (m : Nat) (pl : Nat → Nat) (Ts : Nat → TRE) (σ : zW) : Prop := gI σ 122 14 = (m : Int) ∧ ∀ k, k < m → hgd (pl k) (Ts k) ∧ mHe σ k (pl k) (Ts k)
/-- what is kept of a place, the latest first -/
def hl (pl : Nat → Nat) (Ts : Nat → TRE) (q : Nat) : Nat → List TRE
  | 0 => []
  | k + 1 => if pl k = q then Ts k :: hl pl Ts q k else hl pl Ts q k
def mHi (m : Nat) (H : Nat → List TRE) (σ : zW) : Prop := ∃ (pl : Nat → Nat) (Ts : Nat → TRE), mH m pl Ts σ ∧ ∀ q, q < 3 → hl pl Ts q m = H q
abbrev Xmh : Nat → Nat → Prop := fun k j => (k = 122 ∧ j = 14) ∨ (129 ≤ k ∧ k ≤ 131)
theorem mHe_fr {σ σ' : zW} {X : Nat → Nat → Prop} {k q : Nat} {T : TRE} (h : mHe σ k q T) (hn : T.1 ≤ 20) (hF : yFr X σ σ') (h1 : ¬ X 129 k) (h2 : ¬ X 130 k) (h3 : ∀ i, i < 20 → ¬ X 131 (20 * k + i)) : mHe σ' k q T := ⟨(hF.i h1).trans h.1, (hF.i h2).trans h.2.1, fun i hi => (hF.l (h3 i (by omega))).trans (h.2.2 i hi)⟩
theorem mHi_fr {m : Nat} {H : Nat → List TRE} {σ σ' : zW} {X : Nat → Nat → Prop} (h : mHi m H σ) (hF : yFr X σ σ') (hX : ∀ k j, Xmh k j → ¬ X k j) : mHi m H σ' := by
  obtain ⟨pl, Ts, ⟨h1, h2⟩, h3⟩ := h
  exact ⟨pl, Ts, ⟨(hF.i (hX _ _ (Or.inl ⟨rfl, rfl⟩))).trans h1, fun k hk => ⟨(h2 k hk).1, mHe_fr (h2 k hk).2 (h2 k hk).1.2.1.1.1 hF (hX _ _ (by omega)) (hX _ _ (by omega)) (fun i _ => hX _ _ (by omega))⟩⟩, h3⟩
theorem hl_congr {pl pl' : Nat → Nat} {Ts Ts' : Nat → TRE} {q : Nat} : ∀ m, (∀ k, k < m → pl k = pl' k ∧ Ts k = Ts' k) → hl pl Ts q m = hl pl' Ts' q m := by
  intro m
  induction m with
  | zero => intro _; rfl
  | succ m ih =>
    intro h
    rw [hl, hl, ih (fun k hk => h k (by omega)), (h m (by omega)).1, (h m (by omega)).2]
theorem hl_none {pl : Nat → Nat} {Ts : Nat → TRE} {q : Nat} : ∀ m, (∀ k, k < m → pl k ≠ q) → hl pl Ts q m = [] := by
  intro m
  induction m with
  | zero => intro _; rfl
  | succ m ih => intro h; rw [hl, if_neg (h m (by omega))]; exact ih (fun k hk => h k (by omega))
theorem hl_skip {pl : Nat → Nat} {Ts : Nat → TRE} {q k : Nat} : ∀ m, k ≤ m → (∀ j, k ≤ j → j < m → pl j ≠ q) → hl pl Ts q m = hl pl Ts q k := by
  intro m
  induction m with
  | zero => intro h _; rw [show k = 0 by omega]
  | succ m ih =>
    intro h hn
    by_cases e : k = m + 1
    · rw [e]
    · rw [hl, if_neg (hn m (by omega) (by omega))]
      exact ih (by omega) (fun j j1 j2 => hn j j1 (by omega))
theorem hl_dropO {pl : Nat → Nat} {Ts : Nat → TRE} {q k : Nat} (hq : pl k ≠ q) : ∀ m, k ≤ m → hl (shl k 1 pl) (shl k 1 Ts) q m = hl pl Ts q (m + 1) := by
  intro m
  induction m with
  | zero =>
    intro h
    have : k = 0 := by omega
    subst this
    show [] = _
    rw [hl, if_neg hq]; rfl
  | succ m ih =>
    intro h
    by_cases e : k = m + 1
    · subst e
      rw [hl_congr (pl' := pl) (Ts' := Ts) (m + 1) (fun j hj => ⟨shl_lo hj, shl_lo hj⟩)]
      conv => rhs; rw [hl]
      rw [if_neg hq]
    · rw [hl, ih (by omega), shl_hi (by omega), shl_hi (by omega)]
      conv => rhs; rw [hl]
theorem hl_dropK {pl : Nat → Nat} {Ts : Nat → TRE} {q k m : Nat} (hq : pl k = q) (hkm : k < m) (hl1 : ∀ j, k < j → j < m → pl j ≠ q) : hl pl Ts q m = Ts k :: hl (shl k 1 pl) (shl k 1 Ts) q (m - 1) := by
  rw [hl_skip (k := k + 1) m (by omega) (fun j j1 j2 => hl1 j (by omega) j2), hl, if_pos hq]
  congr 1
  rw [hl_skip (k := k) (m - 1) (by omega) (fun j j1 j2 => by rw [shl_hi j1]; exact hl1 (j + 1) (by omega) (by omega))]
  exact hl_congr k (fun j hj => ⟨(shl_lo hj).symm, (shl_lo hj).symm⟩)
/-- the latest entry of a place -/
def laI (m : Nat) (pl : Nat → Nat) (p : Nat) (z : Int) : Prop := (∃ k : Nat, k < m ∧ pl k = p ∧ (∀ j, k < j → j < m → pl j ≠ p) ∧ z = (k : Int)) ∨ ((∀ k, k < m → pl k ≠ p) ∧ z = -1)
theorem laI_ex (m : Nat) (pl : Nat → Nat) (p : Nat) : ∃ z : Int, laI m pl p z := by
  induction m with
  | zero => exact ⟨-1, Or.inr ⟨fun k hk => absurd hk (Nat.not_lt_zero _), rfl⟩⟩
  | succ m ih =>
    by_cases e : pl m = p
    · exact ⟨(m : Int), Or.inl ⟨m, by omega, e, fun j j1 j2 => by omega, rfl⟩⟩
    · obtain ⟨z, ⟨k, h1, h2, h3, h4⟩ | ⟨h1, h2⟩⟩ := ih
      · refine ⟨z, Or.inl ⟨k, by omega, h2, fun j j1 j2 => ?_, h4⟩⟩
        by_cases ej : j = m
        · rw [ej]; exact e
        · exact h3 j j1 (by omega)
      · refine ⟨z, Or.inr ⟨fun k hk => ?_, h2⟩⟩
        by_cases ej : k = m
        · rw [ej]; exact e
        · exact h1 k (by omega)
theorem m_latest {K : List zF} {m p : Nat} {pl : Nat → Nat} {z : Int} {σ : zW} (hm : m ≤ 513) (h14 : gI σ 122 14 = (m : Int)) (hpl : ∀ k, k < m → gI σ 129 k = (pl k : Int)) (hz : laI m pl p z) : zEv true (zent 243 [.inr (.inr 122), .inl (p : Int)] :: K) σ = zRet true K (some (.inl z)) σ := by
  have loop : ∀ (n i : Nat) (y : Int), m - i = n → i ≤ m → laI i pl p y → zEv true ((243, 4, [some (.inr (.inr 122)), some (.inl (p : Int)), some (.inl y), some (.inl (i : Int))], []) :: K) σ = zRet true K (some (.inl z)) σ := by
    intro n
    induction n with
    | zero =>
      intro i y hn hi hy
      have ei : i = m := by clear hy hz; omega
      subst ei
      have e : y = z := by
        rcases hy with ⟨k, a1, a2, a3, a4⟩ | ⟨a1, a2⟩ <;> rcases hz with ⟨k', b1, b2, b3, b4⟩ | ⟨b1, b2⟩
        · have : k = k' := by
            rcases Nat.lt_trichotomy k k' with q | q | q
            · exact absurd b2 (a3 k' q b1)
            · exact q
            · exact absurd a2 (b3 k q a1)
          rw [a4, b4, this]
        · exact absurd a2 (b1 k a1)
        · exact absurd b2 (a1 k' b1)
        · rw [a2, b2]
      rw [zj_243_4, h14, if_pos (Int.le_refl _), e]
    | succ n ih =>
      intro i y hn hi hy
      have hcc : 0 ≤ (i : Int) ∧ (i : Int) < 513 := by clear hy hz; omega
      have b1 : m - (i + 1) = n := by clear hy hz; omega
      have b2 : i + 1 ≤ m := by clear hy hz; omega
      have b3 : ¬ (m : Int) ≤ (i : Int) := by clear hy hz; omega
      have b4 : w32 ((i : Int) + 1) = ((i + 1 : Nat) : Int) := by clear hy hz; rw [zw_id (by omega) (by omega)]; omega
      rw [zj_243_4, h14, if_neg b3, yAnd hcc, Int.toNat_natCast, hpl i b2, b4]
      by_cases e : pl i = p
      · rw [if_neg (show ¬ ¬ ((pl i : Nat) : Int) = (p : Int) from fun w => w (by rw [e]))]
        exact ih (i + 1) _ b1 b2 (Or.inl ⟨i, Nat.lt_succ_self i, e, fun j j1 j2 => by omega, rfl⟩)
      · rw [if_pos (show ¬ ((pl i : Nat) : Int) = (p : Int) from fun w => e (by clear hy hz b4; omega))]
        refine ih (i + 1) _ b1 b2 ?_
        rcases hy with ⟨k, a1, a2, a3, a4⟩ | ⟨a1, a2⟩
        · refine Or.inl ⟨k, Nat.lt_succ_of_lt a1, a2, fun j j1 j2 => ?_, a4⟩
          by_cases ej : j = i
          · rw [ej]; exact e
          · exact a3 j j1 (by omega)
        · refine Or.inr ⟨fun k hk => ?_, a2⟩
          by_cases ej : k = i
          · rw [ej]; exact e
          · exact a1 k (by omega)
  rw [ze_243]
  exact loop m 0 (-1) (Nat.sub_zero _) (Nat.zero_le _) (Or.inr ⟨fun k hk => absurd hk (Nat.not_lt_zero _), rfl⟩)
