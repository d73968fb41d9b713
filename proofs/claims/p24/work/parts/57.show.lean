/-! trees shown -/
def clt : Nat → TX → TX
  | 0, t => t
  | k + 1, t => clt k (apt t 41)
theorem clt_len : ∀ (k : Nat) (t : TX), (clt k t).1 = t.1 + k := by
  intro k
  induction k with
  | zero => intro t; rfl
  | succ k ih => intro t; rw [clt, ih]; show t.1 + 1 + k = t.1 + (k + 1); omega
/-- the depth behind node i -/
def nxt (T : TRE) (i : Nat) : Nat := if i + 1 < T.1 then T.2.2 (i + 1) else 0
def sh1 (i : Nat) (t : TX) : TX := if i = 0 then t else apt t 32
def sh2 (T : TRE) (i : Nat) (t : TX) : TX := if kidc T.2.2 i T.1 = 0 then t else apt t 40
def shn (T : TRE) (i : Nat) (t : TX) : TX := if kidc T.2.2 i T.1 = 0 then clt (T.2.2 i - nxt T i) (lbt (T.2.1 i) 6 0 (sh2 T i (sh1 i t))) else lbt (T.2.1 i) 6 0 (sh2 T i (sh1 i t))
def shw (T : TRE) : Nat → TX
  | 0 => (0, fun _ => 0)
  | i + 1 => shn T i (shw T i)
def opq (T : TRE) : Nat → Nat
  | 0 => 0
  | i + 1 => opq T i + if kidc T.2.2 i T.1 = 0 then 0 else 1
theorem opq_le (T : TRE) : ∀ i, opq T i ≤ i := by
  intro i
  induction i with
  | zero => exact Nat.le_refl _
  | succ i ih => rw [opq]; split <;> omega
theorem nxt_leaf {T : TRE} (hw : wfd T.1 T.2.2) {i : Nat} (hi : i < T.1) (h : kidc T.2.2 i T.1 = 0) : nxt T i ≤ T.2.2 i := by
  unfold nxt
  split
  · have e := (leaf_iff hw hi).mp h
    have := (ed_spec (dep := T.2.2) hi).2.2.2
    rw [e] at this
    exact this (by assumption)
  · exact Nat.zero_le _
theorem nxt_node {T : TRE} (hw : wfd T.1 T.2.2) {i : Nat} (hi : i < T.1) (h : ¬ kidc T.2.2 i T.1 = 0) : nxt T i = T.2.2 i + 1 := by
  obtain ⟨s1, s2, s3, s4⟩ := ed_spec (dep := T.2.2) hi
  have e : ed T.2.2 T.1 i ≠ i + 1 := fun w => h ((leaf_iff hw hi).mpr w)
  have h1 := s3 (i + 1) (by omega) (by omega)
  have h2 := (hw.2.2 i (by omega)).2
  unfold nxt
  rw [if_pos (by omega)]
  omega
theorem shw_len {T : TRE} (hw : wfd T.1 T.2.2) : ∀ i, i ≤ T.1 → (shw T i).1 + (if i < T.1 then T.2.2 i else 0) ≤ 7 * i + 2 * opq T i := by
  intro i
  induction i with
  | zero =>
    intro _
    show 0 + _ ≤ _
    by_cases e : 0 < T.1
    · rw [if_pos e, hw.2.1 e]; exact Nat.le_refl _
    · rw [if_neg e]; exact Nat.zero_le _
  | succ i ih =>
    intro hi
    have h1 := ih (by omega)
    rw [if_pos (by omega)] at h1
    have hn : (if i + 1 < T.1 then T.2.2 (i + 1) else 0) = nxt T i := rfl
    have a1 : (sh1 i (shw T i)).1 ≤ (shw T i).1 + 1 := by
      unfold sh1
      split
      · omega
      · exact Nat.le_refl _
    rw [hn, shw, opq]
    unfold shn
    by_cases e : kidc T.2.2 i T.1 = 0
    · have h2 := nxt_leaf hw (by omega) e
      have a2 : sh2 T i (sh1 i (shw T i)) = sh1 i (shw T i) := if_pos e
      have a3 := lbt_len (T.2.1 i) 6 0 (sh1 i (shw T i))
      rw [if_pos e, if_pos e, clt_len, a2]
      omega
    · have h2 := nxt_node hw (by omega) e
      have a2 : sh2 T i (sh1 i (shw T i)) = apt (sh1 i (shw T i)) 40 := if_neg e
      have a3 := lbt_len (T.2.1 i) 6 0 (apt (sh1 i (shw T i)) 40)
      have a4 : (apt (sh1 i (shw T i)) 40).1 = (sh1 i (shw T i)).1 + 1 := rfl
      rw [if_neg e, if_neg e, a2]
      omega
/-- the bounds while node i is shown -/
def shB (T : TRE) (i : Nat) : Prop := (sh2 T i (sh1 i (shw T i))).1 + 6 ≤ 184 ∧ (sh1 i (shw T i)).1 < 184 ∧ (shw T i).1 < 184 ∧ (kidc T.2.2 i T.1 = 0 → (lbt (T.2.1 i) 6 0 (sh2 T i (sh1 i (shw T i)))).1 + (T.2.2 i - nxt T i) ≤ 184)
theorem sh_b {T : TRE} (hw : wfd T.1 T.2.2) {i : Nat} (hi : i < T.1) : shB T i := by
  have h0 := hw.1
  have h1 := shw_len hw i (by omega)
  rw [if_pos hi] at h1
  have h2 := opq_le T i
  have a1 : (sh1 i (shw T i)).1 ≤ (shw T i).1 + 1 := by
    unfold sh1
    split
    · omega
    · exact Nat.le_refl _
  have a2 : (sh2 T i (sh1 i (shw T i))).1 ≤ (sh1 i (shw T i)).1 + 1 ∧ (kidc T.2.2 i T.1 = 0 → (sh2 T i (sh1 i (shw T i))).1 = (sh1 i (shw T i)).1) := by
    unfold sh2
    by_cases e : kidc T.2.2 i T.1 = 0
    · rw [if_pos e]; exact ⟨by omega, fun _ => rfl⟩
    · rw [if_neg e]; exact ⟨Nat.le_refl _, fun w => absurd w e⟩
  have a3 := lbt_len (T.2.1 i) 6 0 (sh2 T i (sh1 i (shw T i)))
  refine ⟨by omega, by omega, by omega, fun e => ?_⟩
  have := a2.2 e
  omega
