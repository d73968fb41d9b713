/-! scripts read by the model -/
theorem zlc_eq {x y : Int64} : zlc x y = 0 ↔ x = y := by
  unfold zlc
  constructor
  · intro h
    split at h
    · omega
    · split at h
      · assumption
      · omega
  · intro h
    subst h
    have : ¬ x < x := by rw [Int64.lt_iff_toInt_lt]; omega
    rw [if_neg this, if_pos rfl]
theorem kwn_lits : kwn 0 = 111520460465522 ∧ kwn 1 = 111550592214372 ∧ kwn 2 = 111546363770981 ∧ kwn 3 = 1885434487 ∧ kwn 4 = 6579297 ∧ kwn 5 = 1702260589 ∧ kwn 6 = 500153084262 ∧ kwn 7 = 1953718636 ∧ kwn 8 = 111542169658722 ∧ kwn 9 = 491328398945 := ⟨rfl, rfl, rfl, rfl, rfl, rfl, rfl, rfl, rfl, rfl⟩
theorem kwI_iff {v : Int64} {b : Nat} : ∀ (n i : Nat) (j : Nat), b + i + n ≤ 10 → (kwI v b n i = (j : Int) ↔ i ≤ j ∧ j < i + n ∧ v = kwn (b + j)) := by
  intro n
  induction n with
  | zero => intro i j _; unfold kwI; omega
  | succ n ih =>
    intro i j hb
    rw [kwI]
    by_cases h : v = kwn (b + i)
    · rw [if_pos h]
      constructor
      · intro e
        have : i = j := by omega
        subst this
        exact ⟨Nat.le_refl _, by omega, h⟩
      · rintro ⟨h1, h2, h3⟩
        have := kwn_ne (i := b + i) (j := b + j) (by omega) (by omega) (h.symm.trans h3)
        omega
    · rw [if_neg h, ih (i + 1) j (by omega)]
      constructor
      · rintro ⟨h1, h2, h3⟩; exact ⟨by omega, by omega, h3⟩
      · rintro ⟨h1, h2, h3⟩
        refine ⟨?_, by omega, h3⟩
        by_cases e : i = j
        · subst e; exact absurd h3 h
        · omega
theorem kwI_no {v : Int64} {b : Nat} : ∀ (n i : Nat), kwI v b n i = -1 ↔ ∀ j, i ≤ j → j < i + n → v ≠ kwn (b + j) := by
  intro n
  induction n with
  | zero => intro i; exact ⟨fun _ j h1 h2 => by omega, fun _ => rfl⟩
  | succ n ih =>
    intro i
    rw [kwI]
    by_cases h : v = kwn (b + i)
    · rw [if_pos h]
      exact ⟨fun e => by omega, fun e => absurd h (e i (by omega) (by omega))⟩
    · rw [if_neg h, ih (i + 1)]
      refine ⟨fun e j h1 h2 => ?_, fun e j h1 h2 => e j (by omega) (by omega)⟩
      by_cases q : j = i
      · subst q; exact h
      · exact e j (by omega) (by omega)
theorem pk_one {f : Nat → Int} {p : Nat} (h : 0 ≤ f p ∧ f p < 256) : zl2i (pk f p 1) = f p := by
  obtain ⟨b, hb⟩ : ∃ b : Nat, f p = (b : Int) := ⟨(f p).toNat, by omega⟩
  have h1 : nv (pk f p 1) = b := by
    unfold pk
    rw [show min 1 6 = 1 from rfl, nv_pkf 1 (by omega) (fun i hi => by rw [show i = 0 by omega]; exact h)]
    show 0 + (f (p + 0)).toNat * 256 ^ 0 = b
    rw [Nat.add_zero, hb]
    omega
  rw [zl2i_nv (by omega) h1, hb]
