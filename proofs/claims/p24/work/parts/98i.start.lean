/-! the start -/
def S00 : STA := ((fun _ => 0, 0), (fun _ => (0, fun _ => 0, fun _ => 0)), none, (0, fun _ => (0, 0, 0, 0, 0)), (0, 0), (0, fun _ => 0), fun _ => [])
theorem S00_g : SG S00 := by
  refine ⟨fun p _ => ⟨⟨Nat.zero_le _, fun h => absurd h (Nat.lt_irrefl _), fun i hi => absurd hi (Nat.not_lt_zero _)⟩, fun i hi => absurd hi (Nat.not_lt_zero i)⟩, fun st pd x => (by cases x), Nat.zero_le _, fun i hi => absurd hi (Nat.not_lt_zero i), Nat.zero_le _⟩
theorem S00_t {t : Nat} {σ : zW} (h1 : gI σ t 12 = 0) (h2 : gI σ t 11 = 0) : cTr t (0, fun _ => 0, fun _ => 0) σ := by
  refine ⟨⟨h1, fun i hi => absurd hi (Nat.not_lt_zero i)⟩, fun i hi => absurd hi (Nat.not_lt_zero i), fun i a hi => absurd hi (Nat.not_lt_zero i), 0, Nat.le_refl 0, h2, fun a b _ hb => absurd hb (Nat.not_lt_zero b), fun a ha => absurd ha (Nat.not_lt_zero a), fun i hi => absurd hi (Nat.not_lt_zero i)⟩
theorem zsc_lo {τ : zW} {h : Nat → Nat → Int} {k j : Nat} (hk : k < 99990) : gI (zsc h (zal (zal τ 40) 1)) k j = gI τ k j := if_neg (by omega)
theorem y_start {τ : zW} {h : Nat → Nat → Int} (hk : ychk τ = true) (hz : ∀ i, gI τ 3 i = 0) : CS S00 0 (zsc h (zal (zal τ 40) 1)) := by
  have I : ∀ {k j : Nat} {x : Int}, (k, j, x) ∈ yini → gI (zsc h (zal (zal τ 40) 1)) k j = x := fun {k j x} hm => by
    have h1 := ychk_I hk hm
    have hk9 : k < 99990 := by
      have h2 : (yini.all fun e => decide (e.1 < 99990)) = true := by decide +kernel
      exact of_decide_eq_true (List.all_eq_true.mp h2 _ hm)
    rw [← h1]
    exact if_neg (by omega)
  have R : ∀ {k j x : Nat}, (k, j, x) ∈ yrfs → gR (zsc h (zal (zal τ 40) 1)) k j = x := fun {k j x} hm => ychk_R hk hm
  have z3 : ∀ i, gI (zsc h (zal (zal τ 40) 1)) 3 i = 0 := fun i => (zsc_lo (by decide)).trans (hz i)
  have r8 : gR (zsc h (zal (zal τ 40) 1)) 1 8 = 68 := R (by decide +kernel)
  have r9 : gR (zsc h (zal (zal τ 40) 1)) 1 9 = 80 := R (by decide +kernel)
  have r10 : gR (zsc h (zal (zal τ 40) 1)) 1 10 = 95 := R (by decide +kernel)
  have r11 : gR (zsc h (zal (zal τ 40) 1)) 1 11 = 110 := R (by decide +kernel)
  have r12 : gR (zsc h (zal (zal τ 40) 1)) 1 12 = 116 := R (by decide +kernel)
  have q0 : gR (zsc h (zal (zal τ 40) 1)) 4 0 = 5 := R (by decide +kernel)
  have q1 : gR (zsc h (zal (zal τ 40) 1)) 4 1 = 17 := R (by decide +kernel)
  have q2 : gR (zsc h (zal (zal τ 40) 1)) 4 2 = 29 := R (by decide +kernel)
  have a1 : gI (zsc h (zal (zal τ 40) 1)) 2 1 = 0 := I (by decide +kernel)
  have a2 : gI (zsc h (zal (zal τ 40) 1)) 5 12 = 0 := I (by decide +kernel)
  have a3 : gI (zsc h (zal (zal τ 40) 1)) 5 11 = 0 := I (by decide +kernel)
  have a4 : gI (zsc h (zal (zal τ 40) 1)) 17 12 = 0 := I (by decide +kernel)
  have a5 : gI (zsc h (zal (zal τ 40) 1)) 17 11 = 0 := I (by decide +kernel)
  have a6 : gI (zsc h (zal (zal τ 40) 1)) 29 12 = 0 := I (by decide +kernel)
  have a7 : gI (zsc h (zal (zal τ 40) 1)) 29 11 = 0 := I (by decide +kernel)
  have a8 : gI (zsc h (zal (zal τ 40) 1)) 80 15 = 0 := I (by decide +kernel)
  have a9 : gI (zsc h (zal (zal τ 40) 1)) 80 16 = 0 := I (by decide +kernel)
  have a10 : gI (zsc h (zal (zal τ 40) 1)) 110 5 = 0 := I (by decide +kernel)
  have a11 : gI (zsc h (zal (zal τ 40) 1)) 1 13 = 0 := I (by decide +kernel)
  have a12 : gI (zsc h (zal (zal τ 40) 1)) 1 14 = 0 := I (by decide +kernel)
  have a13 : gI (zsc h (zal (zal τ 40) 1)) 66 1 = 0 := I (by decide +kernel)
  have a14 : gI (zsc h (zal (zal τ 40) 1)) 61 4 = 0 := I (by decide +kernel)
  have a15 : gI (zsc h (zal (zal τ 40) 1)) 65 0 = -1 := I (by decide +kernel)
  have a16 : gI (zsc h (zal (zal τ 40) 1)) 65 1 = -1 := I (by decide +kernel)
  have a17 : gI (zsc h (zal (zal τ 40) 1)) 65 2 = -1 := I (by decide +kernel)
  have a18 : gI (zsc h (zal (zal τ 40) 1)) 1 15 = -1 := I (by decide +kernel)
  have a19 : gI (zsc h (zal (zal τ 40) 1)) 50 1 = -1 := I (by decide +kernel)
  have a20 : gI (zsc h (zal (zal τ 40) 1)) 52 1 = -1 := I (by decide +kernel)
  generalize zsc h (zal (zal τ 40) 1) = σ at *
  refine ⟨⟨z3, a1, Nat.zero_le _, fun i hi => absurd hi (Nat.not_lt_zero i)⟩, ⟨fun p hp => ?_, ?_, fun p q hp hq hpq => ?_⟩, ⟨?_, ?_, ?_, fun _ => ?_, fun st pd x => (by cases x)⟩, ⟨?_, ?_, ?_, ?_, fun i hi => absurd hi (Nat.not_lt_zero i)⟩, ⟨a11, a12⟩, ⟨a13, fun j hj => absurd hj (Nat.not_lt_zero j)⟩, ⟨a14, fun p hp => ?_⟩, Or.inl a18, Or.inl a19, Or.inl a20⟩
  · have hp' : p = 0 ∨ p = 1 ∨ p = 2 := by omega
    rcases hp' with e | e | e
    · rw [e, q0, r8]; exact ⟨Or.inl rfl, S00_t a2 a3, by decide⟩
    · rw [e, q1, r8]; exact ⟨Or.inr (Or.inl rfl), S00_t a4 a5, by decide⟩
    · rw [e, q2, r8]; exact ⟨Or.inr (Or.inr (Or.inl rfl)), S00_t a6 a7, by decide⟩
  · rw [r8]; exact Or.inr (Or.inr (Or.inr rfl))
  · have hp' : p = 0 ∨ p = 1 ∨ p = 2 := by omega
    have hq' : q = 0 ∨ q = 1 ∨ q = 2 := by omega
    rcases hp' with e | e | e <;> rcases hq' with e' | e' | e' <;> rw [e, e'] <;> first | (exfalso; omega) | (simp only [q0, q1, q2]; decide)
  · rw [r9]; exact Or.inl rfl
  · rw [r10]; exact Or.inr rfl
  · rw [r9, r10]; decide
  · rw [r9]; exact ⟨a8, a9⟩
  · rw [r11]; exact Or.inl rfl
  · rw [r12]; exact Or.inr rfl
  · rw [r11, r12]; decide
  · rw [r11]; exact a10
  · have hp' : p = 0 ∨ p = 1 ∨ p = 2 := by omega
    rcases hp' with e | e | e
    · rw [e]; exact a15
    · rw [e]; exact a16
    · rw [e]; exact a17
