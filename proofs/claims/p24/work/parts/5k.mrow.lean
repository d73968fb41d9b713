/-! the model's edits -/
abbrev Xmd : Nat → Nat → Prop := fun k j => (k = 122 ∧ (j = 77 ∨ j = 81 ∨ j = 85)) ∨ (179 ≤ k ∧ k ≤ 184)
/-- how many of the nodes a .. i - 1 have the depth d -/
def cnd (dep : Nat → Nat) (d a : Nat) : Nat → Nat
  | 0 => 0
  | i + 1 => cnd dep d a i + if a ≤ i ∧ dep i = d then 1 else 0
theorem cnd_le (dep : Nat → Nat) (d a : Nat) : ∀ i, cnd dep d a i ≤ i := by
  intro i
  induction i with
  | zero => exact Nat.le_refl _
  | succ i ih => rw [cnd]; split <;> omega
theorem cnd_lo {dep : Nat → Nat} {d a : Nat} : ∀ i, i ≤ a → cnd dep d a i = 0 := by
  intro i
  induction i with
  | zero => intro _; rfl
  | succ i ih => intro h; rw [cnd, ih (by omega), if_neg (by omega)]
theorem cnd_mono {dep : Nat → Nat} {d a : Nat} : ∀ {i j}, i ≤ j → cnd dep d a i ≤ cnd dep d a j := by
  intro i j
  induction j with
  | zero => intro h; rw [show i = 0 by omega]; exact Nat.le_refl _
  | succ j ih =>
    intro h
    by_cases e : i = j + 1
    · rw [e]; exact Nat.le_refl _
    · have := ih (by omega)
      rw [cnd]; omega
theorem cnd_hit {dep : Nat → Nat} {d a i : Nat} (h1 : a ≤ i) (h2 : dep i = d) : cnd dep d a (i + 1) = cnd dep d a i + 1 := by
  rw [cnd, if_pos ⟨h1, h2⟩]
theorem cnd_miss {dep : Nat → Nat} {d a i : Nat} (h2 : ¬ dep i = d) : cnd dep d a (i + 1) = cnd dep d a i := by
  rw [cnd, if_neg (fun w => h2 w.2)]; rfl
theorem cnd_same {dep : Nat → Nat} {d a : Nat} : ∀ (j i : Nat), i ≤ j → (∀ k, i ≤ k → k < j → ¬ dep k = d) → cnd dep d a j = cnd dep d a i := by
  intro j
  induction j with
  | zero => intro i h _; rw [show i = 0 by omega]
  | succ j ih =>
    intro i h hk
    by_cases e : i = j + 1
    · rw [e]
    · rw [cnd_miss (hk j (by omega) (by omega))]
      exact ih i (by omega) (fun k k1 k2 => hk k k1 (by omega))
/-- the model's condition is the class's -/
theorem exc_cond {n s : Nat} {dep : Nat → Nat} (h : wfd n dep) (hs : s < n) : (cnd dep (dep s + 1) (s + 1) (ed dep n s) = 0 ↔ ed dep n s = s + 1) ∧ (s = 0 → 1 < n → (cnd dep (dep s + 1) (s + 1) (ed dep n s) ≤ 1 ↔ ¬ ed dep n 1 < n)) := by
  obtain ⟨s1, s2, s3, s4⟩ := ed_spec (dep := dep) hs
  have h1 : s + 1 < ed dep n s → cnd dep (dep s + 1) (s + 1) (s + 1 + 1) = 1 := fun q => by
    have a1 := s3 (s + 1) (by omega) q
    have a2 := (h.2.2 s (by omega)).2
    rw [cnd_hit (Nat.le_refl _) (by omega), cnd_lo _ (Nat.le_refl _)]
  refine ⟨⟨fun q => ?_, fun q => by rw [q]; exact cnd_lo _ (Nat.le_refl _)⟩, fun q0 q1 => ?_⟩
  · by_cases c : s + 1 < ed dep n s
    · have a1 := h1 c
      have a2 := cnd_mono (dep := dep) (d := dep s + 1) (a := s + 1) (show s + 1 + 1 ≤ ed dep n s by omega)
      omega
    · omega
  · subst q0
    have er := ed_root h (by omega)
    have d0 := h.2.1 (by omega)
    rw [er] at h1 ⊢
    have a1 := h1 (by omega)
    obtain ⟨t1, t2, t3, t4⟩ := ed_spec (dep := dep) q1
    have d1 : dep 1 = dep 0 + 1 := by
      have b1 := (h.2.2 0 (by omega))
      have e1 : (0 : Nat) + 1 = 1 := rfl
      rw [e1] at b1
      omega
    constructor
    · intro q c
      have a4 := t4 c
      have a5 := wfd_pos h c (by omega)
      have a6 := cnd_hit (dep := dep) (d := dep 0 + 1) (a := 0 + 1) (i := ed dep n 1) (by omega) (by omega)
      have a7 := cnd_mono (dep := dep) (d := dep 0 + 1) (a := 0 + 1) (show 0 + 1 + 1 ≤ ed dep n 1 by omega)
      have a8 := cnd_mono (dep := dep) (d := dep 0 + 1) (a := 0 + 1) (show ed dep n 1 + 1 ≤ n by omega)
      omega
    · intro c
      have a6 := cnd_same (dep := dep) (d := dep 0 + 1) (a := 0 + 1) n (0 + 1 + 1) (by omega) (fun k k1 k2 => by
        have := t3 k (by omega) (by omega)
        omega)
      omega
