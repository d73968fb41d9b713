/-! places behind labels and names; a name's part in the model -/
theorem lbR_ok {f : Nat → Int} {L : Nat} : ∀ (n a l : Nat) (B : Nat → Int64) (r : Nat × (Nat → Int64) × Nat), lbR f L n a l B = .inr r → a ≤ L → 2 * l ≤ a → a < r.2.2 ∧ r.2.2 ≤ L ∧ 2 * r.1 ≤ r.2.2 + 1 ∧ l < r.1 := by
  intro n
  induction n with
  | zero => intro a l B r h; cases h
  | succ n ih =>
    intro a l B r h haL hl
    rw [lbR] at h
    cases hr : rdl f L a with
    | inl e => rw [hr] at h; cases h
    | inr x =>
      obtain ⟨v, q⟩ := x
      rw [hr] at h
      simp only at h
      obtain ⟨g1, g2, -⟩ := rdl_ok hr
      have hs2 := sk_le (f := f) g2
      have hg2 := sk_ge f L q
      split at h
      · rename_i h1
        have := tb_in (f := f) (L := L) (p := sk f L q) (by omega)
        have := ih _ _ _ _ h (by omega) (by omega)
        omega
      · cases h
        exact ⟨by dsimp only; omega, hs2, by dsimp only; omega, by dsimp only; omega⟩
theorem tolR_ok {f : Nat → Int} {L a : Nat} {R : PRW} {r : Int × Nat} (h : tolR f L R a = .inr r) : a < r.2 ∧ r.2 ≤ L := by
  unfold tolR at h
  have hg := sk_ge f L a
  cases hn : nmA f L a with
  | inl p => rw [hn] at h; cases h
  | inr x =>
    obtain ⟨x, q⟩ := x
    obtain ⟨n1, n2, n3, n4⟩ := nmA_ok hn
    rw [hn] at h
    simp only at h
    split at h
    · cases h
    · cases h; exact ⟨by dsimp only; omega, by dsimp only; omega⟩
theorem givR_ok {f : Nat → Int} {L a : Nat} {R : PRW} {r : Int × Nat} (h : givR f L R a = .inr r) (haL : a ≤ L) : a ≤ r.2 ∧ r.2 ≤ L := by
  unfold givR at h
  have hg := sk_ge f L a
  have hs := sk_le (f := f) haL
  split at h
  · have hg2 := sk_ge f L (sk f L a + 1)
    cases hn : nmA f L (sk f L a + 1) with
    | inl p => rw [hn] at h; cases h
    | inr x =>
      obtain ⟨x, q⟩ := x
      obtain ⟨n1, n2, n3, n4⟩ := nmA_ok hn
      rw [hn] at h
      simp only at h
      split at h
      · cases h; exact ⟨by dsimp only; omega, by dsimp only; omega⟩
      · cases h
  · cases h; exact ⟨hg, hs⟩
theorem hd_m {R : PRW} {here mk : Int} {c : Nat} (hmk : mk = 0 ∨ mk = 1 ∨ mk = 2) (h2 : mk = 2 → here = -1 ∨ R 9 here.toNat = -1) : hdR R here mk c + 1 = if ¬ sgR mk = 63 then (if here = -1 then 0 else R 9 here.toNat + 1) else (c : Int) + 1 := by
  unfold hdR
  rcases hmk with h | h | h
  · have e : sgR mk = 0 := by rw [h]; rfl
    rw [e, if_pos (show ¬ (0 : Int) = 63 by omega)]
    by_cases w : here = -1
    · rw [if_neg (fun q => q.1 w), if_neg (by omega), if_pos w]; rfl
    · rw [if_neg w]
      by_cases w2 : R 9 here.toNat = -1
      · rw [if_neg (fun q => q.2 w2), if_neg (by omega), w2]
      · rw [if_pos ⟨w, w2⟩]
  · have e : sgR mk = 33 := by rw [h]; rfl
    rw [e, if_pos (show ¬ (33 : Int) = 63 by omega)]
    by_cases w : here = -1
    · rw [if_neg (fun q => q.1 w), if_neg (by omega), if_pos w]; rfl
    · rw [if_neg w]
      by_cases w2 : R 9 here.toNat = -1
      · rw [if_neg (fun q => q.2 w2), if_neg (by omega), w2]
      · rw [if_pos ⟨w, w2⟩]
  · have e : sgR mk = 63 := by rw [h]; rfl
    rw [e, if_neg (show ¬ ¬ (63 : Int) = 63 from fun q => q rfl), if_neg (fun q => by rcases h2 h with w | w; exact q.1 w; exact q.2 w), if_pos h]
