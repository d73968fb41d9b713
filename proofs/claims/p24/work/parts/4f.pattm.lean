/-! names in the model's patterns -/
theorem zi2l_small {v w : Int} (hv : 0 ≤ v ∧ v < 200) (hw : 0 ≤ w ∧ w < 200) : zlc (zi2l v) (zi2l w) = 0 ↔ v = w := by
  rw [zlc_eq]
  refine ⟨fun h => ?_, fun h => by rw [h]⟩
  have hd : ∀ n : Nat, n < 200 → zl2i (zi2l (n : Int)) = (n : Int) := by decide +kernel
  obtain ⟨n, rfl⟩ : ∃ n : Nat, v = (n : Int) := ⟨v.toNat, by omega⟩
  obtain ⟨k, rfl⟩ : ∃ k : Nat, w = (k : Int) := ⟨w.toNat, by omega⟩
  rw [← hd n (by omega), ← hd k (by omega), h]
/-- names and their parts -/
def nw (st : PST) : Prop := (∀ i, i < st.1 → 0 ≤ st.2.2.2.1 15 i ∧ st.2.2.2.1 15 i < 200) ∧ ∀ x : Nat, x < 26 → (st.2.2.2.1 13 x = -1 ∧ ∀ i, i < st.1 → st.2.2.2.1 15 i ≠ (x : Int) + 97) ∨ (∃ i : Nat, i < st.1 ∧ st.2.2.2.1 13 x = (i : Int) ∧ st.2.2.2.1 15 i = (x : Int) + 97 ∧ ∀ j, j < st.1 → j ≠ i → st.2.2.2.1 15 j ≠ (x : Int) + 97)
theorem namR_nm {f : Nat → Int} {L a : Nat} {R : PRW} {z : Int} {w : Int × Nat} (h : namR f L R z a = .inr w) : w.1 = 0 ∨ ∃ x : Nat, x < 26 ∧ w.1 = (x : Int) + 97 ∧ R 13 x = -1 := by
  unfold namR at h
  split at h
  · cases h; exact Or.inl rfl
  · unfold givR at h
    split at h
    · cases hn : nmA f L (sk f L a + 1) with
      | inl p => rw [hn] at h; cases h
      | inr r =>
        obtain ⟨x, q⟩ := r
        obtain ⟨n1, n2, n3, n4⟩ := nmA_ok hn
        rw [hn] at h
        simp only at h
        split at h
        · rename_i h1
          cases h
          exact Or.inr ⟨x, n3, rfl, h1⟩
        · cases h
    · cases h; exact Or.inl rfl
theorem nodE_nw {st : PST} {here mk : Int} {m k : Nat} {z nm : Int} {b : Int × Nat × (Nat → Int64) × Nat} (hw : nw st) (hnm : nm = 0 ∨ ∃ x : Nat, x < 26 ∧ nm = (x : Int) + 97 ∧ st.2.2.2.1 13 x = -1) : nw (nodE st here mk m k z b nm) := by
  obtain ⟨w1, w2⟩ := hw
  have e15 : ∀ i, (nodE st here mk m k z b nm).2.2.2.1 15 i = if i = st.1 then nm else st.2.2.2.1 15 i := fun i => rfl
  have e13 : ∀ x : Nat, (nodE st here mk m k z b nm).2.2.2.1 13 x = if nm = (x : Int) + 97 then (st.1 : Int) else st.2.2.2.1 13 x := fun x => rfl
  have e1 : (nodE st here mk m k z b nm).1 = st.1 + 1 := rfl
  unfold nw
  rw [e1]
  refine ⟨fun i hi => ?_, fun x hx => ?_⟩
  · rw [e15]
    by_cases e : i = st.1
    · rw [if_pos e]
      rcases hnm with h | ⟨x, h1, h2, h3⟩ <;> omega
    · rw [if_neg e]; exact w1 i (by omega)
  · rw [e13]
    by_cases hn : nm = (x : Int) + 97
    · rw [if_pos hn]
      refine Or.inr ⟨st.1, by omega, rfl, by rw [e15, if_pos rfl, hn], fun j hj hne => ?_⟩
      rw [e15, if_neg hne]
      rcases hnm with h | ⟨y, h1, h2, h3⟩
      · omega
      · have : y = x := by omega
        subst this
        rcases w2 y hx with w | ⟨i, i1, i2, -⟩
        · exact w.2 j (by omega)
        · omega
    · rw [if_neg hn]
      rcases w2 x hx with ⟨v1, v2⟩ | ⟨i, i1, i2, i3, i4⟩
      · refine Or.inl ⟨v1, fun i hi => ?_⟩
        rw [e15]
        by_cases e : i = st.1
        · rw [if_pos e]; exact hn
        · rw [if_neg e]; exact v2 i (by omega)
      · refine Or.inr ⟨i, by omega, i2, by rw [e15, if_neg (by omega)]; exact i3, fun j hj hne => ?_⟩
        rw [e15]
        by_cases e : j = st.1
        · rw [if_pos e]; exact hn
        · rw [if_neg e]; exact i4 j (by omega) hne
