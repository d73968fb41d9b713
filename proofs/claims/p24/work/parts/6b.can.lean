/-! the model: can a number be given a node -/
/-- the part of number k -/
def np (st : PST) (k : Nat) : Nat := (st.2.2.2.1 14 k).toNat
theorem np_ok {st : PST} {pd : Nat → Nat} (hg : pgd st pd) {k : Nat} (hk : k < st.2.2.1) : np st k < st.1 ∧ st.2.2.2.1 14 k = (np st k : Int) ∧ st.2.2.2.1 8 (np st k) = (k : Int) ∧ st.2.2.2.1 11 (np st k) = 0 ∧ st.2.2.2.1 1 (np st k) ≠ 4 := by
  obtain ⟨i, i1, i2, i3⟩ := hg.2.2.1 k hk
  have e : np st k = i := by unfold np; rw [i2, Int.toNat_natCast]
  rw [e]
  refine ⟨i1, i2, i3, ?_⟩
  rcases Classical.em (st.2.2.2.1 11 i = 0 ∧ st.2.2.2.1 1 i ≠ 4) with h | h
  · exact h
  · have := (hg.2.1 i i1).2.2.2.2.2.2.2.1 h
    omega
theorem np_lt {st : PST} {pd : Nat → Nat} (hg : pgd st pd) {k k' : Nat} (h : k < k') (hk : k' < st.2.2.1) : np st k < np st k' := by
  have h1 := np_ok hg (show k < st.2.2.1 by omega)
  have h2 := np_ok hg hk
  have := hg.2.2.2.1 k k' h hk
  omega
theorem np_num {st : PST} {pd : Nat → Nat} (hg : pgd st pd) {p : Nat} (hp : p < st.1) (h8 : st.2.2.2.1 8 p ≠ -1) : ∃ k : Nat, k < st.2.2.1 ∧ st.2.2.2.1 8 p = (k : Int) ∧ np st k = p := by
  rcases Classical.em (st.2.2.2.1 11 p = 0 ∧ st.2.2.2.1 1 p ≠ 4) with h | h
  · obtain ⟨k, k1, k2, k3⟩ := (hg.2.1 p hp).2.2.2.2.2.2.1 h
    exact ⟨k, k2, k1, by unfold np; rw [k3, Int.toNat_natCast]⟩
  · exact absurd ((hg.2.1 p hp).2.2.2.2.2.2.2.1 h) h8
theorem np_mono {st : PST} {pd : Nat → Nat} (hg : pgd st pd) {k k' : Nat} (hk : k < st.2.2.1) (hk' : k' < st.2.2.1) (h : np st k < np st k') : k < k' := by
  rcases Nat.lt_trichotomy k k' with q | q | q
  · exact q
  · rw [q] at h; omega
  · have := np_lt hg q hk; omega
/-- what a number may be given, by those ahead of it -/
def canP (T : TRE) (st : PST) (w : Nat → Int) (k : Nat) : Prop :=
  (∀ e, e < k → st.2.2.2.1 9 (np st k) ≠ -1 → st.2.2.2.1 9 (np st e) = st.2.2.2.1 9 (np st k) → (w e = -1 ↔ w k = -1)) ∧
  (w k ≠ -1 → own T st w (np st k) (w k).toNat ∧ (np st k ≠ 0 → rlp T st.2.2.2.1 (np st k) (ndu st w (np st k)) (w k).toNat))
/-- the first m numbers are given nodes as they may be -/
def pre (T : TRE) (st : PST) (w : Nat → Int) (m : Nat) : Prop := ∀ k, k < m → (-1 ≤ w k ∧ w k < (T.1 : Int)) ∧ (st.2.2.2.1 9 (np st k) = -1 → 0 ≤ w k) ∧ canP T st w k
/-- behind the first numbers, the node of the part that a number's part hangs on -/
theorem from_node {T : TRE} {st : PST} {pd : Nat → Nat} {w : Nat → Int} {k : Nat} (hg : pgd st pd) (hw8 : pw st) (hu : pup st) (hk : k < st.2.2.1) (hp : pre T st w k) (hk1 : w k ≠ -1) (hgrp : ∀ e, e < k → st.2.2.2.1 9 (np st k) ≠ -1 → st.2.2.2.1 9 (np st e) = st.2.2.2.1 9 (np st k) → (w e = -1 ↔ w k = -1)) (h0 : np st k ≠ 0) : ∃ (u j : Nat) (a : Nat), st.2.2.2.1 3 (np st k) = (u : Int) ∧ u < np st k ∧ st.2.2.2.1 11 u = 0 ∧ mt st.2.2.2.1 u < st.1 ∧ st.2.2.2.1 8 (mt st.2.2.2.1 u) = (j : Int) ∧ j < k ∧ np st j = mt st.2.2.2.1 u ∧ w j = (a : Int) ∧ a < T.1 ∧ vlp w st.2.2.2.1 u = (a : Int) := by
  obtain ⟨n1, n2, n3, n4, n5⟩ := np_ok hg hk
  obtain ⟨u, hu3⟩ : ∃ u : Nat, st.2.2.2.1 3 (np st k) = (u : Int) := ⟨(st.2.2.2.1 3 (np st k)).toNat, by have := hu (np st k) (by omega) n1; omega⟩
  have hup : u < np st k := by have := (hw8.2.2.2 (np st k) n1).2.1; omega
  obtain ⟨b1, b2, b3⟩ := (hg.2.1 (np st k) n1).2.2.2.2.2.2.2.2.2 (by omega)
  rw [hu3, Int.toNat_natCast] at b1 b2 b3
  have h11 : st.2.2.2.1 11 u = 0 := Classical.byContradiction (fun q => by
    rw [if_pos (Or.inr q), n4] at b1
    exact absurd b1 (by decide))
  -- the number that is meant
  have meant : ∃ j : Nat, mt st.2.2.2.1 u < st.1 ∧ mt st.2.2.2.1 u ≤ u ∧ st.2.2.2.1 8 (mt st.2.2.2.1 u) = (j : Int) ∧ j < st.2.2.1 ∧ np st j = mt st.2.2.2.1 u ∧ (st.2.2.2.1 9 (mt st.2.2.2.1 u) = -1 ∨ (mt st.2.2.2.1 u = u)) := by
    unfold mt
    by_cases c4 : st.2.2.2.1 1 u = 4
    · obtain ⟨o, o1, o2, o3, o4, o5⟩ := again_num hg (show u < st.1 by omega) (Or.inr c4)
      obtain ⟨j, j1, j2, j3⟩ := np_num hg (show o < st.1 by omega) o5
      rw [if_pos c4, o1, Int.toNat_natCast]
      exact ⟨j, by omega, by omega, j2, j1, j3, Or.inl o3.2⟩
    · have h8 : st.2.2.2.1 8 u ≠ -1 := by
        obtain ⟨k', k1', -⟩ := (hg.2.1 u (by omega)).2.2.2.2.2.2.1 ⟨h11, c4⟩
        omega
      obtain ⟨j, j1, j2, j3⟩ := np_num hg (show u < st.1 by omega) h8
      rw [if_neg c4]
      exact ⟨j, by omega, Nat.le_refl _, j2, j1, j3, Or.inr rfl⟩
  obtain ⟨j, q1, q2, q3, q4, q5, q6⟩ := meant
  have hjk : j < k := np_mono hg q4 hk (by omega)
  obtain ⟨⟨w1, w2⟩, w3, -⟩ := hp j hjk
  have hne : 0 ≤ w j := by
    by_cases c9 : st.2.2.2.1 9 (np st j) = -1
    · exact w3 c9
    · have e : mt st.2.2.2.1 u = u := by
        rcases q6 with q6 | q6
        · rw [q5] at c9; exact absurd q6 c9
        · exact q6
      rw [q5, e] at c9
      have h9k : st.2.2.2.1 9 (np st k) = st.2.2.2.1 9 u := by rw [b2, if_pos c9]
      have := hgrp j hjk (by rw [h9k]; exact c9) (by rw [q5, e, h9k])
      have hn : w j ≠ -1 := fun q => hk1 (this.mp q)
      omega
  refine ⟨u, j, (w j).toNat, hu3, hup, h11, q1, q3, hjk, q5, by omega, by omega, ?_⟩
  unfold vlp vp
  rw [q3, Int.toNat_natCast]
  omega
