/-! the model: is all so -/
abbrev fr3 (st : PST) (p : Nat) : Nat := (st.2.2.2.1 3 p).toNat
/-- the node that a part's relation is told of -/
def ndu (st : PST) (w : Nat → Int) (p : Nat) : Nat := (vlp w st.2.2.2.1 (fr3 st p)).toNat
/-- the relation of part p is so -/
def soP (T : TRE) (st : PST) (w : Nat → Int) (p : Nat) : Prop :=
  st.2.2.2.1 11 (fr3 st p) = 0 → (st.2.2.2.1 9 (fr3 st p) ≠ -1 → gvn st w (st.2.2.2.1 9 (fr3 st p))) →
  (st.2.2.2.1 4 p = 1 → ¬ smo T st w p (ndu st w p)) ∧
  (st.2.2.2.1 4 p = 2 → hnm st p → ¬ gvn st w p → ¬ smo T st w p (ndu st w p)) ∧
  (st.2.2.2.1 4 p ≠ 1 → (st.2.2.2.1 4 p = 2 → hnm st p ∧ gvn st w p) → rlp T st.2.2.2.1 p (ndu st w p) (vlp w st.2.2.2.1 p).toNat)
/-- what is active has a node -/
def vld (T : TRE) (st : PST) (w : Nat → Int) : Prop := ∀ r, r < st.1 → st.2.2.2.1 11 r = 0 → (st.2.2.2.1 9 r = -1 ∨ gvn st w (st.2.2.2.1 9 r)) → ∃ a : Nat, a < T.1 ∧ vlp w st.2.2.2.1 r = (a : Int)
theorem head_iff {st : PST} {pd : Nat → Nat} (hg : pgd st pd) {p : Nat} (hp : p < st.1) (h0 : 0 < p) (hw : pw st) : (st.2.2.2.1 9 p = (p : Int) ↔ st.2.2.2.1 4 p = 2) := by
  obtain ⟨b1, b2, b3⟩ := (hg.2.1 p hp).2.2.2.2.2.2.2.2.2 h0
  have h3 := (hg.2.1 p hp).1
  have hpa := pa_ge pd (pd p) p
  rw [← h3] at hpa
  have h9 := hw.2.2.2 (fr3 st p) (by show (st.2.2.2.1 3 p).toNat < _; omega)
  constructor
  · intro h
    rw [b2] at h
    by_cases c : st.2.2.2.1 9 (st.2.2.2.1 3 p).toNat ≠ -1
    · rw [if_pos c] at h
      have h9' : st.2.2.2.1 9 (st.2.2.2.1 3 p).toNat ≤ (((st.2.2.2.1 3 p).toNat : Nat) : Int) := h9.2.2.2.1
      omega
    · rw [if_neg c] at h
      by_cases c2 : st.2.2.2.1 4 p = 2
      · exact c2
      · rw [if_neg c2] at h; omega
  · intro h
    have := b3 h
    rw [b2, if_neg (fun w => w this.1), if_pos h]
