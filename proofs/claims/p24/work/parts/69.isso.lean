/-! the model: is a relation so -/
def gvn (st : PST) (w : Nat → Int) (h : Int) : Prop := ∃ p, p < st.1 ∧ st.2.2.2.1 9 p = h ∧ st.2.2.2.1 8 p ≠ -1 ∧ vp w st.2.2.2.1 p ≠ -1
def hnm (st : PST) (h : Int) : Prop := ∃ p, p < st.1 ∧ st.2.2.2.1 9 p = h ∧ st.2.2.2.1 8 p ≠ -1
theorem again_num {st : PST} {pd : Nat → Nat} (hg : pgd st pd) {p : Nat} (hp : p < st.1) (h4 : st.2.2.2.1 1 p = 3 ∨ st.2.2.2.1 1 p = 4) : ∃ o : Nat, st.2.2.2.1 2 p = (o : Int) ∧ o < p ∧ pln st.2.2.2.1 o ∧ st.2.2.2.1 1 o ≠ 4 ∧ st.2.2.2.1 8 o ≠ -1 := by
  obtain ⟨o, o1, o2, o3, o4, o5⟩ := (hg.2.1 p hp).2.2.2.2.1 h4
  obtain ⟨k, k1, -⟩ := (hg.2.1 o (by omega)).2.2.2.2.2.2.1 ⟨o3, o5⟩
  exact ⟨o, o1, o2, ⟨o3, o4⟩, o5, by omega⟩
