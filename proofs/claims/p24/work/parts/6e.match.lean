/-! what a match is -/
def FM (T : TRE) (st : PST) (w : Nat → Int) : Prop := pre T st w st.2.2.1 ∧ ∀ p, 0 < p → p < st.1 → soP T st w p
def MT (T : TRE) (st : PST) (c : Nat) : Prop := c < (T.1 + 1) ^ st.2.2.1 ∧ FM T st (wdc (T.1 + 1) st.2.2.1 c)
theorem pre_dgt {T : TRE} {st : PST} {w : Nat → Int} {m : Nat} (h : pre T st w m) : dgt (T.1 + 1) w m := fun k hk => by
  have := (h k hk).1
  constructor <;> omega
/-- the number that is meant where a number's part hangs -/
theorem from_num {st : PST} {pd : Nat → Nat} (hg : pgd st pd) (hw8 : pw st) (hu : pup st) {k : Nat} (hk : k < st.2.2.1) (h0 : np st k ≠ 0) : ∃ j : Nat, j < k ∧ ∀ w : Nat → Int, vlp w st.2.2.2.1 (fr3 st (np st k)) = w j := by
  obtain ⟨n1, n2, n3, n4, n5⟩ := np_ok hg hk
  obtain ⟨u, hu3⟩ : ∃ u : Nat, st.2.2.2.1 3 (np st k) = (u : Int) := ⟨(st.2.2.2.1 3 (np st k)).toNat, by have := hu (np st k) (by omega) n1; omega⟩
  have hup : u < np st k := by have := (hw8.2.2.2 (np st k) n1).2.1; omega
  obtain ⟨b1, b2, b3⟩ := (hg.2.1 (np st k) n1).2.2.2.2.2.2.2.2.2 (by omega)
  rw [hu3, Int.toNat_natCast] at b1
  have h11 : st.2.2.2.1 11 u = 0 := Classical.byContradiction (fun q => by
    rw [if_pos (Or.inr q), n4] at b1
    exact absurd b1 (by decide))
  have hfr : fr3 st (np st k) = u := by show (st.2.2.2.1 3 (np st k)).toNat = u; rw [hu3, Int.toNat_natCast]
  rw [hfr]
  unfold vlp vp mt
  by_cases c4 : st.2.2.2.1 1 u = 4
  · obtain ⟨o, o1, o2, o3, o4, o5⟩ := again_num hg (show u < st.1 by omega) (Or.inr c4)
    obtain ⟨j, j1, j2, j3⟩ := np_num hg (show o < st.1 by omega) o5
    refine ⟨j, np_mono hg j1 hk (by omega), fun w => ?_⟩
    rw [if_pos c4, o1, Int.toNat_natCast, j2, Int.toNat_natCast]
  · have h8 : st.2.2.2.1 8 u ≠ -1 := by
      obtain ⟨k', k1', -⟩ := (hg.2.1 u (by omega)).2.2.2.2.2.2.1 ⟨h11, c4⟩
      omega
    obtain ⟨j, j1, j2, j3⟩ := np_num hg (show u < st.1 by omega) h8
    refine ⟨j, np_mono hg j1 hk (by omega), fun w => ?_⟩
    rw [if_neg c4, j2, Int.toNat_natCast]
theorem own_num {T : TRE} {st : PST} {pd : Nat → Nat} (hg : pgd st pd) {k a : Nat} {w w' : Nat → Int} (hk : k < st.2.2.1) (h : ∀ j, j < k → w j = w' j) : own T st w (np st k) a ↔ own T st w' (np st k) a := by
  obtain ⟨n1, n2, n3, n4, n5⟩ := np_ok hg hk
  unfold own
  by_cases c3 : st.2.2.2.1 1 (np st k) = 3
  · obtain ⟨o, o1, o2, o3, o4, o5⟩ := again_num hg n1 (Or.inl c3)
    obtain ⟨j, j1, j2, j3⟩ := np_num hg (show o < st.1 by omega) o5
    have hjk : j < k := np_mono hg j1 hk (by omega)
    rw [if_pos c3, if_pos c3, o1, Int.toNat_natCast]
    unfold vp
    rw [j2, Int.toNat_natCast, h j hjk]
  · rw [if_neg c3, if_neg c3, if_neg n5, if_neg n5]
theorem canP_c {T : TRE} {st : PST} {pd : Nat → Nat} (hg : pgd st pd) (hw8 : pw st) (hu : pup st) {k : Nat} {w w' : Nat → Int} (hk : k < st.2.2.1) (h : ∀ j, j ≤ k → w j = w' j) : canP T st w k → canP T st w' k := by
  rintro ⟨h1, h2⟩
  have hkk := h k (Nat.le_refl k)
  refine ⟨fun e he q1 q2 => ?_, fun q => ?_⟩
  · rw [← h e (by omega), ← hkk]; exact h1 e he q1 q2
  · rw [← hkk] at q
    obtain ⟨a1, a2⟩ := h2 q
    rw [← hkk]
    refine ⟨(own_num hg hk (fun j hj => h j (by omega))).mp a1, fun q0 => ?_⟩
    have a3 := a2 q0
    obtain ⟨j, j1, j2⟩ := from_num hg hw8 hu hk q0
    unfold ndu at a3 ⊢
    rw [j2] at a3 ⊢
    rw [← h j (by omega)]; exact a3
theorem pre_c {T : TRE} {st : PST} {pd : Nat → Nat} (hg : pgd st pd) (hw8 : pw st) (hu : pup st) {m : Nat} {w w' : Nat → Int} (hm : m ≤ st.2.2.1) (h : ∀ j, j < m → w j = w' j) (hp : pre T st w m) : pre T st w' m := fun k hk => by
  obtain ⟨p1, p2, p3⟩ := hp k hk
  rw [h k hk] at p1 p2
  exact ⟨p1, p2, canP_c hg hw8 hu (by omega) (fun j hj => h j (by omega)) p3⟩
/-- behind all numbers, what is active has a node -/
theorem pre_vld {T : TRE} {st : PST} {pd : Nat → Nat} {w : Nat → Int} (hg : pgd st pd) (hw8 : pw st) (hp : pre T st w st.2.2.1) : vld T st w := by
  intro r hr h11 hact
  -- the meant part, its number
  have fin : ∀ o, o < st.1 → st.2.2.2.1 8 o ≠ -1 → (st.2.2.2.1 9 o = -1 ∨ gvn st w (st.2.2.2.1 9 o)) → ∃ a : Nat, a < T.1 ∧ vp w st.2.2.2.1 o = (a : Int) := fun o ho h8 hact => by
    obtain ⟨j, j1, j2, j3⟩ := np_num hg ho h8
    have e : vp w st.2.2.2.1 o = w j := by unfold vp; rw [j2, Int.toNat_natCast]
    obtain ⟨⟨w1, w2⟩, w3, w4⟩ := hp j j1
    have hne : 0 ≤ w j := by
      rcases hact with c | c
      · exact w3 (by rw [j3]; exact c)
      · by_cases c9 : st.2.2.2.1 9 o = -1
        · exact w3 (by rw [j3]; exact c9)
        · obtain ⟨o', q1, q2, q3, q4⟩ := c
          obtain ⟨i, i1, i2, i3⟩ := np_num hg q1 q3
          have e' : vp w st.2.2.2.1 o' = w i := by unfold vp; rw [i2, Int.toNat_natCast]
          rw [e'] at q4
          have hn : w j ≠ -1 := by
            rcases Nat.lt_trichotomy i j with c | c | c
            · have := w4.1 i c (by rw [j3]; exact c9) (by rw [i3, j3]; exact q2)
              exact fun q => q4 (this.mpr q)
            · rw [← c]; exact q4
            · have := (hp i i1).2.2.1 j c (by rw [i3, q2]; exact c9) (by rw [i3, j3]; exact q2.symm)
              exact fun q => q4 (this.mp q)
          omega
    exact ⟨(w j).toNat, by omega, by rw [e]; omega⟩
  unfold vlp mt
  by_cases c4 : st.2.2.2.1 1 r = 4
  · obtain ⟨o, o1, o2, o3, o4, o5⟩ := again_num hg hr (Or.inr c4)
    rw [if_pos c4, o1, Int.toNat_natCast]
    exact fin o (by omega) o5 (Or.inl o3.2)
  · have h8 : st.2.2.2.1 8 r ≠ -1 := by
      obtain ⟨k', k1', -⟩ := (hg.2.1 r hr).2.2.2.2.2.2.1 ⟨h11, c4⟩
      omega
    rw [if_neg c4]
    exact fin r hr h8 hact
