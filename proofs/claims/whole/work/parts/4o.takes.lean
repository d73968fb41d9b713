/-! the model takes a pattern -/
theorem ptR_l {f : Nat → Int} {L : Nat} : ∀ (k : Nat) (st st' : PST) (here d a : Nat), a ≤ L → 2 * st.2.1 ≤ a + 1 → ptR f L k st here d a = .inr st' → 2 * st'.2.1 ≤ L + 1 := by
  intro k
  induction k with
  | zero => intro st st' here d a _ _ h; cases h
  | succ k ih =>
    intro st st' here d a ha hl h
    have hg := sk_ge f L a
    rw [ptR] at h
    split at h
    · cases h; omega
    · split at h
      · rename_i hcl
        have := tb_in (f := f) (L := L) (p := sk f L a) (by omega)
        exact ih _ _ _ _ _ (by omega) (by omega) h
      · split at h
        · cases h
        · rename_i g hgm
          split at h
          · cases h
          · rename_i o ho
            split at h
            · cases h
            · rename_i r hr
              have hop := opS_ok ho
              have hgg : sk f L a ≤ g.2 := by
                unfold mkR at hgm
                split at hgm
                · cases hgm; exact Nat.le_succ _
                · split at hgm
                  · split at hgm
                    · cases hgm; exact Nat.le_succ _
                    · cases hgm
                  · cases hgm; exact Nat.le_refl _
              have h1 := sk_ge f L g.2
              have h2 := sk_ge f L o.2.2
              have h3 := sk_le (f := f) hop.2.1
              have h4 : sk f L o.2.2 ≤ brR f L (sk f L o.2.2) ∧ brR f L (sk f L o.2.2) ≤ L := by
                unfold brR
                split
                · rename_i q
                  have := tb_in (f := f) (L := L) (p := sk f L o.2.2) (by omega)
                  omega
                · omega
              have h5 := sk_ge f L (brR f L (sk f L o.2.2))
              have h6 := sk_le (f := f) h4.2
              obtain ⟨n1, n2, n3⟩ := nodP_pos h6 (by omega) hr
              exact ih _ _ _ _ _ n2 n3 h
theorem pread_l {f : Nat → Int} {L : Nat} {st : PST} (h : pread f L = .inr st) : 2 * st.2.1 ≤ L + 1 := by
  unfold pread at h
  split at h
  · cases h
  · rename_i r hr
    obtain ⟨n1, n2, n3⟩ := nodP_pos (sk_le (f := f) (Nat.zero_le L)) (Nat.zero_le _) hr
    exact ptR_l _ _ _ _ _ _ n2 n3 h
/-- the model's pattern -/
def mG (st : PST) (σ : zW) : Prop := gI σ 122 18 = (st.1 : Nat) ∧ gI σ 122 32 = (st.2.1 : Nat) ∧ gI σ 122 34 = (st.2.2.1 : Nat) ∧ (∀ q i, q < 12 → (q = 1 → st.2.2.2.1 7 i ≠ st.2.2.2.1 6 i) → i < st.1 → gI σ (132 + q) i = MR st.2.2.2.1 q i) ∧ (∀ i, i < st.2.1 → gL σ 144 i = st.2.2.2.2 i) ∧ ∀ k, k < st.2.2.1 → gI σ 145 k = st.2.2.2.1 14 k
abbrev Xtp : Nat → Nat → Prop := fun k j => (k = 122 ∧ (j = 18 ∨ j = 32 ∨ j = 34)) ∨ (132 ≤ k ∧ k ≤ 145)
theorem m_takesPattern {K : List zF} {st : PST} {pd : Nat → Nat} {σ : zW} (hP : mP st σ) (hw : pw st) (hg : pgd st pd) (hl : st.2.1 ≤ 300)
    (k : ∀ σ' : zW, yFr Xtp σ σ' → mG st σ' → zRet true K none σ') : zEv true (zent 163 [.inr (.inr 122)] :: K) σ := by
  obtain ⟨c, l, n, R, B⟩ := st
  obtain ⟨p1, p2, p3, p4, p5⟩ := hP
  obtain ⟨w1, w2, w3, w4⟩ := hw
  obtain ⟨g1, g2, g3, g4, g5⟩ := hg
  simp only at p1 p2 p3 p4 p5 w1 w2 w3 w4 g1 g2 g3 g4 g5 hl
  have h8 : ∀ i, i < c → R 8 i = -1 ∨ ∃ k : Nat, R 8 i = (k : Int) ∧ k < n ∧ R 14 k = (i : Int) := fun i hi => by
    obtain ⟨-, -, -, -, -, -, a7, a8, -, -⟩ := g2 i hi
    by_cases e : R 11 i = 0 ∧ R 1 i ≠ 4
    · exact Or.inr (a7 e)
    · exact Or.inl (a8 e)
  have loop2 : ∀ (m i : Nat) (σ2 : zW), l - i = m → i ≤ l → yFr Xtp σ σ2 → gI σ2 122 32 = (l : Int) → gI σ2 122 18 = (c : Int) → gI σ2 122 34 = (n : Int) → (∀ q j, q < 12 → j < c → gI σ2 (132 + q) j = gI σ (146 + q) j) → (∀ k, k < n → gI σ2 145 k = R 14 k) → (∀ j, j < i → gL σ2 144 j = B j) → zEv true ((163, 208, [some (.inr (.inr 122)), some (.inl (i : Int))], []) :: K) σ2 := by
    intro m
    induction m with
    | zero =>
      intro i σ2 hm hi hF e1 e2 e3 e4 e5 e6
      rw [zj_163_208, e1, if_pos (by omega)]
      exact k σ2 hF ⟨e2, e1, e3, fun q j q1 q2 q3 => (e4 q j q1 q3).trans (p4 q j q1 q2 q3), fun j hj => e6 j (by have : j < l := hj; omega), e5⟩
    | succ m ih =>
      intro i σ2 hm hi hF e1 e2 e3 e4 e5 e6
      have hcc : 0 ≤ (i : Int) ∧ (i : Int) < 300 := by omega
      rw [zj_163_208, e1, if_neg (by omega), yAnd hcc, yAnd hcc, Int.toNat_natCast, zw_id (by omega) (by omega), show (i : Int) + 1 = ((i + 1 : Nat) : Int) by omega]
      refine ih (i + 1) _ (by omega) (by omega) (hF.L (by omega)) e1 e2 e3 e4 e5 (fun j hj => ?_)
      by_cases e : j = i
      · subst e; rw [gL_sL, if_pos ⟨rfl, rfl⟩, hF.l (by omega)]; exact p5 j (by omega)
      · rw [gL_sL, if_neg (by omega)]; exact e6 j (by omega)
  have loop : ∀ (m i : Nat) (σ2 : zW), c - i = m → i ≤ c → yFr Xtp σ σ2 → gI σ2 122 32 = (l : Int) → gI σ2 122 18 = (c : Int) → gI σ2 122 34 = (n : Int) → (∀ q j, q < 12 → j < i → gI σ2 (132 + q) j = gI σ (146 + q) j) → (∀ k, k < n → R 14 k < (i : Int) → gI σ2 145 k = R 14 k) → zEv true ((163, 26, [some (.inr (.inr 122)), some (.inl (i : Int))], []) :: K) σ2 := by
    intro m
    induction m with
    | zero =>
      intro i σ2 hm hi hF e1 e2 e3 e4 e5
      rw [zj_163_26, e2, if_pos (by omega)]
      refine loop2 l 0 σ2 rfl (Nat.zero_le _) hF e1 e2 e3 (fun q j q1 q2 => e4 q j q1 (by omega)) (fun k hk => e5 k hk ?_) (fun j hj => by omega)
      obtain ⟨i', i1, i2, i3⟩ := g3 k hk
      rw [i2]; omega
    | succ m ih =>
      intro i σ2 hm hi hF e1 e2 e3 e4 e5
      have hcc : 0 ≤ (i : Int) ∧ (i : Int) < 8 := by omega
      have hsrc : ∀ q, q < 12 → gI σ2 (146 + q) i = gI σ (146 + q) i := fun q hq => hF.i (by omega)
      have h150 : gI σ2 150 i = R 8 i := (hF.i (by omega)).trans (p4 4 i (by omega) (by omega) (by omega))
      have h153 : gI σ2 153 i = 0 ∨ gI σ2 153 i = 1 := by
        have e : gI σ2 153 i = R 11 i := (hF.i (by omega)).trans (p4 7 i (by omega) (by omega) (by omega))
        rw [e]; exact (w4 i (by omega)).2.2.2.2
      have hi' : i < c := by omega
      rw [zj_163_26, e2, if_neg (by omega)]
      simp only [Int.toNat_natCast, yAnd hcc, yAnd h153]
      rw [zw_id (by omega) (by omega), show (i : Int) + 1 = ((i + 1 : Nat) : Int) by omega]
      have hrow := rwc_w (t := 132) (c := i) (RW := fun q => gI σ2 (146 + q) i) (q0 := 11) (rwc_w (q0 := 10) (rwc_w (q0 := 9) (rwc_w (q0 := 8) (rwc_w (q0 := 7) (rwc_w (q0 := 6) (rwc_w (q0 := 5) (rwc_w (q0 := 4) (rwc_w (q0 := 3) (rwc_w (q0 := 2) (rwc_w (q0 := 1) (rwc_w (q0 := 0) (rwc_nil (t := 132) (c := i) (RW := fun q => gI σ2 (146 + q) i) (σ := σ2)) rfl) rfl) rfl) rfl) rfl) rfl) rfl) rfl) rfl) rfl) rfl) rfl
      have hfr : yFr (fun k j => 132 ≤ k ∧ k ≤ 143 ∧ j = i) σ2 (sI (sI (sI (sI (sI (sI (sI (sI (sI (sI (sI (sI σ2 (132 + 0) i (gI σ2 (146 + 0) i)) (132 + 1) i (gI σ2 (146 + 1) i)) (132 + 2) i (gI σ2 (146 + 2) i)) (132 + 3) i (gI σ2 (146 + 3) i)) (132 + 4) i (gI σ2 (146 + 4) i)) (132 + 5) i (gI σ2 (146 + 5) i)) (132 + 6) i (gI σ2 (146 + 6) i)) (132 + 7) i (gI σ2 (146 + 7) i)) (132 + 8) i (gI σ2 (146 + 8) i)) (132 + 9) i (gI σ2 (146 + 9) i)) (132 + 10) i (gI σ2 (146 + 10) i)) (132 + 11) i (gI σ2 (146 + 11) i)) := by
        refine ((((((((((((yFr.rf.I ?_).I ?_).I ?_).I ?_).I ?_).I ?_).I ?_).I ?_).I ?_).I ?_).I ?_).I ?_) <;> omega
      generalize hσ3 : sI (sI (sI (sI (sI (sI (sI (sI (sI (sI (sI (sI σ2 (132 + 0) i (gI σ2 (146 + 0) i)) (132 + 1) i (gI σ2 (146 + 1) i)) (132 + 2) i (gI σ2 (146 + 2) i)) (132 + 3) i (gI σ2 (146 + 3) i)) (132 + 4) i (gI σ2 (146 + 4) i)) (132 + 5) i (gI σ2 (146 + 5) i)) (132 + 6) i (gI σ2 (146 + 6) i)) (132 + 7) i (gI σ2 (146 + 7) i)) (132 + 8) i (gI σ2 (146 + 8) i)) (132 + 9) i (gI σ2 (146 + 9) i)) (132 + 10) i (gI σ2 (146 + 10) i)) (132 + 11) i (gI σ2 (146 + 11) i) = σ3 at hrow hfr
      have hF3 : yFr Xtp σ σ3 := hF.trans (hfr.mono (fun k j h => by omega))
      have f1 : gI σ3 122 32 = (l : Int) := (hfr.i (by omega)).trans e1
      have f2 : gI σ3 122 18 = (c : Int) := (hfr.i (by omega)).trans e2
      have f3 : gI σ3 122 34 = (n : Int) := (hfr.i (by omega)).trans e3
      have f4 : ∀ q j, q < 12 → j < i + 1 → gI σ3 (132 + q) j = gI σ (146 + q) j := fun q j hq hj => by
        by_cases e : j = i
        · subst e
          have hmem : q ∈ [11, 10, 9, 8, 7, 6, 5, 4, 3, 2, 1, 0] := by
            have : q = 0 ∨ q = 1 ∨ q = 2 ∨ q = 3 ∨ q = 4 ∨ q = 5 ∨ q = 6 ∨ q = 7 ∨ q = 8 ∨ q = 9 ∨ q = 10 ∨ q = 11 := by omega
            rcases this with rfl | rfl | rfl | rfl | rfl | rfl | rfl | rfl | rfl | rfl | rfl | rfl <;> decide
          exact (rwc_get hrow hmem).trans (hsrc q hq)
        · exact (hfr.i (by omega)).trans (e4 q j hq (by omega))
      have f5 : ∀ k, k < n → R 14 k < (i : Int) → gI σ3 145 k = R 14 k := fun k hk hki => (hfr.i (by omega)).trans (e5 k hk hki)
      rw [h150]
      rcases h8 i hi' with h8 | ⟨k0, k1, k2, k3⟩
      · rw [if_pos h8]
        refine ih (i + 1) σ3 (by omega) (by omega) hF3 f1 f2 f3 f4 (fun k hk hki => f5 k hk ?_)
        obtain ⟨i', i1, i2, i3⟩ := g3 k hk
        have : i' ≠ i := fun w => by rw [w] at i3; omega
        omega
      · have hck : 0 ≤ (k0 : Int) ∧ (k0 : Int) < 4 := by omega
        rw [k1, if_neg (by omega), yAnd hck, Int.toNat_natCast]
        refine ih (i + 1) _ (by omega) (by omega) (hF3.I (by omega)) ?_ ?_ ?_ (fun q j hq hj => ?_) (fun k hk hki => ?_)
        · rw [gI_sI, if_neg (by omega)]; exact f1
        · rw [gI_sI, if_neg (by omega)]; exact f2
        · rw [gI_sI, if_neg (by omega)]; exact f3
        · rw [gI_sI, if_neg (by omega)]; exact f4 q j hq hj
        · by_cases e : k = k0
          · subst e; rw [yGI_hit, k3]
          · rw [gI_sI, if_neg (fun w => e w.2)]
            refine f5 k hk ?_
            obtain ⟨i', i1, i2, i3⟩ := g3 k hk
            have : i' ≠ i := fun w => by rw [w] at i3; omega
            omega
  rw [ze_163, p1]
  refine loop _ 0 _ rfl (Nat.zero_le _) (((yFr.rf.I ?x1).I ?x2).I ?x3) ?_ ?_ ?_ (fun q j _ hj => by omega) (fun k hk hki => ?_)
  case x1 => omega
  case x2 => omega
  case x3 => omega
  · rw [gI_sI, if_neg (by omega), yGI_hit]; exact p2
  · rw [gI_sI, if_neg (by omega), gI_sI, if_neg (by omega), yGI_hit]
  · rw [yGI_hit]; exact p3
  · obtain ⟨i', i1, i2, i3⟩ := g3 k hk
    omega
