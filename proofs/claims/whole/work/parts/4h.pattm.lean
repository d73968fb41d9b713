/-! places behind labels and names; a name's part in the model -/
theorem lbR_ok {f : Nat → Int} {L : Nat} : ∀ (n a l : Nat) (B : Nat → Int64) (r : Nat × (Nat → Int64) × Nat), lbR f L n a l B = .inr r → a ≤ L → 2 * l ≤ a → a < r.2.2 ∧ r.2.2 ≤ L ∧ 2 * r.1 ≤ r.2.2 + 1 ∧ l < r.1 := by
  intro n
  induction n with
  | zero => intro a l B r h; cases h
  | succ n ih =>
    intro a l B r h haL hl
    rw [lbR] at h
    cases hr : rdl f L a with
    | inl e => rw [hr] at h; cases h
    | inr x =>
      obtain ⟨v, q⟩ := x
      rw [hr] at h
      simp only at h
      obtain ⟨g1, g2, -⟩ := rdl_ok hr
      have hs2 := sk_le (f := f) g2
      have hg2 := sk_ge f L q
      split at h
      · rename_i h1
        have := tb_in (f := f) (L := L) (p := sk f L q) (by omega)
        have := ih _ _ _ _ h (by omega) (by omega)
        omega
      · cases h
        exact ⟨by dsimp only; omega, hs2, by dsimp only; omega, by dsimp only; omega⟩
theorem tolR_ok {f : Nat → Int} {L a : Nat} {R : PRW} {r : Int × Nat} (h : tolR f L R a = .inr r) : a < r.2 ∧ r.2 ≤ L := by
  unfold tolR at h
  have hg := sk_ge f L a
  cases hn : nmA f L a with
  | inl p => rw [hn] at h; cases h
  | inr x =>
    obtain ⟨x, q⟩ := x
    obtain ⟨n1, n2, n3, n4⟩ := nmA_ok hn
    rw [hn] at h
    simp only at h
    split at h
    · cases h
    · cases h; exact ⟨by dsimp only; omega, by dsimp only; omega⟩
theorem givR_ok {f : Nat → Int} {L a : Nat} {R : PRW} {r : Int × Nat} (h : givR f L R a = .inr r) (haL : a ≤ L) : a ≤ r.2 ∧ r.2 ≤ L := by
  unfold givR at h
  have hg := sk_ge f L a
  have hs := sk_le (f := f) haL
  split at h
  · have hg2 := sk_ge f L (sk f L a + 1)
    cases hn : nmA f L (sk f L a + 1) with
    | inl p => rw [hn] at h; cases h
    | inr x =>
      obtain ⟨x, q⟩ := x
      obtain ⟨n1, n2, n3, n4⟩ := nmA_ok hn
      rw [hn] at h
      simp only at h
      split at h
      · cases h; exact ⟨by dsimp only; omega, by dsimp only; omega⟩
      · cases h
  · cases h; exact ⟨hg, hs⟩
theorem m_named {K : List zF} {st : PST} {x : Nat} {σ : zW} (hx : x < 26) (hc : st.1 < 8) (hw : pw st) (hnw : nw st) (h35 : gI σ 122 35 = ((st.1 + 1 : Nat) : Int)) (h151 : ∀ i, i < st.1 → gI σ 151 i = st.2.2.2.1 15 i) (h153 : ∀ i, i < st.1 → gI σ 153 i = st.2.2.2.1 11 i) (h152 : ∀ i, i < st.1 → gI σ 152 i = st.2.2.2.1 9 i + 1) (hcc : gI σ 151 st.1 = 0) : zEv true (zent 155 [.inr (.inr 122), .inr (.inl (zi2l ((x : Nat) + 97)))] :: K) σ = zRet true K (some (.inl (if st.2.2.2.1 13 x = -1 then -1 else if pln st.2.2.2.1 (st.2.2.2.1 13 x).toNat then st.2.2.2.1 13 x else -2))) σ := by
  have hN : ∀ i, i < st.1 + 1 → gI σ 151 i = (fun i => if i = st.1 then 0 else st.2.2.2.1 15 i) i ∧ 0 ≤ (fun i => if i = st.1 then 0 else st.2.2.2.1 15 i) i ∧ (fun i => if i = st.1 then 0 else st.2.2.2.1 15 i) i < 200 := by
    intro i hi
    dsimp only
    by_cases e : i = st.1
    · rw [if_pos e, e]; exact ⟨hcc, by omega, by omega⟩
    · rw [if_neg e]; exact ⟨h151 i (by omega), hnw.1 i (by omega)⟩
  rw [ze_155]
  rcases hnw.2 x hx with ⟨v1, v2⟩ | ⟨i, i1, i2, i3, i4⟩
  · rw [if_pos v1]
    refine m_named_no (C := st.1 + 1) (N := fun i => if i = st.1 then 0 else st.2.2.2.1 15 i) (by omega) hx h35 hN _ 0 (-1) rfl (fun j _ j2 => ?_)
    by_cases e : j = st.1
    · rw [if_pos e]; omega
    · rw [if_neg e]; exact v2 j (by omega)
  · have h9 := (hw.2.2.2 i i1).2.2.1
    have key := m_named_yes (K := K) (σ := σ) (C := st.1 + 1) (i0 := i) (N := fun i => if i = st.1 then 0 else st.2.2.2.1 15 i) (by omega) hx h35 hN (by omega) (by rw [if_neg (by omega)]; exact i3) (fun j j1 j2 => by
      by_cases e : j = st.1
      · rw [if_pos e]; omega
      · rw [if_neg e]; exact i4 j (by omega) j2) _ 0 (-1) rfl (Nat.zero_le _)
    refine key.trans ?_
    rw [if_neg (show ¬ st.2.2.2.1 13 x = -1 by omega), i2, Int.toNat_natCast, h153 i i1, h152 i i1]
    by_cases hp : pln st.2.2.2.1 i
    · rw [if_pos ⟨hp.1, by rw [hp.2]; omega⟩, if_pos hp]
    · rw [if_neg (fun w => hp ⟨w.1, by omega⟩), if_neg hp]
theorem hd_m {R : PRW} {here mk : Int} {c : Nat} (hmk : mk = 0 ∨ mk = 1 ∨ mk = 2) (h2 : mk = 2 → here = -1 ∨ R 9 here.toNat = -1) : hdR R here mk c + 1 = if ¬ sgR mk = 63 then (if here = -1 then 0 else R 9 here.toNat + 1) else (c : Int) + 1 := by
  unfold hdR
  rcases hmk with h | h | h
  · have e : sgR mk = 0 := by rw [h]; rfl
    rw [e, if_pos (show ¬ (0 : Int) = 63 by omega)]
    by_cases w : here = -1
    · rw [if_neg (fun q => q.1 w), if_neg (by omega), if_pos w]; rfl
    · rw [if_neg w]
      by_cases w2 : R 9 here.toNat = -1
      · rw [if_neg (fun q => q.2 w2), if_neg (by omega), w2]
      · rw [if_pos ⟨w, w2⟩]
  · have e : sgR mk = 33 := by rw [h]; rfl
    rw [e, if_pos (show ¬ (33 : Int) = 63 by omega)]
    by_cases w : here = -1
    · rw [if_neg (fun q => q.1 w), if_neg (by omega), if_pos w]; rfl
    · rw [if_neg w]
      by_cases w2 : R 9 here.toNat = -1
      · rw [if_neg (fun q => q.2 w2), if_neg (by omega), w2]
      · rw [if_pos ⟨w, w2⟩]
  · have e : sgR mk = 63 := by rw [h]; rfl
    rw [e, if_neg (show ¬ ¬ (63 : Int) = 63 from fun q => q rfl), if_neg (fun q => by rcases h2 h with w | w; exact q.1 w; exact q.2 w), if_pos h]
