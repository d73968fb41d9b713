/-! the search in a planned order, and by trying all -/
def plOK (st : PST) (ℓ : Nat → Nat) (m : Nat) : Prop := m ≤ 4 ∧ (∀ j, j < m → ℓ j < st.2.2.1 ∧ pln st.2.2.2.1 (np st (ℓ j))) ∧ (∀ i j, i < j → j < m → ℓ i ≠ ℓ j) ∧ ∀ k, k < st.2.2.1 → pln st.2.2.2.1 (np st k) → ∃ j, j < m ∧ ℓ j = k
def Ml (ℓ : Nat → Nat) (i k : Nat) : Prop := ∃ j, j < i ∧ ℓ j = k
theorem Ml_s {ℓ : Nat → Nat} {i k : Nat} : Ml ℓ (i + 1) k ↔ (Ml ℓ i k ∨ k = ℓ i) := by
  constructor
  · rintro ⟨j, j1, j2⟩
    rcases Nat.lt_succ_iff_lt_or_eq.mp j1 with x | x
    · exact Or.inl ⟨j, x, j2⟩
    · rw [x] at j2; exact Or.inr j2.symm
  · rintro (⟨j, j1, j2⟩ | x)
    · exact ⟨j, Nat.lt_succ_of_lt j1, j2⟩
    · exact ⟨i, Nat.lt_succ_self i, x.symm⟩
/-- the conditions on the values of the numbers, flat -/
def FL (T : TRE) (st : PST) (v : Nat → Int) : Prop := ∃ t : Nat → Int, (∀ k, st.2.2.1 ≤ k → v k = 0) ∧ ∀ q, q < st.1 → Dq T st v t q
theorem wk_0 {T : TRE} {st : PST} {ah : Prop} {w τ v : Nat → Int} : wk T st ah 0 w τ v ↔ ((ah → agr st st.1 w v) ∧ FL T st v) := by
  constructor
  · rintro ⟨t, t1, t2, t3, t4, t5⟩
    exact ⟨t3, t, t4, fun q hq => t5 q (Nat.zero_le q) hq⟩
  · rintro ⟨h1, t, t4, t5⟩
    exact ⟨t, fun q hq => absurd hq (Nat.not_lt_zero q), fun k _ hk => absurd hk (Nat.not_lt_zero _), h1, t4, fun q _ hq => t5 q hq⟩
def bkR (T : TRE) (st : PST) (ℓ : Nat → Nat) (m i : Nat) (w v : Nat → Int) : Prop := ∃ w' : Nat → Int, (∀ j, j < i → w' (ℓ j) = w (ℓ j)) ∧ (∀ j, i ≤ j → j < m → ∃ a : Nat, a < T.1 ∧ w' (ℓ j) = (a : Int) ∧ optQ T st w' (Ml ℓ j) (ℓ j) st.1 a) ∧ agr st st.1 w' v ∧ FL T st v
theorem optQ_c {T : TRE} {st : PST} {w w' : Nat → Int} {M : Nat → Prop} {k E a : Nat} (h : ∀ k', M k' → w k' = w' k') : optQ T st w M k E a → optQ T st w' M k E a := by
  rintro ⟨h1, h2⟩
  refine ⟨h1, fun r r1 r2 r3 => ⟨fun x1 x2 => ?_, fun x1 x2 => ?_⟩⟩
  · rw [← h _ x2]; exact (h2 r r1 r2 r3).1 x1 x2
  · rw [← h _ x2]; exact (h2 r r1 r2 r3).2 x1 x2
theorem bkR_s {T : TRE} {st : PST} {ℓ : Nat → Nat} {m i : Nat} {w v : Nat → Int} (hl : plOK st ℓ m) (hi : i < m) : bkR T st ℓ m i w v ↔ ∃ u, u < T.1 ∧ optQ T st w (Ml ℓ i) (ℓ i) st.1 u ∧ bkR T st ℓ m (i + 1) (wst w (ℓ i) (u : Int)) v := by
  have hne : ∀ j, j < i → ℓ j ≠ ℓ i := fun j hj => hl.2.2.1 j i hj hi
  constructor
  · rintro ⟨w', h1, h2, h3⟩
    obtain ⟨u, u1, u2, u3⟩ := h2 i (Nat.le_refl i) hi
    refine ⟨u, u1, optQ_c (fun k' hk => ?_) u3, w', fun j hj => ?_, fun j j1 j2 => h2 j (by omega) j2, h3⟩
    · obtain ⟨j, j1, j2⟩ := hk
      rw [← j2]; exact h1 j j1
    · by_cases e : j = i
      · rw [e, wst_e]; exact u2
      · rw [wst_n (hne j (by omega))]; exact h1 j (by omega)
  · rintro ⟨u, u1, u2, w', h1, h2, h3⟩
    have hl' : ∀ j, j < i → w' (ℓ j) = w (ℓ j) := fun j hj => by rw [h1 j (by omega), wst_n (hne j hj)]
    refine ⟨w', hl', fun j j1 j2 => ?_, h3⟩
    by_cases e : j = i
    · refine ⟨u, u1, ?_, ?_⟩
      · rw [e, h1 i (Nat.lt_succ_self i), wst_e]
      · rw [e]
        refine optQ_c (fun k' hk => ?_) u2
        obtain ⟨j', j1', j2'⟩ := hk
        rw [← j2']; exact (hl' j' j1').symm
    · exact h2 j (by omega) j2
theorem bkR_m {T : TRE} {st : PST} {pd : Nat → Nat} {ℓ : Nat → Nat} {m : Nat} {w τ v : Nat → Int} (hl : plOK st ℓ m) : bkR T st ℓ m m w v ↔ wk T st True 0 w τ v := by
  rw [wk_0]
  constructor
  · rintro ⟨w', h1, -, h3, h4⟩
    refine ⟨fun _ k k1 k2 k3 => ?_, h4⟩
    obtain ⟨j, j1, j2⟩ := hl.2.2.2 k k1 k2
    have := h1 j j1
    rw [j2] at this
    rw [← this]; exact h3 k k1 k2 k3
  · rintro ⟨h3, h4⟩
    exact ⟨w, fun _ _ => rfl, fun j j1 j2 => by omega, h3 trivial, h4⟩
def Xb (ℓ : Nat → Nat) (tf i k j : Nat) : Prop := k = 46 ∨ k = 47 ∨ (k = 48 ∧ ¬ Ml ℓ i j) ∨ (k = tf ∧ j = 5) ∨ k = tf + 1
theorem Xb_b {ℓ : Nat → Nat} {tf i k j : Nat} (htf : zFo tf) (h : Xb ℓ tf i k j) : 46 ≤ k ∧ k ≤ 53 ∧ k ≠ 49 := by
  have : tf = 50 ∨ tf = 52 := htf
  unfold Xb at h
  omega
theorem Xb_48 {ℓ : Nat → Nat} {tf i j : Nat} (htf : zFo tf) (h : Xb ℓ tf i 48 j) : ¬ Ml ℓ i j := by
  have ht : tf = 50 ∨ tf = 52 := htf
  rcases h with h | h | h | h | h
  · omega
  · omega
  · exact h.2
  · omega
  · omega
theorem Xb_mono {ℓ : Nat → Nat} {tf i k j : Nat} (h : Xb ℓ tf (i + 1) k j) : Xb ℓ tf i k j := by
  rcases h with h | h | h | h | h
  · exact Or.inl h
  · exact Or.inr (Or.inl h)
  · exact Or.inr (Or.inr (Or.inl ⟨h.1, fun x => h.2 (Ml_s.mpr (Or.inl x))⟩))
  · exact Or.inr (Or.inr (Or.inr (Or.inl h)))
  · exact Or.inr (Or.inr (Or.inr (Or.inr h)))
def bdOn (t tp tf : Nat) (T : TRE) (st : PST) (pd ℓ : Nat → Nat) (m i : Nat) (w : Nat → Int) (P : Nat → Prop) (σ : zW) : Prop := sAll t tp T st pd σ ∧ gI σ 41 9 = 1 ∧ gR σ 41 12 = tf ∧ fdS tf (T.1 + 1) st.2.2.1 P σ ∧ gI σ 41 8 = (m : Int) ∧ (∀ j, j < m → gI σ 49 j = (ℓ j : Int)) ∧ ∀ k, Ml ℓ i k → gI σ 48 k = w k ∧ ∃ a : Nat, a < T.1 ∧ w k = (a : Int)
theorem bdOn_fr {t tp tf : Nat} {T : TRE} {st : PST} {pd ℓ : Nat → Nat} {m i : Nat} {w : Nat → Int} {P Q : Nat → Prop} {σ σ' : zW} (htf : zFo tf) (h : bdOn t tp tf T st pd ℓ m i w P σ) (hF : yFr (Xb ℓ tf i) σ σ') (hQ : fdS tf (T.1 + 1) st.2.2.1 Q σ') : bdOn t tp tf T st pd ℓ m i w Q σ' := by
  obtain ⟨h1, h2, h3, h4, h5, h6, h7⟩ := h
  refine ⟨sAll_fr h1 hF (fun k j x => Or.inr ⟨(Xb_b htf x).1, (Xb_b htf x).2.1⟩), (hF.i (fun x => by have := Xb_b htf x; omega)).trans h2, (hF.r (fun x => by have := Xb_b htf x; omega)).trans h3, hQ, (hF.i (fun x => by have := Xb_b htf x; omega)).trans h5, fun j hj => (hF.i (fun x => by have := Xb_b htf x; omega)).trans (h6 j hj), fun k hk => ?_⟩
  obtain ⟨a1, a2⟩ := h7 k hk
  exact ⟨(hF.i (fun x => Xb_48 htf x hk)).trans a1, a2⟩
def bSp (t tp tf : Nat) (T : TRE) (st : PST) (pd ℓ : Nat → Nat) (m i : Nat) : Prop := ∀ (K : List zF) (w : Nat → Int) (P : Nat → Prop) (σ : zW), K.length + (m - i) + 12 ≤ 60 → bdOn t tp tf T st pd ℓ m i w P σ → (∀ (σ' : zW) (Q : Nat → Prop), yFr (Xb ℓ tf i) σ σ' → fdS tf (T.1 + 1) st.2.2.1 Q σ' → (∀ c, Q c ↔ (P c ∨ ∃ v, bkR T st ℓ m i w v ∧ c = pcn (T.1 + 1) v st.2.2.1)) → zRet true K none σ') → zEv true (zent 74 [.inr (.inr 41), .inl (i : Int), .inl ((bs (Ml ℓ i) 4 : Nat) : Int)] :: K) σ
theorem bind_end {t tp tf m : Nat} {T : TRE} {st : PST} {pd ℓ : Nat → Nat} (hgT : tgd T) (hg : pgd st pd) (hw8 : pw st) (hu : pup st) (htf : zFo tf) (hl : plOK st ℓ m) : bSp t tp tf T st pd ℓ m m := by
  intro K w P σ hK hW k
  have htf' : tf = 50 ∨ tf = 52 := htf
  obtain ⟨h1, h2, h3, h4, h5, h6, h7⟩ := hW
  have hc := hw8.1
  rw [ze_74 (by omega), h5, if_neg (Int.lt_irrefl _)]
  have hWk := c_walk (t := t) (tp := tp) (ah := True) hgT hg hw8 hu htf st.1 0 (Nat.le_of_eq (Nat.sub_zero _)) (Nat.zero_le _)
  refine hWk _ w (fun _ => 0) P σ (by show K.length + 1 + (st.1 + 2) ≤ 60; omega) ⟨h1, by rw [zb_t trivial]; exact h2, h3, h4, fun k _ hk => absurd hk (Nat.not_lt_zero _), fun k _ _ hk => absurd hk (Nat.not_lt_zero _), fun _ k k1 k2 k3 => ?_, fun q hq => absurd hq (Nat.not_lt_zero q)⟩ (fun q hq => absurd hq (Nat.not_lt_zero q)) (fun σ' Q hF hQ hQc => ?_)
  · obtain ⟨j, j1, j2⟩ := hl.2.2.2 k k1 k2
    exact h7 k ⟨j, j1, j2⟩
  · rw [zr_74_13]
    refine k σ' Q (hF.mono (fun k j x => ?_)) hQ (fun c => ?_)
    · rcases x with x | x | x | x | x
      · exact Or.inl x
      · exact Or.inr (Or.inl x.1)
      · refine Or.inr (Or.inr (Or.inl ⟨x.1, fun y => ?_⟩))
        obtain ⟨j', j1, j2⟩ := y
        have := (hl.2.1 j' j1).2
        rw [j2] at this
        exact x.2.2 trivial this
      · exact Or.inr (Or.inr (Or.inr (Or.inl x)))
      · exact Or.inr (Or.inr (Or.inr (Or.inr x)))
    · rw [hQc c]
      constructor
      · rintro (x | ⟨v, v1, v2⟩)
        · exact Or.inl x
        · exact Or.inr ⟨v, (bkR_m (pd := pd) hl).mpr v1, v2⟩
      · rintro (x | ⟨v, v1, v2⟩)
        · exact Or.inl x
        · exact Or.inr ⟨v, (bkR_m (pd := pd) hl).mp v1, v2⟩
theorem bdOn_put {t tp tf m i u : Nat} {T : TRE} {st : PST} {pd ℓ : Nat → Nat} {w : Nat → Int} {P : Nat → Prop} {σ : zW} (htf : zFo tf) (hl : plOK st ℓ m) (hi : i < m) (hu : u < T.1) (h : bdOn t tp tf T st pd ℓ m i w P σ) : yFr (Xb ℓ tf i) σ (sI σ 48 (ℓ i) (u : Int)) ∧ bdOn t tp tf T st pd ℓ m (i + 1) (wst w (ℓ i) (u : Int)) P (sI σ 48 (ℓ i) (u : Int)) := by
  have htf' : tf = 50 ∨ tf = 52 := htf
  have hnm : ¬ Ml ℓ i (ℓ i) := fun x => by
    obtain ⟨j, j1, j2⟩ := x
    exact hl.2.2.1 j i j1 hi j2
  have hF1 : yFr (fun k j => k = 48 ∧ j = ℓ i) σ (sI σ 48 (ℓ i) (u : Int)) := yFr.rf.I ⟨rfl, rfl⟩
  have hF : yFr (Xb ℓ tf i) σ (sI σ 48 (ℓ i) (u : Int)) := hF1.mono (fun k j x => Or.inr (Or.inr (Or.inl ⟨x.1, by rw [x.2]; exact hnm⟩)))
  have h48 : gI (sI σ 48 (ℓ i) (u : Int)) 48 (ℓ i) = (u : Int) := yGI_hit
  have hQ := fdS_fr h.2.2.2.1 hF1 (fun k j x => by omega)
  obtain ⟨h1, h2, h3, h4, h5, h6, h7⟩ := bdOn_fr htf h hF hQ
  refine ⟨hF, h1, h2, h3, h4, h5, h6, fun k hk => ?_⟩
  by_cases e : k = ℓ i
  · rw [e, wst_e]; exact ⟨h48, u, hu, rfl⟩
  · rw [wst_n e]
    rcases Ml_s.mp hk with x | x
    · exact h7 k x
    · exact absurd x e
theorem bind_loop {K : List zF} {t tp tf m i : Nat} {T : TRE} {st : PST} {pd ℓ : Nat → Nat} {w : Nat → Int} {P O : Nat → Prop} {σ : zW} (hgT : tgd T) (hw8 : pw st) (htf : zFo tf) (hl : plOK st ℓ m) (hi : i < m) (hS : bSp t tp tf T st pd ℓ m (i + 1)) (hK : K.length + (m - i) + 12 ≤ 60)
    (k : ∀ (σ' : zW) (Q : Nat → Prop), yFr (Xb ℓ tf i) σ σ' → fdS tf (T.1 + 1) st.2.2.1 Q σ' → (∀ c, Q c ↔ (P c ∨ ∃ u, u < T.1 ∧ O u ∧ ∃ v, bkR T st ℓ m (i + 1) (wst w (ℓ i) (u : Int)) v ∧ c = pcn (T.1 + 1) v st.2.2.1)) → zRet true K none σ') :
    ∀ (d u : Nat) (P2 : Nat → Prop) (σ2 : zW), T.1 - u = d → u ≤ T.1 → yFr (Xb ℓ tf i) σ σ2 → bdOn t tp tf T st pd ℓ m i w P2 σ2 → (∀ c, P2 c ↔ (P c ∨ ∃ u', u' < u ∧ O u' ∧ ∃ v, bkR T st ℓ m (i + 1) (wst w (ℓ i) (u' : Int)) v ∧ c = pcn (T.1 + 1) v st.2.2.1)) → zEv true ((74, 32, [some (.inr (.inr 41)), some (.inl (i : Int)), some (.inl ((bs (Ml ℓ i) 4 : Nat) : Int)), some (.inl (ℓ i : Int)), some (.inl ((bs O T.1 : Nat) : Int)), some (.inl (u : Int))], []) :: K) σ2 := by
  have hn := hgT.1.1
  have hN := hw8.2.1
  have hm := hl.1
  have hli := (hl.2.1 i hi).1
  have hcl : 0 ≤ (ℓ i : Int) ∧ (ℓ i : Int) < 4 := by omega
  have hi1 : ∀ _ : Unit, w32 ((i : Int) + 1) = ((i + 1 : Nat) : Int) := fun _ => w_s (by omega)
  have hmask : ∀ _ : Unit, zor ((bs (Ml ℓ i) 4 : Nat) : Int) (zshl 1 (ℓ i : Int)) = ((bs (Ml ℓ (i + 1)) 4 : Nat) : Int) := fun _ => by
    rw [zshl_all (ℓ i) (by omega), zor_nat (bs_lt31 _ (by decide)) (Nat.pow_lt_pow_right (by decide) (by omega)), bs_add (by omega)]
    exact bsI (fun a _ => Ml_s.symm)
  intro d
  induction d with
  | zero =>
    intro u P2 σ2 hd hu' hF hW hP
    have eu : u = T.1 := by omega
    obtain ⟨⟨⟨s1, s2, s3, s4, s5, s6⟩, -, -⟩, -, -, w4, -⟩ := hW
    rw [zj_74_32 (by omega) (by rw [s3]; exact s1), s3, s5.1.1, eu, if_pos (Int.le_refl _)]
    refine k σ2 P2 hF w4 (fun c => ?_)
    rw [hP c, eu]
  | succ d ih =>
    intro u P2 σ2 hd hu' hF hW hP
    have hu1 : u < T.1 := by omega
    have hnu : ¬ (T.1 : Int) ≤ (u : Int) := by omega
    have heu : ∀ _ : Unit, w32 ((u : Int) + 1) = ((u + 1 : Nat) : Int) := fun _ => w_s (by clear hi1 hmask; omega)
    have hd1 : T.1 - (u + 1) = d := by clear heu hi1 hmask; omega
    have ht := bs_test (P := O) hn hu1
    have hsa := hW.1
    obtain ⟨⟨s1, s2, s3, s4, s5, s6⟩, -, -⟩ := hsa
    rw [zj_74_32 (by clear heu hi1 hmask ht; omega) (by rw [s3]; exact s1), s3, s5.1.1, if_neg hnu]
    rcases Classical.em (O u) with o | o
    · rw [if_neg (fun x => ht.mp x o), yAnd hcl, Int.toNat_natCast, (hi1 ()), (hmask ())]
      obtain ⟨hF3, hW3⟩ := bdOn_put htf hl hi hu1 hW
      generalize sI σ2 48 (ℓ i) (u : Int) = σ3 at hF3 hW3 ⊢
      refine hS _ _ P2 σ3 (by show K.length + 1 + (m - (i + 1)) + 12 ≤ 60; clear heu hi1 hmask ht; omega) hW3 (fun σ4 Q hF4 hQ hQc => ?_)
      rw [zr_74_74, (heu ())]
      have hF24 : yFr (Xb ℓ tf i) σ2 σ4 := hF3.trans (hF4.mono (fun k j x => Xb_mono x))
      refine ih (u + 1) Q σ4 hd1 hu1 (hF.trans hF24) (bdOn_fr htf hW hF24 hQ) (fun c => ?_)
      rw [hQc c, hP c]
      constructor
      · rintro ((x | ⟨b, b1, b2⟩) | x)
        · exact Or.inl x
        · exact Or.inr ⟨b, Nat.lt_succ_of_lt b1, b2⟩
        · exact Or.inr ⟨u, Nat.lt_succ_self u, o, x⟩
      · rintro (x | ⟨b, b1, b2⟩)
        · exact Or.inl (Or.inl x)
        · rcases Nat.lt_succ_iff_lt_or_eq.mp b1 with y | y
          · exact Or.inl (Or.inr ⟨b, y, b2⟩)
          · rw [y] at b2; exact Or.inr b2.2
    · rw [if_pos (ht.mpr o), (heu ())]
      refine ih (u + 1) P2 σ2 hd1 hu1 hF hW (fun c => ?_)
      rw [hP c]
      constructor
      · rintro (x | ⟨b, b1, b2⟩)
        · exact Or.inl x
        · exact Or.inr ⟨b, Nat.lt_succ_of_lt b1, b2⟩
      · rintro (x | ⟨b, b1, b2⟩)
        · exact Or.inl x
        · rcases Nat.lt_succ_iff_lt_or_eq.mp b1 with y | y
          · exact Or.inr ⟨b, y, b2⟩
          · rw [y] at b2; exact absurd b2.1 o
theorem c_bind {t tp tf m : Nat} {T : TRE} {st : PST} {pd ℓ : Nat → Nat} (hgT : tgd T) (hg : pgd st pd) (hw8 : pw st) (hu : pup st) (h1c : 1 ≤ st.1) (htf : zFo tf) (hl : plOK st ℓ m) : ∀ (d i : Nat), m - i = d → i ≤ m → bSp t tp tf T st pd ℓ m i := by
  have hm := hl.1
  have hN := hw8.2.1
  intro d
  induction d with
  | zero =>
    intro i hd hi
    have e : i = m := by omega
    rw [e]; exact bind_end hgT hg hw8 hu htf hl
  | succ d ih =>
    intro i hd hi K w P σ hK hW k
    have hi1 : i < m := by omega
    have hci : 0 ≤ (i : Int) ∧ (i : Int) < 4 := by omega
    have hlt : (i : Int) < (m : Int) := by omega
    have hli := (hl.2.1 i hi1).1
    obtain ⟨h1, h2, h3, h4, h5, h6, h7⟩ := id hW
    rw [ze_74 (by omega), h5, if_pos hlt, yAnd hci, Int.toNat_natCast, h6 i hi1, c_options (w := w) (by show K.length + 1 + 1 < 60; omega) hgT hg hw8 hu h1c h1 hli h7 rfl, zr_74_27]
    refine bind_loop (w := w) (P := P) hgT hw8 htf hl hi1 (ih (i + 1) (by omega) hi1) hK (fun σ' Q hF hQ hQc => k σ' Q hF hQ (fun c => ?_)) T.1 0 P σ (Nat.sub_zero _) (Nat.zero_le _) yFr.rf hW (fun c => ⟨fun x => Or.inl x, fun x => ?_⟩)
    · rw [hQc c]
      constructor
      · rintro (x | ⟨u, u1, u2, v, v1, v2⟩)
        · exact Or.inl x
        · exact Or.inr ⟨v, (bkR_s hl hi1).mpr ⟨u, u1, u2, v1⟩, v2⟩
      · rintro (x | ⟨v, v1, v2⟩)
        · exact Or.inl x
        · obtain ⟨u, u1, u2, u3⟩ := (bkR_s hl hi1).mp v1
          exact Or.inr ⟨u, u1, u2, v, u3, v2⟩
    · rcases x with x | ⟨b, b1, -⟩
      · exact x
      · exact absurd b1 (Nat.not_lt_zero b)
