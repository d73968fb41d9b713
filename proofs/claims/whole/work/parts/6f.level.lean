/-! the model finds: one level -/
def wst (w : Nat → Int) (k : Nat) (x : Int) : Nat → Int := fun j => if j = k then x else w j
theorem wst_e {w : Nat → Int} {k : Nat} {x : Int} : wst w k x k = x := if_pos rfl
theorem wst_n {w : Nat → Int} {k j : Nat} {x : Int} (h : j ≠ k) : wst w k x j = w j := if_neg h
theorem pcn_wst {r : Nat} {w : Nat → Int} {k u : Nat} : pcn r (wst w k ((u : Int) - 1)) (k + 1) = pcn r w k * r + u := by
  rw [pcn, wst_e, pcn_congr (w' := w) k (fun j hj => wst_n (by omega))]
  omega
theorem pre_le {T : TRE} {st : PST} {w : Nat → Int} {m m' : Nat} (h : pre T st w m) (hm : m' ≤ m) : pre T st w m' := fun k hk => h k (by omega)
theorem blk_no {T : TRE} {st : PST} {pd : Nat → Nat} {w : Nat → Int} {k : Nat} (hg : pgd st pd) (hw8 : pw st) (hu : pup st) (hk : k < st.2.2.1) (hd : dgt (T.1 + 1) w (k + 1)) (hn : ¬ pre T st w (k + 1)) : ∀ c, pcn (T.1 + 1) w (k + 1) * (T.1 + 1) ^ (st.2.2.1 - 1 - k) ≤ c → c < (pcn (T.1 + 1) w (k + 1) + 1) * (T.1 + 1) ^ (st.2.2.1 - 1 - k) → ¬ MT T st c := fun c h1 h2 hM => by
  have e : st.2.2.1 - (k + 1) = st.2.2.1 - 1 - k := by omega
  have h := wdc_block (r := T.1 + 1) (N := st.2.2.1) (k := k + 1) (c := c) (w := w) (Nat.succ_pos _) hk hd hM.1 (by rw [e]; exact h1) (by rw [e]; exact h2)
  exact hn (pre_c hg hw8 hu hk h (pre_le hM.2.1 hk))
theorem pre_ext {T : TRE} {st : PST} {pd : Nat → Nat} {w : Nat → Int} {k : Nat} {x : Int} (hg : pgd st pd) (hw8 : pw st) (hu : pup st) (hk : k < st.2.2.1) (hp : pre T st w k) (hx : -1 ≤ x ∧ x < (T.1 : Int)) (h9 : st.2.2.2.1 9 (np st k) = -1 → 0 ≤ x) (hc : canP T st (wst w k x) k) : pre T st (wst w k x) (k + 1) := fun j hj => by
  by_cases e : j = k
  · rw [e, wst_e]; exact ⟨hx, h9, hc⟩
  · exact pre_c hg hw8 hu (show k ≤ st.2.2.1 by omega) (fun i hi => (wst_n (by omega)).symm) hp j (by omega)
theorem blk_pow {P r e : Nat} : (P * r + 0) * r ^ e = P * r ^ (e + 1) := by rw [Nat.add_zero, Nat.pow_succ, Nat.mul_assoc, Nat.mul_comm r]
theorem blk_pow1 {P r e : Nat} : (P * r + r) * r ^ e = (P + 1) * r ^ (e + 1) := by rw [show P * r + r = (P + 1) * r by rw [Nat.add_mul, Nat.one_mul], Nat.pow_succ, Nat.mul_assoc, Nat.mul_comm r]
theorem pow_21 {n N : Nat} (hn : n ≤ 20) (hN : N ≤ 4) : (n + 1) ^ N ≤ 194481 := by
  have h1 : (n + 1) ^ N ≤ 21 ^ N := Nat.pow_le_pow_left (by omega) N
  have h2 : (21 : Nat) ^ N ≤ 21 ^ 4 := Nat.pow_le_pow_right (by omega) hN
  have h3 : (21 : Nat) ^ 4 = 194481 := by decide
  omega
abbrev fXf (k j : Nat) : Prop := (174 ≤ k ∧ k ≤ 177) ∨ (k = 122 ∧ j = 73)
/-- level k of the search, digit u next -/
def fLv (q : Nat) (T : TRE) (st : PST) (w : Nat → Int) (k : Nat) (P : Nat) (most : Int) (σ : zW) : Prop := mOn q T st σ ∧ mVm st w k σ ∧ (∀ j, j < k → gI σ 176 j = w j) ∧ fST T st P σ ∧ (most < 0 ∨ gI σ 122 73 ≤ most)
theorem fLv_skip {q : Nat} {T : TRE} {st : PST} {w : Nat → Int} {k P P' : Nat} {most : Int} {σ : zW} (h : fLv q T st w k P most σ) (hP : P ≤ P') (hn : ∀ c, P ≤ c → c < P' → ¬ MT T st c) : fLv q T st w k P' most σ := ⟨h.1, h.2.1, h.2.2.1, fST_skip h.2.2.2.1 hP hn, h.2.2.2.2⟩
/-- the node tried is written -/
theorem fLv_put {q : Nat} {T : TRE} {st : PST} {pd : Nat → Nat} {w : Nat → Int} {k P : Nat} {most x : Int} {σ : zW} (hg : pgd st pd) (hk : k < st.2.2.1) (h : fLv q T st w k P most σ) : fLv q T st (wst w k x) (k + 1) P most (sI (sI σ 176 k x) 174 (np st k) x) := by
  obtain ⟨h1, h2, h3, h4, h5⟩ := h
  have hF : yFr (fun k' j => (k' = 176 ∧ j = k) ∨ (k' = 174 ∧ j = np st k)) σ (sI (sI σ 176 k x) 174 (np st k) x) := (yFr.rf.I (Or.inl ⟨rfl, rfl⟩)).I (Or.inr ⟨rfl, rfl⟩)
  have e1 : gI (sI (sI σ 176 k x) 174 (np st k) x) 174 (np st k) = x := yGI_hit
  have e2 : gI (sI (sI σ 176 k x) 174 (np st k) x) 176 k = x := by rw [gI_sI, if_neg (by omega), gI_sI, if_pos ⟨rfl, rfl⟩]
  refine ⟨mOn_fr h1 hF (fun k' j w => by omega), fun j hj => ?_, fun j hj => ?_, fST_fr h4 hF (fun k' j w => by omega), ?_⟩
  · by_cases e : j = k
    · rw [e, wst_e, e1]
    · rw [wst_n e]
      have := np_lt hg (show j < k by omega) hk
      exact (hF.i (by omega)).trans (h2 j (by omega))
  · by_cases e : j = k
    · rw [e, wst_e, e2]
    · rw [wst_n e]
      exact (hF.i (by omega)).trans (h3 j (by omega))
  · rw [hF.i (by omega)]; exact h5
theorem fLv_low {q : Nat} {T : TRE} {st : PST} {w : Nat → Int} {k P : Nat} {x most : Int} {σ : zW} (h : fLv q T st (wst w k x) (k + 1) P most σ) : fLv q T st w k P most σ ∧ gI σ 176 k = x := by
  obtain ⟨h1, h2, h3, h4, h5⟩ := h
  refine ⟨⟨h1, fun j hj => ?_, fun j hj => ?_, h4, h5⟩, ?_⟩
  · rw [h2 j (by omega), wst_n (by omega)]
  · rw [h3 j (by omega), wst_n (by omega)]
  · rw [h3 k (by omega), wst_e]
theorem fLv_fr {q : Nat} {T : TRE} {st : PST} {w : Nat → Int} {k P : Nat} {most : Int} {σ σ' : zW} {X : Nat → Nat → Prop} (h : fLv q T st w k P most σ) (hF : yFr X σ σ') (hX : ∀ k' j, X k' j → k' = 175 ∨ (k' = 176 ∧ k ≤ j)) : fLv q T st w k P most σ' := by
  obtain ⟨h1, h2, h3, h4, h5⟩ := h
  refine ⟨mOn_fr h1 hF (fun k' j w => by have := hX _ _ w; omega), fun j hj => (hF.i (fun w => by have := hX _ _ w; omega)).trans (h2 j hj), fun j hj => (hF.i (fun w => by have := hX _ _ w; omega)).trans (h3 j hj), fST_fr h4 hF (fun k' j w => by have := hX _ _ w; omega), ?_⟩
  rw [hF.i (fun w => by have := hX _ _ w; omega)]; exact h5
/-- where a level ends: early, or done -/
def fEnd (K : List zF) (q : Nat) (T : TRE) (st : PST) (most : Int) (σ0 : zW) : Prop := ∀ (σ' : zW) (c : Nat), yFr fXf σ0 σ' → MT T st c → fLv q T st (wdc (T.1 + 1) st.2.2.1 c) st.2.2.1 (c + 1) (-1) σ' → gI σ' 122 73 = most + 1 → zRet true K none σ'
theorem m_try {K : List zF} (hK : K.length + 9 ≤ 60) {q : Nat} {T : TRE} {st : PST} {pd : Nat → Nat} {most : Int} {σ0 σ : zW} {k u : Nat} {w : Nat → Int} {o3 : Option zV} (hgT : tgd T) (hg : pgd st pd) (hw8 : pw st) (hu : pup st) (hl : st.2.1 ≤ 300) (hk : k < st.2.2.1) (hz : ∀ j, k ≤ j → w j = 0) (hp : pre T st w k) (hur : u ≤ T.1) (hF : yFr fXf σ0 σ) (h1u : st.2.2.2.1 9 (np st k) = -1 → 1 ≤ u) (h176 : gI σ 176 k = (u : Int) - 2) (hLv : fLv q T st w k ((pcn (T.1 + 1) w k * (T.1 + 1) + u) * (T.1 + 1) ^ (st.2.2.1 - 1 - k)) most σ)
    (kNo : ∀ (σ1 : zW) (o3 : Option zV), yFr fXf σ0 σ1 → gI σ1 176 k = ((u + 1 : Nat) : Int) - 2 → fLv q T st w k ((pcn (T.1 + 1) w k * (T.1 + 1) + (u + 1)) * (T.1 + 1) ^ (st.2.2.1 - 1 - k)) most σ1 → zEv true ((206, 20, [some (.inr (.inr 122)), some (.inl most), some (.inl (k : Int)), o3], []) :: K) σ1)
    (kYes : ∀ (σ1 : zW), yFr fXf σ0 σ1 → pre T st (wst w k ((u : Int) - 1)) (k + 1) → fLv q T st (wst w k ((u : Int) - 1)) (k + 1) ((pcn (T.1 + 1) w k * (T.1 + 1) + u) * (T.1 + 1) ^ (st.2.2.1 - 1 - k)) most σ1 → zRet true ((206, 75, [some (.inr (.inr 122)), some (.inl most), some (.inl (k : Int)), o3], []) :: K) (some (.inl 1)) σ1) : zEv true ((206, 20, [some (.inr (.inr 122)), some (.inl most), some (.inl (k : Int)), o3], []) :: K) σ := by
  have hn := hgT.1.1
  have hN := hw8.2.1
  have hc8 := hw8.1
  have h65 : gI σ 122 65 = (T.1 : Int) := hLv.1.2.2.1.1
  obtain ⟨n1, n2, -⟩ := np_ok hg hk
  have e145 : gI σ 145 k = (np st k : Int) := (hLv.1.2.2.2.2.2.2.2.2.2 k hk).trans n2
  have e1 : w32 ((u : Int) - 2 + 1) = (u : Int) - 1 := by clear hLv; rw [zw_id (by omega) (by omega)]; omega
  have hck : 0 ≤ (k : Int) ∧ (k : Int) < 4 := by clear hLv e1; omega
  have hcn : 0 ≤ (np st k : Int) ∧ (np st k : Int) < 8 := by clear hLv e1; omega
  have hlt : (u : Int) - 1 < (T.1 : Int) := by clear hLv e1; omega
  rw [zj_206_20 (by clear hLv e1; omega), if_neg (by clear hLv e1; omega), yAnd hck, yAnd hck, yAnd hck, Int.toNat_natCast, h176, e1, h65, if_pos hlt, yAnd hck, yAnd hck, e145, yAnd hcn, Int.toNat_natCast]
  have hP := fLv_put (x := (u : Int) - 1) hg hk hLv
  have hF1 : yFr fXf σ0 (sI (sI σ 176 k ((u : Int) - 1)) 174 (np st k) ((u : Int) - 1)) := (hF.I (Or.inl (by clear hLv e1 hP; omega))).I (Or.inl (by clear hLv e1 hP; omega))
  generalize sI (sI σ 176 k ((u : Int) - 1)) 174 (np st k) ((u : Int) - 1) = σ1 at hP hF1 ⊢
  have hpk : pre T st (wst w k ((u : Int) - 1)) k := pre_c hg hw8 hu (by clear hLv e1 hP; omega) (fun i hi => (wst_n (by omega)).symm) hp
  have hb : -1 ≤ wst w k ((u : Int) - 1) k ∧ wst w k ((u : Int) - 1) k < (T.1 : Int) := by clear hLv e1 hP; rw [wst_e]; omega
  have hpc := pcn_wst (r := T.1 + 1) (w := w) (k := k) (u := u)
  rw [m_can (yKK (by clear hLv e1 hP hpc; omega)) hgT hP.1 hg hw8 hu hl hk hpk hb hP.2.1 rfl]
  rcases Classical.em (canP T st (wst w k ((u : Int) - 1)) k) with hc | hc
  · rw [zb_t hc]
    exact kYes σ1 hF1 (pre_ext hg hw8 hu hk hp (by clear hLv e1 hP hpc; omega) (fun q => by have := h1u q; clear hLv e1 hP hpc; omega) hc) hP
  · rw [zb_f hc, zr_206_75 (by clear hLv e1 hP hpc; omega), if_pos rfl, zj_206_109 (by clear hLv e1 hP hpc; omega), if_pos rfl]
    obtain ⟨hL1, hL2⟩ := fLv_low hP
    have hd : dgt (T.1 + 1) (wst w k ((u : Int) - 1)) (k + 1) := fun j hj => by
      by_cases e : j = k
      · rw [e]; clear hLv e1 hP hpc; omega
      · rw [wst_n e]; exact pre_dgt hp j (by clear hLv e1 hP hpc; omega)
    have hno := blk_no (T := T) hg hw8 hu hk hd (fun w => hc (w k (by clear hLv e1 hP hpc; omega)).2.2)
    rw [hpc] at hno
    refine kNo σ1 _ hF1 (by rw [hL2]; clear hLv e1 hP hpc hno hL1; omega) (fLv_skip hL1 (Nat.mul_le_mul_right _ (by clear hLv e1 hP hpc hno hL1; omega)) hno)
theorem m_last {K : List zF} (hK : K.length + 9 ≤ 60) {q : Nat} {T : TRE} {st : PST} {pd : Nat → Nat} {most : Int} {σ0 σ1 : zW} {k : Nat} {w' : Nat → Int} {C : Nat} {o3 : Option zV} (hgT : tgd T) (hg : pgd st pd) (hw8 : pw st) (hu : pup st) (h1c : 1 ≤ st.1) (hl : st.2.1 ≤ 300) (hm : most = -2 ∨ (0 ≤ most ∧ most < 1000000)) (kE : fEnd K q T st most σ0) (hk1 : k + 1 = st.2.2.1) (hF1 : yFr fXf σ0 σ1) (hpN : pre T st w' st.2.2.1) (hw : wdc (T.1 + 1) st.2.2.1 C = w') (hlt : C < (T.1 + 1) ^ st.2.2.1) (hC6 : C < 200000) (h1 : fLv q T st w' st.2.2.1 C most σ1)
    (back : ∀ (σ3 : zW) (o3 : Option zV), yFr fXf σ0 σ3 → fLv q T st w' st.2.2.1 (C + 1) most σ3 → zEv true ((206, 20, [some (.inr (.inr 122)), some (.inl most), some (.inl (k : Int)), o3], []) :: K) σ3) : zRet true ((206, 75, [some (.inr (.inr 122)), some (.inl most), some (.inl (k : Int)), o3], []) :: K) (some (.inl 1)) σ1 := by
  have hN := hw8.2.1
  have hcc : K.length < 60 := by clear hlt; omega
  have h34 : gI σ1 122 34 = (st.2.2.1 : Int) := h1.1.2.2.2.2.2.2.1
  have hw1 : w32 ((st.2.2.1 : Int) - 1) = (st.2.2.1 : Int) - 1 := by clear hlt h34; exact zw_id (by omega) (by omega)
  have hle : (st.2.2.1 : Int) - 1 ≤ (k : Int) := by clear hlt h34 hw1; omega
  have hm1 : w32 (most + 1) = most + 1 := by clear hlt h34 hw1; exact zw_id (by omega) (by omega)
  have hK8 : K.length + 1 + 8 ≤ 60 := by clear hlt h34 hw1 hm1; omega
  rw [zr_206_75 hcc, if_neg (show ¬ (1 : Int) = 0 by decide), h34, hw1, if_pos hle, zj_206_109 hcc, if_neg (show ¬ (1 : Int) = 0 by decide)]
  have hVl : mVl st w' σ1 := fun p hp' h8 => by
    obtain ⟨j, j1, j2, j3⟩ := np_num hg hp' h8
    have := h1.2.1 j j1
    rw [j3] at this
    rw [this]; unfold vp; rw [j2, Int.toNat_natCast]
  refine m_isMatch (yKK (K := K) hK8) hgT h1.1 hg hw8 hu h1c hl hVl (pre_vld hg hw8 hpN) (fun σ2 hF2 => ?_)
  have hF02 : yFr fXf σ0 σ2 := hF1.trans (hF2.mono (fun k' j h => Or.inl (by omega)))
  have h2 := fLv_fr h1 hF2 (fun k' j h => Or.inl h)
  rw [zr_206_117 hcc]
  rcases Classical.em (∀ p, 0 < p → p < st.1 → soP T st w' p) with hs | hs
  · have hM : MT T st C := ⟨hlt, by rw [hw]; exact ⟨hpN, hs⟩⟩
    rw [zb_t hs, if_neg (show ¬ (1 : Int) = 0 by decide)]
    refine m_keeps hgT h2.1 hg hw8 h2.2.1 (pre_dgt hpN) hw.symm hM (Nat.lt_trans hC6 (by decide)) h2.2.2.2.1 (fun σ3 hF3 hf3 => ?_)
    have hF03 : yFr fXf σ0 σ3 := hF02.trans (hF3.mono (fun k' j h => by rcases h with h | h; exact Or.inl (by omega); exact Or.inr h))
    have hl3 : gI σ3 122 73 = gI σ2 122 73 + 1 := by rw [hf3.1, h2.2.2.2.1.1, lst_y hM, List.length_append]; rfl
    have h3 : ∀ m : Int, (m < 0 ∨ gI σ3 122 73 ≤ m) → fLv q T st w' st.2.2.1 (C + 1) m σ3 := fun m hm' => ⟨mOn_fr h2.1 hF3 (fun k' j h => by omega), fun j hj => (hF3.i (by omega)).trans (h2.2.1 j hj), fun j hj => (hF3.i (by omega)).trans (h2.2.2.1 j hj), hf3, hm'⟩
    rw [zr_206_124, hm1]
    by_cases ce : gI σ3 122 73 = most + 1
    · rw [if_neg (fun w => w ce), zj_206_20 hcc, if_pos (by decide)]
      refine kE σ3 C hF03 hM ?_ ce
      rw [hw]; exact h3 (-1) (Or.inl (by decide))
    · rw [if_pos ce]
      refine back σ3 _ hF03 (h3 most ?_)
      have := h2.2.2.2.2
      clear h3 h1 h2 hm1 hw1 hle hK8 hlt h34 hF3 hf3
      omega
  · rw [zb_f hs, if_pos rfl]
    refine back σ2 _ hF02 (fLv_skip h2 (Nat.le_succ C) (fun c c1 c2 hM => ?_))
    have : c = C := Nat.le_antisymm (Nat.le_of_lt_succ c2) c1
    rw [this] at hM
    have := hM.2.2
    rw [hw] at this
    exact hs this
theorem m_level {K : List zF} (hK : K.length + 9 ≤ 60) {q : Nat} {T : TRE} {st : PST} {pd : Nat → Nat} {most : Int} {σ0 : zW} (hgT : tgd T) (hg : pgd st pd) (hw8 : pw st) (hu : pup st) (h1c : 1 ≤ st.1) (hl : st.2.1 ≤ 300) (hm : most = -2 ∨ (0 ≤ most ∧ most < 1000000)) (kE : fEnd K q T st most σ0) : ∀ (d k : Nat) (w : Nat → Int), st.2.2.1 - 1 - k = d → k < st.2.2.1 → (∀ j, k ≤ j → w j = 0) → pre T st w k →
    (∀ (σ' : zW) (o3 : Option zV), yFr fXf σ0 σ' → fLv q T st w k ((pcn (T.1 + 1) w k + 1) * (T.1 + 1) ^ (d + 1)) most σ' → zEv true ((206, 20, [some (.inr (.inr 122)), some (.inl most), some (.inl ((k : Int) - 1)), o3], []) :: K) σ') →
    ∀ (e u : Nat) (σ : zW) (o3 : Option zV), T.1 + 1 - u = e → u ≤ T.1 + 1 → yFr fXf σ0 σ → (st.2.2.2.1 9 (np st k) = -1 → 1 ≤ u) → gI σ 176 k = (u : Int) - 2 → fLv q T st w k ((pcn (T.1 + 1) w k * (T.1 + 1) + u) * (T.1 + 1) ^ d) most σ → zEv true ((206, 20, [some (.inr (.inr 122)), some (.inl most), some (.inl (k : Int)), o3], []) :: K) σ := by
  have hn := hgT.1.1
  have hN := hw8.2.1
  have hc8 := hw8.1
  intro d
  induction d with
  | zero =>
    intro k w hd hk hz hp kN e
    have hk1 : k + 1 = st.2.2.1 := by omega
    induction e with
    | zero =>
      intro u σ o3 he hur hF h1u h176 hLv
      have eu : u = T.1 + 1 := by omega
      have h65 : gI σ 122 65 = (T.1 : Int) := hLv.1.2.2.1.1
      have e1 : w32 ((u : Int) - 2 + 1) = (u : Int) - 1 := by clear hLv; rw [zw_id (by omega) (by omega)]; omega
      have e2 : w32 ((k : Int) + (-1)) = (k : Int) - 1 := by clear hLv e1; rw [zw_id (by omega) (by omega)]; omega
      rw [zj_206_20 (by omega), if_neg (by omega), yAnd (by omega), yAnd (by omega), yAnd (by omega), Int.toNat_natCast, h176, e1, h65, if_neg (by omega), e2]
      have hF1 : yFr (fun k' j => k' = 176 ∧ j = k) σ (sI σ 176 k ((u : Int) - 1)) := yFr.rf.I ⟨rfl, rfl⟩
      refine kN _ _ (hF.trans (hF1.mono (fun k' j h => Or.inl (by omega)))) (fLv_fr ?_ hF1 (fun k' j h => by omega))
      rw [← blk_pow1, ← eu]
      rw [← eu] at hLv
      exact hLv
    | succ e ih =>
      intro u σ o3 he hur hF h1u h176 hLv
      rw [show 0 = st.2.2.1 - 1 - k by omega] at hLv
      refine m_try hK hgT hg hw8 hu hl hk hz hp (by omega) hF h1u h176 hLv (fun σ1 o3' hF1 h1 h2 => ih (u + 1) σ1 o3' (by omega) (by omega) hF1 (fun _ => by omega) h1 (by rw [show 0 = st.2.2.1 - 1 - k by omega]; exact h2)) (fun σ1 hF1 hp1 h1 => ?_)
      clear hLv h176
      have hpN : pre T st (wst w k ((u : Int) - 1)) st.2.2.1 := by rw [← hk1]; exact hp1
      have hzN : ∀ j, st.2.2.1 ≤ j → wst w k ((u : Int) - 1) j = 0 := fun j hj => by rw [wst_n (by omega)]; exact hz j (by omega)
      have hpc := pcn_wst (r := T.1 + 1) (w := w) (k := k) (u := u)
      have hw := wdc_pcn (pre_dgt hpN) hzN
      have hlt := pcn_lt _ (pre_dgt hpN)
      have hbig := pow_21 hn hN
      have hC6 := Nat.lt_of_lt_of_le hlt (Nat.le_trans hbig (show 194481 ≤ 200000 by decide))
      rw [hk1] at hpc h1
      rw [show st.2.2.1 - 1 - k = 0 from hd, Nat.pow_zero, Nat.mul_one] at h1
      rw [hpc] at hw hlt hC6
      refine m_last hK hgT hg hw8 hu h1c hl hm kE hk1 hF1 hpN hw hlt hC6 h1 (fun σ3 o3 hF3 h3 => ?_)
      clear hw hlt hC6 hbig hpc h1
      rw [← hk1] at h3
      obtain ⟨a1, a2⟩ := fLv_low h3
      refine ih (u + 1) σ3 o3 (by clear h3 a1 a2; omega) (by clear h3 a1 a2; omega) hF3 (fun _ => Nat.succ_pos u) (by rw [a2]; clear h3 a1; omega) ?_
      rw [Nat.pow_zero, Nat.mul_one]
      exact a1
  | succ d ihd =>
    intro k w hd hk hz hp kN e
    have hk1 : k + 1 < st.2.2.1 := by omega
    induction e with
    | zero =>
      intro u σ o3 he hur hF h1u h176 hLv
      have eu : u = T.1 + 1 := by omega
      have h65 : gI σ 122 65 = (T.1 : Int) := hLv.1.2.2.1.1
      have e1 : w32 ((u : Int) - 2 + 1) = (u : Int) - 1 := by clear hLv; rw [zw_id (by omega) (by omega)]; omega
      have e2 : w32 ((k : Int) + (-1)) = (k : Int) - 1 := by clear hLv e1; rw [zw_id (by omega) (by omega)]; omega
      rw [zj_206_20 (by omega), if_neg (by omega), yAnd (by omega), yAnd (by omega), yAnd (by omega), Int.toNat_natCast, h176, e1, h65, if_neg (by omega), e2]
      have hF1 : yFr (fun k' j => k' = 176 ∧ j = k) σ (sI σ 176 k ((u : Int) - 1)) := yFr.rf.I ⟨rfl, rfl⟩
      refine kN _ _ (hF.trans (hF1.mono (fun k' j h => Or.inl (by omega)))) (fLv_fr ?_ hF1 (fun k' j h => by omega))
      rw [← blk_pow1, ← eu]
      rw [← eu] at hLv
      exact hLv
    | succ e ih =>
      intro u σ o3 he hur hF h1u h176 hLv
      rw [show d + 1 = st.2.2.1 - 1 - k by omega] at hLv
      refine m_try hK hgT hg hw8 hu hl hk hz hp (by omega) hF h1u h176 hLv (fun σ1 o3' hF1 h1 h2 => ih (u + 1) σ1 o3' (by omega) (by omega) hF1 (fun _ => by omega) h1 (by rw [show d + 1 = st.2.2.1 - 1 - k by omega]; exact h2)) (fun σ1 hF1 hp1 h1 => ?_)
      clear hLv h176
      have hcc : K.length < 60 := by clear h1; omega
      have ek : w32 ((k : Int) + 1) = ((k + 1 : Nat) : Int) := by clear h1; rw [zw_id (by omega) (by omega)]; omega
      have hck : 0 ≤ ((k + 1 : Nat) : Int) ∧ ((k + 1 : Nat) : Int) < 4 := by clear h1 ek; omega
      have hw1 : w32 ((st.2.2.1 : Int) - 1) = (st.2.2.1 : Int) - 1 := by clear h1 ek; exact zw_id (by omega) (by omega)
      have hle : ¬ (st.2.2.1 : Int) - 1 ≤ (k : Int) := by clear h1 ek hw1; omega
      rw [zr_206_75 hcc, if_neg (show ¬ (1 : Int) = 0 by decide), h1.1.2.2.2.2.2.2.1, hw1, if_neg hle, ek, m_least h1.1 hg hw8 hk1 rfl, zr_206_103, yAnd hck, Int.toNat_natCast]
      clear ek hw1 hle
      have hd1 := pre_dgt hp1
      have hz1 : ∀ j, k + 1 ≤ j → wst w k ((u : Int) - 1) j = 0 := fun j hj => by rw [wst_n (by omega)]; exact hz j (by omega)
      have hk2 : ((k + 1 : Nat) : Int) - 1 = (k : Int) := by clear h1; omega
      have hdd : st.2.2.1 - 1 - (k + 1) = d := by clear h1; omega
      have hu2 : ((u + 1 : Nat) : Int) - 2 = (u : Int) - 1 := by clear h1; omega
      have he2 : T.1 + 1 - (u + 1) = e := by clear h1; omega
      have hur2 : u + 1 ≤ T.1 + 1 := by clear h1; omega
      rw [← pcn_wst, show st.2.2.1 - 1 - k = d + 1 from hd, ← blk_pow] at h1
      have ih' : ∀ (σ3 : zW) (o3 : Option zV), yFr fXf σ0 σ3 → fLv q T st (wst w k ((u : Int) - 1)) (k + 1) ((pcn (T.1 + 1) (wst w k ((u : Int) - 1)) (k + 1) + 1) * (T.1 + 1) ^ (d + 1)) most σ3 → zEv true ((206, 20, [some (.inr (.inr 122)), some (.inl most), some (.inl (k : Int)), o3], []) :: K) σ3 := fun σ3 o3 hF3 h3 => by
        rw [pcn_wst] at h3
        obtain ⟨a1, a2⟩ := fLv_low h3
        exact ih (u + 1) σ3 o3 he2 hur2 hF3 (fun _ => Nat.succ_pos u) (by rw [a2, hu2]) a1
      clear ih he hur he2 hur2
      generalize wst w k ((u : Int) - 1) = w' at h1 hp1 hz1 hd1 ih'
      -- the digit 0 at once behind
      have key : ∀ u0 : Nat, (st.2.2.2.1 9 (np st (k + 1)) = -1 → u0 = 1) → u0 ≤ 1 → (u0 = 1 → st.2.2.2.1 9 (np st (k + 1)) = -1) → ∀ (y : Int), y = (u0 : Int) - 2 → ∀ o3 : Option zV, zEv true ((206, 20, [some (.inr (.inr 122)), some (.inl most), some (.inl ((k + 1 : Nat) : Int)), o3], []) :: K) (sI σ1 176 (k + 1) y) := fun u0 hu0 hu1 hu3 y hy o3 => by
        have hF2 : yFr (fun k' j => k' = 176 ∧ j = k + 1) σ1 (sI σ1 176 (k + 1) y) := yFr.rf.I ⟨rfl, rfl⟩
        have h2 := fLv_fr h1 hF2 (fun k' j h => Or.inr (by omega))
        have hT1 : u0 ≤ T.1 + 1 := by clear h1 h2; omega
        refine ihd (k + 1) w' hdd hk1 hz1 hp1 (fun σ3 o3 hF3 h3 => ?_) _ u0 _ o3 rfl hT1 (hF1.trans (hF2.mono (fun k' j h => Or.inl (by omega)))) (fun q => Nat.le_of_eq (hu0 q).symm) (by rw [yGI_hit, hy]) (fLv_skip h2 (Nat.mul_le_mul_right _ (Nat.add_le_add_left (Nat.zero_le u0) _)) ?_)
        · rw [hk2]
          exact ih' σ3 o3 hF3 h3
        · intro c c1 c2
          by_cases e0 : u0 = 0
          · rw [e0] at c2; exact absurd c1 (Nat.not_le_of_lt c2)
          · have e1 : u0 = 1 := by clear h1 h2 c1 c2; omega
            have hdw : dgt (T.1 + 1) (wst w' (k + 1) ((0 : Nat) - 1 : Int)) (k + 1 + 1) := fun j hj => by
              clear h1 h2 c1 c2
              by_cases e : j = k + 1
              · rw [e, wst_e]; omega
              · rw [wst_n e]; exact hd1 j (by omega)
            refine blk_no hg hw8 hu hk1 hdw (fun hpp => ?_) c ?_ ?_
            · have := (hpp (k + 1) (Nat.lt_succ_self _)).2.1 (hu3 e1)
              rw [wst_e] at this
              exact absurd this (by decide)
            · rw [pcn_wst, hdd]; exact c1
            · rw [pcn_wst, hdd, Nat.add_assoc, Nat.zero_add]; rw [e1] at c2; exact c2
      by_cases c9 : st.2.2.2.1 9 (np st (k + 1)) = -1
      · rw [if_pos c9, show w32 (0 - 1) = -1 by decide]
        exact key 1 (fun _ => rfl) (Nat.le_refl _) (fun _ => c9) _ (by decide) _
      · rw [if_neg c9, show w32 (-1 - 1) = -2 by decide]
        exact key 0 (fun q => absurd q c9) (Nat.zero_le _) (fun q => absurd q (by decide)) _ (by decide) _
