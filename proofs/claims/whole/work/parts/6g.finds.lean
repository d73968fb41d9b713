/-! the model finds, counts and tells -/
theorem num_pos {st : PST} {pd : Nat → Nat} (hg : pgd st pd) (h1c : 1 ≤ st.1) : 1 ≤ st.2.2.1 ∧ np st 0 = 0 := by
  obtain ⟨-, -, -, -, -, -, a7, -, a9, -⟩ := hg.2.1 0 h1c
  obtain ⟨-, -, b3, b4⟩ := a9 rfl
  obtain ⟨k, k1, k2, k3⟩ := a7 ⟨b3, b4⟩
  refine ⟨by omega, ?_⟩
  by_cases e : k = 0
  · rw [e] at k3; unfold np; rw [k3]; rfl
  · have := np_lt hg (show 0 < k by omega) k2
    have h : np st k = 0 := by unfold np; rw [k3]; rfl
    omega
theorem enN_dg {w : Nat → Int} : ∀ m j, j < m → dgt 21 w m → enN w m / 32 ^ j % 32 = (w j + 1).toNat := by
  intro m
  induction m with
  | zero => intro j hj; omega
  | succ m ih =>
    intro j hj hd
    have hd' : dgt 21 w m := fun k hk => hd k (by omega)
    have h1 := enN_lt m hd'
    rw [enN]
    by_cases e : j = m
    · have h2 := hd m (by omega)
      rw [e, Nat.add_mul_div_right _ _ (Nat.pow_pos (by decide)), Nat.div_eq_of_lt h1, Nat.zero_add]
      exact Nat.mod_eq_of_lt (by clear h1; omega)
    · have e2 : (w m + 1).toNat * 32 ^ m = ((w m + 1).toNat * 32 ^ (m - 1 - j)) * 32 * 32 ^ j := by
        rw [Nat.mul_assoc, Nat.mul_assoc, ← Nat.pow_succ', ← Nat.pow_add]
        congr 2
        clear h1
        omega
      rw [e2, Nat.add_mul_div_right _ _ (Nat.pow_pos (by decide)), Nat.add_mul_mod_self_right]
      exact ih j (by clear h1 e2; omega) hd'
theorem zgv {w : Nat → Int} {m j : Nat} (hm : m ≤ 4) (hj : j < m) (hd : dgt 21 w m) : zand (zshr ((enN w m : Nat) : Int) ((5 * j : Nat) : Int)) 31 = w j + 1 := by
  have h1 := enN_lt m hd
  have h2 : (32 : Nat) ^ m ≤ 32 ^ 4 := Nat.pow_le_pow_right (by decide) hm
  have h3 : (32 : Nat) ^ 4 < 2 ^ 31 := by decide
  have h4 : enN w m < 2 ^ 31 := Nat.lt_of_lt_of_le h1 (Nat.le_of_lt (Nat.lt_of_le_of_lt h2 h3))
  have h5 : enN w m / 2 ^ (5 * j) < 2 ^ 31 := Nat.lt_of_le_of_lt (Nat.div_le_self _ _) h4
  have h6 := hd j hj
  rw [zshr_nat h4 (by clear h1 h2 h3 h4 h5; omega), show (31 : Int) = ((31 : Nat) : Int) from rfl, zand_nat h5 (by decide), show (31 : Nat) = 2 ^ 5 - 1 from rfl, Nat.and_two_pow_sub_one_eq_mod, Nat.pow_mul, show (2 : Nat) ^ 5 = 32 from rfl, enN_dg m j hj hd]
  clear h1 h2 h3 h4 h5
  omega
/-- the matches of a tree -/
noncomputable def mts (T : TRE) (st : PST) : List Nat := lst (MT T st) ((T.1 + 1) ^ st.2.2.1)
theorem mts_len {T : TRE} {st : PST} (hn : T.1 ≤ 20) (hN : st.2.2.1 ≤ 4) : (mts T st).length ≤ 194481 := Nat.le_trans (lst_len _) (pow_21 hn hN)
theorem mts_at {T : TRE} {st : PST} {i c : Nat} (h : (mts T st)[i]? = some c) : MT T st c := ((lst_mem _).mp (List.mem_of_getElem? h)).2
theorem lst_pre {P : Nat → Prop} {m : Nat} : ∀ m', m ≤ m' → ∀ i, i < (lst P m).length → (lst P m')[i]? = (lst P m)[i]? := by
  intro m'
  induction m' with
  | zero => intro h i _; rw [show m = 0 by omega]
  | succ m' ih =>
    intro h i hi
    by_cases e : m = m' + 1
    · rw [e]
    · have h2 := ih (by omega) i hi
      have hlen : i < (lst P m').length := by
        have : (lst P m')[i]? = some ((lst P m)[i]) := by rw [h2]; exact List.getElem?_eq_getElem hi
        exact (List.getElem?_eq_some_iff.mp this).1
      rcases Classical.em (P m') with q | q
      · rw [lst_y q, List.getElem?_append_left hlen]; exact h2
      · rw [lst_n q]; exact h2
theorem m_finds {K : List zF} (hK : K.length + 9 ≤ 60) {q : Nat} {T : TRE} {st : PST} {pd : Nat → Nat} {most : Int} {σ : zW} (hgT : tgd T) (hO : mOn q T st σ) (hg : pgd st pd) (hw8 : pw st) (hu : pup st) (h1c : 1 ≤ st.1) (hl : st.2.1 ≤ 300) (hm : most = -2 ∨ (0 ≤ most ∧ most < 1000000))
    (kE : most ≠ -2 → ∀ (σ' : zW) (c : Nat), yFr fXf σ σ' → MT T st c → mVm st (wdc (T.1 + 1) st.2.2.1 c) st.2.2.1 σ' → (mts T st)[most.toNat]? = some c → zRet true K none σ')
    (kN : (most = -2 ∨ ((mts T st).length : Int) ≤ most) → ∀ (σ' : zW), yFr fXf σ σ' → fST T st ((T.1 + 1) ^ st.2.2.1) σ' → zRet true K none σ') : zEv true (zent 206 [.inr (.inr 122), .inl most] :: K) σ := by
  have hn := hgT.1.1
  have hN := hw8.2.1
  obtain ⟨n1, n2⟩ := num_pos hg h1c
  have hcc : K.length < 60 := by omega
  have hF0 : yFr (fun k j => k = 122 ∧ j = 73) σ (sI σ 122 73 0) := yFr.rf.I ⟨rfl, rfl⟩
  have hO0 := mOn_fr hO hF0 (fun k j h => by omega)
  have h73 : gI (sI σ 122 73 0) 122 73 = 0 := yGI_hit
  rw [ze_206 hcc, m_least (z := 0) hO0 hg hw8 (k := 0) (by omega) rfl, zr_206_17, yAnd (by omega), show (0 : Int).toNat = 0 from rfl]
  generalize sI σ 122 73 0 = σ1 at hF0 hO0 h73 ⊢
  have h9 : st.2.2.2.1 9 (np st 0) = -1 := by rw [n2]; exact ((hg.2.1 0 h1c).2.2.2.2.2.2.2.2.1 rfl).2.1
  rw [if_pos h9, show w32 (0 - 1) = -1 by decide]
  have hF1 : yFr fXf σ (sI σ1 176 0 (-1)) := (hF0.mono (fun k j h => Or.inr h)).I (Or.inl (by omega))
  have hF2 : yFr (fun k j => k = 176 ∧ j = 0) σ1 (sI σ1 176 0 (-1)) := yFr.rf.I ⟨rfl, rfl⟩
  have hpre0 : pre T st (fun _ => 0) 0 := fun k hk => absurd hk (Nat.not_lt_zero k)
  have hlst0 : fST T st 0 σ1 := ⟨h73, fun i c h => by rw [lst] at h; exact absurd h (by simp)⟩
  have hL0 : fLv q T st (fun _ => 0) 0 0 most σ1 := ⟨hO0, fun k hk => absurd hk (Nat.not_lt_zero k), fun k hk => absurd hk (Nat.not_lt_zero k), hlst0, by rw [h73]; omega⟩
  have hL1 := fLv_fr hL0 hF2 (fun k' j h => by omega)
  have hdg : dgt (T.1 + 1) (wst (fun _ => 0) 0 ((0 : Nat) - 1 : Int)) (0 + 1) := fun j hj => by
    rw [show j = 0 by omega, wst_e]; omega
  have hno := blk_no (T := T) hg hw8 hu n1 hdg (fun hpp => by
    have := (hpp 0 (by omega)).2.1 h9
    rw [wst_e] at this
    exact absurd this (by decide))
  rw [pcn_wst, pcn, Nat.zero_mul, Nat.add_zero, Nat.zero_mul, Nat.zero_add, Nat.one_mul] at hno
  have hL2 := fLv_skip hL1 (Nat.zero_le ((T.1 + 1) ^ (st.2.2.1 - 1 - 0))) hno
  refine m_level hK hgT hg hw8 hu h1c hl hm (σ0 := σ) (fun σ' c hF hM h1 h2 => ?_) _ 0 (fun _ => 0) rfl n1 (fun _ _ => rfl) hpre0 (fun σ' o3 hF h1 => ?_) _ 1 _ _ rfl (by omega) hF1 (fun _ => Nat.le_refl 1) (by rw [yGI_hit]; rfl) (by rw [pcn, Nat.zero_mul, Nat.zero_add, Nat.one_mul]; exact hL2)
  · obtain ⟨a1, a2, a3, a4, a5⟩ := h1
    have hlen : ((lst (MT T st) (c + 1)).length : Int) = most + 1 := a4.1.symm.trans h2
    have hlt : c < (T.1 + 1) ^ st.2.2.1 := hM.1
    have hm0 : most ≠ -2 := by clear hno hlt h2 hL2; omega
    refine kE hm0 σ' c hF hM a2 ?_
    rw [lst_y hM, List.length_append] at hlen
    have hl1 : (lst (MT T st) c).length = most.toNat := by
      have : (([c] : List Nat).length : Int) = 1 := rfl
      clear hno hlt h2 hL2
      omega
    unfold mts
    rw [lst_pre (m := c + 1) _ hlt most.toNat (by rw [lst_y hM, List.length_append, hl1]; exact Nat.lt_succ_self _), lst_y hM, List.getElem?_append_right (Nat.le_of_eq hl1), hl1, Nat.sub_self]
    rfl
  · obtain ⟨a1, a2, a3, a4, a5⟩ := h1
    rw [zj_206_20 hcc, if_pos (by decide)]
    rw [pcn, Nat.zero_add, Nat.one_mul, show st.2.2.1 - 1 - 0 + 1 = st.2.2.1 by omega] at a4
    refine kN ?_ σ' hF a4
    rw [a4.1] at a5
    unfold mts
    rcases a5 with h | h
    · left
      rcases hm with h' | h'
      · exact h'
      · exact absurd h (by clear hno hL2; omega)
    · exact Or.inr h
/-- the finds of the model are kept -/
def mFd (T : TRE) (st : PST) (σ : zW) : Prop := fST T st ((T.1 + 1) ^ st.2.2.1) σ
theorem m_gives {K : List zF} (hK : K.length + 10 ≤ 60) {q i c : Nat} {T : TRE} {st : PST} {pd : Nat → Nat} {z : Int} {σ : zW} (hgT : tgd T) (hO : mOn q T st σ) (hg : pgd st pd) (hw8 : pw st) (hu : pup st) (h1c : 1 ≤ st.1) (hl : st.2.1 ≤ 300) (hf : mFd T st σ) (hi : (mts T st)[i]? = some c) (hz : z = (i : Int))
    (k : ∀ σ' : zW, yFr (fun k j => fXf k j ∨ (k = 122 ∧ j = 75)) σ σ' → mVm st (wdc (T.1 + 1) st.2.2.1 c) st.2.2.1 σ' → (gI σ' 122 75 = 0 ∨ (gI σ' 122 75 = gI σ 122 75 ∧ mFd T st σ')) → zRet true K none σ') : zEv true (zent 210 [.inr (.inr 122), .inl z] :: K) σ := by
  subst hz
  have hn := hgT.1.1
  have hN := hw8.2.1
  have hlen := mts_len (T := T) (st := st) hn hN
  have hil : i < (mts T st).length := (List.getElem?_eq_some_iff.mp hi).1
  have hcc : K.length < 60 := by omega
  have hM := mts_at hi
  have hd21 : dgt 21 (wdc (T.1 + 1) st.2.2.1 c) st.2.2.1 := fun j hj => by have := pre_dgt hM.2.1 j hj; omega
  rw [ze_210 hcc]
  by_cases c4 : 4096 ≤ (i : Int)
  · rw [if_pos c4]
    refine m_finds (yKK (K := K) (by omega)) hgT hO hg hw8 hu h1c hl (Or.inr ⟨by omega, by omega⟩) (fun _ σ' c' hF hM' h1 h2 => ?_) (fun h => absurd h (by omega))
    rw [Int.toNat_natCast, hi] at h2
    rw [← Option.some.inj h2] at h1
    rw [zr_210_57]
    have hF2 : yFr (fun k j => k = 122 ∧ j = 75) σ' (sI σ' 122 75 0) := yFr.rf.I ⟨rfl, rfl⟩
    exact k _ ((hF.mono (fun k j h => Or.inl h)).trans (hF2.mono (fun k j h => Or.inr h))) (fun j hj => (hF2.i (by omega)).trans (h1 j hj)) (Or.inl yGI_hit)
  · rw [if_neg c4]
    have hci : 0 ≤ (i : Int) ∧ (i : Int) < 4096 := by omega
    have e177 := hf.2 i c hi (by omega)
    have loop : ∀ (d j : Nat) (σ2 : zW), st.2.2.1 - j = d → j ≤ st.2.2.1 → yFr (fun k _ => k = 174) σ σ2 → mVm st (wdc (T.1 + 1) st.2.2.1 c) j σ2 → zEv true ((210, 9, [some (.inr (.inr 122)), some (.inl (i : Int)), some (.inl (j : Int))], []) :: K) σ2 := by
      intro d
      induction d with
      | zero =>
        intro j σ2 hd hj hF hV
        have hO2 := mOn_fr hO hF (fun k j h => by omega)
        have ej : j = st.2.2.1 := by clear e177; omega
        rw [zj_210_9, hO2.2.2.2.2.2.2.1, if_pos (by clear e177; omega)]
        rw [ej] at hV
        refine k σ2 (hF.mono (fun k j h => Or.inl (Or.inl (by omega)))) hV (Or.inr ⟨hF.i (by omega), ?_⟩)
        exact fST_fr hf hF (fun k j h => by omega)
      | succ d ih =>
        intro j σ2 hd hj hF hV
        have hO2 := mOn_fr hO hF (fun k j h => by omega)
        have hj' : j < st.2.2.1 := by clear e177; omega
        obtain ⟨n1, n2, -⟩ := np_ok hg hj'
        have hc8 := hw8.1
        have hcj : 0 ≤ (j : Int) ∧ (j : Int) < 4 := by clear e177; omega
        have hcn : 0 ≤ (np st j : Int) ∧ (np st j : Int) < 8 := by clear e177; omega
        have e145 : gI σ2 145 j = (np st j : Int) := (hO2.2.2.2.2.2.2.2.2.2 j hj').trans n2
        have e5 : w32 (5 * (j : Int)) = ((5 * j : Nat) : Int) := by clear e177 e145; rw [zw_id (by omega) (by omega)]; omega
        have e7 : w32 ((j : Int) + 1) = ((j + 1 : Nat) : Int) := by clear e177 e145 e5; rw [zw_id (by omega) (by omega)]; omega
        have hwj := hd21 j hj'
        have hw32 : w32 (wdc (T.1 + 1) st.2.2.1 c j + 1 - 1) = wdc (T.1 + 1) st.2.2.1 c j := by rw [Int.add_sub_cancel]; clear e177 e145 e5 e7; exact zw_id (by omega) (by omega)
        have hn' : ¬ (st.2.2.1 : Int) ≤ (j : Int) := by clear e177 e145 e5 e7 hw32; omega
        rw [zj_210_9, hO2.2.2.2.2.2.2.1, if_neg hn', yAnd hcj, yAnd hci, Int.toNat_natCast, Int.toNat_natCast, e145, yAnd hcn, Int.toNat_natCast, hF.i (by omega), e177, e5, zgv hN hj' hd21, hw32, e7]
        clear e5 e7 hw32 hn' e145
        have hF2 : yFr (fun k j' => k = 174 ∧ j' = np st j) σ2 (sI σ2 174 (np st j) (wdc (T.1 + 1) st.2.2.1 c j)) := yFr.rf.I ⟨rfl, rfl⟩
        have e1 : gI (sI σ2 174 (np st j) (wdc (T.1 + 1) st.2.2.1 c j)) 174 (np st j) = wdc (T.1 + 1) st.2.2.1 c j := yGI_hit
        refine ih (j + 1) _ (by clear e177 e1; omega) hj' (hF.trans (hF2.mono (fun k j h => h.1))) (fun j2 hj2 => ?_)
        by_cases e : j2 = j
        · rw [e, e1]
        · have hlt := np_lt hg (show j2 < j by clear e177 e1; omega) hj'
          exact (hF2.i (by clear e177 e1; omega)).trans (hV j2 (by clear e177 e1; omega))
    exact loop _ 0 σ (Nat.sub_zero _) (Nat.zero_le _) yFr.rf (fun j hj => absurd hj (Nat.not_lt_zero j))
/-- what the model has of the tree laid and of the matches found -/
def mCa (Ts : Nat → TRE) (ps : Option PST) (σ : zW) : Prop := (gI σ 122 64 = -1 ∨ ∃ q : Nat, q < 3 ∧ gI σ 122 64 = (q : Int) ∧ mLd (Ts q) σ) ∧ (gI σ 122 75 = 0 ∨ gI σ 122 64 = -1 ∨ ∃ (q : Nat) (st : PST), ps = some st ∧ q < 3 ∧ gI σ 122 64 = (q : Int) ∧ mFd (Ts q) st σ)
abbrev Xmf (k j : Nat) : Prop := Xly k j ∨ fXf k j
theorem m_matchesIn {K : List zF} (hK : K.length + 10 ≤ 60) {q : Nat} {Ts : Nat → TRE} {st : PST} {pd : Nat → Nat} {z : Int} {σ : zW} (hq : q < 3) (hTs : ∀ p, p < 3 → (tgd (Ts p) ∧ mTr p (Ts p) σ)) (hG : mG st σ) (hc : mCa Ts (some st) σ) (hg : pgd st pd) (hw8 : pw st) (hu : pup st) (h1c : 1 ≤ st.1) (hl : st.2.1 ≤ 300) (hz : z = (q : Int))
    (k0 : (Ts q).1 = 0 → zRet true K (some (.inl 0)) σ)
    (k : (Ts q).1 ≠ 0 → ∀ σ' : zW, yFr Xmf σ σ' → mOn q (Ts q) st σ' → mFd (Ts q) st σ' → zRet true K (some (.inl ((mts (Ts q) st).length : Int))) σ') : zEv true (zent 207 [.inr (.inr 122), .inl z] :: K) σ := by
  subst hz
  have hcc : K.length < 60 := by omega
  have h18 : ¬ gI σ 122 18 = 0 := by have := hG.1; omega
  rw [ze_207 hcc, if_neg h18, yAnd (by omega), Int.toNat_natCast, (hTs q hq).2.1]
  by_cases c0 : (Ts q).1 = 0
  · rw [c0, if_neg (fun w => w rfl)]; exact k0 c0
  · have k := k c0
    rw [if_pos (by omega)]
    have fin : ∀ σ1 : zW, yFr Xmf σ σ1 → mOn q (Ts q) st σ1 → (gI σ1 122 75 = 0 ∨ mFd (Ts q) st σ1) → zRet true ((207, 23, [some (.inr (.inr 122)), some (.inl (q : Int))], []) :: K) none σ1 := fun σ1 hF hO h75 => by
      rw [zr_207_23 hcc]
      by_cases c75 : gI σ1 122 75 = 0
      · rw [if_neg (fun w => w c75)]
        refine m_finds (yKK (K := K) (by omega)) (hTs q hq).1 hO hg hw8 hu h1c hl (Or.inl rfl) (fun h => absurd rfl h) (fun _ σ2 hF2 h2 => ?_)
        have hF3 : yFr (fun k j => k = 122 ∧ j = 75) σ2 (sI σ2 122 75 1) := yFr.rf.I ⟨rfl, rfl⟩
        rw [zr_207_36, zj_207_41, hF3.i (by omega), h2.1]
        exact k _ ((hF.trans (hF2.mono (fun k j h => Or.inr h))).trans (hF3.mono (fun k j h => Or.inl (Or.inl (by omega))))) (mOn_fr (mOn_fr hO hF2 (fun k j h => by omega)) hF3 (fun k j h => by omega)) (fST_fr h2 hF3 (fun k j h => by omega))
      · rw [if_pos c75, zj_207_41]
        rcases h75 with h | h
        · exact absurd h c75
        · rw [h.1]; exact k σ1 hF hO h
    by_cases c64 : gI σ 122 64 = (q : Int)
    · rw [ze_180, if_neg (fun w => w c64)]
      have hLd : mLd (Ts q) σ := by
        rcases hc.1 with h | ⟨q', a1, a2, a3⟩
        · omega
        · rw [show q = q' by omega]; exact a3
      refine fin σ yFr.rf ⟨hq, (hTs q hq).2, hLd, c64, hG⟩ ?_
      rcases hc.2 with h | h | ⟨q', st', a0, a1, a2, a3⟩
      · exact Or.inl h
      · omega
      · right
        rw [Option.some.inj a0, show q = q' by omega]; exact a3
    · refine m_lays (yKK (K := K) (by omega)) hq (hTs q hq).1 (hTs q hq).2 c64 (fun σ1 hF h1 h2 h3 => ?_)
      exact fin σ1 (hF.mono (fun k j h => Or.inl h)) ⟨hq, mTr_fr (hTs q hq).2 hF (fun k j w => by omega), h1, h2, mG_fr hG hF (fun k j w => by omega)⟩ (Or.inl h3)
