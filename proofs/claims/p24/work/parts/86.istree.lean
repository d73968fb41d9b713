/-! the tree is what was told -/
theorem ttx_b {T : TRE} {lb : Nat → Int} (hlb : ∀ i, i < T.1 → lb1 (lb i)) : ∀ k, k ≤ T.1 → ∀ x ∈ ttx T lb k, 0 ≤ x ∧ x < 256 := by
  intro k
  induction k with
  | zero => intro _ x hx; cases hx
  | succ k ih =>
    intro hk x hx
    rw [ttx] at hx
    rcases List.mem_append.mp hx with hx | hx
    · exact ih (by omega) x hx
    · have hz := hlb k (by omega)
      unfold lb1 at hz
      unfold ndx at hx
      rcases List.mem_append.mp hx with hx | hx
      · by_cases c : k = 0
        · rw [if_pos c] at hx; cases hx
        · rw [if_neg c] at hx
          have := List.mem_singleton.mp hx
          omega
      · rcases List.mem_append.mp hx with hx | hx
        · by_cases c : kidc T.2.2 k T.1 = 0
          · rw [if_pos c] at hx; cases hx
          · rw [if_neg c] at hx
            have := List.mem_singleton.mp hx
            omega
        · rcases List.mem_cons.mp hx with hx | hx
          · omega
          · by_cases c : kidc T.2.2 k T.1 = 0
            · rw [if_pos c] at hx
              have := (List.mem_replicate.mp hx).2
              omega
            · rw [if_neg c] at hx; cases hx
theorem ttx_len {T : TRE} {lb : Nat → Int} (hw : wfd T.1 T.2.2) (h9 : T.1 ≤ 9) (hlb : ∀ i, i < T.1 → lb1 (lb i)) : (ttx T lb T.1).length ≤ 81 := by
  have h1 := shw_ttx (T := (T.1, fun i => zi2l (lb i), T.2.2)) (lb := lb) hlb (fun i _ => rfl) T.1 (Nat.le_refl _)
  have h2 := shw_len (T := (T.1, fun i => zi2l (lb i), T.2.2)) hw T.1 (Nat.le_refl _)
  have h3 := opq_le (T.1, fun i => zi2l (lb i), T.2.2) T.1
  rw [if_neg (Nat.lt_irrefl _)] at h2
  have h4 : (shw (T.1, fun i => zi2l (lb i), T.2.2) T.1).1 = (ttx (T.1, fun i => zi2l (lb i), T.2.2) lb T.1).length := h1.1
  have h5 : ∀ k, ttx (T.1, fun i => zi2l (lb i), T.2.2) lb k = ttx T lb k := by
    intro k
    induction k with
    | zero => rfl
    | succ k ih => rw [ttx, ttx, ih]; rfl
  rw [h5] at h4
  omega
def lbT (T : TRE) (lb : Nat → Int) : Prop := ∀ i, i < T.1 → T.2.1 i = zi2l (lb i)
theorem v_isTree {K : List zF} (hK : K.length + 14 ≤ 60) {l : List Int} {R : STR} {u : Nat} {tt lb : Nat → Int} {σ : zW} (h : LO l R u σ) (hT : tmT (R.1 0) tt lb) (hl : lbT (R.1 0) lb) (hA : tmA (R.1 0).1 tt lb σ) (k : ∀ σ', lFr 100 σ σ' → LO l R u σ' → zRet true K (some (.inl 1)) σ') : zEv true (zent 151 [.inr (.inr 1), .inr (.inr 122), .inr (.inr 123)] :: K) σ := by
  have hKl : K.length < 60 := by omega
  have hw := hT.1
  have h9 := hT.2.2.1
  have hlb : ∀ i, i < (R.1 0).1 → lb1 (lb i) := fun i hi => (hT.2.2.2 i hi).2
  have hlen := ttx_len hw h9 hlb
  rw [ze_151 hKl]
  refine v_show (p := 0) (by show K.length + 1 + 8 ≤ 60; omega) h (by decide) rfl (fun σ1 hF1 hV1 => ?_)
  have htx := shw_ttx hlb hl (R.1 0).1 (Nat.le_refl _)
  have hA1 := tmA_fr hA hF1
  rw [zr_151_5 hKl]
  refine v_tells (T := R.1 0) (by show K.length + 1 + 2 < 60; omega) hT hA1 rfl (p_shown (l := l) (R := rO R (shw (R.1 0) (R.1 0).1)) (u := u) (by show K.length + 1 + 11 ≤ 60; omega) (ttx_b hlb _ (Nat.le_refl _)) (by omega) htx) (by omega) hV1 (fun σ2 hF2 hV2 => ?_)
  have hA2 := tmA_fr hA1 hF2
  have ht : ∀ i, i < (shw (R.1 0) (R.1 0).1).1 → 0 ≤ (shw (R.1 0) (R.1 0).1).2 i ∧ (shw (R.1 0) (R.1 0).1).2 i < 256 := fun i hi => by
    rw [htx.1] at hi
    rw [htx.2 i hi]
    exact ttx_b hlb _ (Nat.le_refl _) _ (by unfold lfn; rw [List.getD_eq_getElem?_getD, List.getElem?_eq_getElem hi]; exact List.getElem_mem hi)
  rw [zr_151_13 hKl, if_neg (fun w => w (by rw [htx.1])), q_out (n := (shw (R.1 0) (R.1 0).1).1) (by show K.length + 1 + 3 ≤ 60; omega) hV2 ht rfl (by rw [htx.1]; omega), if_neg (show ¬ (shw (R.1 0) (R.1 0).1).1 < (rO R (shw (R.1 0) (R.1 0).1)).2.2.2.2.1.1 from Nat.lt_irrefl _), zr_151_22 hKl, if_neg (fun w => w rfl), e_nodes (p := 0) (z := 0) (by show K.length + 1 + 4 ≤ 60; omega) (LO.rO hV2) (by decide) rfl, zr_151_30, hA2.2.1, if_neg (fun w => w rfl)]
  have hF12 : lFr 81 σ σ2 := (hF1.trans hF2).le (by omega)
  -- the loop over the nodes
  have loop : ∀ (m i : Nat) (σ3 : zW) (o3 o7 o8 o9 : Option zV), (R.1 0).1 - i = m → i ≤ (R.1 0).1 → lFr 81 σ σ3 → LO l R u σ3 → zEv true ((151, 49, [some (.inr (.inr 1)), some (.inr (.inr 122)), some (.inr (.inr 123)), o3, some (.inl 1), some (.inl ((wrd (R.1 0).2.2 (R.1 0).1 i : Nat) : Int)), some (.inl (i : Int)), o7, o8, o9], []) :: K) σ3 := by
    intro m
    induction m with
    | zero =>
      intro i σ3 o3 o7 o8 o9 hm hi hF3 hV3
      have hA3 := tmA_fr hA hF3
      rw [zj_151_49, hA3.2.1, if_pos (by omega), yAnd (by decide)]
      exact k σ3 (hF3.le (by omega)) hV3
    | succ m ih =>
      intro i σ3 o3 o7 o8 o9 hm hi hF3 hV3
      have hi' : i < (R.1 0).1 := by omega
      have hA3 := tmA_fr hA hF3
      have hwl := wrd_le (dep := (R.1 0).2.2) (n := (R.1 0).1) i
      rw [zj_151_49, hA3.2.1, if_neg (by omega), if_neg (by decide)]
      -- what is counted over all nodes
      have cnt : ∀ (m2 j : Nat) (o4 : Option zV), (R.1 0).1 - j = m2 → j ≤ (R.1 0).1 → zEv true ((151, 71, [some (.inr (.inr 1)), some (.inr (.inr 122)), some (.inr (.inr 123)), o3, o4, some (.inl ((wrd (R.1 0).2.2 (R.1 0).1 i : Nat) : Int)), some (.inl (i : Int)), some (.inl ((kidc (R.1 0).2.2 i j : Nat) : Int)), some (.inl ((wun (R.1 0) i j : Nat) : Int)), some (.inl (j : Int))], []) :: K) σ3 := by
        intro m2
        induction m2 with
        | zero =>
          intro j o4 hm2 hj
          have ej : j = (R.1 0).1 := by omega
          subst ej
          have hpl := par_lt (R.1 0).2.2 i
          rw [zj_151_71 hKl, hA3.2.1, if_pos (by omega)]
          refine e_parent (by show K.length + 1 + 4 ≤ 60; omega) hV3 hi' rfl ?_
          rw [zr_151_142 hKl, yAnd (by omega), Int.toNat_natCast, (hA3.2.2 i hi').1, ← (hT.2.2.2 i hi').1, if_neg (fun w => w rfl)]
          refine e_kids (by show K.length + 1 + 4 ≤ 60; omega) hV3 hi' rfl ?_
          rw [zr_151_156 hKl, if_neg (fun w => w rfl)]
          refine e_wordOf (by show K.length + 1 + 4 ≤ 60; omega) hV3 hi' rfl ?_
          have w0 : wof (R.1 0) i 0 = ((wrd (R.1 0).2.2 (R.1 0).1 i : Nat) : Int) := if_pos rfl
          rw [zr_151_169 hKl, w0, if_neg (fun w => w rfl)]
          refine e_wordOf (by show K.length + 1 + 4 ≤ 60; omega) hV3 hi' rfl ?_
          have w1 : wof (R.1 0) i 1 = ((wrd (R.1 0).2.2 (R.1 0).1 (ed (R.1 0).2.2 (R.1 0).1 i) : Nat) : Int) - 1 := if_neg (by decide)
          have hwe := wrd_end hw hi'
          have hwl2 := wrd_le (dep := (R.1 0).2.2) (n := (R.1 0).1) (ed (R.1 0).2.2 (R.1 0).1 i)
          have hel := (ed_spec (dep := (R.1 0).2.2) hi').2.1
          have e5 : ∀ _ : Unit, w32 (w32 (((wrd (R.1 0).2.2 (R.1 0).1 i : Nat) : Int) + ((wun (R.1 0) i (R.1 0).1 : Nat) : Int)) - 1) = ((wrd (R.1 0).2.2 (R.1 0).1 (ed (R.1 0).2.2 (R.1 0).1 i) : Nat) : Int) - 1 := fun _ => by
            have hwn := wun_n hi'
            generalize wun (R.1 0) i (R.1 0).1 = WU at hwn ⊢
            rw [zw_id (z := ((wrd (R.1 0).2.2 (R.1 0).1 i : Nat) : Int) + _) (by omega) (by omega), zw_id (by omega) (by omega)]
            omega
          rw [zr_151_182 hKl, w1, e5 (), if_neg (fun w => w rfl)]
          refine v_lab (by show K.length + 1 + 9 ≤ 60; omega) hV3 hi' rfl (hl i hi') (hlb i hi') (fun σ4 hF4 hV4 => ?_)
          rw [zr_151_199 hKl, if_neg (fun w => w rfl)]
          refine v_label (by show K.length + 1 + 11 ≤ 60; omega) (LO.rO hV4) hi' rfl (hl i hi') (hlb i hi') (fun σ5 hF5 hV5 => ?_)
          have hF05 : lFr 81 σ σ5 := ((hF3.trans hF4).trans hF5).le (by omega)
          have hA5 := tmA_fr hA hF05
          have e20 : ∀ _ : Unit, (w32 (20 + (i : Int))).toNat = 20 + i := fun _ => by rw [zw_id (by omega) (by omega)]; omega
          rw [zr_151_209, yAnd (by rw [zw_id (by omega) (by omega)]; omega), e20 (), (hA5.2.2 i hi').2, if_neg (fun w => w rfl), ws1 (by omega)]
          have ew : ∀ _ : Unit, w32 (((wrd (R.1 0).2.2 (R.1 0).1 i : Nat) : Int) + (if ¬ ((kidc (R.1 0).2.2 i (R.1 0).1 : Nat) : Int) = 0 then 0 else 1)) = ((wrd (R.1 0).2.2 (R.1 0).1 (i + 1) : Nat) : Int) := fun _ => by
            by_cases c : kidc (R.1 0).2.2 i (R.1 0).1 = 0
            · rw [if_neg (by omega), wrd_leaf c, zw_id (by omega) (by omega)]; omega
            · rw [if_pos (by omega), wrd_ne c, zw_id (by omega) (by omega)]; omega
          rw [ew ()]
          exact ih (i + 1) σ5 _ _ _ _ (by omega) hi' hF05 hV5
        | succ m2 ih2 =>
          intro j o4 hm2 hj
          have hj' : j < (R.1 0).1 := by omega
          have hkl := kidc_le (dep := (R.1 0).2.2) (a := i) j
          have hul := wun_le (T := R.1 0) (a := i) j
          have hr := fun o4 => ih2 (j + 1) o4 (by omega) hj'
          rw [zj_151_71 hKl, hA3.2.1, if_neg (by omega), yAnd (by omega), Int.toNat_natCast, (hA3.2.2 j hj').1, ← (hT.2.2.2 j hj').1, q_hasChild hA3]
          have e7 : ∀ _ : Unit, w32 (((kidc (R.1 0).2.2 i j : Nat) : Int) + (if ¬ par (R.1 0).2.2 j = (i : Int) then 0 else 1)) = ((kidc (R.1 0).2.2 i (j + 1) : Nat) : Int) := fun _ => by
            by_cases c : par (R.1 0).2.2 j = (i : Int)
            · rw [if_neg (fun w => w c), kidc_eq c, zw_id (by omega) (by omega)]; omega
            · rw [if_pos c, kidc_ne c, zw_id (by omega) (by omega)]; omega
          rw [e7 (), zr_151_107 hKl, zb_c (leaf_tt hT)]
          rw [wun_s hi' hj'] at hr
          by_cases c : kidc (R.1 0).2.2 j (R.1 0).1 = 0
          · rw [zb_f (fun w => w c), if_neg (fun w => w rfl), q_isUnder hA3 hT hj' hi' rfl rfl, zr_151_118, zb_n, ws1 (by omega)]
            rw [show w32 (((wun (R.1 0) i j : Nat) : Int) + zb (und (R.1 0) i j)) = ((wun (R.1 0) i j + @ite Nat (kidc (R.1 0).2.2 j (R.1 0).1 = 0 ∧ und (R.1 0) i j) (Classical.propDecidable _) 1 0 : Nat) : Int) by
              rcases Classical.em (und (R.1 0) i j) with q | q
              · rw [zb_t q, if_pos ⟨c, q⟩, zw_id (by omega) (by omega)]; omega
              · rw [zb_f q, if_neg (fun w => q w.2), zw_id (by omega) (by omega)]; omega]
            exact hr _
          · rw [zb_t c, if_pos (by decide), ws1 (by omega)]
            rw [if_neg (fun w => c w.1)] at hr
            rw [zw_id (by omega) (by omega), show ((wun (R.1 0) i j : Nat) : Int) + 0 = ((wun (R.1 0) i j + 0 : Nat) : Int) by omega]
            exact hr _
      have := cnt (R.1 0).1 0 (some (.inl 1)) rfl (Nat.zero_le _)
      rw [show wun (R.1 0) i 0 = 0 from if_pos (Nat.zero_le i)] at this
      exact this
  exact loop (R.1 0).1 0 σ2 _ _ _ _ rfl (Nat.zero_le _) hF12 (LO.rO hV2)
