/-! a tree settled by the class -/
/-- the cells t+1 .. of a tree T, all of them derived from its labels and depths -/
def cTr (t : Nat) (T : TRE) (σ : zW) : Prop := cRows t T.1 T.2.1 T.2.2 σ ∧
  (∀ i, i < T.1 → gI σ (t + 3) i = par T.2.2 i ∧ gI σ (t + 4) i = (ed T.2.2 T.1 i : Nat) ∧ gI σ (t + 5) i = (kidc T.2.2 i T.1 : Nat) ∧ gI σ (t + 7) i = (wrd T.2.2 T.1 i : Nat) ∧ gI σ (t + 8) i = ((wrd T.2.2 T.1 (ed T.2.2 T.1 i) : Nat) : Int) - 1) ∧
  (∀ i a : Nat, i < T.1 → par T.2.2 i = (a : Int) → gI σ (t + 6) i = (kidc T.2.2 a (i + 1) : Nat)) ∧ cIx t T.1 T.2.1 σ
theorem cTr_fr {t : Nat} {T : TRE} {σ σ' : zW} {X : Nat → Nat → Prop} (h : cTr t T σ) (hF : yFr X σ σ') (hX : ∀ k j, ((t + 1 ≤ k ∧ k ≤ t + 10) ∨ (k = t ∧ 11 ≤ j ∧ j ≤ 12)) → ¬ X k j) : cTr t T σ' := by
  obtain ⟨h1, h2, h3, h4⟩ := h
  refine ⟨⟨(hF.i (hX _ _ (by omega))).trans h1.1, fun i hi => ⟨(hF.l (hX _ _ (by omega))).trans (h1.2 i hi).1, (hF.i (hX _ _ (by omega))).trans (h1.2 i hi).2⟩⟩, fun i hi => ?_, fun i a hi ha => (hF.i (hX _ _ (by omega))).trans (h3 i a hi ha), cIx_fr h4 hF (fun k j w => hX _ _ (by omega))⟩
  obtain ⟨b1, b2, b3, b4, b5⟩ := h2 i hi
  exact ⟨(hF.i (hX _ _ (by omega))).trans b1, (hF.i (hX _ _ (by omega))).trans b2, (hF.i (hX _ _ (by omega))).trans b3, (hF.i (hX _ _ (by omega))).trans b4, (hF.i (hX _ _ (by omega))).trans b5⟩
abbrev Xst (t : Nat) : Nat → Nat → Prop := fun k j => (t + 3 ≤ k ∧ k ≤ t + 11) ∨ (k = t ∧ j = 11)
theorem c_settleWords {K : List zF} {t n : Nat} {dep : Nat → Nat} {σ : zW} (ht : zTr t) (hw : wfd n dep) (h12 : gI σ t 12 = (n : Int)) (h4 : ∀ i, i < n → gI σ (t + 4) i = (ed dep n i : Nat)) (h5 : ∀ i, i < n → gI σ (t + 5) i = (kidc dep i n : Nat))
    (k : ∀ σ' : zW, yFr (fun k _ => k = t + 7 ∨ k = t + 8) σ σ' → (∀ i, i < n → gI σ' (t + 7) i = (wrd dep n i : Nat) ∧ gI σ' (t + 8) i = ((wrd dep n (ed dep n i) : Nat) : Int) - 1) → zRet true K none σ') :
    zEv true (zent 96 [.inr (.inr t)] :: K) σ := by
  have hb := zTr_b ht
  have hn := hw.1
  have loop2 : ∀ (m i : Nat) (σ2 : zW), n - i = m → i ≤ n → yFr (fun k _ => k = t + 7 ∨ k = t + 8) σ σ2 → (∀ j, j < n → gI σ2 (t + 7) j = (wrd dep n j : Nat)) → (∀ j, j < i → gI σ2 (t + 8) j = ((wrd dep n (ed dep n j) : Nat) : Int) - 1) → zEv true ((96, 44, [some (.inr (.inr t)), some (.inl ((wrd dep n n : Nat) : Int)), some (.inl (i : Int))], []) :: K) σ2 := by
    intro m
    induction m with
    | zero =>
      intro i σ2 hm hi hF h7 h8
      rw [zj_96_44 ht, (hF.i (by omega)).trans h12, if_pos (by omega)]
      exact k σ2 hF (fun j hj => ⟨h7 j hj, h8 j (by omega)⟩)
    | succ m ih =>
      intro i σ2 hm hi hF h7 h8
      have hcc : 0 ≤ (i : Int) ∧ (i : Int) < 20 := by omega
      obtain ⟨s1, s2, s3, s4⟩ := ed_spec (dep := dep) (show i < n by omega)
      have hwl := wrd_le (dep := dep) (n := n) (ed dep n i)
      have e4 : gI σ2 (t + 4) i = (ed dep n i : Nat) := (hF.i (by omega)).trans (h4 i (by omega))
      have ev : w32 ((if (n : Int) ≤ ((ed dep n i : Nat) : Int) then ((wrd dep n n : Nat) : Int) else gI σ2 (t + 7) (ed dep n i) : Int) - 1) = ((wrd dep n (ed dep n i) : Nat) : Int) - 1 := by
        by_cases e : n ≤ ed dep n i
        · rw [if_pos (by omega), show ed dep n i = n by omega, zw_id]
          · have := wrd_le (dep := dep) (n := n) n; omega
          · have := wrd_le (dep := dep) (n := n) n; omega
        · rw [if_neg (by omega), h7 _ (by omega), zw_id (by omega) (by omega)]
      rw [zj_96_44 ht, (hF.i (by omega)).trans h12, if_neg (by omega), yAnd hcc, Int.toNat_natCast, e4, yAnd (fun q => ⟨hcc, by omega⟩), yAnd hcc, Int.toNat_natCast, ev, zw_id (by omega) (by omega), show (i : Int) + 1 = ((i + 1 : Nat) : Int) by omega]
      refine ih (i + 1) _ (by omega) (by omega) (hF.I (by omega)) (fun j hj => ?_) (fun j hj => ?_)
      · rw [gI_sI, if_neg (by omega)]; exact h7 j hj
      · by_cases e : j = i
        · subst e; exact yGI_hit
        · rw [gI_sI, if_neg (fun w => e w.2)]; exact h8 j (by omega)
  have loop : ∀ (m i : Nat) (σ2 : zW), n - i = m → i ≤ n → yFr (fun k _ => k = t + 7 ∨ k = t + 8) σ σ2 → (∀ j, j < i → gI σ2 (t + 7) j = (wrd dep n j : Nat)) → zEv true ((96, 4, [some (.inr (.inr t)), some (.inl ((wrd dep n i : Nat) : Int)), some (.inl (i : Int))], []) :: K) σ2 := by
    intro m
    induction m with
    | zero =>
      intro i σ2 hm hi hF h7
      have e : i = n := by omega
      subst e
      rw [zj_96_4 ht, (hF.i (by omega)).trans h12, if_pos (by omega)]
      exact loop2 i 0 σ2 rfl (Nat.zero_le _) hF h7 (fun j hj => by omega)
    | succ m ih =>
      intro i σ2 hm hi hF h7
      have hcc : 0 ≤ (i : Int) ∧ (i : Int) < 20 := by omega
      have hwl := wrd_le (dep := dep) (n := n) i
      have ev : w32 (((wrd dep n i : Nat) : Int) + (if ¬ gI σ2 (t + 5) i = 0 then 0 else 1 : Int)) = ((wrd dep n (i + 1) : Nat) : Int) := by
        rw [(hF.i (by omega)).trans (h5 i (by omega))]
        by_cases e : kidc dep i n = 0
        · rw [if_neg (by omega), wrd_leaf e, zw_id (by omega) (by omega)]; omega
        · rw [if_pos (by omega), wrd_ne e, zw_id (by omega) (by omega)]; omega
      rw [zj_96_4 ht, (hF.i (by omega)).trans h12, if_neg (by omega), yAnd hcc, yAnd hcc, Int.toNat_natCast, ev, zw_id (by omega) (by omega), show (i : Int) + 1 = ((i + 1 : Nat) : Int) by omega]
      refine ih (i + 1) _ (by omega) (by omega) (hF.I (by omega)) (fun j hj => ?_)
      by_cases e : j = i
      · subst e; exact yGI_hit
      · rw [gI_sI, if_neg (fun w => e w.2)]; exact h7 j (by omega)
  rw [ze_96]
  exact loop n 0 σ rfl (Nat.zero_le _) yFr.rf (fun j hj => by omega)
/-- the ends while they are settled, from the last node on -/
def pst (dep : Nat → Nat) (n i j : Nat) : Nat := if kidc dep j (i + 1) < kidc dep j n then ed dep n j else j + 1
theorem c_settlePasts {K : List zF} (hK : K.length + 2 ≤ 60) {t n : Nat} {dep : Nat → Nat} {σ : zW} (ht : zTr t) (hw : wfd n dep) (h12 : gI σ t 12 = (n : Int)) (h3 : ∀ i, i < n → gI σ (t + 3) i = par dep i) (h4 : ∀ i, i < n → gI σ (t + 4) i = ((i + 1 : Nat) : Int)) (h5 : ∀ i, i < n → gI σ (t + 5) i = (kidc dep i n : Nat))
    (k : ∀ σ' : zW, yFr (fun k _ => k = t + 4 ∨ k = t + 7 ∨ k = t + 8) σ σ' → (∀ i, i < n → gI σ' (t + 4) i = (ed dep n i : Nat) ∧ gI σ' (t + 7) i = (wrd dep n i : Nat) ∧ gI σ' (t + 8) i = ((wrd dep n (ed dep n i) : Nat) : Int) - 1) → zRet true K none σ') (o2 : Option zV) :
    zEv true ((95, 132, [some (.inr (.inr t)), some (.inl (w32 ((n : Int) - 1))), o2], []) :: K) σ := by
  have hb := zTr_b ht
  have hn := hw.1
  have fin : ∀ (z : Int) (o2 : Option zV) (σ2 : zW), z ≤ 0 → yFr (fun k _ => k = t + 4) σ σ2 → (∀ j, j < n → gI σ2 (t + 4) j = (ed dep n j : Nat)) → zEv true ((95, 132, [some (.inr (.inr t)), some (.inl z), o2], []) :: K) σ2 := by
    intro z o2 σ2 hz hF hE
    rw [zj_95_132 (by omega) ht, if_pos hz]
    refine c_settleWords ht hw ((hF.i (by omega)).trans h12) hE (fun i hi => (hF.i (by omega)).trans (h5 i hi)) (fun σ' hF2 hE2 => ?_)
    rw [zr_95_174]
    refine k σ' ((hF.mono (fun k j h => by omega)).trans (hF2.mono (fun k j h => by omega))) (fun i hi => ⟨?_, hE2 i hi⟩)
    rw [hF2.i (by omega)]; exact hE i hi
  have loop : ∀ (i : Nat) (o2 : Option zV) (σ2 : zW), i < n → yFr (fun k _ => k = t + 4) σ σ2 → (∀ j, j < n → gI σ2 (t + 4) j = (pst dep n i j : Nat)) → zEv true ((95, 132, [some (.inr (.inr t)), some (.inl (i : Int)), o2], []) :: K) σ2 := by
    intro i
    induction i with
    | zero =>
      intro o2 σ2 hi hF hE
      refine fin _ o2 σ2 (by omega) hF (fun j hj => ?_)
      rw [hE j hj]
      have h0 : kidc dep j 1 = 0 := kidc_zero (by omega)
      unfold pst
      by_cases e : kidc dep j n = 0
      · rw [if_neg (by omega), (leaf_iff hw hj).mp e]
      · rw [if_pos (by rw [Nat.zero_add, h0]; omega)]
    | succ i ih =>
      intro o2 σ2 hi hF hE
      obtain ⟨a, ha, ha2, ha3⟩ := par_some hw hi (by omega)
      have hcc : 0 ≤ ((i + 1 : Nat) : Int) ∧ ((i + 1 : Nat) : Int) < 20 := by omega
      have hca : 0 ≤ (a : Int) ∧ (a : Int) < 20 := by omega
      have e3 : gI σ2 (t + 3) (i + 1) = (a : Int) := ((hF.i (by omega)).trans (h3 _ hi)).trans ha
      have hedi : pst dep n (i + 1) (i + 1) = ed dep n (i + 1) := by
        unfold pst
        have h0 : kidc dep (i + 1) (i + 1 + 1) = 0 := kidc_zero (by omega)
        by_cases e : kidc dep (i + 1) n = 0
        · rw [if_neg (by omega), (leaf_iff hw hi).mp e]
        · rw [if_pos (by omega)]
      have hch := ed_child hw hi ha
      have hka : kidc dep a (i + 1 + 1) = kidc dep a (i + 1) + 1 := by
        exact kidc_eq ha
      have hkm := kidc_mono (dep := dep) (a := a) (show i + 1 + 1 ≤ n by omega)
      have hnew : (if ((pst dep n (i + 1) a : Nat) : Int) < ((pst dep n (i + 1) (i + 1) : Nat) : Int) then ((pst dep n (i + 1) (i + 1) : Nat) : Int) else ((pst dep n (i + 1) a : Nat) : Int)) = ((pst dep n i a : Nat) : Int) := by
        rw [hedi, show pst dep n i a = ed dep n a by unfold pst; rw [if_pos (by omega)]]
        unfold pst
        by_cases e : kidc dep a (i + 1 + 1) < kidc dep a n
        · rw [if_pos e]
          by_cases e2 : ed dep n a < ed dep n (i + 1)
          · omega
          · rw [if_neg (by omega)]
        · rw [if_neg e, ed_lastchild hw hi ha (by omega)]
          have := (ed_spec (dep := dep) (show a < n by omega)).1
          by_cases e2 : a + 1 < ed dep n a
          · rw [if_pos (by omega)]
          · rw [if_neg (by omega)]; omega
      rw [zj_95_132 (by omega) ht, if_neg (by omega), yAnd hcc, Int.toNat_natCast, e3, yAnd hca, yAnd hcc, yAnd hca, Int.toNat_natCast, hE a (by omega), hE (i + 1) hi, hnew, zw_id (by omega) (by omega), show ((i + 1 : Nat) : Int) + -1 = (i : Int) by omega]
      refine ih _ _ (by omega) (hF.I rfl) (fun j hj => ?_)
      by_cases e : j = a
      · subst e; exact yGI_hit
      · rw [gI_sI, if_neg (fun w => e w.2), hE j hj]
        unfold pst
        have : kidc dep j (i + 1 + 1) = kidc dep j (i + 1) := by
          exact kidc_ne (by omega)
        rw [this]
  by_cases e : n = 0
  · subst e
    exact fin _ _ σ (by rw [zw_id (by omega) (by omega)]; omega) yFr.rf (fun j hj => by omega)
  · rw [zw_id (by omega) (by omega), show (n : Int) - 1 = ((n - 1 : Nat) : Int) by omega]
    refine loop (n - 1) _ σ (by omega) yFr.rf (fun j hj => ?_)
    rw [h4 j hj]
    unfold pst
    rw [show n - 1 + 1 = n by omega, if_neg (by omega)]
theorem c_settle_tree {K : List zF} (hK : K.length + 3 ≤ 60) {t : Nat} {T : TRE} {σ : zW} (ht : zTr t) (hg : tgd T) (hR : cRows t T.1 T.2.1 T.2.2 σ)
    (k : ∀ σ' : zW, yFr (Xst t) σ σ' → cTr t T σ' → zRet true K none σ') : zEv true (zent 95 [.inr (.inr t)] :: K) σ := by
  obtain ⟨n, lab, dep⟩ := T
  obtain ⟨hw, hl⟩ := hg
  simp only at hw hl hR
  have hb := zTr_b ht
  have hn := hw.1
  have loop : ∀ (m i : Nat) (o2 : Option zV) (σ2 : zW), n - i = m → i ≤ n → yFr (Xst t) σ σ2 → (0 < i → ∀ d, d ≤ dep (i - 1) → gI σ2 (t + 11) d = pa dep (d + 1) i) → (∀ j, j < i → gI σ2 (t + 3) j = par dep j ∧ gI σ2 (t + 4) j = ((j + 1 : Nat) : Int) ∧ gI σ2 (t + 5) j = (kidc dep j i : Nat)) → (∀ j a : Nat, j < i → par dep j = (a : Int) → gI σ2 (t + 6) j = (kidc dep a (j + 1) : Nat)) → cIx t i lab σ2 → zEv true ((95, 7, [some (.inr (.inr t)), some (.inl (i : Int)), o2], []) :: K) σ2 := by
    intro m
    induction m with
    | zero =>
      intro i o2 σ2 hm hi hF hch hE h6 hI
      have e : i = n := by omega
      subst e
      have g12 := (hF.i (k := t) (j := 12) (by omega)).trans hR.1
      rw [zj_95_7 ht, g12, if_pos (by omega)]
      refine c_settlePasts (by omega) ht hw g12 (fun j hj => (hE j hj).1) (fun j hj => (hE j hj).2.1) (fun j hj => (hE j hj).2.2) (fun σ' hF2 hE2 => ?_) o2
      have hFF := hF.trans (hF2.mono (fun k j h => by omega))
      refine k σ' hFF ⟨⟨(hFF.i (by omega)).trans hR.1, fun j hj => ⟨(hFF.l (by omega)).trans (hR.2 j hj).1, (hFF.i (by omega)).trans (hR.2 j hj).2⟩⟩, fun j hj => ⟨?_, (hE2 j hj).1, ?_, (hE2 j hj).2⟩, fun j a hj ha => ?_, cIx_fr hI hF2 (fun k j h => by omega)⟩
      · rw [hF2.i (by omega)]; exact (hE j hj).1
      · rw [hF2.i (by omega)]; exact (hE j hj).2.2
      · rw [hF2.i (by omega)]; exact h6 j a hj ha
    | succ m ih =>
      intro i o2 σ2 hm hi hF hch hE h6 hI
      have hi' : i < n := by omega
      have g12 := (hF.i (k := t) (j := 12) (by omega)).trans hR.1
      have gl : gL σ2 (t + 1) i = lab i := (hF.l (by omega)).trans (hR.2 i hi').1
      have gd : gI σ2 (t + 2) i = (dep i : Nat) := (hF.i (by omega)).trans (hR.2 i hi').2
      have hdl := wfd_lt hw i hi'
      have hcc : 0 ≤ (i : Int) ∧ (i : Int) < 20 := by omega
      have hcd : 0 ≤ ((dep i : Nat) : Int) ∧ ((dep i : Nat) : Int) < 21 := by omega
      have go : ∀ (σ3 : zW), yFr (fun k _ => (t + 3 ≤ k ∧ k ≤ t + 8) ∨ k = t + 11) σ2 σ3 → (∀ d, d ≤ dep i → gI σ3 (t + 11) d = pa dep (d + 1) (i + 1)) → (∀ j, j < i + 1 → gI σ3 (t + 3) j = par dep j ∧ gI σ3 (t + 4) j = ((j + 1 : Nat) : Int) ∧ gI σ3 (t + 5) j = (kidc dep j (i + 1) : Nat)) → (∀ j a : Nat, j < i + 1 → par dep j = (a : Int) → gI σ3 (t + 6) j = (kidc dep a (j + 1) : Nat)) → zEv true ((95, 109, [some (.inr (.inr t)), some (.inl (i : Int)), some (.inl ((dep i : Nat) : Int))], []) :: K) σ3 := by
        intro σ3 hF3 hch3 hE3 h63
        rw [zj_95_109 (by omega) ht, yAnd hcc, Int.toNat_natCast, (hF3.l (by omega)).trans gl]
        refine c_enterIx (yKK (by omega)) ht (by omega) rfl (cIx_fr hI hF3 (fun k j h => by omega)) (fun σ' hF4 hI4 => ?_)
        rw [zr_95_119, zw_id (by omega) (by omega), show (i : Int) + 1 = ((i + 1 : Nat) : Int) by omega]
        refine ih (i + 1) _ σ' (by omega) (by omega) ((hF.trans (hF3.mono (fun k j h => by omega))).trans (hF4.mono (fun k j h => by omega))) (fun _ d hd => ?_) (fun j hj => ?_) (fun j a hj ha => ?_) hI4
        · rw [hF4.i (by omega)]; exact hch3 d (by rw [show i + 1 - 1 = i by omega] at hd; exact hd)
        · rw [hF4.i (by omega), hF4.i (by omega), hF4.i (by omega)]; exact hE3 j hj
        · rw [hF4.i (by omega)]; exact h63 j a hj ha
      have hkz : kidc dep i (i + 1) = 0 := kidc_zero (Nat.le_refl _)
      have hchn : ∀ d, d ≤ dep i → (if d = dep i then (i : Int) else gI σ2 (t + 11) d) = pa dep (d + 1) (i + 1) := fun d hd => by
        rw [pa]
        by_cases e : d = dep i
        · rw [if_pos e, if_pos (by omega)]
        · have h0 : 0 < i := by
            rcases Nat.eq_zero_or_pos i with q | q
            · subst q; have := hw.2.1 hi'; omega
            · exact q
          have h1 := (hw.2.2 (i - 1) (by omega)).2
          rw [show i - 1 + 1 = i by omega] at h1
          rw [if_neg e, if_neg (by omega)]
          exact hch h0 d (by omega)
      rw [zj_95_7 ht, g12, if_neg (by omega)]
      simp only [Int.toNat_natCast, gd]
      have hpar : (if ¬ ((dep i : Nat) : Int) = 0 then gI (sI σ2 (t + 11) (dep i) (i : Int)) (t + 11) ((w32 (((dep i : Nat) : Int) - 1)).toNat) else (-1) : Int) = par dep i := by
        by_cases e : dep i = 0
        · rw [if_neg (fun w => w (by omega))]
          unfold par
          rw [e, pa_zero]
        · have h0 : 0 < i := by omega
          have h1 := (hw.2.2 (i - 1) (by omega)).2
          rw [show i - 1 + 1 = i by omega] at h1
          rw [if_pos (by omega), zw_id (by omega) (by omega), show ((dep i : Nat) : Int) - 1 = ((dep i - 1 : Nat) : Int) by omega, Int.toNat_natCast, gI_sI, if_neg (by omega), hch h0 (dep i - 1) (by omega), show dep i - 1 + 1 = dep i by omega]
      rw [yAnd hcc, yAnd hcd, yAnd (fun q => by rw [zw_id (by omega) (by omega)]; omega), yAnd hcc, yAnd hcc, yAnd hcc, yAnd hcc, hpar]
      have hFA : yFr (fun k _ => (t + 3 ≤ k ∧ k ≤ t + 8) ∨ k = t + 11) σ2 (sI (sI (sI (sI σ2 (t + 11) (dep i) (i : Int)) (t + 3) i (par dep i)) (t + 5) i 0) (t + 4) i (w32 ((i : Int) + 1))) := (((yFr.rf.I (by omega)).I (by omega)).I (by omega)).I (by omega)
      have a11 : ∀ d, d ≤ dep i → gI (sI (sI (sI (sI σ2 (t + 11) (dep i) (i : Int)) (t + 3) i (par dep i)) (t + 5) i 0) (t + 4) i (w32 ((i : Int) + 1))) (t + 11) d = pa dep (d + 1) (i + 1) := fun d hd => by
        rw [gI_sI, if_neg (by omega), gI_sI, if_neg (by omega), gI_sI, if_neg (by omega), gI_sI, ← hchn d hd]
        by_cases e : d = dep i
        · rw [if_pos ⟨rfl, e⟩, if_pos e]
        · rw [if_neg (fun w => e w.2), if_neg e]
      have a3 : ∀ j, j < i + 1 → gI (sI (sI (sI (sI σ2 (t + 11) (dep i) (i : Int)) (t + 3) i (par dep i)) (t + 5) i 0) (t + 4) i (w32 ((i : Int) + 1))) (t + 3) j = par dep j := fun j hj => by
        rw [gI_sI, if_neg (by omega), gI_sI, if_neg (by omega), gI_sI]
        by_cases e : j = i
        · subst e; rw [if_pos ⟨rfl, rfl⟩]
        · rw [if_neg (fun w => e w.2), gI_sI, if_neg (by omega)]; exact (hE j (by omega)).1
      have a4 : ∀ j, j < i + 1 → gI (sI (sI (sI (sI σ2 (t + 11) (dep i) (i : Int)) (t + 3) i (par dep i)) (t + 5) i 0) (t + 4) i (w32 ((i : Int) + 1))) (t + 4) j = ((j + 1 : Nat) : Int) := fun j hj => by
        rw [gI_sI]
        by_cases e : j = i
        · subst e; rw [if_pos ⟨rfl, rfl⟩, zw_id (by omega) (by omega)]; omega
        · rw [if_neg (fun w => e w.2), gI_sI, if_neg (by omega), gI_sI, if_neg (by omega), gI_sI, if_neg (by omega)]; exact (hE j (by omega)).2.1
      have a5 : ∀ j, j < i + 1 → gI (sI (sI (sI (sI σ2 (t + 11) (dep i) (i : Int)) (t + 3) i (par dep i)) (t + 5) i 0) (t + 4) i (w32 ((i : Int) + 1))) (t + 5) j = (kidc dep j i : Nat) := fun j hj => by
        rw [gI_sI, if_neg (by omega), gI_sI]
        by_cases e : j = i
        · subst e; rw [if_pos ⟨rfl, rfl⟩, kidc_zero (by omega)]; rfl
        · rw [if_neg (fun w => e w.2), gI_sI, if_neg (by omega), gI_sI, if_neg (by omega)]; exact (hE j (by omega)).2.2
      have a55 : gI (sI (sI (sI σ2 (t + 11) (dep i) (i : Int)) (t + 3) i (par dep i)) (t + 5) i 0) (t + 5) (par dep i).toNat = gI (sI (sI (sI (sI σ2 (t + 11) (dep i) (i : Int)) (t + 3) i (par dep i)) (t + 5) i 0) (t + 4) i (w32 ((i : Int) + 1))) (t + 5) (par dep i).toNat := by rw [gI_sI (k := t + 4), if_neg (by omega)]
      have a6 : ∀ j a : Nat, j < i → par dep j = (a : Int) → gI (sI (sI (sI (sI σ2 (t + 11) (dep i) (i : Int)) (t + 3) i (par dep i)) (t + 5) i 0) (t + 4) i (w32 ((i : Int) + 1))) (t + 6) j = (kidc dep a (j + 1) : Nat) := fun j a hj ha => by
        rw [gI_sI, if_neg (by omega), gI_sI, if_neg (by omega), gI_sI, if_neg (by omega), gI_sI, if_neg (by omega)]; exact h6 j a hj ha
      rw [a55]
      generalize sI (sI (sI (sI σ2 (t + 11) (dep i) (i : Int)) (t + 3) i (par dep i)) (t + 5) i 0) (t + 4) i (w32 ((i : Int) + 1)) = σ3 at hFA a11 a3 a4 a5 a6 ⊢
      by_cases hr : par dep i = -1
      · rw [if_pos hr]
        refine go σ3 hFA a11 (fun j hj => ⟨a3 j hj, a4 j hj, ?_⟩) (fun j a hj ha => ?_)
        · rw [a5 j hj, kidc_ne (by omega)]
        · have : j ≠ i := fun w => by rw [w] at ha; omega
          exact a6 j a (by omega) ha
      · have hpl := par_lt dep i
        obtain ⟨a, ha⟩ : ∃ a : Nat, par dep i = (a : Int) := ⟨(par dep i).toNat, by omega⟩
        have hca : 0 ≤ (a : Int) ∧ (a : Int) < 20 := by omega
        have hkl := kidc_le (dep := dep) (a := a) i
        have hkn : ∀ j, kidc dep j (i + 1) = kidc dep j i + if j = a then 1 else 0 := fun j => by
          show kidc dep j i + (if par dep i = (j : Int) then 1 else 0) = _
          by_cases e : j = a
          · rw [if_pos (by omega), if_pos e]
          · rw [if_neg (by omega), if_neg e]
        rw [if_neg hr, ha, yAnd hcc, yAnd hca, yAnd hca, yAnd hcc, yAnd hca, yAnd hcc, Int.toNat_natCast, a5 a (by omega), zw_id (by omega) (by omega)]
        refine go _ ((hFA.I (by omega)).I (by omega)) (fun d hd => ?_) (fun j hj => ⟨?_, ?_, ?_⟩) (fun j a' hj ha' => ?_)
        · rw [gI_sI, if_neg (by omega), gI_sI, if_neg (by omega)]; exact a11 d hd
        · rw [gI_sI, if_neg (by omega), gI_sI, if_neg (by omega)]; exact a3 j hj
        · rw [gI_sI, if_neg (by omega), gI_sI, if_neg (by omega)]; exact a4 j hj
        · rw [gI_sI, if_neg (by omega), gI_sI, hkn j]
          by_cases e : j = a
          · subst e; rw [if_pos ⟨rfl, rfl⟩, if_pos rfl]; omega
          · rw [if_neg (fun w => e w.2), if_neg e]; exact a5 j hj
        · rw [gI_sI]
          by_cases e : j = i
          · subst e
            have : a' = a := by omega
            subst this
            rw [if_pos ⟨rfl, rfl⟩, hkn, if_pos rfl]; omega
          · rw [if_neg (fun w => e w.2), gI_sI, if_neg (by omega)]; exact a6 j a' (by omega) ha'
  rw [ze_95 ht]
  have hF0 : yFr (Xst t) σ (sI σ t 11 0) := yFr.rf.I (by omega)
  exact loop n 0 none _ rfl (Nat.zero_le _) hF0 (fun q => absurd q (Nat.lt_irrefl 0)) (fun j hj => by omega) (fun j a hj => by omega) ⟨0, Nat.le_refl _, yGI_hit, fun a b _ hb2 => by omega, fun a ha => by omega, fun i hi => by omega⟩
