/-! the model's trees, and one of them laid out -/
def mTr (p : Nat) (T : TRE) (σ : zW) : Prop := gI σ 124 p = (T.1 : Int) ∧ ∀ i, i < T.1 → gL σ 125 (20 * p + i) = T.2.1 i ∧ gI σ 126 (20 * p + i) = par T.2.2 i
theorem mTr_fr {p : Nat} {T : TRE} {σ σ' : zW} {X : Nat → Nat → Prop} (h : mTr p T σ) (hF : yFr X σ σ') (hX : ∀ k j, X k j → k ≠ 124 ∧ k ≠ 125 ∧ k ≠ 126) : mTr p T σ' := by
  refine ⟨(hF.i (fun w => (hX _ _ w).1 rfl)).trans h.1, fun i hi => ⟨(hF.l (fun w => (hX _ _ w).2.1 rfl)).trans (h.2 i hi).1, (hF.i (fun w => (hX _ _ w).2.2 rfl)).trans (h.2 i hi).2⟩⟩
theorem m_parentOf {K : List zF} {p i : Nat} {T : TRE} {σ : zW} {z : Int} (hp : p < 3) (hg : tgd T) (h : mTr p T σ) (h64 : gI σ 122 64 = (p : Int)) (hi : i < T.1) (hz : z = (i : Int)) : zEv true (zent 181 [.inr (.inr 122), .inl z] :: K) σ = zRet true K (some (.inl (par T.2.2 i))) σ := by
  subst hz
  have := hg.1.1
  have e : w32 (w32 (20 * (p : Int)) + (i : Int)) = ((20 * p + i : Nat) : Int) := by rw [zw_id (z := 20 * (p : Int)) (by omega) (by omega), zw_id (by omega) (by omega)]; omega
  rw [ze_181, h64, e, yAnd (by omega), Int.toNat_natCast, (h.2 i hi).2]
theorem m_labelOf {K : List zF} {p i : Nat} {T : TRE} {σ : zW} {z : Int} (hp : p < 3) (hg : tgd T) (h : mTr p T σ) (h64 : gI σ 122 64 = (p : Int)) (hi : i < T.1) (hz : z = (i : Int)) : zEv true (zent 182 [.inr (.inr 122), .inl z] :: K) σ = zRet true K (some (.inr (.inl (T.2.1 i)))) σ := by
  subst hz
  have := hg.1.1
  have e : w32 (w32 (20 * (p : Int)) + (i : Int)) = ((20 * p + i : Nat) : Int) := by rw [zw_id (z := 20 * (p : Int)) (by omega) (by omega), zw_id (by omega) (by omega)]; omega
  rw [ze_182, h64, e, yAnd (by omega), Int.toNat_natCast, (h.2 i hi).1]
theorem m_isBelow {K : List zF} (hK : K.length + 1 ≤ 60) {p a b : Nat} {T : TRE} {σ : zW} {x y : Int} (hp : p < 3) (hg : tgd T) (h : mTr p T σ) (h64 : gI σ 122 64 = (p : Int)) (ha : a < T.1) (hb : b < T.1) (hx : x = (b : Int)) (hy : y = (a : Int)) : zEv true (zent 183 [.inr (.inr 122), .inl x, .inl y] :: K) σ = zRet true K (some (.inl (if a < b ∧ b < ed T.2.2 T.1 a then 1 else 0))) σ := by
  subst hx
  subst hy
  have loop : ∀ (n b : Nat), b ≤ n → b < T.1 → ∀ o1 : Option zV, zEv true ((183, 6, [some (.inr (.inr 122)), o1, some (.inl (a : Int)), some (.inl (par T.2.2 b))], []) :: K) σ = zRet true K (some (.inl (if a < b ∧ b < ed T.2.2 T.1 a then 1 else 0))) σ := by
    intro n
    induction n with
    | zero =>
      intro b hbn hb o1
      have hb0 : b = 0 := by omega
      subst hb0
      rw [zj_183_6 (by omega), par_root hg.1, if_pos (by omega), if_pos (by omega), if_neg (by omega)]
    | succ n ih =>
      intro b hbn hb o1
      by_cases e : par T.2.2 b ≤ (a : Int)
      · have := below_end hg.1 hb ha e
        rw [zj_183_6 (by omega), if_pos e]
        by_cases e2 : par T.2.2 b = (a : Int)
        · rw [if_neg (fun w => w e2), if_pos (this.mpr e2)]
        · rw [if_pos e2, if_neg (fun w => e2 (this.mp w))]
      · have hl := par_lt T.2.2 b
        obtain ⟨u, hu⟩ : ∃ u : Nat, par T.2.2 b = (u : Int) := ⟨(par T.2.2 b).toNat, by omega⟩
        have := below_up hg.1 hb ha hu (by omega)
        rw [zj_183_6 (by omega), if_neg e, hu, m_parentOf hp hg h h64 (show u < T.1 by omega) rfl, zr_183_16, ih u (by omega) (by omega)]
        by_cases e2 : a < u ∧ u < ed T.2.2 T.1 a
        · rw [if_pos e2, if_pos (this.mpr e2)]
        · rw [if_neg e2, if_neg (fun w => e2 (this.mp w))]
  rw [ze_183 (by omega), m_parentOf hp hg h h64 hb rfl, zr_183_5]
  exact loop b b (Nat.le_refl _) hb _
/-- the tree laid out -/
def mLd (T : TRE) (σ : zW) : Prop := gI σ 122 65 = (T.1 : Int) ∧ ∀ i, i < T.1 → gI σ 173 i = (kidc T.2.2 i T.1 : Nat) ∧ gI σ 170 i = (wrd T.2.2 T.1 i : Nat) ∧ gI σ 171 i = ((wrd T.2.2 T.1 (ed T.2.2 T.1 i) : Nat) : Int) - 1 ∧ (par T.2.2 i = -1 → gI σ 172 i = 0) ∧ ∀ a : Nat, par T.2.2 i = (a : Int) → gI σ 172 i = (kidc T.2.2 a (i + 1) : Nat)
theorem mLd_fr {T : TRE} {σ σ' : zW} {X : Nat → Nat → Prop} (h : mLd T σ) (hF : yFr X σ σ') (hX : ∀ k j, X k j → ¬ (170 ≤ k ∧ k ≤ 173) ∧ ¬ (k = 122 ∧ j = 65)) : mLd T σ' := by
  refine ⟨(hF.i (fun w => (hX _ _ w).2 ⟨rfl, rfl⟩)).trans h.1, fun i hi => ?_⟩
  have e : ∀ k, 170 ≤ k → k ≤ 173 → gI σ' k i = gI σ k i := fun k k1 k2 => hF.i (fun w => (hX _ _ w).1 ⟨k1, k2⟩)
  obtain ⟨h1, h2, h3, h4, h5⟩ := h.2 i hi
  exact ⟨(e 173 (by omega) (by omega)).trans h1, (e 170 (by omega) (by omega)).trans h2, (e 171 (by omega) (by omega)).trans h3, fun q => (e 172 (by omega) (by omega)).trans (h4 q), fun a q => (e 172 (by omega) (by omega)).trans (h5 a q)⟩
abbrev Xly : Nat → Nat → Prop := fun k j => (k = 122 ∧ (j = 64 ∨ j = 65 ∨ j = 75)) ∨ (170 ≤ k ∧ k ≤ 173)
/-- a tree laid out, if it isn't the one that lies -/
theorem m_lays {K : List zF} (hK : K.length + 2 ≤ 60) {p : Nat} {T : TRE} {σ : zW} (hp : p < 3) (hg : tgd T) (h : mTr p T σ) (hh : gI σ 122 64 ≠ (p : Int))
    (k : ∀ σ' : zW, yFr Xly σ σ' → mLd T σ' → gI σ' 122 64 = (p : Int) → gI σ' 122 75 = 0 → zRet true K none σ') : zEv true (zent 180 [.inr (.inr 122), .inl (p : Int)] :: K) σ := by
  obtain ⟨n, lab, dep⟩ := T
  have hw : wfd n dep := hg.1
  have hn := hw.1
  obtain ⟨t1, t2⟩ := h
  simp only at t1 t2
  have loop4 : ∀ (m i : Nat) (o1 o2 o4 o5 : Option zV) (σ2 : zW), n - i = m → i ≤ n → yFr Xly σ σ2 → gI σ2 122 64 = (p : Int) → gI σ2 122 65 = (n : Int) → gI σ2 122 75 = 0 → (∀ j, j < n → gI σ2 173 j = (kidc dep j n : Nat) ∧ gI σ2 170 j = (wrd dep n j : Nat) ∧ (par dep j = -1 → gI σ2 172 j = 0) ∧ ∀ a : Nat, par dep j = (a : Int) → gI σ2 172 j = (kidc dep a (j + 1) : Nat)) → (∀ j, j < i → gI σ2 171 j = ((wrd dep n (ed dep n j) : Nat) : Int) - 1) → zEv true ((180, 152, [some (.inr (.inr 122)), o1, o2, some (.inl (i : Int)), o4, o5], []) :: K) σ2 := by
    intro m
    induction m with
    | zero =>
      intro i o1 o2 o4 o5 σ2 hm hi hF e64 e65 e75 hE h171
      rw [zj_180_152, e65, if_pos (by omega)]
      exact k σ2 hF ⟨e65, fun j hj => ⟨(hE j hj).1, (hE j hj).2.1, h171 j (by have : j < n := hj; omega), (hE j hj).2.2⟩⟩ e64 e75
    | succ m ih =>
      intro i o1 o2 o4 o5 σ2 hm hi hF e64 e65 e75 hE h171
      have hcc : 0 ≤ (i : Int) ∧ (i : Int) < 20 := by omega
      have hi' : i < n := by omega
      obtain ⟨s1, s2, s3, s4⟩ := ed_spec (dep := dep) hi'
      have hwe := wrd_end hw hi'
      have hM : mTr p (n, lab, dep) σ2 := mTr_fr ⟨t1, t2⟩ hF (fun k j h => by omega)
      have inner : ∀ (d o : Nat) (o4 : Int), n - o = d → i + 1 ≤ o → o ≤ n → o4 = (if wrd dep n i < wrd dep n (min o (ed dep n i)) then ((wrd dep n (min o (ed dep n i)) : Nat) : Int) - 1 else ((wrd dep n i : Nat) : Int)) ∨ (o = i + 1 ∧ o4 = ((wrd dep n i : Nat) : Int)) → ∀ o1 o2 : Option zV, zEv true ((180, 173, [some (.inr (.inr 122)), o1, o2, some (.inl (i : Int)), some (.inl o4), some (.inl (o : Int))], []) :: K) σ2 := by
        intro d
        induction d with
        | zero =>
          intro o o4 hd ho1 ho2 hv o1 o2
          have e : o = n := by omega
          subst e
          have hv2 : o4 = ((wrd dep o (ed dep o i) : Nat) : Int) - 1 := by
            rcases hv with hv | ⟨hv1, hv2⟩
            · rw [hv, show min o (ed dep o i) = ed dep o i by omega, if_pos hwe]
            · have he : ed dep o i = i + 1 := by omega
              have hl := (leaf_iff hw hi').mpr he
              rw [hv2, he, wrd_leaf hl]; omega
          rw [zj_180_173 (by omega), e65, if_pos (by omega), yAnd hcc, Int.toNat_natCast, zw_id (by omega) (by omega), show (i : Int) + 1 = ((i + 1 : Nat) : Int) by omega]
          have hF2 : yFr (fun k j => k = 171 ∧ j = i) σ2 (sI σ2 171 i o4) := yFr.rf.I ⟨rfl, rfl⟩
          refine ih (i + 1) _ _ _ _ _ (by omega) (by omega) (hF.trans (hF2.mono (fun k j h => by omega))) ((hF2.i (by omega)).trans e64) ((hF2.i (by omega)).trans e65) ((hF2.i (by omega)).trans e75) (fun j hj => ?_) (fun j hj => ?_)
          · rw [hF2.i (k := 173) (by omega), hF2.i (k := 170) (by omega), hF2.i (k := 172) (by omega)]; exact hE j hj
          · by_cases e : j = i
            · subst e; rw [yGI_hit]; exact hv2
            · rw [hF2.i (by omega)]; exact h171 j (by omega)
        | succ d ihd =>
          intro o o4 hd ho1 ho2 hv o1 o2
          have hon : o < n := by omega
          have hco : 0 ≤ (o : Int) ∧ (o : Int) < 20 := by omega
          have hv3 : o4 = (if wrd dep n i < wrd dep n (min o (ed dep n i)) then ((wrd dep n (min o (ed dep n i)) : Nat) : Int) - 1 else ((wrd dep n i : Nat) : Int)) ∨ (o = i + 1 ∧ o4 = ((wrd dep n i : Nat) : Int)) := hv
          rw [zj_180_173 (by omega), e65, if_neg (by omega), m_isBelow (yKK (K := K) (by omega)) hp hg hM e64 (show i < n from hi') (show o < n from hon) rfl rfl, zr_180_189]
          have h212 : ∀ x : Int, x = (if wrd dep n i < wrd dep n (min (o + 1) (ed dep n i)) then ((wrd dep n (min (o + 1) (ed dep n i)) : Nat) : Int) - 1 else ((wrd dep n i : Nat) : Int)) → ∀ o1 o2 : Option zV, zEv true ((180, 173, [some (.inr (.inr 122)), o1, o2, some (.inl (i : Int)), some (.inl x), some (.inl (w32 ((o : Int) + 1)))], []) :: K) σ2 := fun x hx o1 o2 => by
            rw [zw_id (by omega) (by omega), show (o : Int) + 1 = ((o + 1 : Nat) : Int) by omega]
            exact ihd (o + 1) x (by omega) (by omega) (by omega) (Or.inl hx) o1 o2
          have hwm := wrd_mono (dep := dep) (n := n) (show i ≤ o by omega)
          by_cases hbl : i < o ∧ o < ed dep n i
          · rw [if_neg (by rw [if_pos hbl]; omega), yAnd hco, Int.toNat_natCast, (hE o hon).1]
            have hm1 : min (o + 1) (ed dep n i) = o + 1 := by omega
            have hm0 : min o (ed dep n i) = o := by omega
            rw [hm0] at hv3
            by_cases hk : kidc dep o n = 0
            · rw [if_neg (by omega), yAnd hco, (hE o hon).2.1]
              refine h212 _ ?_ _ _
              rw [hm1, wrd_leaf hk, if_pos (by omega)]; omega
            · rw [if_pos (by omega), zj_180_212]
              refine h212 _ ?_ _ _
              rw [hm1, wrd_ne hk]
              rcases hv3 with hv3 | ⟨g1, g2⟩
              · exact hv3
              · -- the first one behind a node with children
                have hki : ¬ kidc dep i n = 0 := fun w => by have := (leaf_iff hw hi').mp w; omega
                have : wrd dep n o = wrd dep n i := by rw [g1, wrd_ne hki]
                rw [this, if_neg (by omega)]; exact g2
          · rw [if_pos (by rw [if_neg hbl]), zj_180_212]
            refine h212 _ ?_ _ _
            have hm1 : min (o + 1) (ed dep n i) = ed dep n i := by omega
            have hm0 : min o (ed dep n i) = ed dep n i := by omega
            rw [hm0] at hv3
            rw [hm1]
            rcases hv3 with hv3 | ⟨g1, g2⟩
            · exact hv3
            · have he : ed dep n i = i + 1 := by omega
              have hl := (leaf_iff hw hi').mpr he
              rw [g2, if_pos hwe, he, wrd_leaf hl]; omega
      rw [zj_180_152, e65, if_neg (by omega), yAnd hcc, Int.toNat_natCast, (hE i hi').2.1, zw_id (by omega) (by omega), show (i : Int) + 1 = ((i + 1 : Nat) : Int) by omega]
      exact inner (n - (i + 1)) (i + 1) _ rfl (Nat.le_refl _) (by omega) (Or.inr ⟨rfl, rfl⟩) _ _
  have loop3 : ∀ (m i : Nat) (o1 o4 o5 : Option zV) (σ2 : zW), n - i = m → i ≤ n → yFr Xly σ σ2 → gI σ2 122 64 = (p : Int) → gI σ2 122 65 = (n : Int) → gI σ2 122 75 = 0 → (∀ j, j < n → gI σ2 173 j = (kidc dep j n : Nat) ∧ (par dep j = -1 → gI σ2 172 j = 0) ∧ ∀ a : Nat, par dep j = (a : Int) → gI σ2 172 j = (kidc dep a (j + 1) : Nat)) → (∀ j, j < i → gI σ2 170 j = (wrd dep n j : Nat)) → zEv true ((180, 112, [some (.inr (.inr 122)), o1, some (.inl ((wrd dep n i : Nat) : Int)), some (.inl (i : Int)), o4, o5], []) :: K) σ2 := by
    intro m
    induction m with
    | zero =>
      intro i o1 o4 o5 σ2 hm hi hF e64 e65 e75 hE h170
      rw [zj_180_112, e65, if_pos (by omega)]
      exact loop4 n 0 _ _ _ _ σ2 rfl (Nat.zero_le _) hF e64 e65 e75 (fun j hj => ⟨(hE j hj).1, h170 j (by omega), (hE j hj).2⟩) (fun j hj => by omega)
    | succ m ih =>
      intro i o1 o4 o5 σ2 hm hi hF e64 e65 e75 hE h170
      have hcc : 0 ≤ (i : Int) ∧ (i : Int) < 20 := by omega
      have hwl := wrd_le (dep := dep) (n := n) i
      have ev : w32 (((wrd dep n i : Nat) : Int) + (if ¬ gI σ2 173 i = 0 then 0 else 1 : Int)) = ((wrd dep n (i + 1) : Nat) : Int) := by
        rw [(hE i (by omega)).1]
        by_cases e : kidc dep i n = 0
        · rw [if_neg (by omega), wrd_leaf e, zw_id (by omega) (by omega)]; omega
        · rw [if_pos (by omega), wrd_ne e, zw_id (by omega) (by omega)]; omega
      rw [zj_180_112, e65, if_neg (by omega), yAnd hcc, yAnd hcc, Int.toNat_natCast, ev, zw_id (by omega) (by omega), show (i : Int) + 1 = ((i + 1 : Nat) : Int) by omega]
      have hF2 : yFr (fun k j => k = 170 ∧ j = i) σ2 (sI σ2 170 i ((wrd dep n i : Nat) : Int)) := yFr.rf.I ⟨rfl, rfl⟩
      refine ih (i + 1) _ _ _ _ (by omega) (by omega) (hF.trans (hF2.mono (fun k j h => by omega))) ((hF2.i (by omega)).trans e64) ((hF2.i (by omega)).trans e65) ((hF2.i (by omega)).trans e75) (fun j hj => ?_) (fun j hj => ?_)
      · rw [hF2.i (k := 173) (by omega), hF2.i (k := 172) (by omega)]; exact hE j hj
      · by_cases e : j = i
        · subst e; exact yGI_hit
        · rw [hF2.i (by omega)]; exact h170 j (by omega)
  have loop2 : ∀ (m i : Nat) (o1 o3 o4 o5 : Option zV) (σ2 : zW), n - i = m → i ≤ n → yFr Xly σ σ2 → gI σ2 122 64 = (p : Int) → gI σ2 122 65 = (n : Int) → gI σ2 122 75 = 0 → (∀ j, j < n → gI σ2 173 j = (kidc dep j i : Nat)) → (∀ j, j < i → (par dep j = -1 → gI σ2 172 j = 0) ∧ ∀ a : Nat, par dep j = (a : Int) → gI σ2 172 j = (kidc dep a (j + 1) : Nat)) → zEv true ((180, 54, [some (.inr (.inr 122)), o1, some (.inl (i : Int)), o3, o4, o5], []) :: K) σ2 := by
    intro m
    induction m with
    | zero =>
      intro i o1 o3 o4 o5 σ2 hm hi hF e64 e65 e75 h173 h172
      have e : i = n := by omega
      subst e
      rw [zj_180_54 (by omega), e65, if_pos (by omega)]
      exact loop3 i 0 _ _ _ σ2 rfl (Nat.zero_le _) hF e64 e65 e75 (fun j hj => ⟨h173 j hj, h172 j hj⟩) (fun j hj => by omega)
    | succ m ih =>
      intro i o1 o3 o4 o5 σ2 hm hi hF e64 e65 e75 h173 h172
      have hcc : 0 ≤ (i : Int) ∧ (i : Int) < 20 := by omega
      have hi' : i < n := by omega
      have hM : mTr p (n, lab, dep) σ2 := mTr_fr ⟨t1, t2⟩ hF (fun k j h => by omega)
      rw [zj_180_54 (by omega), e65, if_neg (by omega), m_parentOf hp hg hM e64 (show i < n from hi') rfl, zr_180_67, yAnd hcc, Int.toNat_natCast]
      have hpl := par_lt dep i
      show (if par dep i = -1 then _ else _)
      by_cases hr : par dep i = -1
      · rw [if_pos hr, zw_id (by omega) (by omega), show (i : Int) + 1 = ((i + 1 : Nat) : Int) by omega]
        have hF2 : yFr (fun k j => k = 172 ∧ j = i) σ2 (sI σ2 172 i 0) := yFr.rf.I ⟨rfl, rfl⟩
        refine ih (i + 1) _ _ _ _ _ (by omega) (by omega) (hF.trans (hF2.mono (fun k j h => by omega))) ((hF2.i (by omega)).trans e64) ((hF2.i (by omega)).trans e65) ((hF2.i (by omega)).trans e75) (fun j hj => ?_) (fun j hj => ?_)
        · rw [hF2.i (by omega), h173 j hj, kidc_ne (by omega)]
        · by_cases e : j = i
          · subst e; rw [yGI_hit]; exact ⟨fun _ => rfl, fun a ha => by omega⟩
          · rw [hF2.i (by omega)]; exact h172 j (by omega)
      · obtain ⟨a, ha⟩ : ∃ a : Nat, par dep i = (a : Int) := ⟨(par dep i).toNat, by omega⟩
        have hca : 0 ≤ (a : Int) ∧ (a : Int) < 20 := by omega
        have hkl := kidc_le (dep := dep) (a := a) i
        have hka : kidc dep a (i + 1) = kidc dep a i + 1 := by
          exact kidc_eq ha
        rw [if_neg hr, ha, yAnd hca, yAnd hca, yAnd hca, yAnd hcc, Int.toNat_natCast, h173 a (by omega), zw_id (by omega) (by omega), zw_id (by omega) (by omega), show (i : Int) + 1 = ((i + 1 : Nat) : Int) by omega, show ((kidc dep a i : Nat) : Int) + 1 = ((kidc dep a (i + 1) : Nat) : Int) by omega]
        have hF2 : yFr (fun k j => (k = 172 ∧ j = i) ∨ (k = 173 ∧ j = a)) σ2 (sI (sI (sI σ2 172 i 0) 173 a ((kidc dep a (i + 1) : Nat) : Int)) 172 i ((kidc dep a (i + 1) : Nat) : Int)) := ((yFr.rf.I (by omega)).I (by omega)).I (by omega)
        refine ih (i + 1) _ _ _ _ _ (by omega) (by omega) (hF.trans (hF2.mono (fun k j h => by omega))) ((hF2.i (by omega)).trans e64) ((hF2.i (by omega)).trans e65) ((hF2.i (by omega)).trans e75) (fun j hj => ?_) (fun j hj => ?_)
        · by_cases e : j = a
          · subst e; rw [gI_sI, if_neg (by omega), yGI_hit]
          · rw [hF2.i (by omega), h173 j hj, kidc_ne (by omega)]
        · by_cases e : j = i
          · subst e; rw [yGI_hit]; exact ⟨fun q => by omega, fun a' ha' => by rw [show a' = a by omega]⟩
          · rw [hF2.i (by omega)]; exact h172 j (by omega)
  have loop1 : ∀ (m i : Nat) (o1 : Option zV) (σ2 : zW), n - i = m → i ≤ n → yFr Xly σ σ2 → gI σ2 122 64 = (p : Int) → gI σ2 122 65 = (n : Int) → gI σ2 122 75 = 0 → (∀ j, j < i → gI σ2 173 j = 0) → zEv true ((180, 31, [some (.inr (.inr 122)), o1, some (.inl (i : Int)), none, none, none], []) :: K) σ2 := by
    intro m
    induction m with
    | zero =>
      intro i o1 σ2 hm hi hF e64 e65 e75 h173
      rw [zj_180_31, e65, if_pos (by omega)]
      exact loop2 n 0 _ _ _ _ σ2 rfl (Nat.zero_le _) hF e64 e65 e75 (fun j hj => h173 j (by omega)) (fun j hj => by omega)
    | succ m ih =>
      intro i o1 σ2 hm hi hF e64 e65 e75 h173
      have hcc : 0 ≤ (i : Int) ∧ (i : Int) < 20 := by omega
      rw [zj_180_31, e65, if_neg (by omega), yAnd hcc, Int.toNat_natCast, zw_id (by omega) (by omega), show (i : Int) + 1 = ((i + 1 : Nat) : Int) by omega]
      have hF2 : yFr (fun k j => k = 173 ∧ j = i) σ2 (sI σ2 173 i 0) := yFr.rf.I ⟨rfl, rfl⟩
      refine ih (i + 1) _ _ (by omega) (by omega) (hF.trans (hF2.mono (fun k j h => by omega))) ((hF2.i (by omega)).trans e64) ((hF2.i (by omega)).trans e65) ((hF2.i (by omega)).trans e75) (fun j hj => ?_)
      by_cases e : j = i
      · subst e; exact yGI_hit
      · rw [hF2.i (by omega)]; exact h173 j (by omega)
  rw [ze_180, if_pos hh, yAnd (by omega), Int.toNat_natCast, t1]
  refine loop1 n 0 _ _ rfl (Nat.zero_le _) (((yFr.rf.I (by omega)).I (by omega)).I (by omega)) ?_ ?_ yGI_hit (fun j hj => by omega)
  · rw [gI_sI, if_neg (by omega), gI_sI, if_neg (by omega), yGI_hit]
  · rw [gI_sI, if_neg (by omega), yGI_hit]
