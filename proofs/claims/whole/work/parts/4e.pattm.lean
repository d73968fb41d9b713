/-! labels, beginnings and names in the model's patterns -/
abbrev Xml (c : Nat) : Nat → Nat → Prop := fun k j => (k = 122 ∧ ((2 ≤ j ∧ j ≤ 7) ∨ j = 49)) ∨ k = 158 ∨ (k = 148 ∧ j = c)
theorem m_labels_loop {K : List zF} (hK : K.length + 6 ≤ 60) {f : Nat → Int} {L c : Nat} (hc : c < 8) : ∀ (n a l u : Nat) (B : Nat → Int64) (σ : zW), L < a + n → a ≤ L → 2 * l ≤ a → mT f L σ → gI σ 122 2 = (a : Int) → gI σ 122 49 = (l : Int) → u ≤ l → gI σ 148 c = (l : Int) - u → (∀ i, i < l → gL σ 158 i = B i) →
    (∀ (σ' : zW) (e : Nat × Nat), lbR f L n a l B = .inl e → yFr (Xml c) σ σ' → gI σ' 122 6 = (e.1 : Nat) → gI σ' 122 7 = (e.2 : Nat) → zRet true K (some (.inl 0)) σ') →
    (∀ (σ' : zW) (r : Nat × (Nat → Int64) × Nat), lbR f L n a l B = .inr r → yFr (Xml c) σ σ' → gI σ' 122 2 = (r.2.2 : Nat) → gI σ' 122 49 = (r.1 : Nat) → gI σ' 148 c = (r.1 : Int) - u → (∀ i, i < r.1 → gL σ' 158 i = r.2.1 i) → zRet true K (some (.inl 1)) σ') →
    zEv true ((156, 12, [some (.inr (.inr 122)), some (.inl (c : Int)), some (.inl 1)], []) :: K) σ := by
  intro n
  induction n with
  | zero => intro a l u B σ h1 h2; omega
  | succ n ih =>
    intro a l u B σ hn haL hl hT ha h49 hul h148 hB k0 k1
    have h6 := hT.2.2.1
    rw [lbR] at k0 k1
    rw [zj_156_12 (by omega), if_neg (show ¬ (1 : Int) = 0 by omega), m_rightLabel (yKK (by omega)) hT ha]
    have hFL : yFr Xlb σ (mrlW f L a σ) := mrl_fr yFr.rf (fun j h1 h2 => by omega)
    cases hr : rdl f L a with
    | inl e =>
      rw [hr] at k0
      rw [zr_156_20 (by omega)]
      show if ¬ (0 : Int) = 0 then _ else _
      rw [if_neg (show ¬ ¬ (0 : Int) = 0 from fun w => w rfl)]
      exact k0 _ e rfl (hFL.mono (fun k j h => by omega)) (mrl_fault hr).1 (mrl_fault hr).2
    | inr r =>
      obtain ⟨v, q⟩ := r
      rw [hr] at k0 k1
      simp only at k0 k1
      obtain ⟨g1, g2, -⟩ := rdl_ok hr
      obtain ⟨o1, o2, -⟩ := mrl_ok (σ := σ) hr
      have hs2 := sk_le (f := f) g2
      have hg2 := sk_ge f L q
      generalize mrlW f L a σ = σ9 at hFL o1 o2 ⊢
      have e49 : gI σ9 122 49 = (l : Int) := (hFL.i (by omega)).trans h49
      have e148 : gI σ9 148 c = (l : Int) - u := (hFL.i (by omega)).trans h148
      have hcc : 0 ≤ (l : Int) ∧ (l : Int) < 300 := by omega
      have hcc2 : 0 ≤ (c : Int) ∧ (c : Int) < 8 := by omega
      have e148' : gI (sI (sL σ9 158 l v) 122 49 ((l : Int) + 1)) 148 c = (l : Int) - u := by rw [gI_sI, if_neg (by omega), gI_sL]; exact e148
      rw [zr_156_20 (by omega)]
      show if ¬ (1 : Int) = 0 then _ else _
      rw [if_pos (show ¬ (1 : Int) = 0 by omega), e49, yAnd hcc, yAnd hcc2, yAnd hcc2, Int.toNat_natCast, Int.toNat_natCast, o2, zw_id (by omega) (by omega)]
      have hX : yFr (Xml c) σ (sI (sI (sL σ9 158 l v) 122 49 ((l : Int) + 1)) 148 c (w32 (gI σ9 148 c + 1))) := (((hFL.mono (fun k j h => by omega)).L (by omega)).I (by omega)).I (by omega)
      have j2 : gI (sI (sI (sL σ9 158 l v) 122 49 ((l : Int) + 1)) 148 c (w32 (gI σ9 148 c + 1))) 122 2 = (q : Int) := by rw [gI_sI, if_neg (by omega), gI_sI, if_neg (by omega), gI_sL]; exact o1
      have j49 : gI (sI (sI (sL σ9 158 l v) 122 49 ((l : Int) + 1)) 148 c (w32 (gI σ9 148 c + 1))) 122 49 = ((l + 1 : Nat) : Int) := by rw [gI_sI, if_neg (by omega), yGI_hit]; omega
      have j148 : gI (sI (sI (sL σ9 158 l v) 122 49 ((l : Int) + 1)) 148 c (w32 (gI σ9 148 c + 1))) 148 c = ((l + 1 : Nat) : Int) - u := by rw [yGI_hit, e148, zw_id (by omega) (by omega)]; omega
      have jB : ∀ i, i < l + 1 → gL (sI (sI (sL σ9 158 l v) 122 49 ((l : Int) + 1)) 148 c (w32 (gI σ9 148 c + 1))) 158 i = fup B l v i := by
        intro i hi
        rw [gL_sI, gL_sI, gL_sL]
        by_cases e : i = l
        · subst e; rw [if_pos ⟨rfl, rfl⟩, fup_eq]
        · rw [if_neg (fun w => e w.2), fup_ne e, hFL.l (by omega)]; exact hB i (by omega)
      generalize sI (sI (sL σ9 158 l v) 122 49 ((l : Int) + 1)) 148 c (w32 (gI σ9 148 c + 1)) = σ1 at hX j2 j49 j148 jB ⊢
      have hT2 := mT_fr hT hX (fun k j h => by omega)
      rw [m_sign (yKK (by omega)) hT2 j2, zr_156_62, yGI_hit]
      by_cases h124 : tb f L (sk f L q) = 124
      · have hlt := tb_in (f := f) (L := L) (p := sk f L q) (by omega)
        have e : (if ¬ tb f L (sk f L q) = 124 then (0 : Int) else 1) = 1 := if_neg (fun w => w h124)
        rw [if_pos h124] at k0 k1
        rw [e, if_neg (show ¬ (1 : Int) = 0 by omega), zw_id (by omega) (by omega), sI_sI, show ((sk f L q : Nat) : Int) + 1 = ((sk f L q + 1 : Nat) : Int) by omega]
        have hF2 : yFr (Xml c) σ (sI σ1 122 2 ((sk f L q + 1 : Nat) : Int)) := hX.I (by omega)
        exact ih (sk f L q + 1) (l + 1) u (fup B l v) _ (by omega) (by omega) (by omega) (mT_u hT2 (by omega)) yGI_hit (by rw [gI_sI, if_neg (by omega)]; exact j49) (by omega) (by rw [gI_sI, if_neg (by omega)]; exact j148) (fun i hi => by rw [gL_sI]; exact jB i hi) (fun σ' e he hF3 => k0 σ' e he (hF2.trans hF3)) (fun σ' r hr2 hF3 => k1 σ' r hr2 (hF2.trans hF3))
      · have e : (if ¬ tb f L (sk f L q) = 124 then (0 : Int) else 1) = 0 := if_pos h124
        rw [if_neg h124] at k1
        rw [e, if_pos (show (0 : Int) = 0 from rfl), Int.add_zero, zw_id (by omega) (by omega), sI_sI, zj_156_12 (by omega), if_pos (show (0 : Int) = 0 from rfl)]
        exact k1 _ (l + 1, fup B l v, sk f L q) rfl (hX.I (by omega)) yGI_hit (by rw [gI_sI, if_neg (by omega)]; exact j49) (by rw [gI_sI, if_neg (by omega)]; exact j148) (fun i hi => by rw [gL_sI]; exact jB i hi)
theorem m_begin {K : List zF} (hK : K.length + 5 ≤ 60) {f : Nat → Int} {L a c n nb : Nat} {dn : Int} {σ : zW} (hT : mT f L σ) (ha : gI σ 122 2 = (a : Int)) (haL : a ≤ L) (h35 : gI σ 122 35 = (c : Int)) (h50 : gI σ 122 50 = (n : Int)) (hdn : dn = 0 ∨ dn = 1) (hnb : nb = nbrR dn (tb f L (sk f L a)))
    (k0 : ∀ (σ' : zW) (e : Nat × Nat), begR f L (sk f L a) c n nb = some e → yFr Xlb σ σ' → gI σ' 122 6 = (e.1 : Nat) → gI σ' 122 7 = (e.2 : Nat) → zRet true K (some (.inl 0)) σ')
    (k1 : ∀ σ' : zW, begR f L (sk f L a) c n nb = none → yFr Xlb σ σ' → gI σ' 122 2 = (sk f L a : Nat) → zRet true K (some (.inl 1)) σ') :
    zEv true (zent 157 [.inr (.inr 122), .inl dn] :: K) σ := by
  have h6 := hT.2.2.1
  have hs := sk_le (f := f) haL
  rw [ze_157 (by omega), m_sign (yKK (by omega)) hT ha, zr_157_4 (by omega), yGI_hit]
  generalize sk f L a = p at hs k0 k1 hnb ⊢
  have hF : yFr Xlb σ (sI σ 122 2 (p : Nat)) := yFr.rf.I (by omega)
  have hT1 := mT_fr hT hF (fun k j h => by omega)
  have e2 : gI (sI σ 122 2 (p : Nat)) 122 2 = (p : Nat) := yGI_hit
  generalize sI σ 122 2 (p : Nat) = σ1 at hF hT1 e2 ⊢
  -- behind the label
  have full : ∀ (σ2 : zW) (o4 : Option zV), yFr Xlb σ σ2 → gI σ2 122 2 = (p : Nat) → ((begR f L p c n nb = if 8 ≤ c ∨ (nb = 1 ∧ 4 ≤ n) then some (3, p) else none)) → zEv true ((157, 82, [some (.inr (.inr 122)), some (.inl dn), some (.inl (tb f L p)), some (.inl (p : Int)), o4], []) :: K) σ2 := by
    intro σ2 o4 hF2 g2 hB
    have e35 := (hF2.i (k := 122) (j := 35) (by omega)).trans h35
    have e50 := (hF2.i (k := 122) (j := 50) (by omega)).trans h50
    have bad : (8 ≤ c ∨ (nb = 1 ∧ 4 ≤ n)) → zEv true ((157, 109, [some (.inr (.inr 122)), some (.inl dn), some (.inl (tb f L p)), some (.inl (p : Int)), o4], []) :: K) σ2 := by
      intro h
      rw [hB, if_pos h] at k0
      rw [zj_157_109 (by omega), m_fails, zr_157_115, if_pos (show (0 : Int) = 0 from rfl)]
      exact k0 _ (3, p) rfl ((hF2.I (by omega)).I (by omega)) (by rw [gI_sI, if_neg (by omega), yGI_hit]; rfl) yGI_hit
    have good : ¬ (8 ≤ c ∨ (nb = 1 ∧ 4 ≤ n)) → zRet true K (some (.inl 1)) σ2 := by
      intro h
      exact k1 σ2 (by rw [hB, if_neg h]) hF2 g2
    rw [zj_157_82, e35, e50]
    by_cases h8 : 8 ≤ c
    · rw [if_pos (by omega)]; exact bad (Or.inl h8)
    · rw [if_neg (by omega)]
      by_cases hd : dn = 0
      · rw [if_neg (show ¬ ¬ dn = 0 from fun w => w hd)]
        by_cases h61 : tb f L p = 61
        · have : nb = 0 := by rw [hnb]; unfold nbrR; rw [if_neg (fun w => w.2 h61)]
          rw [if_pos h61]; exact good (by omega)
        · have : nb = 1 := by rw [hnb]; unfold nbrR; rw [if_pos ⟨hd, h61⟩]
          rw [if_neg h61]
          by_cases h4 : n < 4
          · rw [if_pos (by omega)]; exact good (by omega)
          · rw [if_neg (by omega)]; exact bad (Or.inr ⟨this, by omega⟩)
      · have : nb = 0 := by rw [hnb]; unfold nbrR; rw [if_neg (fun w => hd w.1)]
        rw [if_pos hd]; exact good (by omega)
  -- a letter or a sign
  have let1 : (zlet (tb f L p) ∨ tb f L p = 42 ∨ tb f L p = 61 ∨ tb f L p = 126 ∨ tb f L p = 33) → ∀ o4 : Option zV, zEv true ((157, 48, [some (.inr (.inr 122)), some (.inl dn), some (.inl (tb f L p)), some (.inl (p : Int)), o4], []) :: K) σ1 := by
    intro hok o4
    rw [zj_157_48 (by omega), m_isLetter (yKK (by omega)), zr_157_52 (by omega)]
    by_cases hz : zlet (tb f L p)
    · rw [if_neg (show ¬ (if zlet (tb f L p) then (1 : Int) else 0) = 0 by rw [if_pos hz]; omega), m_isLabel (yKK (by omega)) hT1 e2, zr_157_59 (by omega), mLab_4]
      have hF2 : yFr Xlb σ (mLab σ1 p (wl f L p) (pk f p (wl f L p))) := mLab_fr hF (fun j h1 h2 => by omega)
      generalize mLab σ1 p (wl f L p) (pk f p (wl f L p)) = σ2 at hF2 ⊢
      by_cases h7 : 6 < wl f L p
      · have hB : begR f L p c n nb = some (2, p) := by unfold begR; rw [if_neg (fun w => w hok), if_pos h7]
        rw [if_neg (by omega), m_fails, zr_157_81, yAnd (Or.inl rfl)]
        exact k0 _ (2, p) hB (((hF2.I (by omega)).I (by omega)).I (by omega)) (by rw [gI_sI, if_neg (by omega), yGI_hit]; rfl) yGI_hit
      · rw [if_pos (by omega)]
        exact full _ _ (hF2.I (by omega)) yGI_hit (by unfold begR; rw [if_neg (fun w => w hok), if_neg h7])
    · have hw := wl_zero hz
      rw [if_pos (show (if zlet (tb f L p) then (1 : Int) else 0) = 0 by rw [if_neg hz])]
      exact full _ _ hF e2 (by unfold begR; rw [if_neg (fun w => w hok), if_neg (by omega)])
  by_cases h1 : tb f L p = 42
  · rw [if_pos h1]; exact let1 (Or.inr (Or.inl h1)) _
  · rw [if_neg h1]
    by_cases h2 : tb f L p = 33
    · rw [if_pos h2]; exact let1 (Or.inr (Or.inr (Or.inr (Or.inr h2)))) _
    · rw [if_neg h2]
      by_cases h3 : tb f L p = 126
      · rw [if_pos h3]; exact let1 (Or.inr (Or.inr (Or.inr (Or.inl h3)))) _
      · rw [if_neg h3]
        by_cases h4 : tb f L p = 61
        · rw [if_pos h4]; exact let1 (Or.inr (Or.inr (Or.inl h4))) _
        · rw [if_neg h4, m_isLetter (yKK (by omega)), zr_157_38 (by omega)]
          by_cases hz : zlet (tb f L p)
          · rw [if_pos (show ¬ (if zlet (tb f L p) then (1 : Int) else 0) = 0 by rw [if_pos hz]; omega)]
            exact let1 (Or.inl hz) _
          · rw [if_neg (show ¬ ¬ (if zlet (tb f L p) then (1 : Int) else 0) = 0 by rw [if_neg hz]; omega), m_fails, zr_157_47, yAnd (Or.inl rfl)]
            have hB : begR f L p c n nb = some (1, p) := if_pos (fun w => w.elim hz (fun w => w.elim h1 (fun w => w.elim h4 (fun w => w.elim h3 h2))))
            exact k0 _ (1, p) hB ((hF.I (by omega)).I (by omega)) (by rw [gI_sI, if_neg (by omega), yGI_hit]; rfl) yGI_hit
