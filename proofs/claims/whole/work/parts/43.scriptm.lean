/-- the row of an edit as the model reads it, in the arrays from b on -/
def mEd (b c : Nat) (d : EDT) (σ : zW) : Prop := gL σ b c = kwn d.1.toNat ∧ gI σ (b + 1) c = (if d.1 = 4 then 0 else d.2.1 + 97) ∧ gI σ (b + 2) c = (if d.1 = 4 ∨ d.1 = 5 then d.2.2.1 + 97 else 0) ∧ (d.1 = 0 ∨ d.1 = 3 ∨ d.1 = 4 → gL σ (b + 3) c = d.2.2.2.1) ∧ (d.1 = 4 ∨ d.1 = 5 → gL σ (b + 4) c = kwn (6 + d.2.2.2.2.toNat))
abbrev Xme (c : Nat) : Nat → Nat → Prop := fun k j => (k = 122 ∧ ((2 ≤ j ∧ j ≤ 7) ∨ j = 58)) ∨ (165 ≤ k ∧ k ≤ 169 ∧ j = c)
theorem Xme_T {c : Nat} : ∀ k j, Xme c k j → k ≠ 123 ∧ ¬ (k = 122 ∧ j = 1) := fun k j q => by omega
theorem kw_k {k i : Nat} (hk : k < 6) (hi : i < 10) : zlc (kwn k) (kwn i) = 0 ↔ k = i := by
  rw [zlc_eq]
  exact ⟨fun h => kwn_ne (by omega) hi h, fun h => by rw [h]⟩
theorem m_edC {K : List zF} (hK : K.length + 5 ≤ 60) {f : Nat → Int} {L a c k : Nat} {x : Int} {v : Int64} {σ : zW} (hT : mT f L σ) (ha : gI σ 122 2 = (a : Int)) (haL : a ≤ L) (hc : c < 8) (hk : k < 6) (h58 : gI σ 122 58 = (c : Int))
    (e1 : gL σ 165 c = kwn k) (e2 : gI σ 166 c = (if (k : Int) = 4 then 0 else x + 97)) (e3 : gI σ 167 c = 0) (e4 : (k : Int) = 0 ∨ (k : Int) = 3 ∨ (k : Int) = 4 → gL σ 168 c = v)
    (k0 : ∀ (σ' : zW) (e : Nat × Nat), edC f L k a = .inl e → yFr (Xme c) σ σ' → gI σ' 122 6 = (e.1 : Nat) → gI σ' 122 7 = (e.2 : Nat) → zRet true K (some (.inl 0)) σ')
    (k1 : ∀ (σ' : zW) (r : (Int × Int) × Nat), edC f L k a = .inr r → yFr (Xme c) σ σ' → gI σ' 122 2 = (r.2 : Nat) → gI σ' 122 58 = ((c + 1 : Nat) : Int) → mEd 165 c (k, x, r.1.2, v, r.1.1) σ' → zRet true K (some (.inl 1)) σ') :
    zEv true ((167, 168, [some (.inr (.inr 122)), some (.inr (.inl (kwn k))), none], []) :: K) σ := by
  have h6 := hT.2.2.1
  have hcc : 0 ≤ (c : Int) ∧ (c : Int) < 8 := by omega
  obtain ⟨w0, w1, w2, w3, w4, w5, -⟩ := kwn_lits
  rw [zj_167_168, ← w4, ← w5]
  simp only [kw_k hk (show 4 < 10 by omega), kw_k hk (show 5 < 10 by omega)]
  unfold edC at k0 k1
  by_cases h4 : k = 4 ∨ k = 5
  · rw [if_pos (by omega)] at k0 k1
    have go : ∀ o1 o2 : Option zV, zEv true ((167, 184, [some (.inr (.inr 122)), o1, o2], []) :: K) σ := by
      intro o1 o2
      rw [zj_167_184 (by omega)]
      refine m_where (yKK (by omega)) hT ha (fun σ' p he hF a3 a4 => ?_) (fun σ' w q hw hF a2 a3 => ?_)
      · rw [he] at k0
        rw [zr_167_188 (by omega), if_neg (fun w => w rfl)]
        exact k0 σ' (1, p) rfl (hF.mono (fun k j h => by omega)) a3 a4
      · rw [hw] at k0 k1
        simp only at k0 k1
        obtain ⟨g1, g2, g3, g4, -⟩ := whR_ok hw haL
        have h582 : gI σ' 122 58 = (c : Int) := (hF.i (by omega)).trans h58
        rw [zr_167_188 (by omega), if_pos (by omega), h582, yAnd hcc, Int.toNat_natCast, a3]
        have hF2 : yFr (Xme c) σ (sL σ' 169 c (kwn (6 + w))) := (hF.mono (fun k j h => by omega)).L (by omega)
        refine m_one (yKK (by omega)) (mT_fr hT hF2 Xme_T) a2 (fun σ2 p he hF3 b3 b4 => ?_) (fun σ2 y q2 hn hF3 b2 b3 => ?_)
        · rw [he] at k0
          rw [zr_167_210, if_neg (fun w => w rfl)]
          exact k0 σ2 (1, p) rfl (hF2.trans (hF3.mono (fun k j h => by omega))) b3 b4
        · rw [hn] at k1
          simp only at k1
          obtain ⟨n1, n2, n3, n4, -⟩ := nmR_ok hn
          have h583 : gI σ2 122 58 = (c : Int) := (hF3.i (by omega)).trans h582
          rw [zr_167_210, if_pos (by omega), h583, yAnd hcc, Int.toNat_natCast, zj_167_229, b3]
          have hF4 : yFr (Xme c) σ (sI σ2 167 c (y + 97)) := (hF2.trans (hF3.mono (fun k j h => by omega))).I (by omega)
          have r : ∀ (k j : Nat), ¬ (k = 122 ∧ 2 ≤ j ∧ j ≤ 7) → gI σ2 k j = gI σ k j := fun k j hkj => (hF3.i hkj).trans (hF.i hkj)
          have r2 : ∀ (k j : Nat), ¬ (k = 122 ∧ 2 ≤ j ∧ j ≤ 7) → ¬ (k = 169 ∧ j = c) → gL σ2 k j = gL σ k j := fun k j hkj hk9 => by rw [hF3.l hkj, gL_sL, if_neg hk9]; exact hF.l hkj
          refine k1 _ (((w : Int), y), q2) rfl (hF4.I (by omega)) ?_ ?_ ⟨?_, ?_, ?_, fun h => ?_, fun _ => ?_⟩
          · simp (disch := omega) only [b2, if_pos, if_neg, yAnd, Int.toNat_natCast, zw_id, gI_sI, gI_sL, gI_sR, gL_sI, gL_sL, gL_sR, gR_sI, gR_sL, gR_sR, true_and, and_true, and_self, ite_true, ite_false, ite_self, not_true_eq_false, not_false_eq_true, or_true, true_or, or_false, false_or, yB0, yB1, Decidable.not_not]
          · simp (disch := omega) only [h583, if_pos, if_neg, yAnd, Int.toNat_natCast, zw_id, gI_sI, gI_sL, gI_sR, gL_sI, gL_sL, gL_sR, gR_sI, gR_sL, gR_sR, true_and, and_true, and_self, ite_true, ite_false, ite_self, not_true_eq_false, not_false_eq_true, or_true, true_or, or_false, false_or, yB0, yB1, Decidable.not_not]; omega
          · show gL _ 165 c = kwn ((k : Int).toNat)
            rw [Int.toNat_natCast]
            simp (disch := omega) only [r2 165 c (by omega) (by omega), e1, if_pos, if_neg, yAnd, Int.toNat_natCast, zw_id, gI_sI, gI_sL, gI_sR, gL_sI, gL_sL, gL_sR, gR_sI, gR_sL, gR_sR, true_and, and_true, and_self, ite_true, ite_false, ite_self, not_true_eq_false, not_false_eq_true, or_true, true_or, or_false, false_or, yB0, yB1, Decidable.not_not]
          · show gI _ 166 c = (if (k : Int) = 4 then 0 else x + 97)
            rw [gI_sI, if_neg (by omega), gI_sI, if_neg (by omega), r _ _ (by omega), e2]
          · show gI _ 167 c = (if (k : Int) = 4 ∨ (k : Int) = 5 then y + 97 else 0)
            rw [if_pos (by omega)]
            simp (disch := omega) only [if_pos, if_neg, yAnd, Int.toNat_natCast, zw_id, gI_sI, gI_sL, gI_sR, gL_sI, gL_sL, gL_sR, gR_sI, gR_sL, gR_sR, true_and, and_true, and_self, ite_true, ite_false, ite_self, not_true_eq_false, not_false_eq_true, or_true, true_or, or_false, false_or, yB0, yB1, Decidable.not_not]
          · show gL _ 168 c = v
            simp (disch := omega) only [r2 168 c (by omega) (by omega), e4 h, if_pos, if_neg, yAnd, Int.toNat_natCast, zw_id, gI_sI, gI_sL, gI_sR, gL_sI, gL_sL, gL_sR, gR_sI, gR_sL, gR_sR, true_and, and_true, and_self, ite_true, ite_false, ite_self, not_true_eq_false, not_false_eq_true, or_true, true_or, or_false, false_or, yB0, yB1, Decidable.not_not]
          · show gL _ 169 c = kwn (6 + ((w : Nat) : Int).toNat)
            rw [Int.toNat_natCast, gL_sI, gL_sI, hF3.l (by omega), yGL_hit]
    by_cases h5 : k = 4
    · rw [if_pos h5]; exact go _ _
    · rw [if_neg h5, if_neg (by omega)]; exact go _ _
  · rw [if_neg (by omega)] at k1
    rw [if_neg (by omega), if_pos (by omega), zj_167_229, h58, zw_id (by omega) (by omega)]
    refine k1 _ ((-1, -1), a) rfl (yFr.rf.I (by omega)) (by simp (disch := omega) only [ha, if_pos, if_neg, yAnd, Int.toNat_natCast, zw_id, gI_sI, gI_sL, gI_sR, gL_sI, gL_sL, gL_sR, gR_sI, gR_sL, gR_sR, true_and, and_true, and_self, ite_true, ite_false, ite_self, not_true_eq_false, not_false_eq_true, or_true, true_or, or_false, false_or, yB0, yB1, Decidable.not_not]) (by simp (disch := omega) only [if_pos, if_neg, yAnd, Int.toNat_natCast, zw_id, gI_sI, gI_sL, gI_sR, gL_sI, gL_sL, gL_sR, gR_sI, gR_sL, gR_sR, true_and, and_true, and_self, ite_true, ite_false, ite_self, not_true_eq_false, not_false_eq_true, or_true, true_or, or_false, false_or, yB0, yB1, Decidable.not_not]; omega) ⟨?_, ?_, ?_, fun h => ?_, fun h => ?_⟩
    · show gL _ 165 c = kwn ((k : Int).toNat)
      rw [Int.toNat_natCast]
      exact e1
    · show gI _ 166 c = (if (k : Int) = 4 then 0 else x + 97)
      rw [gI_sI, if_neg (by omega), e2]
    · show gI _ 167 c = (if (k : Int) = 4 ∨ (k : Int) = 5 then -1 + 97 else 0)
      rw [if_neg (by omega), gI_sI, if_neg (by omega), e3]
    · exact e4 h
    · exact absurd h (by show ¬ ((k : Int) = 4 ∨ (k : Int) = 5); omega)
theorem m_edB {K : List zF} (hK : K.length + 5 ≤ 60) {f : Nat → Int} {L a c k : Nat} {x : Int} {σ : zW} (hT : mT f L σ) (ha : gI σ 122 2 = (a : Int)) (haL : a ≤ L) (hc : c < 8) (hk : k < 6) (h58 : gI σ 122 58 = (c : Int))
    (e1 : gL σ 165 c = kwn k) (e2 : gI σ 166 c = (if (k : Int) = 4 then 0 else x + 97)) (e3 : gI σ 167 c = 0)
    (k0 : ∀ (σ' : zW) (e : Nat × Nat), edB f L k a = .inl e → yFr (Xme c) σ σ' → gI σ' 122 6 = (e.1 : Nat) → gI σ' 122 7 = (e.2 : Nat) → zRet true K (some (.inl 0)) σ')
    (k1 : ∀ (σ' : zW) (r : (Int64 × Int × Int) × Nat), edB f L k a = .inr r → yFr (Xme c) σ σ' → gI σ' 122 2 = (r.2 : Nat) → gI σ' 122 58 = ((c + 1 : Nat) : Int) → mEd 165 c (k, x, r.1.2.2, r.1.1, r.1.2.1) σ' → zRet true K (some (.inl 1)) σ') :
    zEv true ((167, 122, [some (.inr (.inr 122)), some (.inr (.inl (kwn k))), none], []) :: K) σ := by
  have h6 := hT.2.2.1
  have hcc : 0 ≤ (c : Int) ∧ (c : Int) < 8 := by omega
  obtain ⟨w0, w1, w2, w3, w4, w5, -⟩ := kwn_lits
  rw [zj_167_122, ← w0, ← w3, ← w4]
  simp only [kw_k hk (show 0 < 10 by omega), kw_k hk (show 3 < 10 by omega), kw_k hk (show 4 < 10 by omega)]
  unfold edB at k0 k1
  by_cases h4 : k = 0 ∨ k = 3 ∨ k = 4
  · rw [if_pos (by omega)] at k0 k1
    have go : zEv true ((167, 146, [some (.inr (.inr 122)), some (.inr (.inl (kwn k))), none], []) :: K) σ := by
      rw [zj_167_146 (by omega), m_rightLabel (yKK (by omega)) hT ha]
      have hFL : yFr Xlb σ (mrlW f L a σ) := mrl_fr yFr.rf (fun j h1 h2 => by omega)
      cases hr : rdl f L a with
      | inl e =>
        rw [hr] at k0
        rw [zr_167_150]
        show if ¬ (0 : Int) = 0 then _ else _
        rw [if_neg (fun w => w rfl)]
        exact k0 _ e rfl (hFL.mono (fun k j h => by omega)) (mrl_fault hr).1 (mrl_fault hr).2
      | inr r =>
        obtain ⟨v, q⟩ := r
        rw [hr] at k0 k1
        simp only at k0 k1
        obtain ⟨g1, g2, -⟩ := rdl_ok hr
        obtain ⟨o1, o2, -⟩ := mrl_ok (σ := σ) hr
        generalize mrlW f L a σ = σ9 at hFL o1 o2 ⊢
        have h582 : gI σ9 122 58 = (c : Int) := (hFL.i (by omega)).trans h58
        rw [zr_167_150]
        show if ¬ (1 : Int) = 0 then _ else _
        rw [if_pos (by omega), h582, yAnd hcc, Int.toNat_natCast, o2]
        have hF2 : yFr (Xme c) σ (sL σ9 168 c v) := (hFL.mono (fun k j h => by omega)).L (by omega)
        refine m_edC (x := x) (v := v) hK (mT_fr hT hF2 Xme_T) o1 g2 hc hk h582 ?_ ?_ ?_ (fun _ => ?_) (fun σ' e he hF3 b3 b4 => ?_) (fun σ' r hr2 hF3 b2 b5 hE => ?_)
        · rw [gL_sL, if_neg (by omega), hFL.l (by omega)]; exact e1
        · rw [gI_sL, hFL.i (by omega)]; exact e2
        · rw [gI_sL, hFL.i (by omega)]; exact e3
        · rw [yGL_hit]
        · rw [he] at k0
          exact k0 σ' e rfl (hF2.trans hF3) b3 b4
        · rw [hr2] at k1
          exact k1 σ' ((v, r.1), r.2) rfl (hF2.trans hF3) b2 b5 hE
    by_cases h0 : k = 0
    · rw [if_pos h0]; exact go
    · rw [if_neg h0]
      by_cases h3 : k = 3
      · rw [if_pos h3]; exact go
      · rw [if_neg h3, if_neg (by omega)]; exact go
  · rw [if_neg (by omega)] at k0 k1
    rw [if_neg (by omega), if_neg (by omega), if_pos (by omega)]
    refine m_edC (x := x) (v := 0) hK hT ha haL hc hk h58 e1 e2 e3 (fun h => absurd h (by omega)) (fun σ' e he hF3 b3 b4 => ?_) (fun σ' r hr2 hF3 b2 b5 hE => ?_)
    · rw [he] at k0
      exact k0 σ' e rfl hF3 b3 b4
    · rw [hr2] at k1
      exact k1 σ' ((0, r.1), r.2) rfl hF3 b2 b5 hE
theorem m_isWord {K : List zF} {σ : zW} {v : Int64} (h : gL σ 122 3 = v) : zEv true (zent 164 [.inr (.inr 122)] :: K) σ = (if kwI v 0 6 0 = -1 then zRet true K (some (.inl 0)) σ else zRet true K (some (.inl 1)) σ) := by
  obtain ⟨w0, w1, w2, w3, w4, w5, -⟩ := kwn_lits
  rw [ze_164, h, ← w0, ← w1, ← w2, ← w3, ← w4, ← w5]
  simp only [zlc_eq, kwI, Nat.zero_add, Nat.reduceAdd]
  by_cases h0 : v = kwn 0
  · rw [if_pos h0, if_pos h0, if_neg (by omega)]
  · rw [if_neg h0, if_neg h0]
    by_cases h1 : v = kwn 1
    · rw [if_pos h1, if_pos h1, if_neg (by omega)]
    · rw [if_neg h1, if_neg h1]
      by_cases h2 : v = kwn 2
      · rw [if_pos h2, if_pos h2, if_neg (by omega)]
      · rw [if_neg h2, if_neg h2]
        by_cases h3 : v = kwn 3
        · rw [if_pos h3, if_pos h3, if_neg (by omega)]
        · rw [if_neg h3, if_neg h3]
          by_cases h4 : v = kwn 4
          · rw [if_pos h4, if_pos h4, if_neg (by omega)]
          · rw [if_neg h4, if_neg h4]
            by_cases h5 : v = kwn 5
            · rw [if_neg (fun w => w h5), if_pos h5, if_neg (by omega)]
            · rw [if_pos h5, if_neg h5, if_pos rfl]
theorem m_edit {K : List zF} (hK : K.length + 6 ≤ 60) {f : Nat → Int} {L a c : Nat} {σ : zW} (hT : mT f L σ) (ha : gI σ 122 2 = (a : Int)) (haL : a ≤ L) (h58 : gI σ 122 58 = (c : Int)) (hc : c ≤ 8)
    (k0 : ∀ (σ' : zW) (e : Nat × Nat), edR f L (sk f L a) c = .inl e → yFr (Xme c) σ σ' → gI σ' 122 6 = (e.1 : Nat) → gI σ' 122 7 = (e.2 : Nat) → zRet true K (some (.inl 0)) σ')
    (k1 : ∀ (σ' : zW) (r : EDT × Nat), edR f L (sk f L a) c = .inr r → yFr (Xme c) σ σ' → gI σ' 122 2 = (r.2 : Nat) → gI σ' 122 58 = ((c + 1 : Nat) : Int) → mEd 165 c r.1 σ' → c < 8 → zRet true K (some (.inl 1)) σ') :
    zEv true (zent 167 [.inr (.inr 122)] :: K) σ := by
  have h6 := hT.2.2.1
  have hss := sk_le (f := f) haL
  have hT2 : mT f L (sI σ 122 2 (sk f L a : Nat)) := mT_u hT (by omega)
  have ha2 : gI (sI σ 122 2 (sk f L a : Nat)) 122 2 = (sk f L a : Nat) := yGI_hit
  rw [ze_167 (by omega), m_passes (yL (by omega)) hT ha, zr_167_4 (by omega), m_isLabel (yKK (by omega)) hT2 ha2, zr_167_8 (by omega), mLab_4]
  generalize hp : sk f L a = p at k0 k1 hT2 ha2 hss ⊢
  have hFL : yFr Xlb σ (mLab (sI σ 122 2 (p : Nat)) p (wl f L p) (pk f p (wl f L p))) := mLab_fr (yFr.rf.I (by omega)) (fun j h1 h2 => by omega)
  have hF : yFr (Xme c) σ (mLab (sI σ 122 2 (p : Nat)) p (wl f L p) (pk f p (wl f L p))) := hFL.mono (fun k j h => by omega)
  have hT3 := mT_fr hT hF Xme_T
  have h582 := (hFL.i (k := 122) (j := 58) (by omega)).trans h58
  have i5 : gI (mLab (sI σ 122 2 (p : Nat)) p (wl f L p) (pk f p (wl f L p))) 122 5 = (p : Int) := mLab_5
  have i2 : gI (mLab (sI σ 122 2 (p : Nat)) p (wl f L p) (pk f p (wl f L p))) 122 2 = ((p + wl f L p : Nat) : Int) := mLab_2
  have i3 : gL (mLab (sI σ 122 2 (p : Nat)) p (wl f L p) (pk f p (wl f L p))) 122 3 = pk f p (wl f L p) := mLab_3
  generalize mLab (sI σ 122 2 (p : Nat)) p (wl f L p) (pk f p (wl f L p)) = σ9 at hFL hF hT3 h582 i5 i2 i3 ⊢
  have bad : kdR f L p = -1 → ∀ o1 o2 : Option zV, zEv true ((167, 27, [some (.inr (.inr 122)), o1, o2], []) :: K) σ9 := by
    intro hn o1 o2
    unfold edR at k0
    rw [if_pos hn] at k0
    rw [zj_167_27 (by omega), m_fails, zr_167_36, yAnd (Or.inl rfl), i5]
    refine k0 _ (1, p) rfl ((hF.I ?_).I ?_) ?_ yGI_hit <;> first | omega | (simp (disch := omega) only [if_pos, if_neg, yAnd, Int.toNat_natCast, zw_id, gI_sI, gI_sL, gI_sR, gL_sI, gL_sL, gL_sR, gR_sI, gR_sL, gR_sR, true_and, and_true, and_self, ite_true, ite_false, ite_self, not_true_eq_false, not_false_eq_true, or_true, true_or, or_false, false_or, yB0, yB1, Decidable.not_not]; done) | (simp (disch := omega) only [if_pos, if_neg, yAnd, Int.toNat_natCast, zw_id, gI_sI, gI_sL, gI_sR, gL_sI, gL_sL, gL_sR, gR_sI, gR_sL, gR_sR, true_and, and_true, and_self, ite_true, ite_false, ite_self, not_true_eq_false, not_false_eq_true, or_true, true_or, or_false, false_or, yB0, yB1, Decidable.not_not]; rfl) | (simp (disch := omega) only [if_pos, if_neg, yAnd, Int.toNat_natCast, zw_id, gI_sI, gI_sL, gI_sR, gL_sI, gL_sL, gL_sR, gR_sI, gR_sL, gR_sR, true_and, and_true, and_self, ite_true, ite_false, ite_self, not_true_eq_false, not_false_eq_true, or_true, true_or, or_false, false_or, yB0, yB1, Decidable.not_not]; omega)
  by_cases hz : 1 ≤ wl f L p ∧ wl f L p ≤ 6
  · have hzl : zlet (tb f L p) := Decidable.not_not.mp (fun q => by have := wl_zero q; omega)
    rw [if_neg (by rw [if_pos hzl]; omega), if_neg (by omega), m_isWord i3]
    have hkd : kdR f L p = kwI (pk f p (wl f L p)) 0 6 0 := if_pos hz
    by_cases hn : kdR f L p = -1
    · rw [if_pos (by rw [← hkd]; exact hn), zr_167_24 (by omega), if_neg (fun w => w rfl)]
      exact bad hn _ _
    · rw [if_neg (by rw [← hkd]; exact hn), zr_167_24 (by omega), if_pos (by omega), h582]
      unfold edR at k0 k1
      rw [if_neg hn] at k0 k1
      by_cases h8 : 8 ≤ c
      · rw [if_pos h8] at k0
        rw [if_neg (by omega), m_fails, zr_167_55, yAnd (Or.inl rfl), i5]
        refine k0 _ (3, p) rfl ((hF.I ?_).I ?_) ?_ yGI_hit <;> first | omega | (simp (disch := omega) only [if_pos, if_neg, yAnd, Int.toNat_natCast, zw_id, gI_sI, gI_sL, gI_sR, gL_sI, gL_sL, gL_sR, gR_sI, gR_sL, gR_sR, true_and, and_true, and_self, ite_true, ite_false, ite_self, not_true_eq_false, not_false_eq_true, or_true, true_or, or_false, false_or, yB0, yB1, Decidable.not_not]; done) | (simp (disch := omega) only [if_pos, if_neg, yAnd, Int.toNat_natCast, zw_id, gI_sI, gI_sL, gI_sR, gL_sI, gL_sL, gL_sR, gR_sI, gR_sL, gR_sR, true_and, and_true, and_self, ite_true, ite_false, ite_self, not_true_eq_false, not_false_eq_true, or_true, true_or, or_false, false_or, yB0, yB1, Decidable.not_not]; rfl) | (simp (disch := omega) only [if_pos, if_neg, yAnd, Int.toNat_natCast, zw_id, gI_sI, gI_sL, gI_sR, gL_sI, gL_sL, gL_sR, gR_sI, gR_sL, gR_sR, true_and, and_true, and_self, ite_true, ite_false, ite_self, not_true_eq_false, not_false_eq_true, or_true, true_or, or_false, false_or, yB0, yB1, Decidable.not_not]; omega)
      · rw [if_neg h8] at k0 k1
        have hc8 : c < 8 := by omega
        have hcc : 0 ≤ (c : Int) ∧ (c : Int) < 8 := by omega
        have hkb := kdR_b f L p
        obtain ⟨k, hk⟩ : ∃ k : Nat, kdR f L p = (k : Int) := ⟨(kdR f L p).toNat, by omega⟩
        have hk6 : k < 6 := by omega
        have hv : pk f p (wl f L p) = kwn k := by
          rw [hk] at hkd
          have h3 := ((kwI_iff 6 0 k (by omega)).mp hkd.symm).2.2
          rw [show 0 + k = k by omega] at h3
          exact h3
        obtain ⟨w0, w1, w2, w3, w4, w5, -⟩ := kwn_lits
        have hwle := wl_le (f := f) hss
        rw [if_pos (by omega), yAnd hcc, yAnd hcc, yAnd hcc, Int.toNat_natCast, i3, hv, ← w4]
        simp only [kw_k hk6 (show 4 < 10 by omega)]
        rw [hk] at k0 k1
        unfold edA at k0 k1
        have hF1 : yFr (Xme c) σ (sI (sI (sL σ9 165 c (kwn k)) 166 c 0) 167 c 0) := ((hF.L (by omega)).I (by omega)).I (by omega)
        have hT1 := mT_fr hT hF1 Xme_T
        have j2 : gI (sI (sI (sL σ9 165 c (kwn k)) 166 c 0) 167 c 0) 122 2 = ((p + wl f L p : Nat) : Int) := by simp (disch := omega) only [i2, if_pos, if_neg, yAnd, Int.toNat_natCast, zw_id, gI_sI, gI_sL, gI_sR, gL_sI, gL_sL, gL_sR, gR_sI, gR_sL, gR_sR, true_and, and_true, and_self, ite_true, ite_false, ite_self, not_true_eq_false, not_false_eq_true, or_true, true_or, or_false, false_or, yB0, yB1, Decidable.not_not]
        have j58 : gI (sI (sI (sL σ9 165 c (kwn k)) 166 c 0) 167 c 0) 122 58 = (c : Int) := by simp (disch := omega) only [h582, if_pos, if_neg, yAnd, Int.toNat_natCast, zw_id, gI_sI, gI_sL, gI_sR, gL_sI, gL_sL, gL_sR, gR_sI, gR_sL, gR_sR, true_and, and_true, and_self, ite_true, ite_false, ite_self, not_true_eq_false, not_false_eq_true, or_true, true_or, or_false, false_or, yB0, yB1, Decidable.not_not]
        have r1 : gL (sI (sI (sL σ9 165 c (kwn k)) 166 c 0) 167 c 0) 165 c = kwn k := by simp (disch := omega) only [if_pos, if_neg, yAnd, Int.toNat_natCast, zw_id, gI_sI, gI_sL, gI_sR, gL_sI, gL_sL, gL_sR, gR_sI, gR_sL, gR_sR, true_and, and_true, and_self, ite_true, ite_false, ite_self, not_true_eq_false, not_false_eq_true, or_true, true_or, or_false, false_or, yB0, yB1, Decidable.not_not]
        have r2 : gI (sI (sI (sL σ9 165 c (kwn k)) 166 c 0) 167 c 0) 166 c = 0 := by simp (disch := omega) only [if_pos, if_neg, yAnd, Int.toNat_natCast, zw_id, gI_sI, gI_sL, gI_sR, gL_sI, gL_sL, gL_sR, gR_sI, gR_sL, gR_sR, true_and, and_true, and_self, ite_true, ite_false, ite_self, not_true_eq_false, not_false_eq_true, or_true, true_or, or_false, false_or, yB0, yB1, Decidable.not_not]
        have r3 : gI (sI (sI (sL σ9 165 c (kwn k)) 166 c 0) 167 c 0) 167 c = 0 := by simp (disch := omega) only [if_pos, if_neg, yAnd, Int.toNat_natCast, zw_id, gI_sI, gI_sL, gI_sR, gL_sI, gL_sL, gL_sR, gR_sI, gR_sL, gR_sR, true_and, and_true, and_self, ite_true, ite_false, ite_self, not_true_eq_false, not_false_eq_true, or_true, true_or, or_false, false_or, yB0, yB1, Decidable.not_not]
        generalize sI (sI (sL σ9 165 c (kwn k)) 166 c 0) 167 c 0 = σ1 at hF1 hT1 j2 j58 r1 r2 r3 ⊢
        by_cases h4 : k = 4
        · rw [if_pos (by omega)] at k0 k1
          rw [if_pos h4]
          refine m_edB (x := -1) (by omega) hT1 j2 hwle hc8 hk6 j58 r1 (by rw [if_pos (by omega)]; exact r2) r3 (fun σ' e he hF3 b3 b4 => ?_) (fun σ' r hr2 hF3 b2 b5 hE => ?_)
          · rw [he] at k0
            exact k0 σ' e rfl (hF1.trans hF3) b3 b4
          · rw [hr2] at k1
            exact k1 σ' (((k : Int), -1, r.1.2.2, r.1.1, r.1.2.1), r.2) rfl (hF1.trans hF3) b2 b5 hE hc8
        · rw [if_neg (by omega)] at k0 k1
          rw [if_neg h4]
          refine m_one (yKK (by omega)) hT1 j2 (fun σ2 p2 he hF3 b3 b4 => ?_) (fun σ2 x q2 hn2 hF3 b2 b3 => ?_)
          · rw [he] at k0
            rw [zr_167_103, if_neg (fun w => w rfl)]
            exact k0 σ2 (1, p2) rfl (hF1.trans (hF3.mono (fun k j h => by omega))) b3 b4
          · rw [hn2] at k0 k1
            simp only at k0 k1
            obtain ⟨n1, n2, n3, n4, -⟩ := nmR_ok hn2
            have h583 : gI σ2 122 58 = (c : Int) := (hF3.i (by omega)).trans j58
            rw [zr_167_103, if_pos (by omega), h583, yAnd hcc, Int.toNat_natCast, b3]
            have hF4 : yFr (Xme c) σ (sI σ2 166 c (x + 97)) := (hF1.trans (hF3.mono (fun k j h => by omega))).I (by omega)
            refine m_edB (x := x) (a := q2) (by omega) (mT_fr hT hF4 Xme_T) (by simp (disch := omega) only [b2, if_pos, if_neg, yAnd, Int.toNat_natCast, zw_id, gI_sI, gI_sL, gI_sR, gL_sI, gL_sL, gL_sR, gR_sI, gR_sL, gR_sR, true_and, and_true, and_self, ite_true, ite_false, ite_self, not_true_eq_false, not_false_eq_true, or_true, true_or, or_false, false_or, yB0, yB1, Decidable.not_not]) (by omega) hc8 hk6 (by simp (disch := omega) only [h583, if_pos, if_neg, yAnd, Int.toNat_natCast, zw_id, gI_sI, gI_sL, gI_sR, gL_sI, gL_sL, gL_sR, gR_sI, gR_sL, gR_sR, true_and, and_true, and_self, ite_true, ite_false, ite_self, not_true_eq_false, not_false_eq_true, or_true, true_or, or_false, false_or, yB0, yB1, Decidable.not_not]) ?_ ?_ ?_ (fun σ' e he hF5 b3 b4 => ?_) (fun σ' r hr2 hF5 b2 b5 hE => ?_)
            · rw [gL_sI, hF3.l (by omega)]; exact r1
            · rw [yGI_hit, if_neg (by omega)]
            · rw [gI_sI, if_neg (by omega), hF3.i (by omega)]; exact r3
            · rw [he] at k0
              exact k0 σ' e rfl (hF4.trans hF5) b3 b4
            · rw [hr2] at k1
              exact k1 σ' (((k : Int), x, r.1.2.2, r.1.1, r.1.2.1), r.2) rfl (hF4.trans hF5) b2 b5 hE hc8
  · have hkd : kdR f L p = -1 := if_neg hz
    by_cases hzl : zlet (tb f L p)
    · have := wl_pos hzl
      rw [if_neg (by rw [if_pos hzl]; omega), if_pos (by omega)]
      exact bad hkd _ _
    · rw [if_pos (by rw [if_neg hzl])]
      exact bad hkd _ _
theorem mEd_fr {b c : Nat} {d : EDT} {X : Nat → Nat → Prop} {σ σ' : zW} (h : mEd b c d σ) (hF : yFr X σ σ') (hX : ∀ k, b ≤ k → k ≤ b + 4 → ¬ X k c) : mEd b c d σ' := by
  obtain ⟨h1, h2, h3, h4, h5⟩ := h
  exact ⟨(hF.l (hX _ (by omega) (by omega))).trans h1, (hF.i (hX _ (by omega) (by omega))).trans h2, (hF.i (hX _ (by omega) (by omega))).trans h3, fun q => (hF.l (hX _ (by omega) (by omega))).trans (h4 q), fun q => (hF.l (hX _ (by omega) (by omega))).trans (h5 q)⟩
abbrev Xms : Nat → Nat → Prop := fun k j => (k = 122 ∧ ((2 ≤ j ∧ j ≤ 7) ∨ j = 58)) ∨ (165 ≤ k ∧ k ≤ 169)
theorem m_script_loop {K : List zF} (hK : K.length + 7 ≤ 60) {f : Nat → Int} {L : Nat} : ∀ (n a c : Nat) (es : Nat → EDT) (σ : zW), 9 ≤ c + n → c ≤ 8 → a ≤ L → mT f L σ → gI σ 122 2 = (a : Int) → gI σ 122 58 = (c : Int) → (∀ i, i < c → mEd 165 i (es i) σ) →
    (∀ (σ' : zW) (e : Nat × Nat), scR f L n a c es = .inl e → yFr Xms σ σ' → gI σ' 122 6 = (e.1 : Nat) → gI σ' 122 7 = (e.2 : Nat) → zRet true K (some (.inl 0)) σ') →
    (∀ (σ' : zW) (r : Nat × (Nat → EDT)), scR f L n a c es = .inr r → yFr Xms σ σ' → gI σ' 122 58 = (r.1 : Nat) → r.1 ≤ 8 → (∀ i, i < r.1 → mEd 165 i (r.2 i) σ') → zRet true K (some (.inl 1)) σ') →
    zEv true ((168, 19, [some (.inr (.inr 122)), some (.inl 1)], []) :: K) σ := by
  intro n
  induction n with
  | zero => intro a c es σ hn hc; omega
  | succ n ih =>
    intro a c es σ hn hc haL hT ha h58 hE k0 k1
    have h6 := hT.2.2.1
    have hss := sk_le (f := f) haL
    rw [scR] at k0 k1
    rw [zj_168_19 (by omega), if_neg (by omega)]
    have hXX : ∀ k j, Xme c k j → Xms k j := fun k j h => by omega
    refine m_edit (yKK (by omega)) hT ha haL h58 hc (fun σ' e he hF a3 a4 => ?k0) (fun σ' r hr hF a2 a5 hE2 hc8 => ?k1)
    case k0 =>
      rw [he] at k0
      rw [zr_168_27 (by omega), if_neg (fun w => w rfl)]
      exact k0 σ' e rfl (hF.mono hXX) a3 a4
    case k1 =>
      rw [hr] at k0 k1
      obtain ⟨d, q⟩ := r
      simp only at k0 k1 a2 hE2
      obtain ⟨q1, q2⟩ := edR_end hr hss
      have hT2 := mT_fr hT hF Xme_T
      have hs2 := sk_le (f := f) q2
      rw [zr_168_27 (by omega), if_pos (by omega), m_sign (yKK (by omega)) hT2 a2, zr_168_36, yGI_hit]
      have hEE : ∀ (x : Int) (i : Nat), i < c + 1 → mEd 165 i (fup es c d i) (sI σ' 122 2 x) := by
        intro x i hi
        have hF2 : yFr (fun k j => k = 122 ∧ j = 2) σ' (sI σ' 122 2 x) := yFr.rf.I ⟨rfl, rfl⟩
        by_cases e : i = c
        · subst e; rw [fup_eq]; exact mEd_fr hE2 hF2 (fun k h1 h2 => by omega)
        · rw [fup_ne e]; exact mEd_fr (mEd_fr (hE i (by omega)) hF (fun k h1 h2 => by omega)) hF2 (fun k h1 h2 => by omega)
      have hF9 : ∀ x : Int, yFr Xms σ (sI σ' 122 2 x) := fun x => (hF.mono hXX).I (by omega)
      by_cases h59 : tb f L (sk f L q) = 59
      · rw [if_neg (by omega), if_pos h59] at k0 k1
        have hlt : sk f L q < L := by
          rcases Nat.lt_or_ge (sk f L q) L with q9 | q9
          · exact q9
          · rw [tb_ge q9] at h59; omega
        rw [if_neg (fun w => w h59), if_neg (by omega), zw_id (by omega) (by omega), sI_sI, show ((sk f L q : Nat) : Int) + 1 = ((sk f L q + 1 : Nat) : Int) by omega]
        exact ih (sk f L q + 1) (c + 1) (fup es c d) _ (by omega) (by omega) (by omega) (mT_u hT2 (by omega)) yGI_hit (by simp (disch := omega) only [a5, if_pos, if_neg, yAnd, Int.toNat_natCast, zw_id, gI_sI, gI_sL, gI_sR, gL_sI, gL_sL, gL_sR, gR_sI, gR_sL, gR_sR, true_and, and_true, and_self, ite_true, ite_false, ite_self, not_true_eq_false, not_false_eq_true, or_true, true_or, or_false, false_or, yB0, yB1, Decidable.not_not]) (hEE _) (fun σ2 e he hF2 => k0 σ2 e he ((hF9 _).trans hF2)) (fun σ2 r hr hF2 => k1 σ2 r hr ((hF9 _).trans hF2))
      · rw [if_pos h59, if_pos rfl, zw_id (by omega) (by omega), sI_sI, Int.add_zero, zj_168_19 (by omega), if_pos rfl, m_noEnd (yKK (by omega)) (mT_u hT2 (by omega)) yGI_hit, sk_sk]
        by_cases hE1 : tb f L (sk f L q) = -1
        · rw [if_pos hE1] at k1
          rw [if_pos hE1, zr_168_72, yAnd (Or.inr rfl), sI_sI]
          exact k1 _ (c + 1, fup es c d) rfl (hF9 _) (by simp (disch := omega) only [a5, if_pos, if_neg, yAnd, Int.toNat_natCast, zw_id, gI_sI, gI_sL, gI_sR, gL_sI, gL_sL, gL_sR, gR_sI, gR_sL, gR_sR, true_and, and_true, and_self, ite_true, ite_false, ite_self, not_true_eq_false, not_false_eq_true, or_true, true_or, or_false, false_or, yB0, yB1, Decidable.not_not]) (by omega) (hEE _)
        · rw [if_neg hE1, if_neg h59] at k0
          rw [if_neg hE1, zr_168_72, yAnd (Or.inl rfl), sI_sI]
          refine k0 _ (1, sk f L q) rfl (((hF9 _).I ?_).I ?_) ?_ ?_ <;> first | omega | (simp (disch := omega) only [if_pos, if_neg, yAnd, Int.toNat_natCast, zw_id, gI_sI, gI_sL, gI_sR, gL_sI, gL_sL, gL_sR, gR_sI, gR_sL, gR_sR, true_and, and_true, and_self, ite_true, ite_false, ite_self, not_true_eq_false, not_false_eq_true, or_true, true_or, or_false, false_or, yB0, yB1, Decidable.not_not]; done) | (simp (disch := omega) only [if_pos, if_neg, yAnd, Int.toNat_natCast, zw_id, gI_sI, gI_sL, gI_sR, gL_sI, gL_sL, gL_sR, gR_sI, gR_sL, gR_sR, true_and, and_true, and_self, ite_true, ite_false, ite_self, not_true_eq_false, not_false_eq_true, or_true, true_or, or_false, false_or, yB0, yB1, Decidable.not_not]; rfl) | (simp (disch := omega) only [if_pos, if_neg, yAnd, Int.toNat_natCast, zw_id, gI_sI, gI_sL, gI_sR, gL_sI, gL_sL, gL_sR, gR_sI, gR_sL, gR_sR, true_and, and_true, and_self, ite_true, ite_false, ite_self, not_true_eq_false, not_false_eq_true, or_true, true_or, or_false, false_or, yB0, yB1, Decidable.not_not]; omega)
/-- isScript -/
theorem m_script {K : List zF} (hK : K.length + 7 ≤ 60) {f : Nat → Int} {L : Nat} {σ : zW} (hT : mT f L σ) (ha : gI σ 122 2 = 0)
    (k0 : ∀ (σ' : zW) (e : Nat × Nat), sread f L = .inl e → yFr Xms σ σ' → gI σ' 122 6 = (e.1 : Nat) → gI σ' 122 7 = (e.2 : Nat) → zRet true K (some (.inl 0)) σ')
    (k1 : ∀ (σ' : zW) (r : Nat × (Nat → EDT)), sread f L = .inr r → yFr Xms σ σ' → gI σ' 122 58 = (r.1 : Nat) → r.1 ≤ 8 → (∀ i, i < r.1 → mEd 165 i (r.2 i) σ') → zRet true K (some (.inl 1)) σ') :
    zEv true (zent 168 [.inr (.inr 122)] :: K) σ := by
  have hF1 : yFr Xms σ (sI σ 122 58 0) := yFr.rf.I (by omega)
  have hT1 := mT_fr hT hF1 (fun k j h => by omega)
  have g2 : gI (sI σ 122 58 0) 122 2 = ((0 : Nat) : Int) := by simp (disch := omega) only [ha, if_pos, if_neg, yAnd, Int.toNat_natCast, zw_id, gI_sI, gI_sL, gI_sR, gL_sI, gL_sL, gL_sR, gR_sI, gR_sL, gR_sR, true_and, and_true, and_self, ite_true, ite_false, ite_self, not_true_eq_false, not_false_eq_true, or_true, true_or, or_false, false_or, yB0, yB1, Decidable.not_not]; rfl
  rw [ze_168 (by omega), m_sign (yKK (by omega)) hT1 g2, zr_168_9]
  unfold sread at k0 k1
  by_cases hE : tb f L (sk f L 0) = -1
  · rw [if_pos hE] at k1
    rw [if_pos hE, zj_168_19 (by omega), if_pos rfl, m_noEnd (yKK (by omega)) (mT_u hT1 (by omega)) yGI_hit, sk_sk, if_pos hE, zr_168_72, yAnd (Or.inr rfl)]
    refine k1 _ _ rfl ((hF1.I (by omega)).I (by omega)) ?_ (Nat.zero_le _) (fun i hi => by omega)
    first | omega | (simp (disch := omega) only [if_pos, if_neg, yAnd, Int.toNat_natCast, zw_id, gI_sI, gI_sL, gI_sR, gL_sI, gL_sL, gL_sR, gR_sI, gR_sL, gR_sR, true_and, and_true, and_self, ite_true, ite_false, ite_self, not_true_eq_false, not_false_eq_true, or_true, true_or, or_false, false_or, yB0, yB1, Decidable.not_not]; done) | (simp (disch := omega) only [if_pos, if_neg, yAnd, Int.toNat_natCast, zw_id, gI_sI, gI_sL, gI_sR, gL_sI, gL_sL, gL_sR, gR_sI, gR_sL, gR_sR, true_and, and_true, and_self, ite_true, ite_false, ite_self, not_true_eq_false, not_false_eq_true, or_true, true_or, or_false, false_or, yB0, yB1, Decidable.not_not]; rfl) | (simp (disch := omega) only [if_pos, if_neg, yAnd, Int.toNat_natCast, zw_id, gI_sI, gI_sL, gI_sR, gL_sI, gL_sL, gL_sR, gR_sI, gR_sL, gR_sR, true_and, and_true, and_self, ite_true, ite_false, ite_self, not_true_eq_false, not_false_eq_true, or_true, true_or, or_false, false_or, yB0, yB1, Decidable.not_not]; omega)
  · rw [if_neg hE] at k0 k1
    rw [if_neg hE]
    have hs0 := sk_le (f := f) (L := L) (Nat.zero_le L)
    exact m_script_loop (c := 0) hK 10 (sk f L 0) (fun _ => (0, 0, 0, 0, 0)) _ (by omega) (by omega) hs0 (mT_u hT1 (by omega)) yGI_hit (by first | omega | (simp (disch := omega) only [if_pos, if_neg, yAnd, Int.toNat_natCast, zw_id, gI_sI, gI_sL, gI_sR, gL_sI, gL_sL, gL_sR, gR_sI, gR_sL, gR_sR, true_and, and_true, and_self, ite_true, ite_false, ite_self, not_true_eq_false, not_false_eq_true, or_true, true_or, or_false, false_or, yB0, yB1, Decidable.not_not]; done) | (simp (disch := omega) only [if_pos, if_neg, yAnd, Int.toNat_natCast, zw_id, gI_sI, gI_sL, gI_sR, gL_sI, gL_sL, gL_sR, gR_sI, gR_sL, gR_sR, true_and, and_true, and_self, ite_true, ite_false, ite_self, not_true_eq_false, not_false_eq_true, or_true, true_or, or_false, false_or, yB0, yB1, Decidable.not_not]; rfl) | (simp (disch := omega) only [if_pos, if_neg, yAnd, Int.toNat_natCast, zw_id, gI_sI, gI_sL, gI_sR, gL_sI, gL_sL, gL_sR, gR_sI, gR_sL, gR_sR, true_and, and_true, and_self, ite_true, ite_false, ite_self, not_true_eq_false, not_false_eq_true, or_true, true_or, or_false, false_or, yB0, yB1, Decidable.not_not]; omega)) (fun i hi => by omega) (fun σ' e he hF => k0 σ' e he ((hF1.I (by omega)).trans hF)) (fun σ' r hr hF => k1 σ' r hr ((hF1.I (by omega)).trans hF))
