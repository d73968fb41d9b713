/-! scripts read by the model -/
theorem zlc_eq {x y : Int64} : zlc x y = 0 ↔ x = y := by
  unfold zlc
  constructor
  · intro h
    split at h
    · omega
    · split at h
      · assumption
      · omega
  · intro h
    subst h
    have : ¬ x < x := by rw [Int64.lt_iff_toInt_lt]; omega
    rw [if_neg this, if_pos rfl]
theorem kwn_lits : kwn 0 = 111520460465522 ∧ kwn 1 = 111550592214372 ∧ kwn 2 = 111546363770981 ∧ kwn 3 = 1885434487 ∧ kwn 4 = 6579297 ∧ kwn 5 = 1702260589 ∧ kwn 6 = 500153084262 ∧ kwn 7 = 1953718636 ∧ kwn 8 = 111542169658722 ∧ kwn 9 = 491328398945 := ⟨rfl, rfl, rfl, rfl, rfl, rfl, rfl, rfl, rfl, rfl⟩
theorem kwI_iff {v : Int64} {b : Nat} : ∀ (n i : Nat) (j : Nat), b + i + n ≤ 10 → (kwI v b n i = (j : Int) ↔ i ≤ j ∧ j < i + n ∧ v = kwn (b + j)) := by
  intro n
  induction n with
  | zero => intro i j _; unfold kwI; omega
  | succ n ih =>
    intro i j hb
    rw [kwI]
    by_cases h : v = kwn (b + i)
    · rw [if_pos h]
      constructor
      · intro e
        have : i = j := by omega
        subst this
        exact ⟨Nat.le_refl _, by omega, h⟩
      · rintro ⟨h1, h2, h3⟩
        have := kwn_ne (i := b + i) (j := b + j) (by omega) (by omega) (h.symm.trans h3)
        omega
    · rw [if_neg h, ih (i + 1) j (by omega)]
      constructor
      · rintro ⟨h1, h2, h3⟩; exact ⟨by omega, by omega, h3⟩
      · rintro ⟨h1, h2, h3⟩
        refine ⟨?_, by omega, h3⟩
        by_cases e : i = j
        · subst e; exact absurd h3 h
        · omega
theorem kwI_no {v : Int64} {b : Nat} : ∀ (n i : Nat), kwI v b n i = -1 ↔ ∀ j, i ≤ j → j < i + n → v ≠ kwn (b + j) := by
  intro n
  induction n with
  | zero => intro i; exact ⟨fun _ j h1 h2 => by omega, fun _ => rfl⟩
  | succ n ih =>
    intro i
    rw [kwI]
    by_cases h : v = kwn (b + i)
    · rw [if_pos h]
      exact ⟨fun e => by omega, fun e => absurd h (e i (by omega) (by omega))⟩
    · rw [if_neg h, ih (i + 1)]
      refine ⟨fun e j h1 h2 => ?_, fun e j h1 h2 => e j (by omega) (by omega)⟩
      by_cases q : j = i
      · subst q; exact h
      · exact e j (by omega) (by omega)
theorem pk_one {f : Nat → Int} {p : Nat} (h : 0 ≤ f p ∧ f p < 256) : zl2i (pk f p 1) = f p := by
  obtain ⟨b, hb⟩ : ∃ b : Nat, f p = (b : Int) := ⟨(f p).toNat, by omega⟩
  have h1 : nv (pk f p 1) = b := by
    unfold pk
    rw [show min 1 6 = 1 from rfl, nv_pkf 1 (by omega) (fun i hi => by rw [show i = 0 by omega]; exact h)]
    show 0 + (f (p + 0)).toNat * 256 ^ 0 = b
    rw [Nat.add_zero, hb]
    omega
  rw [zl2i_nv (by omega) h1, hb]
theorem m_one {K : List zF} (hK : K.length + 4 ≤ 60) {f : Nat → Int} {L a : Nat} {σ : zW} (hT : mT f L σ) (ha : gI σ 122 2 = (a : Int))
    (k0 : ∀ (σ' : zW) (p : Nat), nmR f L a = .inl p → yFr Xlb σ σ' → gI σ' 122 6 = 1 → gI σ' 122 7 = (p : Int) → zRet true K (some (.inl 0)) σ')
    (k1 : ∀ (σ' : zW) (x : Int) (q : Nat), nmR f L a = .inr (x, q) → yFr Xlb σ σ' → gI σ' 122 2 = (q : Int) → zl2i (gL σ' 122 3) = x + 97 → zRet true K (some (.inl 1)) σ') :
    zEv true (zent 165 [.inr (.inr 122)] :: K) σ := by
  have hT2 : mT f L (sI σ 122 2 (sk f L a : Nat)) := mT_u hT (by omega)
  have ha2 : gI (sI σ 122 2 (sk f L a : Nat)) 122 2 = (sk f L a : Nat) := yGI_hit
  rw [ze_165 (by omega), m_passes (yL (by omega)) hT ha, zr_165_4 (by omega), m_isLabel (yKK (by omega)) hT2 ha2, zr_165_8 (by omega), mLab_4, mLab_3]
  unfold nmR at k0 k1
  generalize hp : sk f L a = p at k0 k1 hT2 ha2 ⊢
  have hF : yFr Xlb σ (mLab (sI σ 122 2 (p : Nat)) p (wl f L p) (pk f p (wl f L p))) := mLab_fr (yFr.rf.I (by omega)) (fun j h1 h2 => by omega)
  have bad : ¬ (wl f L p = 1 ∧ zsml (tb f L p)) → ∀ o1 : Option zV, zEv true ((165, 34, [some (.inr (.inr 122)), o1], []) :: K) (mLab (sI σ 122 2 (p : Nat)) p (wl f L p) (pk f p (wl f L p))) := by
    intro hn o1
    rw [if_neg hn] at k0
    rw [zj_165_34 (by omega), if_neg (fun w => w rfl), m_fails, zr_165_49, if_pos rfl, mLab_5]
    refine k0 _ p rfl ((hF.I ?_).I ?_) ?_ yGI_hit <;> first | omega | (simp (disch := omega) only [if_pos, if_neg, yAnd, Int.toNat_natCast, zw_id, gI_sI, gI_sL, gI_sR, gL_sI, gL_sL, gL_sR, gR_sI, gR_sL, gR_sR, true_and, and_true, and_self, ite_true, ite_false, ite_self, not_true_eq_false, not_false_eq_true, or_true, true_or, or_false, false_or, yB0, yB1, Decidable.not_not]; done) | (simp (disch := omega) only [if_pos, if_neg, yAnd, Int.toNat_natCast, zw_id, gI_sI, gI_sL, gI_sR, gL_sI, gL_sL, gL_sR, gR_sI, gR_sL, gR_sR, true_and, and_true, and_self, ite_true, ite_false, ite_self, not_true_eq_false, not_false_eq_true, or_true, true_or, or_false, false_or, yB0, yB1, Decidable.not_not]; rfl) | (simp (disch := omega) only [if_pos, if_neg, yAnd, Int.toNat_natCast, zw_id, gI_sI, gI_sL, gI_sR, gL_sI, gL_sL, gL_sR, gR_sI, gR_sL, gR_sR, true_and, and_true, and_self, ite_true, ite_false, ite_self, not_true_eq_false, not_false_eq_true, or_true, true_or, or_false, false_or, yB0, yB1, Decidable.not_not]; omega)
  by_cases hz : zlet (tb f L p)
  · have hpp := wl_pos hz
    rw [if_neg (by rw [if_pos hz]; omega)]
    by_cases h1 : wl f L p = 1
    · have hfp : 0 ≤ f p ∧ f p < 256 := hT.2.2.2 p hpp.2.2
      rw [if_neg (by omega), h1, pk_one hfp, m_isSmall (yL (by omega)), zr_165_27 (by omega)]
      by_cases hs : zsml (f p)
      · have hs2 : wl f L p = 1 ∧ zsml (tb f L p) := ⟨h1, by rw [tb_lt hpp.2.2]; exact hs⟩
        rw [if_pos hs2] at k1
        rw [if_neg (by rw [if_pos hs]; omega), if_pos (by omega)]
        rw [h1] at hF
        refine k1 _ _ _ rfl hF mLab_2 ?_
        rw [mLab_3, pk_one hfp, tb_lt hpp.2.2]
        omega
      · rw [if_pos (by rw [if_neg hs])]
        have h9 := fun o1 => bad (fun w => hs (by have := w.2; rw [tb_lt hpp.2.2] at this; exact this)) o1
        rw [h1] at h9
        exact h9 _
    · rw [if_pos (by omega)]
      exact bad (fun w => h1 w.1) _
  · rw [if_pos (by rw [if_neg hz])]
    exact bad (fun w => hz (Or.inl w.2)) _
theorem m_where {K : List zF} (hK : K.length + 4 ≤ 60) {f : Nat → Int} {L a : Nat} {σ : zW} (hT : mT f L σ) (ha : gI σ 122 2 = (a : Int))
    (k0 : ∀ (σ' : zW) (p : Nat), whR f L a = .inl p → yFr Xlb σ σ' → gI σ' 122 6 = 1 → gI σ' 122 7 = (p : Int) → zRet true K (some (.inl 0)) σ')
    (k1 : ∀ (σ' : zW) (w q : Nat), whR f L a = .inr ((w : Int), q) → yFr Xlb σ σ' → gI σ' 122 2 = (q : Int) → gL σ' 122 3 = kwn (6 + w) → zRet true K (some (.inl 1)) σ') :
    zEv true (zent 166 [.inr (.inr 122)] :: K) σ := by
  have hT2 : mT f L (sI σ 122 2 (sk f L a : Nat)) := mT_u hT (by omega)
  have ha2 : gI (sI σ 122 2 (sk f L a : Nat)) 122 2 = (sk f L a : Nat) := yGI_hit
  rw [ze_166 (by omega), m_passes (yL (by omega)) hT ha, zr_166_4 (by omega), m_isLabel (yKK (by omega)) hT2 ha2, zr_166_8 (by omega), mLab_4, mLab_3]
  unfold whR at k0 k1
  generalize hp : sk f L a = p at k0 k1 hT2 ha2 ⊢
  have hF : yFr Xlb σ (mLab (sI σ 122 2 (p : Nat)) p (wl f L p) (pk f p (wl f L p))) := mLab_fr (yFr.rf.I (by omega)) (fun j h1 h2 => by omega)
  have bad : whI f L p = -1 → ∀ o1 : Option zV, zEv true ((166, 68, [some (.inr (.inr 122)), o1], []) :: K) (mLab (sI σ 122 2 (p : Nat)) p (wl f L p) (pk f p (wl f L p))) := by
    intro hn o1
    rw [if_pos hn] at k0
    rw [zj_166_68 (by omega), if_neg (fun w => w rfl), m_fails, zr_166_83, if_pos rfl, mLab_5]
    refine k0 _ p rfl ((hF.I ?_).I ?_) ?_ yGI_hit <;> first | omega | (simp (disch := omega) only [if_pos, if_neg, yAnd, Int.toNat_natCast, zw_id, gI_sI, gI_sL, gI_sR, gL_sI, gL_sL, gL_sR, gR_sI, gR_sL, gR_sR, true_and, and_true, and_self, ite_true, ite_false, ite_self, not_true_eq_false, not_false_eq_true, or_true, true_or, or_false, false_or, yB0, yB1, Decidable.not_not]; done) | (simp (disch := omega) only [if_pos, if_neg, yAnd, Int.toNat_natCast, zw_id, gI_sI, gI_sL, gI_sR, gL_sI, gL_sL, gL_sR, gR_sI, gR_sL, gR_sR, true_and, and_true, and_self, ite_true, ite_false, ite_self, not_true_eq_false, not_false_eq_true, or_true, true_or, or_false, false_or, yB0, yB1, Decidable.not_not]; rfl) | (simp (disch := omega) only [if_pos, if_neg, yAnd, Int.toNat_natCast, zw_id, gI_sI, gI_sL, gI_sR, gL_sI, gL_sL, gL_sR, gR_sI, gR_sL, gR_sR, true_and, and_true, and_self, ite_true, ite_false, ite_self, not_true_eq_false, not_false_eq_true, or_true, true_or, or_false, false_or, yB0, yB1, Decidable.not_not]; omega)
  obtain ⟨-, -, -, -, -, -, w6, w7, w8, w9⟩ := kwn_lits
  by_cases hz : 1 ≤ wl f L p ∧ wl f L p ≤ 6
  · have hzl : zlet (tb f L p) := Decidable.not_not.mp (fun q => by have := wl_zero q; omega)
    have good : ∀ i : Nat, i < 4 → pk f p (wl f L p) = kwn (6 + i) → zRet true K (some (.inl 1)) (mLab (sI σ 122 2 (p : Nat)) p (wl f L p) (pk f p (wl f L p))) := by
      intro i hi hv
      have hw : whI f L p = (i : Int) := by
        unfold whI
        rw [if_pos hz]
        exact (kwI_iff 4 0 i (by omega)).mpr ⟨by omega, by omega, hv⟩
      rw [if_neg (by omega), hw] at k1
      exact k1 _ i _ rfl hF mLab_2 (by rw [mLab_3, hv])
    rw [if_neg (by rw [if_pos hzl]; omega), if_neg (by omega), ← w6, ← w7, ← w8, ← w9]
    simp only [zlc_eq]
    by_cases h0 : pk f p (wl f L p) = kwn 6
    · rw [if_pos h0, if_pos (by omega)]; exact good 0 (by omega) h0
    · rw [if_neg h0]
      by_cases h1 : pk f p (wl f L p) = kwn 7
      · rw [if_pos h1, if_pos (by omega)]; exact good 1 (by omega) h1
      · rw [if_neg h1]
        by_cases h2 : pk f p (wl f L p) = kwn 8
        · rw [if_pos h2, if_pos (by omega)]; exact good 2 (by omega) h2
        · rw [if_neg h2]
          by_cases h3 : pk f p (wl f L p) = kwn 9
          · rw [if_neg (fun w => w h3), if_pos (by omega)]; exact good 3 (by omega) h3
          · rw [if_pos h3]
            refine bad ?_ _
            unfold whI
            rw [if_pos hz]
            refine (kwI_no 4 0).mpr (fun j h4 h5 => ?_)
            rcases (show j = 0 ∨ j = 1 ∨ j = 2 ∨ j = 3 by omega) with rfl | rfl | rfl | rfl <;> assumption
  · have hw : whI f L p = -1 := by unfold whI; rw [if_neg hz]
    by_cases hzl : zlet (tb f L p)
    · have := wl_pos hzl
      rw [if_neg (by rw [if_pos hzl]; omega), if_pos (by omega)]
      exact bad hw _
    · rw [if_pos (by rw [if_neg hzl])]
      exact bad hw _
