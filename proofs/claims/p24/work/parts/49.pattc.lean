/-! patterns read by the class -/
theorem cop_pos {m n : Nat} (h : 1 ≤ m) : 0 ≤ cop m n := by
  unfold cop
  repeat' split
  all_goals omega
/-- the ends of the parts below -/
def spR (R : PRW) : Nat → (Nat → Int) → Nat → Int
  | 0, P => P
  | i + 1, P => spR R i (fup P (R 3 (i + 1)).toNat (if P (R 3 (i + 1)).toNat < P (i + 1) then P (i + 1) else P (R 3 (i + 1)).toNat))
def pstR (st : PST) : Nat → Int := spR st.2.2.2.1 (st.1 - 1) (fun i => (i : Int) + 1)
/-- all but the root hang below a part -/
def pup (st : PST) : Prop := ∀ i, 0 < i → i < st.1 → 0 ≤ st.2.2.2.1 3 i
theorem c_settle2 {K : List zF} {t c : Nat} {R : PRW} (ht : zPn t) (hc : c ≤ 8) (hR : ∀ i, 0 < i → i < c → 0 ≤ R 3 i ∧ R 3 i < (i : Nat)) : ∀ (i : Nat) (P : Nat → Int) (σ : zW), i < c → (∀ i, i < c → gI σ (t + 3) i = R 3 i) → (∀ i, i < c → gI σ (t + 10) i = P i) →
    (∀ σ' : zW, yFr (fun k _ => k = t + 10) σ σ' → (∀ j, j < c → gI σ' (t + 10) j = spR R i P j) → zRet true K none σ') →
    zEv true ((39, 32, [some (.inr (.inr t)), some (.inl (i : Int))], []) :: K) σ := by
  have hb := zPn_b ht
  intro i
  induction i with
  | zero =>
    intro P σ hi h3 h10 k
    rw [zj_39_32 ht, if_pos (by omega)]
    exact k σ yFr.rf h10
  | succ i ih =>
    intro P σ hi h3 h10 k
    obtain ⟨r1, r2⟩ := hR (i + 1) (by omega) hi
    obtain ⟨u, hu⟩ : ∃ u : Nat, R 3 (i + 1) = (u : Int) := ⟨(R 3 (i + 1)).toNat, by omega⟩
    have hcc : 0 ≤ ((i + 1 : Nat) : Int) ∧ ((i + 1 : Nat) : Int) < 8 := by omega
    have hcu : 0 ≤ (u : Int) ∧ (u : Int) < 8 := by omega
    rw [spR, hu, Int.toNat_natCast] at k
    rw [zj_39_32 ht, if_neg (by omega), yAnd hcc, yAnd hcc, Int.toNat_natCast, h3 (i + 1) hi, hu, yAnd hcu, yAnd hcc, yAnd hcu, Int.toNat_natCast, h10 u (by omega), h10 (i + 1) hi, zw_id (by omega) (by omega), show ((i + 1 : Nat) : Int) + -1 = (i : Int) by omega]
    have hF : yFr (fun k _ => k = t + 10) σ (sI σ (t + 10) u (if P u < P (i + 1) then P (i + 1) else P u)) := yFr.rf.I rfl
    refine ih _ _ (by omega) (fun j hj => (hF.i (by omega)).trans (h3 j hj)) (fun j hj => ?_) (fun σ' hF2 h => k σ' (hF.trans hF2) h)
    by_cases e : j = u
    · subst e; rw [yGI_hit, fup_eq]
    · rw [gI_sI, if_neg (fun w => e w.2), fup_ne e]; exact h10 j hj
theorem c_settle {K : List zF} {t : Nat} {st : PST} {σ : zW} (ht : zPn t) (hP : cP t st σ) (hw : pw st) (hu : pup st) (h1 : 1 ≤ st.1) (k : ∀ σ' : zW, yFr (fun k _ => k = t + 10) σ σ' → (∀ j, j < st.1 → gI σ' (t + 10) j = pstR st j) → zRet true K none σ') : zEv true (zent 39 [.inr (.inr t)] :: K) σ := by
  have hb := zPn_b ht
  obtain ⟨w1, w2, w3, w4⟩ := hw
  obtain ⟨p1, p2, p3, p4, p5, p6, p7⟩ := hP
  rw [ze_39]
  have loop : ∀ (n i : Nat) (σ2 : zW), st.1 - i = n → i ≤ st.1 → yFr (fun k _ => k = t + 10) σ σ2 → (∀ j, j < i → gI σ2 (t + 10) j = (j : Int) + 1) → zEv true ((39, 2, [some (.inr (.inr t)), some (.inl (i : Int))], []) :: K) σ2 := by
    intro n
    induction n with
    | zero =>
      intro i σ2 hn hi hF h10
      rw [zj_39_2 ht, (hF.i (by omega)).trans p1, if_pos (by omega), zw_id (by omega) (by omega), show ((st.1 : Nat) : Int) - 1 = ((st.1 - 1 : Nat) : Int) by omega]
      refine c_settle2 (c := st.1) (R := st.2.2.2.1) ht w1 (fun j j1 j2 => ⟨hu j j1 j2, (w4 j j2).2.1⟩) (st.1 - 1) (fun i => (i : Int) + 1) σ2 (by omega) (fun j hj => (hF.i (by omega)).trans (p4 3 j (by omega) (by omega) (by omega) hj)) (fun j hj => h10 j (by omega)) (fun σ' hF2 h => k σ' (hF.trans hF2) h)
    | succ n ih =>
      intro i σ2 hn hi hF h10
      have hcc : 0 ≤ (i : Int) ∧ (i : Int) < 8 := by omega
      rw [zj_39_2 ht, (hF.i (by omega)).trans p1, if_neg (by omega), yAnd hcc, Int.toNat_natCast, zw_id (by omega) (by omega), show (i : Int) + 1 = ((i + 1 : Nat) : Int) by omega]
      refine ih (i + 1) _ (by omega) (by omega) (hF.I rfl) (fun j hj => ?_)
      by_cases e : j = i
      · subst e; rw [yGI_hit]; omega
      · rw [gI_sI, if_neg (fun w => e w.2)]; exact h10 j (by omega)
  exact loop _ 0 σ rfl (Nat.zero_le _) yFr.rf (fun j hj => by omega)
theorem c_clear {K : List zF} {t : Nat} {σ : zW} (ht : zPn t) (k : ∀ σ' : zW, yFr (fun k j => k = t + 13 ∨ (k = t ∧ 14 ≤ j ∧ j ≤ 16)) σ σ' → gI σ' t 14 = 0 → gI σ' t 15 = 0 → gI σ' t 16 = 0 → (∀ x, x < 26 → gI σ' (t + 13) x = -1) → zRet true K none σ') : zEv true (zent 38 [.inr (.inr t)] :: K) σ := by
  have hb := zPn_b ht
  rw [ze_38 ht]
  have hF0 : yFr (fun k j => k = t + 13 ∨ (k = t ∧ 14 ≤ j ∧ j ≤ 16)) σ (sI (sI (sI σ t 14 0) t 15 0) t 16 0) := ((yFr.rf.I (by omega)).I (by omega)).I (by omega)
  have e14 : gI (sI (sI (sI σ t 14 0) t 15 0) t 16 0) t 14 = 0 := by simp (disch := omega) only [if_pos, if_neg, yAnd, Int.toNat_natCast, zw_id, gI_sI, gI_sL, gI_sR, gL_sI, gL_sL, gL_sR, gR_sI, gR_sL, gR_sR, true_and, and_true, and_self, ite_true, ite_false, ite_self, not_true_eq_false, not_false_eq_true, or_true, true_or, or_false, false_or, yB0, yB1, Decidable.not_not]
  have e15 : gI (sI (sI (sI σ t 14 0) t 15 0) t 16 0) t 15 = 0 := by simp (disch := omega) only [if_pos, if_neg, yAnd, Int.toNat_natCast, zw_id, gI_sI, gI_sL, gI_sR, gL_sI, gL_sL, gL_sR, gR_sI, gR_sL, gR_sR, true_and, and_true, and_self, ite_true, ite_false, ite_self, not_true_eq_false, not_false_eq_true, or_true, true_or, or_false, false_or, yB0, yB1, Decidable.not_not]
  have e16 : gI (sI (sI (sI σ t 14 0) t 15 0) t 16 0) t 16 = 0 := by simp (disch := omega) only [if_pos, if_neg, yAnd, Int.toNat_natCast, zw_id, gI_sI, gI_sL, gI_sR, gL_sI, gL_sL, gL_sR, gR_sI, gR_sL, gR_sR, true_and, and_true, and_self, ite_true, ite_false, ite_self, not_true_eq_false, not_false_eq_true, or_true, true_or, or_false, false_or, yB0, yB1, Decidable.not_not]
  generalize sI (sI (sI σ t 14 0) t 15 0) t 16 0 = σ0 at hF0 e14 e15 e16 ⊢
  have loop : ∀ (n i : Nat) (σ2 : zW), 26 - i = n → i ≤ 26 → yFr (fun k _ => k = t + 13) σ0 σ2 → (∀ j, j < i → gI σ2 (t + 13) j = -1) → zEv true ((38, 17, [some (.inr (.inr t)), some (.inl (i : Int))], []) :: K) σ2 := by
    intro n
    induction n with
    | zero =>
      intro i σ2 hn hi hF h10
      rw [zj_38_17 ht, if_pos (by omega)]
      exact k σ2 (hF0.trans (hF.mono (fun k j h => Or.inl h))) ((hF.i (by omega)).trans e14) ((hF.i (by omega)).trans e15) ((hF.i (by omega)).trans e16) (fun x hx => h10 x (by omega))
    | succ n ih =>
      intro i σ2 hn hi hF h10
      have hcc : 0 ≤ (i : Int) ∧ (i : Int) < 26 := by omega
      rw [zj_38_17 ht, if_neg (by omega), yAnd hcc, Int.toNat_natCast, zw_id (by omega) (by omega), show (i : Int) + 1 = ((i + 1 : Nat) : Int) by omega]
      refine ih (i + 1) _ (by omega) (by omega) (hF.I rfl) (fun j hj => ?_)
      by_cases e : j = i
      · subst e; rw [yGI_hit]
      · rw [gI_sI, if_neg (fun w => e w.2)]; exact h10 j (by omega)
  exact loop _ 0 σ0 rfl (Nat.zero_le _) yFr.rf (fun j hj => by omega)
/-- d ups from a part -/
def chn (R : PRW) (c : Nat) : Nat → Nat → Prop
  | 0, h => h < c
  | d + 1, h => h < c ∧ 0 ≤ R 3 h ∧ chn R c d (R 3 h).toNat
theorem chn_lt {R : PRW} {c d h : Nat} (w : chn R c d h) : h < c := by
  cases d with
  | zero => exact w
  | succ d => exact w.1
theorem chn_mono {R R' : PRW} {c c' : Nat} (hc : c ≤ c') (hR : ∀ i, i < c → R' 3 i = R 3 i) : ∀ (d h : Nat), chn R c d h → chn R' c' d h := by
  intro d
  induction d with
  | zero => intro h w; exact Nat.lt_of_lt_of_le w hc
  | succ d ih =>
    intro h w
    obtain ⟨w1, w2, w3⟩ := w
    refine ⟨by omega, by rw [hR h w1]; exact w2, ?_⟩
    rw [hR h w1]
    exact ih _ w3
theorem mkR_ok {f : Nat → Int} {L p here : Nat} {R : PRW} {g : Int × Nat} (h : mkR f L R here p = .inr g) (hp : p ≤ L) : p ≤ g.2 ∧ g.2 ≤ L ∧ g.1 ≠ -1 := by
  unfold mkR at h
  split at h
  · rename_i h1
    have := tb_in (f := f) (L := L) (p := p) (by omega)
    cases h; exact ⟨by dsimp only; omega, by dsimp only; omega, by dsimp only; omega⟩
  · split at h
    · split at h
      · have := tb_in (f := f) (L := L) (p := p) (by omega)
        cases h; exact ⟨by dsimp only; omega, by dsimp only; omega, by dsimp only; omega⟩
      · cases h
    · cases h; exact ⟨by dsimp only; omega, by dsimp only; omega, by dsimp only; omega⟩
theorem brR_ok {f : Nat → Int} {L p : Nat} (hp : p ≤ L) : p ≤ brR f L p ∧ brR f L p ≤ L := by
  unfold brR
  split
  · have := tb_in (f := f) (L := L) (p := p) (by omega)
    omega
  · omega
theorem cP_fr {t : Nat} {st : PST} {X : Nat → Nat → Prop} {σ σ' : zW} (ht : zPn t) (h : cP t st σ) (hF : yFr X σ σ') (hX : ∀ k j, X k j → (k = 2 ∧ 2 ≤ j ∧ j ≤ 4) ∨ k = t + 10) : cP t st σ' := by
  have hb := zPn_b ht
  obtain ⟨p1, p2, p3, p4, p5, p6, p7⟩ := h
  refine ⟨(hF.i (fun w => ?_)).trans p1, (hF.i (fun w => ?_)).trans p2, (hF.i (fun w => ?_)).trans p3, fun q i q1 q2 q3 q4 => (hF.i (fun w => ?_)).trans (p4 q i q1 q2 q3 q4), fun x hx => (hF.i (fun w => ?_)).trans (p5 x hx), fun i hi => (hF.i (fun w => ?_)).trans (p6 i hi), fun i hi => (hF.l (fun w => ?_)).trans (p7 i hi)⟩
  all_goals (have := hX _ _ w; omega)
