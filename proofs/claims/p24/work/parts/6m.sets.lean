/-! the search: what a part says by itself and with its own relations -/
theorem spR_ed {c : Nat} {pd : Nat → Nat} {R : PRW} (hw : wfd c pd) (h3 : ∀ i, i < c → R 3 i = pa pd (pd i) i) : ∀ (i : Nat) (P : Nat → Int), i < c → (∀ j, j < c → P j = (pst pd c i j : Nat)) → ∀ j, j < c → spR R i P j = (ed pd c j : Nat) := by
  intro i
  induction i with
  | zero =>
    intro P hi hP j hj
    rw [spR, hP j hj]
    have h0 : kidc pd j 1 = 0 := kidc_zero (by omega)
    unfold pst
    by_cases e : kidc pd j c = 0
    · rw [if_neg (by omega), (leaf_iff hw hj).mp e]
    · rw [if_pos (by rw [Nat.zero_add, h0]; omega)]
  | succ i ih =>
    intro P hi hP j hj
    obtain ⟨a, ha, ha2, ha3⟩ := par_some hw hi (by omega)
    have e3 : (R 3 (i + 1)).toNat = a := by rw [h3 _ hi]; show (par pd (i + 1)).toNat = a; rw [ha, Int.toNat_natCast]
    have hedi : pst pd c (i + 1) (i + 1) = ed pd c (i + 1) := by
      unfold pst
      have h0 : kidc pd (i + 1) (i + 1 + 1) = 0 := kidc_zero (by omega)
      by_cases e : kidc pd (i + 1) c = 0
      · rw [if_neg (by omega), (leaf_iff hw hi).mp e]
      · rw [if_pos (by omega)]
    have hch := ed_child hw hi ha
    have hka : kidc pd a (i + 1 + 1) = kidc pd a (i + 1) + 1 := kidc_eq ha
    have hkm := kidc_mono (dep := pd) (a := a) (show i + 1 + 1 ≤ c by omega)
    have hnew : (if ((pst pd c (i + 1) a : Nat) : Int) < ((pst pd c (i + 1) (i + 1) : Nat) : Int) then ((pst pd c (i + 1) (i + 1) : Nat) : Int) else ((pst pd c (i + 1) a : Nat) : Int)) = ((pst pd c i a : Nat) : Int) := by
      rw [hedi, show pst pd c i a = ed pd c a by unfold pst; rw [if_pos (by omega)]]
      unfold pst
      by_cases e : kidc pd a (i + 1 + 1) < kidc pd a c
      · rw [if_pos e]
        by_cases e2 : ed pd c a < ed pd c (i + 1)
        · omega
        · rw [if_neg (by omega)]
      · rw [if_neg e, ed_lastchild hw hi ha (by omega)]
        have := (ed_spec (dep := pd) (show a < c by omega)).1
        by_cases e2 : a + 1 < ed pd c a
        · rw [if_pos (by omega)]
        · rw [if_neg (by omega)]; omega
    rw [spR, e3, hP a (by omega), hP (i + 1) hi, hnew]
    refine ih _ (by omega) (fun j hj => ?_) j hj
    unfold fup
    by_cases e : j = a
    · rw [if_pos e, e]
    · rw [if_neg e, hP j hj]
      unfold pst
      have : kidc pd j (i + 1 + 1) = kidc pd j (i + 1) := kidc_ne (by omega)
      rw [this]
theorem pst_ed {st : PST} {pd : Nat → Nat} (hg : pgd st pd) {j : Nat} (hj : j < st.1) : pstR st j = (ed pd st.1 j : Nat) := by
  refine spR_ed hg.1 (fun i hi => (hg.2.1 i hi).1) (st.1 - 1) _ (by omega) (fun j hj => ?_) j hj
  unfold pst
  rw [show st.1 - 1 + 1 = st.1 by omega, if_neg (by omega)]
  rfl
/-- the parts' ends lie there -/
def cPa (tp : Nat) (st : PST) (pd : Nat → Nat) (σ : zW) : Prop := ∀ j, j < st.1 → gI σ (tp + 10) j = (ed pd st.1 j : Nat)
/-- what the search has prepared -/
def sPr (T : TRE) (st : PST) (σ : zW) : Prop := (∀ p, p < st.1 → gI σ 42 p = ((bs (fun a => ftP st.2.2.2.1 st.2.2.2.2 p (T.2.1 a)) T.1 : Nat) : Int)) ∧ (∀ p, p < st.1 → rbS T st.2.2.2.1 p (fun _ _ => True) σ) ∧ ∀ a, a < T.1 → gI σ 45 a = ((bs (fun b => T.2.1 a = T.2.1 b) T.1 : Nat) : Int)
theorem sPr_fr {T : TRE} {st : PST} {σ σ' : zW} {X : Nat → Nat → Prop} (h : sPr T st σ) (hF : yFr X σ σ') (hX : ∀ k j, X k j → k < 42 ∨ 45 < k) : sPr T st σ' := by
  obtain ⟨h1, h2, h3⟩ := h
  refine ⟨fun p hp => (hF.i (fun w => by have := hX _ _ w; omega)).trans (h1 p hp), fun p hp a ha => ⟨(hF.i (fun w => by have := hX _ _ w; omega)).trans (h2 p hp a ha).1, (hF.i (fun w => by have := hX _ _ w; omega)).trans (h2 p hp a ha).2⟩, fun a ha => (hF.i (fun w => by have := hX _ _ w; omega)).trans (h3 a ha)⟩
/-- all that a search leans on -/
def sAll (t tp : Nat) (T : TRE) (st : PST) (pd : Nat → Nat) (σ : zW) : Prop := sOn t tp T st σ ∧ cPa tp st pd σ ∧ sPr T st σ
theorem sAll_fr {t tp : Nat} {T : TRE} {st : PST} {pd : Nat → Nat} {σ σ' : zW} {X : Nat → Nat → Prop} (h : sAll t tp T st pd σ) (hF : yFr X σ σ') (hX : ∀ k j, X k j → (k = 41 ∧ j ≠ 10 ∧ j ≠ 11) ∨ (46 ≤ k ∧ k ≤ 53 )) : sAll t tp T st pd σ' := by
  obtain ⟨⟨h1, h2, h3, h4, h5, h6⟩, hp, hr⟩ := h
  have hb := zTr_b h1
  have ht : t + 11 < 41 ∨ 53 < t := by rcases h1 with rfl | rfl | rfl | rfl <;> omega
  have hb2 : 80 ≤ tp := by rcases h2 with rfl | rfl <;> omega
  refine ⟨⟨h1, h2, (hF.r (fun w => by have := hX _ _ w; omega)).trans h3, (hF.r (fun w => by have := hX _ _ w; omega)).trans h4, cTr_fr h5 hF (fun k j w q => ?_), cP_fr2 h6 hF (fun k j w1 w2 q => ?_)⟩, fun j hj => (hF.i (fun w => ?_)).trans (hp j hj), sPr_fr hr hF (fun k j w => ?_)⟩
  · have := hX k j q; omega
  · have := hX k j q; omega
  · have := hX _ _ w; omega
  · have := hX _ _ w; omega
/-- the numbers of plain parts below m are bound as w says -/
def bOn (T : TRE) (st : PST) (w : Nat → Int) (m : Nat) (σ : zW) : Prop := ∀ k, k < st.2.2.1 → pln st.2.2.2.1 (np st k) → np st k < m → gI σ 48 k = w k ∧ ∃ j : Nat, j < T.1 ∧ w k = (j : Int)
theorem c_ownNodes {K : List zF} {t tp p m : Nat} {T : TRE} {st : PST} {pd : Nat → Nat} {w : Nat → Int} {z : Int} {σ : zW} (hgT : tgd T) (hg : pgd st pd) (hw8 : pw st) (hS : sAll t tp T st pd σ) (hB : bOn T st w m σ) (hp : p < st.1) (hm : st.2.2.2.1 1 p = 3 ∨ st.2.2.2.1 1 p = 4 → (st.2.2.2.1 2 p).toNat < m) (hz : z = (p : Int)) : zEv true (zent 78 [.inr (.inr 41), .inl z] :: K) σ = zRet true K (some (.inl ((bs (own T st w p) T.1 : Nat) : Int))) σ := by
  subst hz
  have hn := hgT.1.1
  have hc := hw8.1
  have hN := hw8.2.1
  obtain ⟨⟨s1, s2, s3, s4, s5, s6⟩, hpa, hr1, hr2, hr3⟩ := hS
  have hcp : 0 ≤ (p : Int) ∧ (p : Int) < 8 := by omega
  have e1 : gI σ (tp + 1) p = st.2.2.2.1 1 p := s6.2.2.2.1 1 p (by omega) (by omega) (by omega) hp
  have e2 : gI σ (tp + 2) p = st.2.2.2.1 2 p := s6.2.2.2.1 2 p (by omega) (by omega) (by omega) hp
  have ag : st.2.2.2.1 1 p = 3 ∨ st.2.2.2.1 1 p = 4 → ∃ (o k j : Nat), st.2.2.2.1 2 p = (o : Int) ∧ o < 8 ∧ gI σ (tp + 8) o = (k : Int) ∧ k < 4 ∧ gI σ 48 k = (j : Int) ∧ j < T.1 ∧ vp w st.2.2.2.1 (st.2.2.2.1 2 p).toNat = (j : Int) := fun c => by
    obtain ⟨o, o1, o2, o3, o4, o5⟩ := again_num hg hp c
    obtain ⟨k, k1, k2, k3⟩ := np_num hg (show o < st.1 by omega) o5
    have hm' := hm c
    rw [o1, Int.toNat_natCast] at hm'
    obtain ⟨b1, j, b2, b3⟩ := hB k k1 (by rw [k3]; exact o3) (by rw [k3]; exact hm')
    refine ⟨o, k, j, o1, by omega, (s6.2.2.2.1 8 o (by omega) (by omega) (by omega) (by omega)).trans k2, by omega, b1.trans b3, b2, ?_⟩
    rw [o1, Int.toNat_natCast]
    unfold vp
    rw [k2, Int.toNat_natCast, b3]
  have hrw : gR σ 41 11 = tp := s4
  rw [ze_78 (by rw [s4]; exact s2), hrw, yAnd hcp, Int.toNat_natCast, e1]
  by_cases c4 : st.2.2.2.1 1 p = 4
  · obtain ⟨o, k, j, a1, a2, a3, a4, a5, a6, a7⟩ := ag (Or.inr c4)
    have hco : 0 ≤ (o : Int) ∧ (o : Int) < 8 := by omega
    have hck : 0 ≤ (k : Int) ∧ (k : Int) < 4 := by omega
    rw [if_neg (fun q => q c4), yAnd hcp, e2, a1, yAnd hco, Int.toNat_natCast, a3, yAnd hck, Int.toNat_natCast, a5, zshl_all j (by omega), bs_one a6]
    refine congrArg (fun x => zRet true K (some (.inl x)) σ) (bsI (fun a ha => ?_))
    unfold own
    rw [if_neg (show ¬ st.2.2.2.1 1 p = 3 by omega), if_pos c4, a7]
    constructor <;> intro h <;> omega
  · rw [if_pos c4, yAnd hcp]
    by_cases c3 : st.2.2.2.1 1 p = 3
    · obtain ⟨o, k, j, a1, a2, a3, a4, a5, a6, a7⟩ := ag (Or.inl c3)
      have hco : 0 ≤ (o : Int) ∧ (o : Int) < 8 := by omega
      have hck : 0 ≤ (k : Int) ∧ (k : Int) < 4 := by omega
      have hcj : 0 ≤ (j : Int) ∧ (j : Int) < 20 := by omega
      rw [if_neg (fun q => q c3), yAnd hcp, e2, a1, yAnd hco, Int.toNat_natCast, a3, yAnd hck, Int.toNat_natCast, a5, yAnd hcj, Int.toNat_natCast, hr3 j a6]
      refine congrArg (fun x => zRet true K (some (.inl x)) σ) (bsI (fun a ha => ?_))
      unfold own
      rw [if_pos c3, a7, Int.toNat_natCast]
      exact ⟨fun h => h.symm, fun h => h.symm⟩
    · rw [if_pos c3, yAnd hcp, hr1 p hp]
      refine congrArg (fun x => zRet true K (some (.inl x)) σ) (bsI (fun a ha => ?_))
      unfold own
      rw [if_neg c3, if_neg c4]
