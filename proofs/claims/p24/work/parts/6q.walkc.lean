/-! the walk of the class -/
theorem ne_i {x y : Nat} (h : ¬ x = y) : ¬ ((x : Int) = (y : Int)) := fun e => h (Int.ofNat.inj e)
theorem w_s {p : Nat} (h : p < 100000) : w32 ((p : Int) + 1) = ((p + 1 : Nat) : Int) := by rw [zw_id (by omega) (by omega)]; omega
def Xw (st : PST) (ah : Prop) (tf p k j : Nat) : Prop := k = 46 ∨ (k = 47 ∧ p ≤ j) ∨ (k = 48 ∧ p ≤ np st j ∧ (ah → ¬ pln st.2.2.2.1 (np st j))) ∨ (k = tf ∧ j = 5) ∨ k = tf + 1
def wOn (t tp tf : Nat) (T : TRE) (st : PST) (pd : Nat → Nat) (ah : Prop) (p : Nat) (w τ : Nat → Int) (P : Nat → Prop) (σ : zW) : Prop :=
  sAll t tp T st pd σ ∧ gI σ 41 9 = zb ah ∧ gR σ 41 12 = tf ∧ fdS tf (T.1 + 1) st.2.2.1 P σ ∧ (∀ k, k < st.2.2.1 → np st k < p → gI σ 48 k = w k ∧ -1 ≤ w k ∧ w k < (T.1 : Int)) ∧ bOn T st w p σ ∧ (ah → bOn T st w st.1 σ) ∧ ∀ q, q < p → τ q ≠ -1 → gI σ 47 q = τ q ∧ ∃ j : Nat, j < T.1 ∧ τ q = (j : Int)
def cutK (st : PST) (pd : Nat → Nat) (p : Nat) (τ : Nat → Int) : Prop := ∀ q, q < p → τ q ≠ -1 ∨ ∃ h, h < st.1 ∧ h ≤ q ∧ q < ed pd st.1 h ∧ ed pd st.1 h ≤ p
theorem Xw_b {st : PST} {ah : Prop} {tf p k j : Nat} (htf : zFo tf) (h : Xw st ah tf p k j) : 46 ≤ k ∧ k ≤ 53 := by
  have : tf = 50 ∨ tf = 52 := htf
  unfold Xw at h
  omega
theorem Xw_mono {st : PST} {ah : Prop} {tf p p' k j : Nat} (hp : p' ≤ p) (h : Xw st ah tf p k j) : Xw st ah tf p' k j := by
  rcases h with h | h | h | h | h
  · exact Or.inl h
  · exact Or.inr (Or.inl ⟨h.1, by omega⟩)
  · exact Or.inr (Or.inr (Or.inl ⟨h.1, by omega, h.2.2⟩))
  · exact Or.inr (Or.inr (Or.inr (Or.inl h)))
  · exact Or.inr (Or.inr (Or.inr (Or.inr h)))
theorem Xw_48 {st : PST} {ah : Prop} {tf p j : Nat} (htf : zFo tf) (h : Xw st ah tf p 48 j) : p ≤ np st j ∧ (ah → ¬ pln st.2.2.2.1 (np st j)) := by
  have ht : tf = 50 ∨ tf = 52 := htf
  rcases h with h | h | h | h | h
  · omega
  · omega
  · exact h.2
  · omega
  · omega
theorem Xw_47 {st : PST} {ah : Prop} {tf p j : Nat} (htf : zFo tf) (h : Xw st ah tf p 47 j) : p ≤ j := by
  have ht : tf = 50 ∨ tf = 52 := htf
  rcases h with h | h | h | h | h
  · omega
  · exact h.2
  · omega
  · omega
  · omega
theorem bOn_w {T : TRE} {st : PST} {w : Nat → Int} {m p tf : Nat} {ah : Prop} {σ σ' : zW} (htf : zFo tf) (h : bOn T st w m σ) (hm : m ≤ p ∨ ah) (hF : yFr (Xw st ah tf p) σ σ') : bOn T st w m σ' := fun k k1 k2 k3 => by
  obtain ⟨b1, b2⟩ := h k k1 k2 k3
  refine ⟨(hF.i (fun x => ?_)).trans b1, b2⟩
  obtain ⟨x1, x2⟩ := Xw_48 htf x
  rcases hm with hm | hm
  · clear b1 b2; omega
  · exact x2 hm k2
theorem wOn_fr {t tp tf : Nat} {T : TRE} {st : PST} {pd : Nat → Nat} {ah : Prop} {p : Nat} {w τ : Nat → Int} {P Q : Nat → Prop} {σ σ' : zW} (htf : zFo tf) (h : wOn t tp tf T st pd ah p w τ P σ) (hF : yFr (Xw st ah tf p) σ σ') (hQ : fdS tf (T.1 + 1) st.2.2.1 Q σ') : wOn t tp tf T st pd ah p w τ Q σ' := by
  obtain ⟨h1, h2, h3, h4, h5, h6, h7, h8⟩ := h
  refine ⟨sAll_fr h1 hF (fun k j x => Or.inr (Xw_b htf x)), (hF.i (fun x => by have := Xw_b htf x; omega)).trans h2, (hF.r (fun x => by have := Xw_b htf x; omega)).trans h3, hQ, fun k k1 k2 => ?_, bOn_w htf h6 (Or.inl (Nat.le_refl p)) hF, fun a => bOn_w htf (h7 a) (Or.inr a) hF, fun q q1 q2 => ?_⟩
  · obtain ⟨a1, a2⟩ := h5 k k1 k2
    exact ⟨(hF.i (fun x => by have := (Xw_48 htf x).1; clear a1 a2; omega)).trans a1, a2⟩
  · obtain ⟨a1, a2⟩ := h8 q q1 q2
    exact ⟨(hF.i (fun x => by have := Xw_47 htf x; clear a1 a2; omega)).trans a1, a2⟩
theorem c_leaveOut {K : List zF} {t tp h : Nat} {T : TRE} {st : PST} {pd : Nat → Nat} {z : Int} {σ : zW} (hg : pgd st pd) (hw8 : pw st) (hS : sAll t tp T st pd σ) (hh : h < st.1) (hz : z = (h : Int))
    (k : ∀ σ' : zW, yFr (fun k j => k = 48 ∧ h ≤ np st j ∧ np st j < ed pd st.1 h) σ σ' → (∀ j, j < st.2.2.1 → h ≤ np st j → np st j < ed pd st.1 h → gI σ' 48 j = -1) → zRet true K none σ') : zEv true (zent 77 [.inr (.inr 41), .inl z] :: K) σ := by
  subst hz
  have hc := hw8.1
  have hN := hw8.2.1
  obtain ⟨d1, d2, d3, d4⟩ := ed_spec (dep := pd) hh
  have hch : 0 ≤ (h : Int) ∧ (h : Int) < 8 := by clear d3 d4; omega
  rw [ze_77]
  suffices L : ∀ (d q : Nat) (σ2 : zW), ed pd st.1 h - q = d → h ≤ q → q ≤ ed pd st.1 h → yFr (fun k j => k = 48 ∧ h ≤ np st j ∧ np st j < ed pd st.1 h) σ σ2 → (∀ j, j < st.2.2.1 → h ≤ np st j → np st j < q → gI σ2 48 j = -1) → zEv true ((77, 2, [some (.inr (.inr 41)), some (.inl (h : Int)), some (.inl (q : Int))], []) :: K) σ2 from
    L _ h σ rfl (Nat.le_refl h) (Nat.le_of_lt d1) yFr.rf (fun j j1 j2 j3 => by omega)
  intro d
  induction d with
  | zero =>
    intro q σ2 hd hq1 hq2 hF hj
    have eq : q = ed pd st.1 h := by clear d3 d4; omega
    obtain ⟨⟨s1, s2, s3, s4, s5, s6⟩, hpa, -⟩ := sAll_fr hS hF (fun k j x => Or.inr (by omega))
    rw [zj_77_2 (by rw [s4]; exact s2), s4, yAnd hch, Int.toNat_natCast, hpa h hh, eq, if_pos (Int.le_refl _)]
    exact k σ2 hF (fun j j1 j2 j3 => hj j j1 j2 (by rw [eq]; exact j3))
  | succ d ih =>
    intro q σ2 hd hq1 hq2 hF hj
    have hqE : q < ed pd st.1 h := by clear d3 d4; omega
    have hqc : q < st.1 := Nat.lt_of_lt_of_le hqE d2
    have hcq : 0 ≤ (q : Int) ∧ (q : Int) < 8 := by clear d3 d4; omega
    have hle : ¬ ((ed pd st.1 h : Nat) : Int) ≤ (q : Int) := fun x => absurd (Int.ofNat_le.mp x) (Nat.not_le.mpr hqE)
    have hd1 : ed pd st.1 h - (q + 1) = d := by clear d3 d4; omega
    obtain ⟨⟨s1, s2, s3, s4, s5, s6⟩, hpa, -⟩ := sAll_fr hS hF (fun k j x => Or.inr (by omega))
    have g8 : gI σ2 (tp + 8) q = st.2.2.2.1 8 q := s6.2.2.2.1 8 q (by omega) (by omega) (by omega) hqc
    have e1 : ∀ _ : Unit, w32 ((q : Int) + 1) = ((q + 1 : Nat) : Int) := fun _ => w_s (by clear d3 d4 g8; omega)
    rw [zj_77_2 (by rw [s4]; exact s2), s4, yAnd hch, Int.toNat_natCast, hpa h hh, if_neg hle, yAnd hcq, Int.toNat_natCast, g8, (e1 ())]
    by_cases c8 : st.2.2.2.1 8 q = -1
    · rw [if_pos c8]
      refine ih (q + 1) σ2 hd1 (Nat.le_succ_of_le hq1) hqE hF (fun j j1 j2 j3 => ?_)
      by_cases e : np st j = q
      · have := (np_ok hg j1).2.2.1
        rw [e, c8] at this; omega
      · exact hj j j1 j2 (by clear d3 d4 g8 e1 c8; omega)
    · obtain ⟨m, m1, m2, m3⟩ := np_num hg hqc c8
      have hcm : 0 ≤ (m : Int) ∧ (m : Int) < 4 := by clear d3 d4 g8 e1 c8; omega
      rw [if_neg c8, yAnd hcq, m2, yAnd hcm, Int.toNat_natCast]
      have hF2 : yFr (fun k j => k = 48 ∧ j = m) σ2 (sI σ2 48 m (-1)) := yFr.rf.I ⟨rfl, rfl⟩
      have h48 : gI (sI σ2 48 m (-1)) 48 m = -1 := yGI_hit
      generalize sI σ2 48 m (-1) = σ3 at hF2 h48 ⊢
      refine ih (q + 1) σ3 hd1 (Nat.le_succ_of_le hq1) hqE (hF.trans (hF2.mono (fun k j x => ⟨x.1, by rw [x.2, m3]; exact ⟨hq1, hqE⟩⟩))) (fun j j1 j2 j3 => ?_)
      by_cases e : j = m
      · rw [e]; exact h48
      · rw [hF2.i (fun x => e x.2)]
        refine hj j j1 j2 ?_
        by_cases e' : np st j = q
        · have a1 := (np_ok hg j1).2.2.1
          have a2 := (np_ok hg m1).2.2.1
          rw [e', ← m3, a2] at a1
          exact absurd (Int.ofNat.inj a1).symm e
        · clear d3 d4 g8 e1 c8; omega
