/-! the model's other edits -/
theorem m_wraps {K : List zF} (hK : K.length + 3 ≤ 60) {fr : Int} {s : Nat} {v : Int64} {r : ROW} {σ : zW} (hs : s < r.1) (hg : rgd r fr) (hfr : 0 ≤ fr ∧ fr < 1000) (hR : mRw r σ) (h8 : gI σ 122 85 = fr) (k : mDo (edWrp r fr s v) K σ) : zEv true (zent 230 [.inr (.inr 122), .inl (s : Int), .inr (.inl v)] :: K) σ := by
  have hn := hg.1.1
  have hsp := ed_spec (dep := r.2.2.1) hs
  unfold edWrp at k
  rw [ze_230 (by omega), hR.1]
  by_cases c : 20 ≤ r.1
  · rw [if_pos c] at k
    rw [if_neg (fun w => w (by omega))]
    exact k.1 rfl σ yFr.rf
  · rw [if_neg c] at k
    have hcs : 0 ≤ (s : Int) ∧ (s : Int) < 24 := by omega
    rw [if_pos (by omega), m_end hR hn hs rfl, zr_230_16, yAnd hcs, Int.toNat_natCast, (hR.2 s hs).2.1]
    generalize he : ed r.2.2.1 r.1 s = e at *
    have loop : ∀ (m i : Nat) (σ2 : zW), e - i = m → s ≤ i → i ≤ e → yFr (fun k _ => k = 180) σ σ2 → (∀ j, j < r.1 → gI σ2 180 j = (dup s i r.2.2.1 j : Nat)) → zEv true ((230, 29, [some (.inr (.inr 122)), some (.inl (s : Int)), some (.inr (.inl v)), none, some (.inl (e : Int)), some (.inl ((r.2.2.1 s : Nat) : Int)), some (.inl (i : Int))], []) :: K) σ2 := by
      intro m
      induction m with
      | zero =>
        intro i σ2 hm h1 h2 hF hd
        have ei : i = e := by omega
        subst ei
        have hR2 := mRw_dep hR hF hd
        have h82 : gI σ2 122 85 = fr := (hF.i (by omega)).trans h8
        rw [zj_230_29 (by omega), if_pos (by omega)]
        refine m_insert (s := s) (yKK (K := K) (by omega)) hR2 (by show s ≤ r.1; omega) (by show r.1 + 1 ≤ 20; omega) h82 hfr rfl rfl (fun σ4 hF4 hR4 h84 => ?_)
        rw [zr_230_61]
        exact k.2 _ rfl σ4 ((hF.mono (fun k j h => by omega)).trans (hF4.mono (fun k j h => by omega))) hR4 h84
      | succ m ih =>
        intro i σ2 hm h1 h2 hF hd
        have hcc : 0 ≤ (i : Int) ∧ (i : Int) < 24 := by omega
        have hdi : dup s i r.2.2.1 i = r.2.2.1 i := by unfold dup; rw [if_neg (by omega)]
        have hdl := wfd_lt hg.1 i (by omega)
        rw [zj_230_29 (by omega), if_neg (by omega), yAnd hcc, yAnd hcc, Int.toNat_natCast, hd i (by omega), hdi, zw_id (by omega) (by omega), zw_id (by omega) (by omega), show (i : Int) + 1 = ((i + 1 : Nat) : Int) by omega]
        refine ih (i + 1) _ (by omega) (by omega) (by omega) (hF.I rfl) (fun j hj => ?_)
        unfold dup
        by_cases ej : j = i
        · subst ej
          rw [yGI_hit, if_pos ⟨h1, by omega⟩]; omega
        · rw [gI_sI, if_neg (fun w => ej w.2), hd j hj]
          unfold dup
          by_cases c : s ≤ j ∧ j < i
          · rw [if_pos c, if_pos (by omega)]
          · rw [if_neg c, if_neg (by omega)]
    refine loop _ s σ rfl (Nat.le_refl _) (by omega) yFr.rf (fun j hj => ?_)
    unfold dup
    rw [if_neg (by omega)]; exact (hR.2 j hj).2.1
theorem whz {n i : Nat} (hn : n < 4) (hi : i < 4) : zlc (kwn (6 + n)) (kwn (6 + i)) = 0 ↔ n = i := by
  rw [zlc_eq]
  exact ⟨fun h => by have := kwn_ne (by omega) (by omega) h; omega, fun h => by rw [h]⟩
theorem whl0 {n : Nat} (hn : n < 4) : zlc (kwn (6 + n)) 500153084262 = 0 ↔ n = 0 := by
  obtain ⟨-, -, -, -, -, -, l6, -, -, -⟩ := kwn_lits
  rw [← l6]
  exact whz (i := 0) hn (by omega)
theorem whl1 {n : Nat} (hn : n < 4) : zlc (kwn (6 + n)) 1953718636 = 0 ↔ n = 1 := by
  obtain ⟨-, -, -, -, -, -, -, l7, -, -⟩ := kwn_lits
  rw [← l7]
  exact whz (i := 1) hn (by omega)
theorem whl2 {n : Nat} (hn : n < 4) : zlc (kwn (6 + n)) 111542169658722 = 0 ↔ n = 2 := by
  obtain ⟨-, -, -, -, -, -, -, -, l8, -⟩ := kwn_lits
  rw [← l8]
  exact whz (i := 2) hn (by omega)
theorem m_barred {K : List zF} (hK : K.length + 2 ≤ 60) {g n : Nat} {r : ROW} {σ : zW} (hg : g < r.1) (hn : r.1 ≤ 20) (hR : mRw r σ) (hw : n < 4) : zEv true (zent 231 [.inr (.inr 122), .inr (.inl (kwn (6 + n))), .inl (g : Int)] :: K) σ = zRet true K (some (.inl (if rfu r (n : Int) g then 1 else 0))) σ := by
  have z0 : zlc (kwn (6 + n)) 500153084262 = 0 ↔ n = 0 := whl0 hw
  have z1 : zlc (kwn (6 + n)) 1953718636 = 0 ↔ n = 1 := whl1 hw
  have h9 : (n = 0 ∨ n = 1) → zEv true ((231, 16, [some (.inr (.inr 122)), some (.inr (.inl (kwn (6 + n)))), none, some (.inl (g : Int))], []) :: K) σ = zRet true K (some (.inl (if rfu r (n : Int) g then 1 else 0))) σ := fun c => by
    rw [zj_231_16 (by omega), m_isSingle (yL (by omega)) hR hn hg rfl, zr_231_21, yAnd (by split; exact Or.inr rfl; exact Or.inl rfl)]
    by_cases e : ed r.2.2.1 r.1 g = g + 1
    · rw [if_pos e, if_pos (Or.inl ⟨by omega, e⟩)]
    · rw [if_neg e, if_neg (fun w => by rcases w with w | w; exact e w.2; exact w.1 (by omega))]
  rw [ze_231]
  by_cases c0 : n = 0
  · rw [if_pos (z0.mpr c0)]; exact h9 (Or.inl c0)
  · rw [if_neg (fun w => c0 (z0.mp w))]
    by_cases c1 : n = 1
    · rw [if_neg (fun w => w (z1.mpr c1))]; exact h9 (Or.inr c1)
    · rw [if_pos (fun w => c1 (z1.mp w))]
      by_cases e : g = 0
      · rw [if_neg (fun w => w (by omega)), if_pos (Or.inr ⟨fun w => by omega, e⟩)]
      · rw [if_pos (by omega), if_neg (fun w => by rcases w with w | w; exact absurd w.1 (by omega); exact e w.2)]
theorem m_spotFor {K : List zF} (hK : K.length + 1 ≤ 60) {g n : Nat} {r : ROW} {σ : zW} (hg : g < r.1) (hn : r.1 ≤ 20) (hR : mRw r σ) (hw : n < 4) : zEv true (zent 232 [.inr (.inr 122), .inr (.inl (kwn (6 + n))), .inl (g : Int)] :: K) σ = zRet true K (some (.inl ((spa r (n : Int) g : Nat) : Int))) σ := by
  have z0 : zlc (kwn (6 + n)) 500153084262 = 0 ↔ n = 0 := whl0 hw
  have z2 : zlc (kwn (6 + n)) 111542169658722 = 0 ↔ n = 2 := whl2 hw
  unfold spa
  rw [ze_232 (by omega)]
  by_cases c0 : n = 0
  · rw [if_neg (fun w => w (z0.mpr c0)), if_neg (show ¬ (n : Int) = 2 by omega), if_pos (show (n : Int) = 0 by omega), zw_id (by omega) (by omega)]; rfl
  · rw [if_pos (fun w => c0 (z0.mp w))]
    by_cases c2 : n = 2
    · rw [if_neg (fun w => w (z2.mpr c2)), if_pos (show (n : Int) = 2 by omega)]
    · rw [if_pos (fun w => c2 (z2.mp w)), if_neg (show ¬ (n : Int) = 2 by omega), if_neg (show ¬ (n : Int) = 0 by omega), m_end hR hn hg rfl, zr_232_31]
theorem m_depthFor {K : List zF} {g n : Nat} {r : ROW} {σ : zW} (hwf : wfd r.1 r.2.2.1) (hg : g < r.1) (hR : mRw r σ) (hw : n < 4) : zEv true (zent 233 [.inr (.inr 122), .inr (.inl (kwn (6 + n))), .inl (g : Int)] :: K) σ = zRet true K (some (.inl ((dpa r (n : Int) g : Nat) : Int))) σ := by
  have z0 : zlc (kwn (6 + n)) 500153084262 = 0 ↔ n = 0 := whl0 hw
  have z1 : zlc (kwn (6 + n)) 1953718636 = 0 ↔ n = 1 := whl1 hw
  have hn := hwf.1
  have hdl := wfd_lt hwf g hg
  have hcg : 0 ≤ (g : Int) ∧ (g : Int) < 24 := by omega
  have e : w32 (((r.2.2.1 g : Nat) : Int) + (if zlc (kwn (6 + n)) 500153084262 = 0 then 1 else (if ¬ zlc (kwn (6 + n)) 1953718636 = 0 then 0 else 1 : Int) : Int)) = ((dpa r (n : Int) g : Nat) : Int) := by
    unfold dpa
    by_cases c0 : n = 0
    · rw [if_pos (z0.mpr c0), if_pos (by omega), zw_id (by omega) (by omega)]; rfl
    · rw [if_neg (fun w => c0 (z0.mp w))]
      by_cases c1 : n = 1
      · rw [if_neg (fun w => w (z1.mpr c1)), if_pos (by omega), zw_id (by omega) (by omega)]; rfl
      · rw [if_pos (fun w => c1 (z1.mp w)), if_neg (by omega), zw_id (by omega) (by omega)]; omega
  rw [ze_233, yAnd hcg, Int.toNat_natCast, (hR.2 g hg).2.1, e]
theorem m_adds {K : List zF} (hK : K.length + 3 ≤ 60) {fr : Int} {g n : Nat} {v : Int64} {r : ROW} {σ : zW} (hg : g < r.1) (hr : rgd r fr) (hfr : 0 ≤ fr ∧ fr < 1000) (hR : mRw r σ) (hw : n < 4) (h8 : gI σ 122 85 = fr) (k : mDo (edAdd r fr v (n : Int) g) K σ) : zEv true (zent 234 [.inr (.inr 122), .inr (.inl v), .inr (.inl (kwn (6 + n))), .inl (g : Int)] :: K) σ := by
  have hn := hr.1.1
  unfold edAdd at k
  rw [ze_234 (by omega), hR.1]
  by_cases c : 20 ≤ r.1
  · rw [if_pos (Or.inl c)] at k
    rw [if_pos (by omega)]
    exact k.1 rfl σ yFr.rf
  · rw [if_neg (by omega), m_barred (yKK (by omega)) hg hn hR hw, zr_234_16 (by omega)]
    by_cases c2 : rfu r (n : Int) g
    · rw [if_pos (Or.inr c2)] at k
      rw [if_neg (show ¬ (if rfu r (n : Int) g then (1 : Int) else 0) = 0 by rw [if_pos c2]; decide)]
      exact k.1 rfl σ yFr.rf
    · rw [if_neg (fun w => by rcases w with w | w; exact c w; exact c2 w)] at k
      have hp := pos_ok (wh := (n : Int)) (r := r) ⟨rfl, rfl⟩ hr.1 hg (fun w w2 => c2 (Or.inr ⟨w, w2⟩))
      rw [if_pos (show (if rfu r (n : Int) g then (1 : Int) else 0) = 0 by rw [if_neg c2]), m_spotFor (yKK (by omega)) hg hn hR hw, zr_234_29 (by omega), m_depthFor hr.1 hg hR hw, zr_234_36 (by omega)]
      generalize spa r (n : Int) g = q at hp k ⊢
      generalize dpa r (n : Int) g = d at hp k ⊢
      refine m_insert (s := q) (yKK (K := K) (by omega)) hR hp.2.1 (by omega) h8 hfr rfl rfl (fun σ4 hF4 hR4 h84 => ?_)
      rw [zr_234_40]
      exact k.2 _ rfl σ4 (hF4.mono (fun k j h => by omega)) hR4 h84
/-- the block that is cut out, depths from its own root on -/
def mCt (r : ROW) (s w : Nat) (σ : zW) : Prop := gI σ 122 81 = (w : Int) ∧ ∀ i, i < w → rwq 184 183 182 σ i (r.2.1 (s + i)) (r.2.2.1 (s + i) - r.2.2.1 s) (r.2.2.2 (s + i))
theorem m_cutl {K : List zF} (hK : K.length + 3 ≤ 60) {s w : Nat} {r : ROW} {σ : zW} {v : Int64} {x5 x6 : Int} {o2 o4 o8 o9 o10 : Option zV} (hs : s + w ≤ r.1) (hw0 : 0 < w) (hn : r.1 ≤ 20) (hR : mRw r σ) (hdl : ∀ i, i < r.1 → r.2.2.1 i ≤ 20) (hdge : ∀ i, i < w → r.2.2.1 s ≤ r.2.2.1 (s + i)) (hv : o2 = some (.inr (.inl v)))
    (k : ∀ σ' : zW, yFr (fun k j => (k = 122 ∧ j = 81) ∨ (182 ≤ k ∧ k ≤ 184)) σ σ' → mCt r s w σ' → zEv true (zent 225 [.inr (.inr 122), .inl (s : Int), .inl (w32 (-(w : Int)))] :: (235, 147, [some (.inr (.inr 122)), some (.inl (s : Int)), o2, none, o4, some (.inl x5), some (.inl x6), some (.inl (w : Int)), o8, o9, o10], []) :: K) σ') :
    zEv true ((235, 67, [some (.inr (.inr 122)), some (.inl (s : Int)), o2, none, o4, some (.inl x5), some (.inl x6), some (.inl 0), o8, o9, o10], []) :: K) (sI σ 122 81 (w : Int)) := by
  subst hv
  have hcs : 0 ≤ (s : Int) ∧ (s : Int) < 24 := by omega
  have loop : ∀ (m i : Nat) (σ2 : zW), w - i = m → i ≤ w → yFr (fun k j => (k = 122 ∧ j = 81) ∨ (182 ≤ k ∧ k ≤ 184)) σ σ2 → gI σ2 122 81 = (w : Int) → (∀ j, j < i → rwq 184 183 182 σ2 j (r.2.1 (s + j)) (r.2.2.1 (s + j) - r.2.2.1 s) (r.2.2.2 (s + j))) → zEv true ((235, 67, [some (.inr (.inr 122)), some (.inl (s : Int)), some (.inr (.inl v)), none, o4, some (.inl x5), some (.inl x6), some (.inl (i : Int)), o8, o9, o10], []) :: K) σ2 := by
    intro m
    induction m with
    | zero =>
      intro i σ2 hm hi hF e81 hE
      rw [zj_235_67 (by omega), e81, if_pos (by omega)]
      rw [show i = w by omega] at hE ⊢
      exact k σ2 hF ⟨e81, hE⟩
    | succ m ih =>
      intro i σ2 hm hi hF e81 hE
      have hcc : 0 ≤ (i : Int) ∧ (i : Int) < 24 := by omega
      have hcx : 0 ≤ ((s + i : Nat) : Int) ∧ ((s + i : Nat) : Int) < 24 := by omega
      have ex : w32 ((s : Int) + (i : Int)) = ((s + i : Nat) : Int) := by rw [zw_id (by omega) (by omega)]; omega
      have hR2 : mRw r σ2 := mRw_fr hR hF (fun k j h => by omega)
      have hq := hR2.2 (s + i) (by omega)
      have hq0 := hR2.2 s (by omega)
      have h1 := hdge i (by omega)
      have h2 := hdl (s + i) (by omega)
      have ed : w32 (((r.2.2.1 (s + i) : Nat) : Int) - ((r.2.2.1 s : Nat) : Int)) = ((r.2.2.1 (s + i) - r.2.2.1 s : Nat) : Int) := by rw [zw_id (by omega) (by omega)]; omega
      have hF2 : yFr (fun k j => 182 ≤ k ∧ k ≤ 184 ∧ j = i) σ2 (sL (sI (sI σ2 182 i (r.2.2.2 (s + i))) 183 i ((r.2.2.1 (s + i) - r.2.2.1 s : Nat) : Int)) 184 i (r.2.1 (s + i))) := ((yFr.rf.I (by omega)).I (by omega)).L (by omega)
      rw [zj_235_67 (by omega), e81, if_neg (by omega), ex, yAnd hcx, yAnd hcc, yAnd hcx, yAnd hcs, yAnd hcc, yAnd hcx, yAnd hcc, Int.toNat_natCast, Int.toNat_natCast, Int.toNat_natCast, hq.1, hq.2.1, hq.2.2, hq0.2.1, ed, zw_id (by omega) (by omega), show (i : Int) + 1 = ((i + 1 : Nat) : Int) by omega]
      refine ih (i + 1) _ (by omega) (by omega) (hF.trans (hF2.mono (fun k j h => by omega))) ((hF2.i (by omega)).trans e81) (fun j hj => ?_)
      by_cases ej : j = i
      · subst ej
        refine ⟨?_, ?_, ?_⟩
        · rw [gL_sL, if_pos ⟨rfl, rfl⟩]
        · rw [gI_sL, yGI_hit]
        · rw [gI_sL, gI_sI, if_neg (by omega), yGI_hit]
      · exact rwq_fr (hE j (by omega)) hF2 (by omega) (by omega) (by omega)
  exact loop w 0 _ rfl (Nat.zero_le _) (yFr.rf.I (by omega)) yGI_hit (fun j hj => by omega)
theorem m_backl {K : List zF} (hK : K.length + 3 ≤ 60) {s w q d : Nat} {r r1 : ROW} {σ : zW} {x5 : Int} {o1 o2 o3 o4 o6 o7 : Option zV} (hs : s + w ≤ r.1) (hn : r1.1 + w ≤ 20) (hq : q ≤ r1.1) (hO : mOp r1 q w σ) (hC : mCt r s w σ) (hdl : ∀ i, i < r.1 → r.2.2.1 i ≤ 20) (hd : d ≤ 21)
    (k : ∀ (o10 : Option zV) (σ' : zW), yFr (fun k _ => 179 ≤ k ∧ k ≤ 181) σ σ' → mRw (rin r1 q w (blk r s d)) σ' → zEv true (zent 221 [.inr (.inr 122), .inl x5] :: (235, 262, [some (.inr (.inr 122)), o1, o2, o3, o4, some (.inl x5), o6, o7, some (.inl (d : Int)), some (.inl (q : Int)), o10], [.inr (.inr 122)]) :: K) σ') :
    zEv true ((235, 186, [some (.inr (.inr 122)), o1, o2, o3, o4, some (.inl x5), o6, o7, some (.inl (d : Int)), some (.inl (q : Int)), some (.inl 0)], []) :: K) σ := by
  have loop : ∀ (m i : Nat) (σ5 : zW), w - i = m → i ≤ w → yFr (fun k j => 179 ≤ k ∧ k ≤ 181 ∧ q ≤ j ∧ j < q + w) σ σ5 → (∀ j, j < i → rwq 181 180 179 σ5 (q + j) ((blk r s d).1 j) ((blk r s d).2.1 j) ((blk r s d).2.2 j)) → zEv true ((235, 186, [some (.inr (.inr 122)), o1, o2, o3, o4, some (.inl x5), o6, o7, some (.inl (d : Int)), some (.inl (q : Int)), some (.inl (i : Int))], []) :: K) σ5 := by
    intro m
    induction m with
    | zero =>
      intro i σ5 hm hi hF5 hB
      rw [zj_235_186 (by omega), hF5.i (by omega), hC.1, if_pos (by omega)]
      exact k _ σ5 (hF5.mono (fun k j h => by omega)) (m_fill ⟨(hF5.i (by omega)).trans hO.1, fun j hj => rwq_fr (hO.2.1 j hj) hF5 (by omega) (by omega) (by omega), fun j j1 j2 => rwq_fr (hO.2.2 j j1 j2) hF5 (by omega) (by omega) (by omega)⟩ hq (fun j hj => hB j (by omega)))
    | succ m ih =>
      intro i σ5 hm hi hF5 hB
      have hcc : 0 ≤ (i : Int) ∧ (i : Int) < 24 := by omega
      have hcq : 0 ≤ ((q + i : Nat) : Int) ∧ ((q + i : Nat) : Int) < 24 := by omega
      have ex : w32 ((q : Int) + (i : Int)) = ((q + i : Nat) : Int) := by rw [zw_id (by omega) (by omega)]; omega
      have hi1 : rwq 184 183 182 σ5 i (r.2.1 (s + i)) (r.2.2.1 (s + i) - r.2.2.1 s) (r.2.2.2 (s + i)) := rwq_fr (hC.2 i (by omega)) hF5 (by omega) (by omega) (by omega)
      have hdi := hdl (s + i) (by omega)
      have ed : w32 ((d : Int) + ((r.2.2.1 (s + i) - r.2.2.1 s : Nat) : Int)) = (((blk r s d).2.1 i : Nat) : Int) := by
        show _ = ((r.2.2.1 (s + i) - r.2.2.1 s + d : Nat) : Int)
        rw [zw_id (by omega) (by omega)]
        omega
      rw [zj_235_186 (by omega), hF5.i (k := 122) (j := 81) (by omega), hC.1, if_neg (by omega), ex, yAnd hcc, yAnd hcq, yAnd hcc, yAnd hcq, yAnd hcc, yAnd hcq, Int.toNat_natCast, Int.toNat_natCast, hi1.1, hi1.2.1, hi1.2.2, ed, zw_id (by omega) (by omega), show (i : Int) + 1 = ((i + 1 : Nat) : Int) by omega]
      refine ih (i + 1) _ (by omega) (by omega) (((hF5.I (by omega)).I (by omega)).L (by omega)) (fun j hj => ?_)
      by_cases ej : j = i
      · subst ej; exact rwq_mw
      · exact rwq_mo (by omega) (hB j (by omega))
  exact loop w 0 σ rfl (Nat.zero_le _) yFr.rf (fun j hj => by omega)
