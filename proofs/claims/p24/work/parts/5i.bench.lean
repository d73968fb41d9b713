/-! the class moves nodes -/
theorem awy_id {r : ROW} {s w g : Nat} (h : ¬ (s ≤ g ∧ g < s + w)) : (rcl r s w).2.2.2 (awy s w g) = r.2.2.2 g := by
  show shl s w r.2.2.2 (awy s w g) = _
  unfold awy
  by_cases c : g < s
  · rw [if_pos c, shl_lo c]
  · rw [if_neg c, shl_hi (by omega), show g - w + w = g by omega]
theorem mva_id {r : ROW} {wh : Int} {s g w a : Nat} (ha : (par r.2.2.1 s).toNat = a) (h : a < s) : (mvr r wh s g w).2.2.2 (mva r wh s g w) = r.2.2.2 a := by
  unfold mva mvr
  rw [ha]
  generalize spa (rcl r s w) wh (awy s w g) = q
  generalize dpa (rcl r s w) wh (awy s w g) = d
  show shr q w (shl s w r.2.2.2) (blk r s d).2.2 _ = _
  by_cases c : a < q
  · rw [if_pos c, shr_lo c, shl_lo h]
  · rw [if_neg c, shr_hi (by omega), show a + w - w = a by omega, shl_lo h]
def bHd (r : ROW) (s w : Nat) (σ : zW) : Prop := gI σ 54 7 = (w : Int) ∧ ∀ i, i < w → rwr 58 59 60 σ i r (s + i)
theorem b_hold {K : List zF} {r : ROW} {s w : Nat} {x y : Int} {σ : zW} (hR : bR r σ) (hn : r.1 ≤ 20) (hs : s + w ≤ r.1) (hx : x = (s : Int)) (hy : y = ((s + w : Nat) : Int))
    (k : ∀ σ' : zW, yFr (fun k j => (k = 54 ∧ j = 7) ∨ (58 ≤ k ∧ k ≤ 60)) σ σ' → bHd r s w σ' → zRet true K none σ') : zEv true (zent 20 [.inr (.inr 54), .inl x, .inl y] :: K) σ := by
  subst hx
  subst hy
  have ew : w32 (((s + w : Nat) : Int) - (s : Int)) = (w : Int) := by rw [zw_id (by omega) (by omega)]; omega
  have loop : ∀ (m i : Nat) (o2 : Option zV) (σ2 : zW), w - i = m → i ≤ w → yFr (fun k j => (k = 54 ∧ j = 7) ∨ (58 ≤ k ∧ k ≤ 60)) σ σ2 → gI σ2 54 7 = (w : Int) → (∀ j, j < i → rwr 58 59 60 σ2 j r (s + j)) → zEv true ((20, 9, [some (.inr (.inr 54)), some (.inl (s : Int)), o2, some (.inl (i : Int))], []) :: K) σ2 := by
    intro m
    induction m with
    | zero =>
      intro i o2 σ2 hm hi hF e7 hE
      rw [zj_20_9, e7, if_pos (by omega)]
      exact k σ2 hF ⟨e7, fun j hj => hE j (by omega)⟩
    | succ m ih =>
      intro i o2 σ2 hm hi hF e7 hE
      have hcc : 0 ≤ (i : Int) ∧ (i : Int) < 20 := by omega
      have hcs : 0 ≤ ((s + i : Nat) : Int) ∧ ((s + i : Nat) : Int) < 20 := by omega
      have ex : w32 ((s : Int) + (i : Int)) = ((s + i : Nat) : Int) := by rw [zw_id (by omega) (by omega)]; omega
      have hq : rwr 55 56 57 σ2 (s + i) r (s + i) := rwq_fr (hR.2 (s + i) (by omega)) hF (by omega) (by omega) (by omega)
      rw [zj_20_9, e7, if_neg (by omega), ex, yAnd hcs, yAnd hcc, yAnd hcs, yAnd hcc, yAnd hcs, yAnd hcc, Int.toNat_natCast, Int.toNat_natCast, hq.1, hq.2.1, hq.2.2, zw_id (by omega) (by omega), show (i : Int) + 1 = ((i + 1 : Nat) : Int) by omega]
      have hF2 : yFr (fun k j => 58 ≤ k ∧ k ≤ 60 ∧ j = i) σ2 (sI (sI (sL σ2 58 i (r.2.1 (s + i))) 59 i ((r.2.2.1 (s + i) : Nat) : Int)) 60 i (r.2.2.2 (s + i))) := ((yFr.rf.L (by omega)).I (by omega)).I (by omega)
      refine ih (i + 1) _ _ (by omega) (by omega) (hF.trans (hF2.mono (fun k j h => by omega))) ((hF2.i (by omega)).trans e7) (fun j hj => ?_)
      by_cases e : j = i
      · subst e
        refine ⟨?_, ?_, yGI_hit⟩
        · rw [gL_sI, gL_sI, gL_sL, if_pos ⟨rfl, rfl⟩]
        · rw [gI_sI, if_neg (by omega), yGI_hit]
      · exact rwq_fr (hE j (by omega)) hF2 (by omega) (by omega) (by omega)
  rw [ze_20, ew]
  exact loop w 0 _ _ rfl (Nat.zero_le _) (yFr.rf.I (by omega)) yGI_hit (fun j hj => by omega)
theorem b_release {K : List zF} (hK : K.length + 1 ≤ 60) {r r1 : ROW} {s w q d : Nat} {x y : Int} {σ : zW} (hR : bR r1 σ) (hq : q ≤ r1.1) (hn : r1.1 + w ≤ 20) (hw : 0 < w) (hH : bHd r s w σ) (hdp : ∀ i, i < w → r.2.2.1 s ≤ r.2.2.1 (s + i) ∧ r.2.2.1 (s + i) ≤ 20) (hd : d ≤ 21) (hx : x = (q : Int)) (hy : y = (d : Int))
    (k : ∀ σ' : zW, yFr Xbn σ σ' → bR (rin r1 q w (blk r s d)) σ' → zRet true K none σ') : zEv true (zent 21 [.inr (.inr 54), .inl x, .inl y] :: K) σ := by
  subst hx
  subst hy
  rw [ze_21 (by omega), hH.1]
  refine b_open (s := q) (w := w) hR hq hn rfl rfl (fun σ1 hF1 hO1 => ?_)
  rw [zr_21_9]
  have loop : ∀ (m i : Nat) (σ2 : zW), w - i = m → i ≤ w → yFr (fun k j => 55 ≤ k ∧ k ≤ 57 ∧ q ≤ j ∧ j < q + w) σ1 σ2 → (∀ j, j < i → rwq 55 56 57 σ2 (q + j) ((blk r s d).1 j) ((blk r s d).2.1 j) ((blk r s d).2.2 j)) → zEv true ((21, 11, [some (.inr (.inr 54)), some (.inl (q : Int)), some (.inl (d : Int)), some (.inl (i : Int))], []) :: K) σ2 := by
    intro m
    induction m with
    | zero =>
      intro i σ2 hm hi hF hE
      rw [zj_21_11, hF.i (by omega), hF1.i (by omega), hH.1, if_pos (by omega)]
      refine k σ2 (hF1.trans (hF.mono (fun k j h => by omega))) (b_fill ⟨(hF.i (by omega)).trans hO1.1, fun j hj => rwq_fr (hO1.2.1 j hj) hF (by omega) (by omega) (by omega), fun j j1 j2 => rwq_fr (hO1.2.2 j j1 j2) hF (by omega) (by omega) (by omega)⟩ hq (fun j hj => hE j (by omega)))
    | succ m ih =>
      intro i σ2 hm hi hF hE
      have hcc : 0 ≤ (i : Int) ∧ (i : Int) < 20 := by omega
      have hcs : 0 ≤ ((q + i : Nat) : Int) ∧ ((q + i : Nat) : Int) < 20 := by omega
      have ex : w32 ((q : Int) + (i : Int)) = ((q + i : Nat) : Int) := by rw [zw_id (by omega) (by omega)]; omega
      have hh : ∀ j, j < w → rwr 58 59 60 σ2 j r (s + j) := fun j hj => rwq_fr (rwq_fr (hH.2 j hj) hF1 (by omega) (by omega) (by omega)) hF (by omega) (by omega) (by omega)
      have hi1 := hh i (by omega)
      have hi0 := (hh 0 hw).2.1
      rw [Nat.add_zero] at hi0
      have hdi := hdp i (by omega)
      have ed : w32 (w32 (((r.2.2.1 (s + i) : Nat) : Int) - ((r.2.2.1 s : Nat) : Int)) + (d : Int)) = (((blk r s d).2.1 i : Nat) : Int) := by
        show _ = ((r.2.2.1 (s + i) - r.2.2.1 s + d : Nat) : Int)
        rw [zw_id (z := ((r.2.2.1 (s + i) : Nat) : Int) - ((r.2.2.1 s : Nat) : Int)) (by omega) (by omega), zw_id (by omega) (by omega)]
        omega
      rw [zj_21_11, hF.i (k := 54) (j := 7) (by omega), hF1.i (k := 54) (j := 7) (by omega), hH.1, if_neg (by omega), ex, yAnd hcc, yAnd hcs, yAnd hcc, yAnd hcs, yAnd hcc, yAnd hcs, Int.toNat_natCast, Int.toNat_natCast, hi1.1, hi1.2.1, hi1.2.2, hi0, ed, zw_id (by omega) (by omega), show (i : Int) + 1 = ((i + 1 : Nat) : Int) by omega]
      refine ih (i + 1) _ (by omega) (by omega) (((hF.L (by omega)).I (by omega)).I (by omega)) (fun j hj => ?_)
      by_cases e : j = i
      · subst e; exact rwq_bw
      · exact rwq_bo (by omega) (hE j (by omega))
  exact loop w 0 σ1 rfl (Nat.zero_le _) yFr.rf (fun j hj => by omega)
theorem b_shift {K : List zF} (hK : K.length + 3 ≤ 60) {fr wh : Int} {s g : Nat} {r : ROW} {σ : zW} (hs : s < r.1) (hg : g < r.1) (hr : rgd r fr) (hR : bR r σ) (h8 : gI σ 54 8 = fr) (k : bEd (edMov r fr wh s g) K σ) : zEv true (zent 19 [.inr (.inr 54), .inl (s : Int), .inl wh, .inl (g : Int)] :: K) σ := by
  have hn := hr.1.1
  have hsp := ed_spec (dep := r.2.2.1) hs
  unfold edMov at k
  rw [ze_19 (by omega), b_end hR hn hs rfl, zr_19_5 (by omega)]
  by_cases c0 : s = 0
  · rw [if_pos (Or.inl c0)] at k
    have k0 := k.1 rfl σ yFr.rf
    have hz : (s : Int) = 0 := by omega
    have h22 : zEv true ((19, 22, [some (.inr (.inr 54)), some (.inl (s : Int)), some (.inl wh), some (.inl (g : Int)), some (.inl ((ed r.2.2.1 r.1 s : Nat) : Int)), none, none, none, none], []) :: K) σ := by
      rw [zj_19_22 (by omega), if_pos hz]; exact k0
    by_cases a1 : (g : Int) < (s : Int)
    · rw [if_pos a1]; exact h22
    · rw [if_neg a1]
      by_cases a2 : ((ed r.2.2.1 r.1 s : Nat) : Int) ≤ (g : Int)
      · rw [if_pos a2]; exact h22
      · rw [if_neg a2, if_pos hz]; exact k0
  · have hz : ¬ (s : Int) = 0 := by omega
    by_cases c1 : s ≤ g ∧ g < ed r.2.2.1 r.1 s
    · rw [if_pos (Or.inr (Or.inl c1))] at k
      rw [if_neg (by omega), if_neg (by omega), if_neg hz, if_pos (show ¬ (1 : Int) = 0 by decide)]
      exact k.1 rfl σ yFr.rf
    · have h22 : zEv true ((19, 22, [some (.inr (.inr 54)), some (.inl (s : Int)), some (.inl wh), some (.inl (g : Int)), some (.inl ((ed r.2.2.1 r.1 s : Nat) : Int)), none, none, none, none], []) :: K) σ := by
        rw [zj_19_22 (by omega), if_neg hz, if_neg (show ¬ ¬ (0 : Int) = 0 from fun w => w rfl), b_refused (yKK (by omega)) hg hn hR rfl, zr_19_40 (by omega)]
        by_cases c2 : rfu r wh g
        · rw [if_pos (Or.inr (Or.inr c2))] at k
          rw [if_neg (show ¬ (if rfu r wh g then (1 : Int) else 0) = 0 by rw [if_pos c2]; decide)]
          exact k.1 rfl σ yFr.rf
        · rw [if_neg (fun w => by rcases w with w | w | w; exact c0 w; exact c1 w; exact c2 w)] at k
          rw [if_pos (show (if rfu r wh g then (1 : Int) else 0) = 0 by rw [if_neg c2]), b_above hR hn hs rfl, zr_19_54 (by omega)]
          obtain ⟨m1, m2, m3, m4, m5, m6⟩ := mvr_gd (w := ed r.2.2.1 r.1 s - s) (wh := wh) hr hs hg rfl c0 c1 c2
          have hp := par_nat hr.1 hs (by omega)
          have hdl : ∀ i, i < r.1 → r.2.2.1 i ≤ 20 := fun i hi => by have := wfd_lt hr.1 i hi; omega
          have hmid := mva_id (r := r) (wh := wh) (s := s) (g := g) (w := ed r.2.2.1 r.1 s - s) rfl hp.1
          have hgid := awy_id (r := r) (s := s) (w := ed r.2.2.1 r.1 s - s) (g := g) (by omega)
          generalize he : ed r.2.2.1 r.1 s = e at *
          generalize ha : (par r.2.2.1 s).toNat = a at *
          have hca : 0 ≤ (a : Int) ∧ (a : Int) < 20 := by omega
          have hcg : 0 ≤ (g : Int) ∧ (g : Int) < 20 := by omega
          rw [hp.2, yAnd hca, yAnd hcg, Int.toNat_natCast, (hR.2 a (by omega)).2.2, (hR.2 g hg).2.2]
          refine b_hold (s := s) (w := e - s) hR hn (by omega) rfl (by rw [show s + (e - s) = e by omega]) (fun σ1 hF1 hH1 => ?_)
          have hR1 := bR_fr hR hF1 (fun k j h => by omega)
          rw [zr_19_72 (by omega)]
          refine b_close (s := s) (w := e - s) hR1 hn (by omega) rfl (by rw [show s + (e - s) = e by omega]) (fun σ2 hF2 hR2 => ?_)
          have hH2 : bHd r s (e - s) σ2 := ⟨(hF2.i (by omega)).trans hH1.1, fun i hi => rwq_fr (hH1.2 i hi) hF2 (by omega) (by omega) (by omega)⟩
          have hsp1 : spI (rcl r s (e - s)) (r.2.2.2 g) ((awy s (e - s) g : Nat) : Int) := Or.inl ⟨awy s (e - s) g, m4, hgid, rfl⟩
          have hn1 : (rcl r s (e - s)).1 = r.1 - (e - s) := rfl
          have hq1 : awy s (e - s) g < (rcl r s (e - s)).1 := m4
          rw [zr_19_79 (by omega), b_spot hR2 m3 hsp1, zr_19_85 (by omega), b_spotAt (yKK (by omega)) hq1 (by omega) hR2 rfl, zr_19_95 (by omega), b_depthAt m3.1 hq1 hR2 rfl, zr_19_102 (by omega)]
          have hsp2 : spI (mvr r wh s g (e - s)) (r.2.2.2 a) ((mva r wh s g (e - s) : Nat) : Int) := Or.inl ⟨_, m2, hmid, rfl⟩
          have hd21 : dpa (rcl r s (e - s)) wh (awy s (e - s) g) ≤ 21 := by
            have := wfd_lt m3.1 _ hq1
            unfold dpa
            split <;> omega
          refine b_release (r := r) (s := s) (w := e - s) (q := spa (rcl r s (e - s)) wh (awy s (e - s) g)) (d := dpa (rcl r s (e - s)) wh (awy s (e - s) g)) (yKK (K := K) (by omega)) hR2 m6.2 (by omega) (by omega) hH2 (fun i hi => ⟨?_, hdl _ (by omega)⟩) hd21 rfl rfl (fun σ3 hF3 hR3 => ?_)
          · by_cases c : i = 0
            · subst c; exact Nat.le_refl _
            · exact Nat.le_of_lt (hsp.2.2.1 _ (by omega) (by omega))
          · rw [zr_19_105 (by omega), b_spot hR3 m1 hsp2, zr_19_112 (by omega)]
            have hFF : yFr Xbe σ σ3 := ((hF1.mono (fun k j h => by omega)).trans (hF2.mono (fun k j h => by omega))).trans (hF3.mono (fun k j h => by omega))
            refine b_pruneO (f := mva r wh s g (e - s)) (yKK (K := K) (by omega)) hFF (Nat.le_refl _) m2 m1 hR3 ?_ ⟨fun hx σ' hF => ?_, fun y hy σ' hF hR4 h84 => ?_⟩
            · rw [hF3.i (by omega), hF2.i (by omega), hF1.i (by omega)]; exact h8
            · rw [zr_19_115, yAnd (Or.inl rfl)]; exact k.1 hx σ' hF
            · rw [zr_19_115, yAnd (Or.inr rfl)]; exact k.2 y hy σ' hF hR4 h84
      by_cases a1 : (g : Int) < (s : Int)
      · rw [if_pos a1]; exact h22
      · rw [if_neg a1, if_pos (by omega)]; exact h22
