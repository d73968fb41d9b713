/-! the class's other edits -/
theorem bR_dep {r : ROW} {σ σ' : zW} {dep' : Nat → Nat} (h : bR r σ) (hF : yFr (fun k _ => k = 56) σ σ') (hd : ∀ i, i < r.1 → gI σ' 56 i = (dep' i : Nat)) : bR (r.1, r.2.1, dep', r.2.2.2) σ' := ⟨(hF.i (by omega)).trans h.1, fun i hi => ⟨(hF.l (by omega)).trans (h.2 i hi).1, hd i hi, (hF.i (by omega)).trans (h.2 i hi).2.2⟩⟩
theorem b_dissolve {K : List zF} (hK : K.length + 3 ≤ 60) {fr : Int} {s : Nat} {r : ROW} {σ : zW} (hs : s < r.1) (hg : rgd r fr) (hR : bR r σ) (h8 : gI σ 54 8 = fr) (k : bEd (edExc r fr s) K σ) : zEv true (zent 13 [.inr (.inr 54), .inl (s : Int)] :: K) σ := by
  have hn := hg.1.1
  have hsp := ed_spec (dep := r.2.2.1) hs
  rw [ze_13 (by omega), b_end hR hn hs rfl, zr_13_5 (by omega), b_word (yL (by omega)) hR hn hs rfl, zr_13_11 (by omega)]
  unfold edExc at k
  by_cases c1 : ed r.2.2.1 r.1 s = s + 1
  · rw [if_pos (Or.inl c1)] at k
    rw [if_pos (show ¬ (if ed r.2.2.1 r.1 s = s + 1 then (1 : Int) else 0) = 0 by rw [if_pos c1]; decide)]
    exact k.1 rfl σ yFr.rf
  · rw [if_neg (show ¬ ¬ (if ed r.2.2.1 r.1 s = s + 1 then (1 : Int) else 0) = 0 by rw [if_neg c1]; exact fun w => w rfl)]
    have main : ¬ (s = 0 ∧ ed r.2.2.1 r.1 1 < r.1) → ∀ o3 : Option zV, zEv true ((13, 32, [some (.inr (.inr 54)), some (.inl (s : Int)), some (.inl ((ed r.2.2.1 r.1 s : Nat) : Int)), o3], []) :: K) σ := by
      intro c2 o3
      rw [if_neg (fun w => by rcases w with w | w; exact c1 w; exact c2 w)] at k
      generalize he : ed r.2.2.1 r.1 s = e at *
      have loop : ∀ (m i : Nat) (σ2 : zW), e - i = m → s < i → i ≤ e → yFr (fun k _ => k = 56) σ σ2 → (∀ j, j < r.1 → gI σ2 56 j = (ddn s i r.2.2.1 j : Nat)) → zEv true ((13, 36, [some (.inr (.inr 54)), some (.inl (s : Int)), some (.inl (e : Int)), some (.inl (i : Int))], []) :: K) σ2 := by
        intro m
        induction m with
        | zero =>
          intro i σ2 hm h1 h2 hF hd
          have ei : i = e := by omega
          subst ei
          have hR2 := bR_dep hR hF hd
          rw [zj_13_36 (by omega), if_pos (by omega)]
          refine b_close (s := s) (w := 1) hR2 hn (by show s + 1 ≤ r.1; omega) rfl (by rw [zw_id (by omega) (by omega)]; omega) (fun σ3 hF3 hR3 => ?_)
          rw [zr_13_65]
          have hFF : yFr (fun k j => (k = 54 ∧ 6 ≤ j ∧ j ≤ 8) ∨ (55 ≤ k ∧ k ≤ 60)) σ σ3 := (hF.mono (fun k j h => by omega)).trans (hF3.mono (fun k j h => by omega))
          exact k.2 _ rfl σ3 hFF hR3 (by rw [hF3.i (by omega), hF.i (by omega)]; exact h8)
        | succ m ih =>
          intro i σ2 hm h1 h2 hF hd
          have hcc : 0 ≤ (i : Int) ∧ (i : Int) < 20 := by omega
          have hdi : ddn s i r.2.2.1 i = r.2.2.1 i := by unfold ddn; rw [if_neg (by omega)]
          have hpos := hsp.2.2.1 i h1 (by omega)
          have hdl := wfd_lt hg.1 i (by omega)
          rw [zj_13_36 (by omega), if_neg (by omega), yAnd hcc, yAnd hcc, Int.toNat_natCast, hd i (by omega), hdi, zw_id (by omega) (by omega), zw_id (by omega) (by omega), show (i : Int) + 1 = ((i + 1 : Nat) : Int) by omega]
          refine ih (i + 1) _ (by omega) (by omega) (by omega) (hF.I rfl) (fun j hj => ?_)
          unfold ddn
          by_cases ej : j = i
          · subst ej
            rw [yGI_hit, if_pos ⟨h1, by omega⟩]; omega
          · rw [gI_sI, if_neg (fun w => ej w.2), hd j hj]
            unfold ddn
            by_cases c : s < j ∧ j < i
            · rw [if_pos c, if_pos (by omega)]
            · rw [if_neg c, if_neg (by omega)]
      rw [zj_13_32, zw_id (by omega) (by omega), show (s : Int) + 1 = ((s + 1 : Nat) : Int) by omega]
      refine loop _ (s + 1) σ rfl (by omega) (by omega) yFr.rf (fun j hj => ?_)
      unfold ddn
      rw [if_neg (by omega)]; exact (hR.2 j hj).2.1
    by_cases c0 : s = 0
    · have h1n : 1 < r.1 := by omega
      rw [if_neg (show ¬ ¬ (s : Int) = 0 from fun w => w (by omega)), b_end (s := 1) (z := 1) hR hn h1n rfl, zr_13_23, hR.1]
      by_cases c2 : ed r.2.2.1 r.1 1 < r.1
      · rw [if_pos (Or.inr ⟨c0, c2⟩)] at k
        rw [if_neg (by omega)]
        exact k.1 rfl σ yFr.rf
      · rw [if_pos (by omega)]
        exact main (fun w => c2 w.2) _
    · rw [if_pos (by omega)]
      exact main (fun w => c0 w.1) _
theorem b_enclose {K : List zF} (hK : K.length + 3 ≤ 60) {fr : Int} {s : Nat} {v : Int64} {r : ROW} {σ : zW} (hs : s < r.1) (hg : rgd r fr) (hfr : 0 ≤ fr ∧ fr < 1000) (hR : bR r σ) (h8 : gI σ 54 8 = fr) (k : bEd (edWrp r fr s v) K σ) : zEv true (zent 14 [.inr (.inr 54), .inl (s : Int), .inr (.inl v)] :: K) σ := by
  have hn := hg.1.1
  have hsp := ed_spec (dep := r.2.2.1) hs
  unfold edWrp at k
  rw [ze_14 (by omega), hR.1]
  by_cases c : 20 ≤ r.1
  · rw [if_pos c] at k
    rw [if_neg (by omega)]
    exact k.1 rfl σ yFr.rf
  · rw [if_neg c] at k
    have hcs : 0 ≤ (s : Int) ∧ (s : Int) < 20 := by omega
    rw [if_pos (by omega), b_end hR hn hs rfl, zr_14_16, yAnd hcs, Int.toNat_natCast, (hR.2 s hs).2.1]
    generalize he : ed r.2.2.1 r.1 s = e at *
    have loop : ∀ (m i : Nat) (σ2 : zW), e - i = m → s ≤ i → i ≤ e → yFr (fun k _ => k = 56) σ σ2 → (∀ j, j < r.1 → gI σ2 56 j = (dup s i r.2.2.1 j : Nat)) → zEv true ((14, 29, [some (.inr (.inr 54)), some (.inl (s : Int)), some (.inr (.inl v)), none, some (.inl (e : Int)), some (.inl ((r.2.2.1 s : Nat) : Int)), some (.inl (i : Int))], []) :: K) σ2 := by
      intro m
      induction m with
      | zero =>
        intro i σ2 hm h1 h2 hF hd
        have ei : i = e := by omega
        subst ei
        have hR2 := bR_dep hR hF hd
        have h82 : gI σ2 54 8 = fr := (hF.i (by omega)).trans h8
        rw [zj_14_29 (by omega), if_pos (by omega)]
        refine b_open (s := s) (w := 1) hR2 (by show s ≤ r.1; omega) (by show r.1 + 1 ≤ 20; omega) rfl rfl (fun σ3 hF3 hO3 => ?_)
        rw [zr_14_59 (by omega)]
        refine b_put hO3 (by show s ≤ r.1; omega) (by show r.1 + 1 ≤ 20; omega) ((hF3.i (by omega)).trans h82) hfr rfl (fun σ4 hF4 hR4 h84 => ?_)
        rw [zr_14_67]
        have hFF : yFr (fun k j => (k = 54 ∧ 6 ≤ j ∧ j ≤ 8) ∨ (55 ≤ k ∧ k ≤ 60)) σ σ4 := ((hF.mono (fun k j h => by omega)).trans (hF3.mono (fun k j h => by omega))).trans (hF4.mono (fun k j h => by omega))
        exact k.2 _ rfl σ4 hFF hR4 h84
      | succ m ih =>
        intro i σ2 hm h1 h2 hF hd
        have hcc : 0 ≤ (i : Int) ∧ (i : Int) < 20 := by omega
        have hdi : dup s i r.2.2.1 i = r.2.2.1 i := by unfold dup; rw [if_neg (by omega)]
        have hdl := wfd_lt hg.1 i (by omega)
        rw [zj_14_29 (by omega), if_neg (by omega), yAnd hcc, yAnd hcc, Int.toNat_natCast, hd i (by omega), hdi, zw_id (by omega) (by omega), zw_id (by omega) (by omega), show (i : Int) + 1 = ((i + 1 : Nat) : Int) by omega]
        refine ih (i + 1) _ (by omega) (by omega) (by omega) (hF.I rfl) (fun j hj => ?_)
        unfold dup
        by_cases ej : j = i
        · subst ej
          rw [yGI_hit, if_pos ⟨h1, by omega⟩]; omega
        · rw [gI_sI, if_neg (fun w => ej w.2), hd j hj]
          unfold dup
          by_cases c : s ≤ j ∧ j < i
          · rw [if_pos c, if_pos (by omega)]
          · rw [if_neg c, if_neg (by omega)]
    refine loop _ s σ rfl (Nat.le_refl _) (by omega) yFr.rf (fun j hj => ?_)
    unfold dup
    rw [if_neg (by omega)]; exact (hR.2 j hj).2.1
theorem b_refused {K : List zF} (hK : K.length + 2 ≤ 60) {wh : Int} {g : Nat} {z : Int} {r : ROW} {σ : zW} (hg : g < r.1) (hn : r.1 ≤ 20) (hR : bR r σ) (hz : z = (g : Int)) : zEv true (zent 15 [.inr (.inr 54), .inl wh, .inl z] :: K) σ = zRet true K (some (.inl (if rfu r wh g then 1 else 0))) σ := by
  subst hz
  have h9 : (wh = 0 ∨ wh = 1) → zEv true ((15, 9, [some (.inr (.inr 54)), some (.inl wh), some (.inl (g : Int))], []) :: K) σ = zRet true K (some (.inl (if rfu r wh g then 1 else 0))) σ := fun c => by
    rw [zj_15_9 (by omega), b_word (yL (by omega)) hR hn hg rfl, zr_15_14, yAnd (by split; exact Or.inr rfl; exact Or.inl rfl)]
    by_cases e : ed r.2.2.1 r.1 g = g + 1
    · rw [if_pos e, if_pos (Or.inl ⟨c, e⟩)]
    · rw [if_neg e, if_neg (fun w => by rcases w with w | w; exact e w.2; exact w.1 c)]
  rw [ze_15]
  by_cases c0 : wh = 0
  · rw [if_pos c0]; exact h9 (Or.inl c0)
  · rw [if_neg c0]
    by_cases c1 : wh = 1
    · rw [if_neg (fun w => w c1)]; exact h9 (Or.inr c1)
    · rw [if_pos c1]
      by_cases e : g = 0
      · rw [if_neg (fun w => w (by omega)), if_pos (Or.inr ⟨fun w => by omega, e⟩)]
      · rw [if_pos (by omega), if_neg (fun w => by rcases w with w | w; exact absurd w.1 (by omega); exact e w.2)]
theorem b_spotAt {K : List zF} (hK : K.length + 1 ≤ 60) {wh : Int} {g : Nat} {z : Int} {r : ROW} {σ : zW} (hg : g < r.1) (hn : r.1 ≤ 20) (hR : bR r σ) (hz : z = (g : Int)) : zEv true (zent 16 [.inr (.inr 54), .inl wh, .inl z] :: K) σ = zRet true K (some (.inl ((spa r wh g : Nat) : Int))) σ := by
  subst hz
  unfold spa
  rw [ze_16 (by omega)]
  by_cases c2 : wh = 2
  · rw [if_neg (fun w => w c2), if_pos c2]
  · rw [if_pos c2, if_neg c2]
    by_cases c0 : wh = 0
    · rw [if_neg (fun w => w c0), if_pos c0, zw_id (by omega) (by omega)]; rfl
    · rw [if_pos c0, if_neg c0, b_end hR hn hg rfl, zr_16_22]
theorem b_depthAt {K : List zF} {wh : Int} {g : Nat} {z : Int} {r : ROW} {σ : zW} (hw : wfd r.1 r.2.2.1) (hg : g < r.1) (hR : bR r σ) (hz : z = (g : Int)) : zEv true (zent 17 [.inr (.inr 54), .inl wh, .inl z] :: K) σ = zRet true K (some (.inl ((dpa r wh g : Nat) : Int))) σ := by
  subst hz
  have hn := hw.1
  have hdl := wfd_lt hw g hg
  have hcg : 0 ≤ (g : Int) ∧ (g : Int) < 20 := by omega
  unfold dpa
  have h9 : (wh = 0 ∨ wh = 1) → zEv true ((17, 9, [some (.inr (.inr 54)), some (.inl wh), some (.inl (g : Int))], []) :: K) σ = zRet true K (some (.inl (((if wh = 0 ∨ wh = 1 then r.2.2.1 g + 1 else r.2.2.1 g : Nat) : Nat) : Int))) σ := fun c => by
    rw [zj_17_9, yAnd hcg, Int.toNat_natCast, (hR.2 g hg).2.1, zw_id (by omega) (by omega), if_pos c]; rfl
  rw [ze_17]
  by_cases c0 : wh = 0
  · rw [if_pos c0]; exact h9 (Or.inl c0)
  · rw [if_neg c0]
    by_cases c1 : wh = 1
    · rw [if_neg (fun w => w c1)]; exact h9 (Or.inr c1)
    · rw [if_pos c1, yAnd hcg, Int.toNat_natCast, (hR.2 g hg).2.1, if_neg (by omega)]
theorem b_putNew {K : List zF} (hK : K.length + 3 ≤ 60) {fr wh : Int} {g : Nat} {v : Int64} {r : ROW} {σ : zW} (hg : g < r.1) (hr : rgd r fr) (hfr : 0 ≤ fr ∧ fr < 1000) (hR : bR r σ) (h8 : gI σ 54 8 = fr) (k : bEd (edAdd r fr v wh g) K σ) : zEv true (zent 18 [.inr (.inr 54), .inr (.inl v), .inl wh, .inl (g : Int)] :: K) σ := by
  have hn := hr.1.1
  unfold edAdd at k
  rw [ze_18 (by omega), hR.1]
  by_cases c : 20 ≤ r.1
  · rw [if_pos (Or.inl c)] at k
    rw [if_pos (by omega)]
    exact k.1 rfl σ yFr.rf
  · rw [if_neg (by omega), b_refused (yKK (by omega)) hg hn hR rfl, zr_18_16 (by omega)]
    by_cases c2 : rfu r wh g
    · rw [if_pos (Or.inr c2)] at k
      rw [if_neg (show ¬ (if rfu r wh g then (1 : Int) else 0) = 0 by rw [if_pos c2]; decide)]
      exact k.1 rfl σ yFr.rf
    · rw [if_neg (fun w => by rcases w with w | w; exact c w; exact c2 w)] at k
      have hp := pos_ok (wh := wh) (r := r) ⟨rfl, rfl⟩ hr.1 hg (fun w w2 => c2 (Or.inr ⟨w, w2⟩))
      rw [if_pos (show (if rfu r wh g then (1 : Int) else 0) = 0 by rw [if_neg c2]), b_spotAt (yKK (by omega)) hg hn hR rfl, zr_18_28 (by omega), b_depthAt hr.1 hg hR rfl, zr_18_37 (by omega)]
      generalize spa r wh g = q at hp k ⊢
      generalize dpa r wh g = d at hp k ⊢
      refine b_open (s := q) (w := 1) hR hp.2.1 (by omega) rfl rfl (fun σ3 hF3 hO3 => ?_)
      rw [zr_18_46 (by omega)]
      refine b_put hO3 hp.2.1 (by omega) ((hF3.i (by omega)).trans h8) hfr rfl (fun σ4 hF4 hR4 h84 => ?_)
      rw [zr_18_55]
      exact k.2 _ rfl σ4 ((hF3.mono (fun k j h => by omega)).trans (hF4.mono (fun k j h => by omega))) hR4 h84
