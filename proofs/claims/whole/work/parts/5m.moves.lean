/-! the model moves nodes -/
theorem dpa_le {r : ROW} {wh : Int} {g : Nat} (h : wfd r.1 r.2.2.1) (hg : g < r.1) : dpa r wh g ≤ 21 := by
  have h1 := wfd_lt h g hg
  have h2 := h.1
  unfold dpa
  split <;> omega
theorem m_moves {K : List zF} (hK : K.length + 3 ≤ 60) {fr : Int} {s g n : Nat} {r : ROW} {σ : zW} (hs : s < r.1) (hg : g < r.1) (hr : rgd r fr) (hR : mRw r σ) (hw : n < 4) (h8 : gI σ 122 85 = fr) (k : mDo (edMov r fr (n : Int) s g) K σ) : zEv true (zent 235 [.inr (.inr 122), .inl (s : Int), .inr (.inl (kwn (6 + n))), .inl (g : Int)] :: K) σ := by
  have hn := hr.1.1
  have hsp := ed_spec (dep := r.2.2.1) hs
  unfold edMov at k
  rw [ze_235 (by omega)]
  by_cases c0 : s = 0
  · rw [if_pos (Or.inl c0)] at k
    rw [if_pos (by omega)]
    exact k.1 rfl σ yFr.rf
  · rw [if_neg (by omega)]
    have h20 : ¬ (s ≤ g ∧ g < ed r.2.2.1 r.1 s) → zEv true ((235, 20, [some (.inr (.inr 122)), some (.inl (s : Int)), some (.inr (.inl (kwn (6 + n)))), none, some (.inl (g : Int)), none, none, none, none, none, none], []) :: K) σ := by
      intro c1
      rw [zj_235_20 (by omega), m_barred (yKK (by omega)) hg hn hR hw, zr_235_27 (by omega)]
      by_cases c2 : rfu r (n : Int) g
      · rw [if_pos (Or.inr (Or.inr c2))] at k
        rw [if_neg (show ¬ (if rfu r (n : Int) g then (1 : Int) else 0) = 0 by rw [if_pos c2]; decide)]
        exact k.1 rfl σ yFr.rf
      · rw [if_neg (fun w => by rcases w with w | w | w; exact c0 w; exact c1 w; exact c2 w)] at k
        rw [if_pos (show (if rfu r (n : Int) g then (1 : Int) else 0) = 0 by rw [if_neg c2]), m_upOf hR hn hs rfl, zr_235_41 (by omega), m_end hR hn hs rfl, zr_235_59]
        obtain ⟨m1, m2, m3, m4, m5, m6⟩ := mvr_gd (w := ed r.2.2.1 r.1 s - s) (wh := (n : Int)) hr hs hg rfl c0 c1 c2
        have hp := par_nat hr.1 hs (by omega)
        have hdl : ∀ i, i < r.1 → r.2.2.1 i ≤ 20 := fun i hi => by have := wfd_lt hr.1 i hi; omega
        have hmid := mva_id (r := r) (wh := (n : Int)) (s := s) (g := g) (w := ed r.2.2.1 r.1 s - s) rfl hp.1
        have hgid := awy_id (r := r) (s := s) (w := ed r.2.2.1 r.1 s - s) (g := g) (by omega)
        clear m5
        generalize he : ed r.2.2.1 r.1 s = e at *
        generalize ha : (par r.2.2.1 s).toNat = a at *
        have hca : 0 ≤ (a : Int) ∧ (a : Int) < 24 := by omega
        have hcg : 0 ≤ (g : Int) ∧ (g : Int) < 24 := by omega
        rw [hp.2, yAnd hca, yAnd hcg, Int.toNat_natCast, (hR.2 a (by omega)).2.2, (hR.2 g hg).2.2, zw_id (z := (e : Int) - (s : Int)) (by omega) (by omega), show (e : Int) - (s : Int) = ((e - s : Nat) : Int) by omega]
        have hdge : ∀ i, i < e - s → r.2.2.1 s ≤ r.2.2.1 (s + i) := fun i hi => by
          by_cases c : i = 0
          · subst c; exact Nat.le_refl _
          · exact Nat.le_of_lt (hsp.2.2.1 _ (by omega) (by omega))
        have hse : s + (e - s) ≤ r.1 := by omega
        have hes0 : 0 < e - s := by omega
        refine m_cutl (s := s) (w := e - s) hK hse hes0 hn hR hdl hdge rfl (fun σ2 hF2 hC2 => ?_)
        have hR2 : mRw r σ2 := mRw_fr hR hF2 (fun k j h => by omega)
        refine m_close (s := s) (w := e - s) hR2 hn hse hes0 rfl (by rw [zw_id (by omega) (by omega)]) (fun σ3 hF3 hR3 => ?_)
        have hC3 : mCt r s (e - s) σ3 := ⟨(hF3.i (by omega)).trans hC2.1, fun j hj => rwq_fr (hC2.2 j hj) hF3 (by omega) (by omega) (by omega)⟩
        have hsp1 : spI (rcl r s (e - s)) (r.2.2.2 g) ((awy s (e - s) g : Nat) : Int) := Or.inl ⟨awy s (e - s) g, m4, hgid, rfl⟩
        have hn1 : (rcl r s (e - s)).1 ≤ 20 := m3.1.1
        have hn2 : (rcl r s (e - s)).1 + (e - s) ≤ 20 := by show r.1 - (e - s) + (e - s) ≤ 20; omega
        rw [zr_235_147 (by omega), m_spot hR3 m3 hsp1, zr_235_153 (by omega), m_depthFor m3.1 m4 hR3 hw, zr_235_162 (by omega), m_spotFor (yKK (by omega)) m4 hn1 hR3 hw, zr_235_171 (by omega)]
        have hd21 : dpa (rcl r s (e - s)) (n : Int) (awy s (e - s) g) ≤ 21 := dpa_le m3.1 m4
        refine m_open (s := spa (rcl r s (e - s)) (n : Int) (awy s (e - s) g)) (w := e - s) hR3 m6.2 hn2 hes0 rfl hC3.1 (fun σ4 hF4 hO4 => ?_)
        have hC4 : mCt r s (e - s) σ4 := ⟨(hF4.i (by omega)).trans hC3.1, fun j hj => rwq_fr (hC3.2 j hj) hF4 (by omega) (by omega) (by omega)⟩
        have hF04 : yFr Xmd σ σ4 := ((hF2.mono (fun k j h => by omega)).trans (hF3.mono (fun k j h => by omega))).trans (hF4.mono (fun k j h => by omega))
        have e854 : gI σ4 122 85 = fr := by rw [hF4.i (by omega), hF3.i (by omega), hF2.i (by omega)]; exact h8
        rw [zr_235_183]
        refine m_backl (r := r) (s := s) (w := e - s) hK hse hn2 m6.2 hO4 hC4 hdl hd21 (fun o10 σ5 hF5 hR5 => ?_)
        have hsp2 : spI (mvr r (n : Int) s g (e - s)) (r.2.2.2 a) ((mva r (n : Int) s g (e - s) : Nat) : Int) := Or.inl ⟨_, m2, hmid, rfl⟩
        have hR5' : mRw (mvr r (n : Int) s g (e - s)) σ5 := hR5
        have e855 : gI σ5 122 85 = fr := (hF5.i (by omega)).trans e854
        have hFF : yFr Xmd σ σ5 := hF04.trans (hF5.mono (fun k j h => by omega))
        rw [m_spot hR5' m1 hsp2, zr_235_262 (by omega)]
        refine m_tidiesO (f := mva r (n : Int) s g (e - s)) (yKK (K := K) (by omega)) hFF (Nat.le_refl _) m2 m1 hR5' e855 ⟨fun hx σ' hF => ?_, fun y hy σ' hF hR4 h84 => ?_⟩
        · rw [zr_235_265, yAnd (Or.inl rfl)]; exact k.1 hx σ' hF
        · rw [zr_235_265, yAnd (Or.inr rfl)]; exact k.2 y hy σ' hF hR4 h84
    by_cases a1 : (g : Int) < (s : Int)
    · rw [if_pos a1]; exact h20 (by omega)
    · rw [if_neg a1, m_end hR hn hs rfl, zr_235_17]
      by_cases a2 : s ≤ g ∧ g < ed r.2.2.1 r.1 s
      · rw [if_pos (Or.inr (Or.inl a2))] at k
        rw [if_pos (by omega)]
        exact k.1 rfl σ yFr.rf
      · rw [if_neg (by omega)]; exact h20 a2
