/-! the edits -/
abbrev RF : Type := ROW × Int
def prnO (p : ROW × Nat) (fr : Int) : Option RF := if 0 < p.2 ∨ 1 < p.1.1 then some (p.1, fr) else none
def edDel (r : ROW) (fr : Int) (s : Nat) : Option RF := if s = 0 then none else prnO (prn (par r.2.2.1 s).toNat (rcl r s (ed r.2.2.1 r.1 s - s)) (par r.2.2.1 s).toNat) fr
def edExc (r : ROW) (fr : Int) (s : Nat) : Option RF := if ed r.2.2.1 r.1 s = s + 1 ∨ (s = 0 ∧ ed r.2.2.1 r.1 1 < r.1) then none else some (rcl (r.1, r.2.1, ddn s (ed r.2.2.1 r.1 s) r.2.2.1, r.2.2.2) s 1, fr)
def edWrp (r : ROW) (fr : Int) (s : Nat) (v : Int64) : Option RF := if 20 ≤ r.1 then none else some (rin (r.1, r.2.1, dup s (ed r.2.2.1 r.1 s) r.2.2.1, r.2.2.2) s 1 (fun _ => v, fun _ => r.2.2.1 s, fun _ => fr), fr + 1)
abbrev rfu (r : ROW) (wh : Int) (g : Nat) : Prop := ((wh = 0 ∨ wh = 1) ∧ ed r.2.2.1 r.1 g = g + 1) ∨ (¬ (wh = 0 ∨ wh = 1) ∧ g = 0)
def spa (r : ROW) (wh : Int) (g : Nat) : Nat := if wh = 2 then g else if wh = 0 then g + 1 else ed r.2.2.1 r.1 g
def dpa (r : ROW) (wh : Int) (g : Nat) : Nat := if wh = 0 ∨ wh = 1 then r.2.2.1 g + 1 else r.2.2.1 g
def edAdd (r : ROW) (fr : Int) (v : Int64) (wh : Int) (g : Nat) : Option RF := if 20 ≤ r.1 ∨ rfu r wh g then none else some (rin r (spa r wh g) 1 (fun _ => v, fun _ => dpa r wh g, fun _ => fr), fr + 1)
/-- where row g is when w rows from s on are away -/
def awy (s w g : Nat) : Nat := if g < s then g else g - w
/-- the block that is moved -/
def blk (r : ROW) (s d : Nat) : (Nat → Int64) × (Nat → Nat) × (Nat → Int) := (fun i => r.2.1 (s + i), fun i => r.2.2.1 (s + i) - r.2.2.1 s + d, fun i => r.2.2.2 (s + i))
/-- the row behind a move, ahead of the tidying -/
def mvr (r : ROW) (wh : Int) (s g w : Nat) : ROW := rin (rcl r s w) (spa (rcl r s w) wh (awy s w g)) w (blk r s (dpa (rcl r s w) wh (awy s w g)))
def mva (r : ROW) (wh : Int) (s g w : Nat) : Nat := if (par r.2.2.1 s).toNat < spa (rcl r s w) wh (awy s w g) then (par r.2.2.1 s).toNat else (par r.2.2.1 s).toNat + w
def edMov (r : ROW) (fr : Int) (wh : Int) (s g : Nat) : Option RF := if s = 0 ∨ (s ≤ g ∧ g < ed r.2.2.1 r.1 s) ∨ rfu r wh g then none else prnO (prn (mva r wh s g (ed r.2.2.1 r.1 s - s)) (mvr r wh s g (ed r.2.2.1 r.1 s - s)) (mva r wh s g (ed r.2.2.1 r.1 s - s))) fr
theorem pos_ok {n g : Nat} {dep : Nat → Nat} {wh : Int} {r : ROW} (hr : r.1 = n ∧ r.2.2.1 = dep) (h : wfd n dep) (hg : g < n) (h0 : ¬ (wh = 0 ∨ wh = 1) → g ≠ 0) : 0 < spa r wh g ∧ spa r wh g ≤ n ∧ 1 ≤ dpa r wh g ∧ dpa r wh g ≤ dep (spa r wh g - 1) + 1 ∧ (spa r wh g < n → dep (spa r wh g) ≤ dpa r wh g) := by
  obtain ⟨s1, s2, s3, s4⟩ := ed_spec (dep := dep) hg
  unfold spa dpa
  rw [hr.1, hr.2]
  generalize ed dep n g = e at s1 s2 s3 s4 ⊢
  by_cases c2 : wh = 2
  · have g0 := h0 (by omega)
    have a1 := h.2.2 (g - 1) (by omega)
    rw [show g - 1 + 1 = g by omega] at a1
    rw [if_pos c2, if_neg (by omega)]
    exact ⟨by omega, by omega, a1.1, a1.2, fun _ => Nat.le_refl _⟩
  · rw [if_neg c2]
    by_cases c0 : wh = 0
    · rw [if_pos c0, if_pos (Or.inl c0), show g + 1 - 1 = g by omega]
      exact ⟨by omega, by omega, by omega, Nat.le_refl _, fun q => (h.2.2 g q).2⟩
    · rw [if_neg c0]
      have hq : dep g ≤ dep (e - 1) := by
        by_cases c : e - 1 = g
        · rw [c]; exact Nat.le_refl _
        · exact Nat.le_of_lt (s3 _ (by omega) (by omega))
      by_cases c1 : wh = 1
      · rw [if_pos (Or.inr c1)]
        exact ⟨by omega, by omega, by omega, by omega, fun q => by have := s4 q; omega⟩
      · have g0 := h0 (by omega)
        have a1 := wfd_pos h hg (by omega)
        rw [if_neg (by omega)]
        exact ⟨by omega, by omega, a1, by omega, fun q => s4 q⟩
theorem rgd_in {r : ROW} {fr fr' : Int} {q w : Nat} {b : (Nat → Int64) × (Nat → Nat) × (Nat → Int)} (h : rgd r fr) (hf : fr ≤ fr') (hw : wfd (r.1 + w) (shr q w r.2.2.1 b.2.1)) (hq : q ≤ r.1) (b1 : ∀ i, i < w → lgs (b.1 i)) (b2 : ∀ i, i < w → 0 ≤ b.2.2 i ∧ b.2.2 i < fr') (b3 : ∀ i j, i < w → j < w → b.2.2 i = b.2.2 j → i = j) (b4 : ∀ i j, i < r.1 → j < w → r.2.2.2 i ≠ b.2.2 j) : rgd (rin r q w b) fr' := by
  obtain ⟨g1, g2, g3, g4, g5⟩ := h
  have hc : ∀ i, i < r.1 + w → (∃ i', i' < r.1 ∧ ((i = i' ∧ i < q) ∨ (i = i' + w ∧ q ≤ i')) ∧ shr q w r.2.1 b.1 i = r.2.1 i' ∧ shr q w r.2.2.2 b.2.2 i = r.2.2.2 i') ∨ (∃ i', i' < w ∧ i = q + i' ∧ shr q w r.2.1 b.1 i = b.1 i' ∧ shr q w r.2.2.2 b.2.2 i = b.2.2 i') := fun i hi => by
    by_cases c1 : i < q
    · exact Or.inl ⟨i, by omega, Or.inl ⟨rfl, c1⟩, shr_lo c1, shr_lo c1⟩
    · by_cases c2 : i < q + w
      · exact Or.inr ⟨i - q, by omega, by omega, shr_mid (by omega) c2, shr_mid (by omega) c2⟩
      · exact Or.inl ⟨i - w, by omega, Or.inr ⟨by omega, by omega⟩, shr_hi (by omega), shr_hi (by omega)⟩
  refine ⟨hw, ?_, fun i hi => ?_, fun i hi => ?_, fun i j hi hj hE => ?_⟩
  · show 1 ≤ r.1 + w; omega
  · show lgs (shr q w r.2.1 b.1 i)
    rcases hc i hi with ⟨i', i1, -, i3, -⟩ | ⟨i', i1, -, i3, -⟩
    · rw [i3]; exact g3 i' i1
    · rw [i3]; exact b1 i' i1
  · show 0 ≤ shr q w r.2.2.2 b.2.2 i ∧ shr q w r.2.2.2 b.2.2 i < fr'
    rcases hc i hi with ⟨i', i1, -, -, i4⟩ | ⟨i', i1, -, -, i4⟩
    · rw [i4]; have := g4 i' i1; omega
    · rw [i4]; exact b2 i' i1
  · have hE2 : shr q w r.2.2.2 b.2.2 i = shr q w r.2.2.2 b.2.2 j := hE
    rcases hc i hi with ⟨i', i1, i2, -, i4⟩ | ⟨i', i1, i2, -, i4⟩ <;> rcases hc j hj with ⟨j', j1, j2, -, j4⟩ | ⟨j', j1, j2, -, j4⟩
    · rw [i4, j4] at hE2
      have := g5 i' j' i1 j1 hE2
      omega
    · rw [i4, j4] at hE2
      exact absurd hE2 (b4 i' j' i1 j1)
    · rw [i4, j4] at hE2
      exact absurd hE2.symm (b4 j' i' j1 i1)
    · rw [i4, j4] at hE2
      have := b3 i' j' i1 j1 hE2
      omega
theorem rgd_new {r : ROW} {fr : Int} {q d : Nat} {v : Int64} (h : rgd r fr) (hf : 0 ≤ fr) (hv : lgs v) (hn : r.1 < 20) (p : 0 < q ∧ q ≤ r.1 ∧ 1 ≤ d ∧ d ≤ r.2.2.1 (q - 1) + 1 ∧ (q < r.1 → r.2.2.1 q ≤ d)) : rgd (rin r q 1 (fun _ => v, fun _ => d, fun _ => fr)) (fr + 1) := by
  refine rgd_in h (by omega) (wfd_in h.1 p.1 p.2.1 (by omega) (by omega) p.2.2.1 p.2.2.2.1 (fun i hi => by omega) (fun w => Nat.le_succ_of_le (p.2.2.2.2 w))) p.2.1 (fun _ _ => hv) (fun _ _ => ⟨hf, by show fr < fr + 1; omega⟩) (fun i j hi hj _ => by omega) (fun i j hi _ w => ?_)
  have := (h.2.2.2.1 i hi).2
  have w2 : r.2.2.2 i = fr := w
  omega
theorem edAdd_gd {r : ROW} {fr : Int} {v : Int64} {wh : Int} {g : Nat} {x : RF} (h : rgd r fr) (hf : 0 ≤ fr) (hv : lgs v) (hg : g < r.1) (he : edAdd r fr v wh g = some x) : rgd x.1 x.2 ∧ fr ≤ x.2 ∧ x.2 ≤ fr + 1 := by
  unfold edAdd at he
  by_cases c : 20 ≤ r.1 ∨ rfu r wh g
  · rw [if_pos c] at he; cases he
  · rw [if_neg c] at he
    cases he
    exact ⟨rgd_new h hf hv (by omega) (pos_ok ⟨rfl, rfl⟩ h.1 hg (fun w w2 => c (Or.inr (Or.inr ⟨w, w2⟩)))), by show fr ≤ fr + 1; omega, by show fr + 1 ≤ fr + 1; omega⟩
theorem edWrp_gd {r : ROW} {fr : Int} {v : Int64} {s : Nat} {x : RF} (h : rgd r fr) (hf : 0 ≤ fr) (hv : lgs v) (hs : s < r.1) (he : edWrp r fr s v = some x) : rgd x.1 x.2 ∧ fr ≤ x.2 ∧ x.2 ≤ fr + 1 := by
  unfold edWrp at he
  by_cases c : 20 ≤ r.1
  · rw [if_pos c] at he; cases he
  · rw [if_neg c] at he
    cases he
    obtain ⟨s1, s2, s3, s4⟩ := ed_spec (dep := r.2.2.1) hs
    have hw := wfd_wr h.1 (by omega) s1 s2 s3 s4
    have hn20 : r.1 + 1 ≤ 20 := by omega
    refine ⟨?_, by show fr ≤ fr + 1; omega, by show fr + 1 ≤ fr + 1; omega⟩
    obtain ⟨g1, g2, g3, g4, g5⟩ := h
    -- the depths play no part
    have hwf : wfd r.1 r.2.2.1 := g1
    have key : rgd (rin r s 1 (fun _ => v, fun _ => r.2.2.1 s, fun _ => fr)) (fr + 1) ∨ True := Or.inr trivial
    have hc : ∀ i, i < r.1 + 1 → (∃ i', i' < r.1 ∧ ((i = i' ∧ i < s) ∨ (i = i' + 1 ∧ s ≤ i')) ∧ shr s 1 r.2.1 (fun _ => v) i = r.2.1 i' ∧ shr s 1 r.2.2.2 (fun _ => fr) i = r.2.2.2 i') ∨ (i = s ∧ shr s 1 r.2.1 (fun _ => v) i = v ∧ shr s 1 r.2.2.2 (fun _ => fr) i = fr) := fun i hi => by
      by_cases c1 : i < s
      · exact Or.inl ⟨i, by omega, Or.inl ⟨rfl, c1⟩, shr_lo c1, shr_lo c1⟩
      · by_cases c2 : i < s + 1
        · exact Or.inr ⟨by omega, shr_mid (by omega) c2, shr_mid (by omega) c2⟩
        · exact Or.inl ⟨i - 1, by omega, Or.inr ⟨by omega, by omega⟩, shr_hi (by omega), shr_hi (by omega)⟩
    refine ⟨hw, ?_, fun i hi => ?_, fun i hi => ?_, fun i j hi hj hE => ?_⟩
    · show 1 ≤ r.1 + 1; omega
    · show lgs (shr s 1 r.2.1 (fun _ => v) i)
      rcases hc i hi with ⟨i', i1, -, i3, -⟩ | ⟨-, i3, -⟩
      · rw [i3]; exact g3 i' i1
      · rw [i3]; exact hv
    · show 0 ≤ shr s 1 r.2.2.2 (fun _ => fr) i ∧ shr s 1 r.2.2.2 (fun _ => fr) i < fr + 1
      rcases hc i hi with ⟨i', i1, -, -, i4⟩ | ⟨-, -, i4⟩
      · rw [i4]; have := g4 i' i1; omega
      · rw [i4]; omega
    · have hE2 : shr s 1 r.2.2.2 (fun _ => fr) i = shr s 1 r.2.2.2 (fun _ => fr) j := hE
      rcases hc i hi with ⟨i', i1, i2, -, i4⟩ | ⟨i2, -, i4⟩ <;> rcases hc j hj with ⟨j', j1, j2, -, j4⟩ | ⟨j2, -, j4⟩
      · rw [i4, j4] at hE2
        have := g5 i' j' i1 j1 hE2
        omega
      · rw [i4, j4] at hE2
        have := (g4 i' i1).2
        omega
      · rw [i4, j4] at hE2
        have := (g4 j' j1).2
        omega
      · omega
theorem edExc_gd {r : ROW} {fr : Int} {s : Nat} {x : RF} (h : rgd r fr) (hs : s < r.1) (he : edExc r fr s = some x) : rgd x.1 x.2 ∧ x.2 = fr := by
  unfold edExc at he
  by_cases c : ed r.2.2.1 r.1 s = s + 1 ∨ (s = 0 ∧ ed r.2.2.1 r.1 1 < r.1)
  · rw [if_pos c] at he; cases he
  · rw [if_neg c] at he
    cases he
    obtain ⟨s1, s2, s3, s4⟩ := ed_spec (dep := r.2.2.1) hs
    obtain ⟨g1, g2, g3, g4, g5⟩ := h
    have c1 : ed r.2.2.1 r.1 s ≠ s + 1 := fun w => c (Or.inl w)
    have h0 : s = 0 → ed r.2.2.1 r.1 s = r.1 ∧ ∀ j, 1 < j → j < r.1 → r.2.2.1 1 < r.2.2.1 j := fun q => by
      have c2 : ¬ ed r.2.2.1 r.1 1 < r.1 := fun w => c (Or.inr ⟨q, w⟩)
      have h1n : 1 < r.1 := by omega
      obtain ⟨u1, u2, u3, u4⟩ := ed_spec (dep := r.2.2.1) h1n
      refine ⟨?_, fun j j1 j2 => u3 j j1 (by omega)⟩
      subst q
      rcases Nat.lt_or_ge (ed r.2.2.1 r.1 0) r.1 with w | w
      · have a1 := s4 w
        have a2 := g1.2.1 (by omega)
        have a3 := wfd_pos g1 w (by omega)
        omega
      · omega
    have hw := wfd_ex g1 (by omega) s2 s3 s4 h0
    have hb : ∀ i, i < r.1 - 1 → bk s 1 i < r.1 := fun i hi => by unfold bk; split <;> omega
    refine ⟨⟨hw, ?_, fun i hi => ?_, fun i hi => ?_, fun i j hi hj hE => ?_⟩, rfl⟩
    · show 1 ≤ r.1 - 1; omega
    · show lgs (shl s 1 r.2.1 i)
      rw [shl_bk]; exact g3 _ (hb i hi)
    · show 0 ≤ shl s 1 r.2.2.2 i ∧ shl s 1 r.2.2.2 i < fr
      rw [shl_bk]; exact g4 _ (hb i hi)
    · have hE2 : shl s 1 r.2.2.2 i = shl s 1 r.2.2.2 j := hE
      rw [shl_bk, shl_bk] at hE2
      have := g5 _ _ (hb i hi) (hb j hj) hE2
      unfold bk at this
      split at this <;> split at this <;> omega
theorem prnO_gd {fr : Int} {k s : Nat} {r : ROW} {x : RF} (h : rgd r fr) (hs : s < r.1) (he : prnO (prn k r s) fr = some x) : rgd x.1 x.2 ∧ x.2 = fr := by
  unfold prnO at he
  split at he
  · cases he; exact ⟨prn_gd k r s h hs, rfl⟩
  · cases he
theorem edDel_gd {r : ROW} {fr : Int} {s : Nat} {x : RF} (h : rgd r fr) (hs : s < r.1) (he : edDel r fr s = some x) : rgd x.1 x.2 ∧ x.2 = fr := by
  unfold edDel at he
  by_cases c : s = 0
  · rw [if_pos c] at he; cases he
  · rw [if_neg c] at he
    obtain ⟨s1, s2, s3, s4⟩ := ed_spec (dep := r.2.2.1) hs
    have hp := par_nat h.1 hs (by omega)
    exact prnO_gd (rgd_cl h (by omega) s1 s2 s4) (by show _ < r.1 - _; omega) he
/-- a node that may be moved: the row ahead of the tidying -/
theorem mvr_gd {r : ROW} {fr : Int} {wh : Int} {s g w : Nat} (h : rgd r fr) (hs : s < r.1) (hg : g < r.1) (hw : w = ed r.2.2.1 r.1 s - s) (h0 : ¬ s = 0) (hng : ¬ (s ≤ g ∧ g < ed r.2.2.1 r.1 s)) (hrf : ¬ rfu r wh g) : rgd (mvr r wh s g w) fr ∧ mva r wh s g w < (mvr r wh s g w).1 ∧ rgd (rcl r s w) fr ∧ awy s w g < r.1 - w ∧ (mvr r wh s g w).1 = r.1 ∧ (0 < spa (rcl r s w) wh (awy s w g) ∧ spa (rcl r s w) wh (awy s w g) ≤ r.1 - w) := by
  obtain ⟨s1, s2, s3, s4⟩ := ed_spec (dep := r.2.2.1) hs
  have hp := par_nat h.1 hs (by omega)
  have hg1 : rgd (rcl r s w) fr := by rw [hw]; exact rgd_cl h (by omega) s1 s2 s4
  generalize ed r.2.2.1 r.1 s = e at s1 s2 s3 s4 hw hng
  have haw : awy s w g < r.1 - w := by unfold awy; split <;> omega
  have hn1 : (rcl r s w).1 = r.1 - w := rfl
  have hpos := pos_ok (wh := wh) (r := rcl r s w) ⟨hn1, rfl⟩ hg1.1 haw (fun q => by
    have : g ≠ 0 := fun q2 => hrf (Or.inr ⟨q, q2⟩)
    unfold awy
    split <;> omega)
  unfold mvr mva
  generalize spa (rcl r s w) wh (awy s w g) = q at hpos ⊢
  generalize dpa (rcl r s w) wh (awy s w g) = d at hpos ⊢
  obtain ⟨p1, p2, p3, p4, p5⟩ := hpos
  have hb0 : (blk r s d).2.1 0 = d := by show r.2.2.1 (s + 0) - r.2.2.1 s + d = d; rw [Nat.add_zero]; omega
  have hb : ∀ i, (blk r s d).2.1 i = r.2.2.1 (s + i) - r.2.2.1 s + d := fun i => rfl
  have hn20 := h.1.1
  refine ⟨rgd_in hg1 (Int.le_refl _) (wfd_in hg1.1 p1 p2 (by rw [hn1]; omega) (by omega) (by rw [hb0]; exact p3) (by rw [hb0]; exact p4) (fun i hi => ?_) (fun c => ?_)) p2 (fun i hi => h.2.2.1 _ (by omega)) (fun i hi => h.2.2.2.1 _ (by omega)) (fun i j hi hj hE => ?_) (fun i j hi hj hE => ?_), ?_, hg1, haw, ?_, p1, p2⟩
  · rw [hb, hb]
    have a1 := s3 (s + (i + 1)) (by omega) (by omega)
    have a2 := (h.1.2.2 (s + i) (by omega)).2
    rw [show s + i + 1 = s + (i + 1) by omega] at a2
    omega
  · rw [hb]
    have := p5 c
    omega
  · have := h.2.2.2.2 (s + i) (s + j) (by omega) (by omega) hE
    omega
  · have hE2 : shl s w r.2.2.2 i = r.2.2.2 (s + j) := hE
    rw [shl_bk] at hE2
    have hi2 : i < r.1 - w := hi
    have := h.2.2.2.2 _ _ (show bk s w i < r.1 by unfold bk; split <;> omega) (show s + j < r.1 by omega) hE2
    unfold bk at this
    split at this <;> omega
  · show _ < r.1 - w + w
    split <;> omega
  · show r.1 - w + w = r.1
    omega
theorem edMov_gd {r : ROW} {fr : Int} {wh : Int} {s g : Nat} {x : RF} (h : rgd r fr) (hs : s < r.1) (hg : g < r.1) (he : edMov r fr wh s g = some x) : rgd x.1 x.2 ∧ x.2 = fr := by
  unfold edMov at he
  by_cases c : s = 0 ∨ (s ≤ g ∧ g < ed r.2.2.1 r.1 s) ∨ rfu r wh g
  · rw [if_pos c] at he; cases he
  · rw [if_neg c] at he
    obtain ⟨m1, m2, -⟩ := mvr_gd h hs hg rfl (fun w => c (Or.inl w)) (fun w => c (Or.inr (Or.inl w))) (fun w => c (Or.inr (Or.inr w)))
    exact prnO_gd m1 m2 he
