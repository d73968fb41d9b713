/-! the class edits its bench -/
theorem b_end {K : List zF} {r : ROW} {s : Nat} {z : Int} {σ : zW} (hR : bR r σ) (hn : r.1 ≤ 20) (hs : s < r.1) (hz : z = (s : Int)) : zEv true (zent 5 [.inr (.inr 54), .inl z] :: K) σ = zRet true K (some (.inl ((ed r.2.2.1 r.1 s : Nat) : Int))) σ := by
  subst hz
  obtain ⟨n, lab, dep, id⟩ := r
  obtain ⟨r1, r2⟩ := hR
  simp only at r1 hn hs
  have r2 : ∀ i, i < n → gL σ 55 i = lab i ∧ gI σ 56 i = (dep i : Nat) ∧ gI σ 57 i = id i := r2
  have loop : ∀ (m i : Nat), n - i = m → s < i → i ≤ n → zEv true ((5, 4, [some (.inr (.inr 54)), some (.inl (s : Int)), some (.inl (i : Int))], []) :: K) σ = zRet true K (some (.inl ((edr dep (dep s) n m i : Nat) : Int))) σ := by
    intro m
    induction m with
    | zero =>
      intro i hm h1 h2
      rw [zj_5_4, r1, if_pos (by omega), edr]
    | succ m ih =>
      intro i hm h1 h2
      have hcc : 0 ≤ (i : Int) ∧ (i : Int) < 20 := by omega
      have hcs : 0 ≤ (s : Int) ∧ (s : Int) < 20 := by omega
      rw [zj_5_4, r1, if_neg (by omega), yAnd hcc, yAnd hcs, Int.toNat_natCast, Int.toNat_natCast, (r2 i (by omega)).2.1, (r2 s hs).2.1, edr]
      by_cases e : dep i ≤ dep s
      · rw [if_pos (by omega), if_neg (by omega)]
      · rw [if_neg (by omega), if_pos (by omega), zw_id (by omega) (by omega), show (i : Int) + 1 = ((i + 1 : Nat) : Int) by omega]
        exact ih (i + 1) (by omega) (by omega) (by omega)
  rw [ze_5, zw_id (by omega) (by omega), show (s : Int) + 1 = ((s + 1 : Nat) : Int) by omega]
  exact loop _ (s + 1) rfl (by omega) hs
theorem b_word {K : List zF} (hK : K.length < 60) {r : ROW} {s : Nat} {z : Int} {σ : zW} (hR : bR r σ) (hn : r.1 ≤ 20) (hs : s < r.1) (hz : z = (s : Int)) : zEv true (zent 6 [.inr (.inr 54), .inl z] :: K) σ = zRet true K (some (.inl (if ed r.2.2.1 r.1 s = s + 1 then 1 else 0))) σ := by
  subst hz
  rw [ze_6 hK, b_end hR hn hs rfl, zr_6_5, zw_id (by omega) (by omega)]
  by_cases e : ed r.2.2.1 r.1 s = s + 1
  · rw [if_neg (by omega), if_pos e]
  · rw [if_pos (by omega), if_neg e]
theorem b_above {K : List zF} {r : ROW} {s : Nat} {z : Int} {σ : zW} (hR : bR r σ) (hn : r.1 ≤ 20) (hs : s < r.1) (hz : z = (s : Int)) : zEv true (zent 7 [.inr (.inr 54), .inl z] :: K) σ = zRet true K (some (.inl (par r.2.2.1 s))) σ := by
  subst hz
  obtain ⟨n, lab, dep, id⟩ := r
  obtain ⟨r1, r2⟩ := hR
  simp only at r1 hn hs
  have r2 : ∀ i, i < n → gL σ 55 i = lab i ∧ gI σ 56 i = (dep i : Nat) ∧ gI σ 57 i = id i := r2
  have loop : ∀ (i : Nat), i ≤ s → ∀ z : Int, z = (i : Int) - 1 → zEv true ((7, 4, [some (.inr (.inr 54)), some (.inl (s : Int)), some (.inl z)], []) :: K) σ = zRet true K (some (.inl (pa dep (dep s) i))) σ := by
    intro i
    induction i with
    | zero =>
      intro hi z hz
      rw [zj_7_4, if_pos (by omega), hz]; rfl
    | succ i ih =>
      intro hi z hz
      have hz2 : z = (i : Int) := by omega
      subst hz2
      have hcc : 0 ≤ (i : Int) ∧ (i : Int) < 20 := by omega
      have hcs : 0 ≤ (s : Int) ∧ (s : Int) < 20 := by omega
      rw [zj_7_4, if_neg (by omega), yAnd hcc, yAnd hcs, Int.toNat_natCast, Int.toNat_natCast, (r2 i (by omega)).2.1, (r2 s hs).2.1, pa]
      by_cases e : dep i < dep s
      · rw [if_pos (by omega), if_pos e]
      · rw [if_neg (by omega), if_neg e]
        exact ih (by omega) _ (by rw [zw_id (by omega) (by omega)]; omega)
  rw [ze_7]
  exact loop s (Nat.le_refl _) _ (by rw [zw_id (by omega) (by omega)])
/-- the spot of an id: z is where it lies, or -1 -/
def spI (r : ROW) (x z : Int) : Prop := (∃ i : Nat, i < r.1 ∧ r.2.2.2 i = x ∧ z = (i : Int)) ∨ ((∀ i, i < r.1 → r.2.2.2 i ≠ x) ∧ z = -1)
theorem b_spot {K : List zF} {r : ROW} {fr x z : Int} {σ : zW} (hR : bR r σ) (hg : rgd r fr) (hz : spI r x z) : zEv true (zent 4 [.inr (.inr 54), .inl x] :: K) σ = zRet true K (some (.inl z)) σ := by
  obtain ⟨n, lab, dep, id⟩ := r
  obtain ⟨r1, r2⟩ := hR
  have hn := hg.1.1
  have hu := hg.2.2.2.2
  simp only at r1 hn hu
  have r2 : ∀ i, i < n → gL σ 55 i = lab i ∧ gI σ 56 i = (dep i : Nat) ∧ gI σ 57 i = id i := r2
  have loop : ∀ (m i : Nat), n - i = m → i ≤ n → (∀ j, j < i → id j ≠ x) → zEv true ((4, 2, [some (.inr (.inr 54)), some (.inl x), some (.inl (i : Int))], []) :: K) σ = zRet true K (some (.inl z)) σ := by
    intro m
    induction m with
    | zero =>
      intro i hm hi hno
      rw [zj_4_2, r1, if_pos (by omega)]
      rcases hz with ⟨j, j1, j2, j3⟩ | ⟨-, h2⟩
      · exact absurd j2 (hno j (by have : j < n := j1; omega))
      · rw [h2]
    | succ m ih =>
      intro i hm hi hno
      have hcc : 0 ≤ (i : Int) ∧ (i : Int) < 20 := by omega
      rw [zj_4_2, r1, if_neg (by omega), yAnd hcc, Int.toNat_natCast, (r2 i (by omega)).2.2]
      by_cases e : id i = x
      · rw [if_neg (fun w => w e)]
        rcases hz with ⟨j, j1, j2, j3⟩ | ⟨h1, -⟩
        · rw [j3, hu i j (by omega) j1 (by rw [e]; exact j2.symm)]
        · exact absurd e (h1 i (by show i < n; omega))
      · rw [if_pos e, zw_id (by omega) (by omega), show (i : Int) + 1 = ((i + 1 : Nat) : Int) by omega]
        exact ih (i + 1) (by omega) (by omega) (fun j hj => by
          by_cases ej : j = i
          · rw [ej]; exact e
          · exact hno j (by omega))
  rw [ze_4]
  exact loop n 0 rfl (Nat.zero_le _) (fun j hj => by omega)
theorem b_prune {K : List zF} (hK : K.length + 2 ≤ 60) {fr : Int} : ∀ (f : Nat) (r : ROW) (s : Nat) (o1 o3 : Option zV) (σ : zW), s ≤ f → s < r.1 → rgd r fr → bR r σ →
    (∀ σ' : zW, yFr Xbn σ σ' → bR (prn f r s).1 σ' → zRet true K (some (.inl (if 0 < (prn f r s).2 ∨ 1 < (prn f r s).1.1 then 1 else 0))) σ') →
    zEv true ((12, 2, [some (.inr (.inr 54)), o1, some (.inl (s : Int)), o3], []) :: K) σ := by
  intro f
  induction f with
  | zero =>
    intro r s o1 o3 σ hf hs hg hR k
    have hn := hg.2.1
    have hk := k σ yFr.rf hR
    have e : prn 0 r s = (r, s) := rfl
    rw [e] at hk
    simp only at hk
    rw [zj_12_2 (by omega), if_pos (by omega), zj_12_33, if_neg (by omega), hR.1]
    by_cases c : 1 < r.1
    · rw [if_neg (by omega)]; rw [if_pos (Or.inr c)] at hk; exact hk
    · rw [if_pos (by omega)]; rw [if_neg (by omega)] at hk; exact hk
  | succ f ih =>
    intro r s o1 o3 σ hf hs hg hR k
    have hn := hg.1.1
    have stop : (prn (f + 1) r s) = (r, s) → ∀ o3 : Option zV, zEv true ((12, 33, [some (.inr (.inr 54)), o1, some (.inl (s : Int)), o3], []) :: K) σ := fun e o3 => by
      have hk := k σ yFr.rf (by rw [e]; exact hR)
      rw [e] at hk
      simp only at hk
      rw [zj_12_33, hR.1]
      by_cases c : 0 < s
      · rw [if_pos (by omega)]; rw [if_pos (Or.inl c)] at hk; exact hk
      · rw [if_neg (by omega)]
        by_cases c2 : 1 < r.1
        · rw [if_neg (by omega)]; rw [if_pos (Or.inr c2)] at hk; exact hk
        · rw [if_pos (by omega)]; rw [if_neg (by omega)] at hk; exact hk
    rw [zj_12_2 (by omega)]
    by_cases c : 0 < s
    · rw [if_neg (by omega), b_word (yL (by omega)) hR hn hs rfl, zr_12_11 (by omega)]
      by_cases c2 : ed r.2.2.1 r.1 s = s + 1
      · have ep : prn (f + 1) r s = prn f (rcl r s 1) (par r.2.2.1 s).toNat := by rw [prn, if_pos ⟨c, c2⟩]
        have hp := par_nat hg.1 hs c
        have hgl := rgd_leaf hg c hs c2
        rw [if_neg (show ¬ (if ed r.2.2.1 r.1 s = s + 1 then (1 : Int) else 0) = 0 by rw [if_pos c2]; decide), b_above hR hn hs rfl, zr_12_19 (by omega)]
        refine b_close (s := s) (w := 1) hR hn (by omega) rfl (by rw [zw_id (by omega) (by omega)]; omega) (fun σ1 hF1 hR1 => ?_)
        rw [zr_12_28, hp.2]
        refine ih (rcl r s 1) (par r.2.2.1 s).toNat _ _ σ1 (by omega) (by show _ < r.1 - 1; omega) hgl hR1 (fun σ' hF2 hR2 => ?_)
        rw [← ep] at hR2 ⊢
        exact k σ' (hF1.trans hF2) hR2
      · rw [if_pos (show (if ed r.2.2.1 r.1 s = s + 1 then (1 : Int) else 0) = 0 by rw [if_neg c2])]
        exact stop (by rw [prn, if_neg (fun w => c2 w.2)]) _
    · rw [if_pos (by omega)]
      exact stop (by rw [prn, if_neg (fun w => c w.1)]) _
/-- how an edit ends on the bench -/
def bEd (x : Option RF) (K : List zF) (σ : zW) : Prop := (x = none → ∀ σ' : zW, yFr (fun k j => (k = 54 ∧ 6 ≤ j ∧ j ≤ 8) ∨ (55 ≤ k ∧ k ≤ 60)) σ σ' → zRet true K (some (.inl 0)) σ') ∧
  ∀ y : RF, x = some y → ∀ σ' : zW, yFr (fun k j => (k = 54 ∧ 6 ≤ j ∧ j ≤ 8) ∨ (55 ≤ k ∧ k ≤ 60)) σ σ' → bR y.1 σ' → gI σ' 54 8 = y.2 → zRet true K (some (.inl 1)) σ'
abbrev Xbe : Nat → Nat → Prop := fun k j => (k = 54 ∧ 6 ≤ j ∧ j ≤ 8) ∨ (55 ≤ k ∧ k ≤ 60)
theorem b_pruneO {K : List zF} (hK : K.length + 2 ≤ 60) {fr : Int} {f s : Nat} {r : ROW} {σ0 σ : zW} (hF0 : yFr Xbe σ0 σ) (hs : s ≤ f) (hs2 : s < r.1) (hg : rgd r fr) (hR : bR r σ) (h8 : gI σ 54 8 = fr) (k : bEd (prnO (prn f r s) fr) K σ0) : zEv true (zent 12 [.inr (.inr 54), .inl (s : Int)] :: K) σ := by
  rw [ze_12]
  refine b_prune hK f r s _ _ σ hs hs2 hg hR (fun σ' hF hR' => ?_)
  have hFF := hF0.trans (hF.mono (fun k j h => by omega))
  have h88 : gI σ' 54 8 = fr := (hF.i (by omega)).trans h8
  unfold prnO at k
  by_cases c : 0 < (prn f r s).2 ∨ 1 < (prn f r s).1.1
  · rw [if_pos c] at k ⊢
    exact k.2 _ rfl σ' hFF hR' h88
  · rw [if_neg c] at k ⊢
    exact k.1 rfl σ' hFF
theorem b_cutOut {K : List zF} (hK : K.length + 3 ≤ 60) {fr : Int} {s : Nat} {r : ROW} {σ : zW} (hs : s < r.1) (hg : rgd r fr) (hR : bR r σ) (h8 : gI σ 54 8 = fr) (k : bEd (edDel r fr s) K σ) : zEv true (zent 11 [.inr (.inr 54), .inl (s : Int)] :: K) σ := by
  have hn := hg.1.1
  have hsp := ed_spec (dep := r.2.2.1) hs
  rw [ze_11 (by omega), b_above hR hn hs rfl, zr_11_5 (by omega), b_end hR hn hs rfl, zr_11_13 (by omega)]
  unfold edDel at k
  generalize he : ed r.2.2.1 r.1 s = e at *
  refine b_close (s := s) (w := e - s) hR hn (by omega) rfl (by rw [show s + (e - s) = e by omega]) (fun σ1 hF1 hR1 => ?_)
  rw [zr_11_16 (by omega)]
  by_cases c : s = 0
  · rw [if_pos c] at k
    subst c
    rw [par_root hg.1, if_pos (show (-1 : Int) = -1 from rfl), zj_11_33]
    exact k.1 rfl σ1 (hF1.mono (fun k j h => by omega))
  · rw [if_neg c] at k
    have hp := par_nat hg.1 hs (by omega)
    have hgc : rgd (rcl r s (e - s)) fr := by rw [← he]; exact rgd_cl hg (by omega) (by rw [he]; exact hsp.1) (by rw [he]; exact hsp.2.1) (by rw [he]; exact hsp.2.2.2)
    rw [hp.2, if_neg (by omega)]
    refine b_pruneO (f := (par r.2.2.1 s).toNat) (yKK (K := K) (by omega)) (hF1.mono (fun k j h => by omega)) (Nat.le_refl _) (by show _ < r.1 - (e - s); omega) hgc hR1 ((hF1.i (by omega)).trans h8) ⟨fun hx σ' hF => ?_, fun y hy σ' hF hR2 h82 => ?_⟩
    · rw [zr_11_26, if_pos (show (0 : Int) = 0 from rfl), zj_11_33]
      exact k.1 hx σ' hF
    · rw [zr_11_26, if_neg (show ¬ (1 : Int) = 0 by decide)]
      exact k.2 y hy σ' hF hR2 h82
