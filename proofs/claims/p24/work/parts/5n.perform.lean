/-! one edit of a script -/
def egd (d : EDT) : Prop := (0 ≤ d.1 ∧ d.1 ≤ 5) ∧ (d.1 ≠ 4 → 0 ≤ d.2.1 ∧ d.2.1 < 26) ∧ (d.1 = 4 → d.2.1 = -1) ∧ (d.1 = 4 ∨ d.1 = 5 → (0 ≤ d.2.2.1 ∧ d.2.2.1 < 26) ∧ ∃ n : Nat, n < 4 ∧ d.2.2.2.2 = (n : Int)) ∧ (¬ (d.1 = 4 ∨ d.1 = 5) → d.2.2.1 = -1) ∧ (d.1 = 0 ∨ d.1 = 3 ∨ d.1 = 4 → lgs d.2.2.2.1)
theorem nmR_b {f : Nat → Int} {L a : Nat} {x : Int × Nat} (h : nmR f L a = .inr x) : 0 ≤ x.1 ∧ x.1 < 26 := by
  unfold nmR at h
  split at h
  · rename_i q; cases h; have := q.2; constructor <;> dsimp only <;> omega
  · cases h
theorem whR_b {f : Nat → Int} {L a : Nat} {x : Int × Nat} (h : whR f L a = .inr x) : ∃ n : Nat, n < 4 ∧ x.1 = (n : Int) := by
  unfold whR at h
  split at h
  · cases h
  · cases h
    have := whI_b f L (sk f L a)
    exact ⟨(whI f L (sk f L a)).toNat, by omega, by dsimp only; omega⟩
theorem edC_b {f : Nat → Int} {L a : Nat} {k : Int} {r : (Int × Int) × Nat} (h : edC f L k a = .inr r) : (k = 4 ∨ k = 5 → (0 ≤ r.1.2 ∧ r.1.2 < 26) ∧ ∃ n : Nat, n < 4 ∧ r.1.1 = (n : Int)) ∧ (¬ (k = 4 ∨ k = 5) → r.1.2 = -1) := by
  unfold edC at h
  split at h
  · rename_i hk
    split at h
    · cases h
    · rename_i w hw
      split at h
      · cases h
      · rename_i y hy
        cases h
        exact ⟨fun _ => ⟨nmR_b hy, whR_b hw⟩, fun q => absurd hk q⟩
  · rename_i hk
    cases h
    exact ⟨fun q => absurd q hk, fun _ => rfl⟩
theorem edB_b {f : Nat → Int} {L a : Nat} {k : Int} {r : (Int64 × Int × Int) × Nat} (h : edB f L k a = .inr r) : (k = 4 ∨ k = 5 → (0 ≤ r.1.2.2 ∧ r.1.2.2 < 26) ∧ ∃ n : Nat, n < 4 ∧ r.1.2.1 = (n : Int)) ∧ (¬ (k = 4 ∨ k = 5) → r.1.2.2 = -1) ∧ (k = 0 ∨ k = 3 ∨ k = 4 → lgs r.1.1) := by
  unfold edB at h
  split at h
  · split at h
    · cases h
    · rename_i v hv
      split at h
      · cases h
      · rename_i w hw
        cases h
        have := edC_b hw
        exact ⟨this.1, this.2, fun _ => rdl_lgs (q := v.2) hv⟩
  · rename_i hk
    split at h
    · cases h
    · rename_i w hw
      cases h
      have := edC_b hw
      exact ⟨this.1, this.2, fun q => absurd q hk⟩
theorem edR_g {f : Nat → Int} {L p c : Nat} {r : EDT × Nat} (h : edR f L p c = .inr r) : egd r.1 := by
  unfold edR at h
  have hb := kdR_b f L p
  split at h
  · cases h
  · rename_i hk
    split at h
    · cases h
    · generalize kdR f L p = k at hb hk h
      unfold edA at h
      split at h
      · rename_i h4
        split at h
        · cases h
        · rename_i w hw
          cases h
          have := edB_b hw
          exact ⟨by dsimp only; omega, fun q => absurd h4 q, fun _ => rfl, this.1, this.2.1, this.2.2⟩
      · rename_i h4
        split at h
        · cases h
        · rename_i x hx
          split at h
          · cases h
          · rename_i w hw
            cases h
            have := edB_b hw
            exact ⟨by dsimp only; omega, fun _ => nmR_b hx, fun q => absurd q h4, this.1, this.2.1, this.2.2⟩
theorem scR_g {f : Nat → Int} {L : Nat} : ∀ (n a c : Nat) (es : Nat → EDT) (r : Nat × (Nat → EDT)), (∀ i, i < c → egd (es i)) → scR f L n a c es = .inr r → ∀ i, i < r.1 → egd (r.2 i) := by
  intro n
  induction n with
  | zero => intro a c es r _ h; cases h
  | succ n ih =>
    intro a c es r hE h
    rw [scR] at h
    split at h
    · cases h
    · rename_i w hw
      have hg := edR_g hw
      have hE2 : ∀ i, i < c + 1 → egd (fup es c w.1 i) := fun i hi => by
        by_cases e : i = c
        · subst e; rw [fup_eq]; exact hg
        · rw [fup_ne e]; exact hE i (by omega)
      split at h
      · cases h; exact hE2
      · split at h
        · exact ih _ _ _ r hE2 h
        · cases h
theorem sread_g {f : Nat → Int} {L : Nat} {r : Nat × (Nat → EDT)} (h : sread f L = .inr r) : ∀ i, i < r.1 → egd (r.2 i) := by
  unfold sread at h
  split at h
  · cases h; exact fun i hi => absurd hi (Nat.not_lt_zero _)
  · exact scR_g _ _ _ _ r (fun i hi => absurd hi (Nat.not_lt_zero _)) h
/-- where an id lies -/
theorem spz_ex (r : ROW) (x : Int) : ∃ z : Int, spI r x z := by
  rcases Classical.em (∃ i : Nat, i < r.1 ∧ r.2.2.2 i = x) with ⟨i, h1, h2⟩ | h
  · exact ⟨(i : Int), Or.inl ⟨i, h1, h2, rfl⟩⟩
  · exact ⟨-1, Or.inr ⟨fun i hi w => h ⟨i, hi, w⟩, rfl⟩⟩
noncomputable def spz (r : ROW) (x : Int) : Int := Classical.choose (spz_ex r x)
theorem spz_ok (r : ROW) (x : Int) : spI r x (spz r x) := Classical.choose_spec (spz_ex r x)
theorem spz_lt {r : ROW} {x : Int} (h : spz r x ≠ -1) : ∃ i : Nat, i < r.1 ∧ spz r x = (i : Int) := by
  rcases spz_ok r x with ⟨i, h1, h2, h3⟩ | ⟨-, h2⟩
  · exact ⟨i, h1, h3⟩
  · exact absurd h2 h
def edRen (r : ROW) (fr : Int) (s : Nat) (v : Int64) : Option RF := some ((r.1, fup r.2.1 s v, r.2.2.1, r.2.2.2), fr)
/-- one edit with the nodes x and y -/
noncomputable def pedit (r : ROW) (fr : Int) (d : EDT) (x y : Int) : Option RF :=
  if (d.1 ≠ 4 ∧ spz r x = -1) ∨ ((d.1 = 4 ∨ d.1 = 5) ∧ spz r y = -1) then none
  else if d.1 = 0 then edRen r fr (spz r x).toNat d.2.2.2.1
  else if d.1 = 1 then edDel r fr (spz r x).toNat
  else if d.1 = 2 then edExc r fr (spz r x).toNat
  else if d.1 = 3 then edWrp r fr (spz r x).toNat d.2.2.2.1
  else if d.1 = 4 then edAdd r fr d.2.2.2.1 d.2.2.2.2 (spz r y).toNat
  else edMov r fr d.2.2.2.2 (spz r x).toNat (spz r y).toNat
theorem pedit_gd {r : ROW} {fr x y : Int} {d : EDT} {z : RF} (h : rgd r fr) (hf : 0 ≤ fr) (hd : egd d) (he : pedit r fr d x y = some z) : rgd z.1 z.2 ∧ fr ≤ z.2 ∧ z.2 ≤ fr + 1 := by
  unfold pedit at he
  split at he
  · cases he
  · rename_i hn
    have hx : d.1 ≠ 4 → (spz r x).toNat < r.1 := fun q => by
      obtain ⟨i, i1, i2⟩ := spz_lt (r := r) (x := x) (fun w => hn (Or.inl ⟨q, w⟩))
      rw [i2, Int.toNat_natCast]; exact i1
    have hy : d.1 = 4 ∨ d.1 = 5 → (spz r y).toNat < r.1 := fun q => by
      obtain ⟨i, i1, i2⟩ := spz_lt (r := r) (x := y) (fun w => hn (Or.inr ⟨q, w⟩))
      rw [i2, Int.toNat_natCast]; exact i1
    generalize (spz r x).toNat = s at *
    generalize (spz r y).toNat = g at *
    have fin : rgd z.1 z.2 ∧ z.2 = fr → rgd z.1 z.2 ∧ fr ≤ z.2 ∧ z.2 ≤ fr + 1 := fun q => ⟨q.1, by omega, by omega⟩
    split at he
    · rename_i h0
      refine fin ?_
      cases he
      obtain ⟨g1, g2, g3, g4, g5⟩ := h
      refine ⟨⟨g1, g2, fun i hi => ?_, g4, g5⟩, rfl⟩
      by_cases e : i = s
      · show lgs (fup r.2.1 s d.2.2.2.1 i)
        rw [e, fup_eq]; exact hd.2.2.2.2.2 (Or.inl h0)
      · show lgs (fup r.2.1 s d.2.2.2.1 i)
        rw [fup_ne e]; exact g3 i hi
    · split at he
      · exact fin (edDel_gd h (hx (by omega)) he)
      · split at he
        · exact fin (edExc_gd h (hx (by omega)) he)
        · split at he
          · rename_i h3
            exact edWrp_gd h hf (hd.2.2.2.2.2 (Or.inr (Or.inl h3))) (hx (by omega)) he
          · split at he
            · rename_i h4
              exact edAdd_gd h hf (hd.2.2.2.2.2 (Or.inr (Or.inr h4))) (hy (Or.inl h4)) he
            · have h5 : d.1 = 5 := by have := hd.1; omega
              exact fin (edMov_gd h (hx (by omega)) (hy (Or.inr h5)) he)
theorem c_needsX {K : List zF} {t i : Nat} {z : Int} {d : EDT} {σ : zW} (hs : zSc t) (hi : i < 8) (hE : cEd t i d σ) (hz : z = (i : Int)) : zEv true (zent 57 [.inr (.inr t), .inl z] :: K) σ = zRet true K (some (.inl (if d.1 = 4 then 0 else 1))) σ := by
  subst hz
  rw [ze_57 hs, yAnd (by omega), Int.toNat_natCast, hE.1]
  by_cases c : d.1 = 4
  · rw [if_pos c, if_pos c]
  · rw [if_neg c, if_neg c]
theorem c_needsY {K : List zF} {t i : Nat} {z : Int} {d : EDT} {σ : zW} (hs : zSc t) (hi : i < 8) (hE : cEd t i d σ) (hz : z = (i : Int)) : zEv true (zent 58 [.inr (.inr t), .inl z] :: K) σ = zRet true K (some (.inl (if d.1 = 4 ∨ d.1 = 5 then 1 else 0))) σ := by
  subst hz
  rw [ze_58 hs, yAnd (by omega), Int.toNat_natCast, hE.1]
  by_cases c : d.1 = 4
  · rw [if_pos c, if_pos (Or.inl c)]
  · rw [if_neg c, yAnd (by omega)]
    by_cases c5 : d.1 = 5
    · rw [if_neg (fun w => w c5), if_pos (Or.inr c5)]
    · rw [if_pos c5, if_neg (by omega)]
abbrev Xbp : Nat → Nat → Prop := fun k j => (k = 54 ∧ 6 ≤ j ∧ j ≤ 9) ∨ (55 ≤ k ∧ k ≤ 60)
/-- the class does an edit on its bench -/
theorem c_perform {K : List zF} (hK : K.length + 5 ≤ 60) {t i : Nat} {fr x y dn : Int} {d : EDT} {r : ROW} {σ : zW} (hs : zSc t) (hi : i < 8) (hE : cEd t i d σ) (hd : egd d) (hg : rgd r fr) (hfr : 0 ≤ fr ∧ fr < 1000) (hR : bR r σ) (h8 : gI σ 54 8 = fr) (h9 : gI σ 54 9 = dn) (hdn : 0 ≤ dn ∧ dn < 1000)
    (k0 : pedit r fr d x y = none → ∀ σ' : zW, yFr Xbp σ σ' → zRet true K (some (.inl 0)) σ')
    (k1 : ∀ z : RF, pedit r fr d x y = some z → ∀ σ' : zW, yFr Xbp σ σ' → bR z.1 σ' → gI σ' 54 8 = z.2 → gI σ' 54 9 = dn + 1 → zRet true K (some (.inl 1)) σ') :
    zEv true (zent 3 [.inr (.inr 54), .inr (.inr t), .inl (i : Int), .inl x, .inl y] :: K) σ := by
  have hb := zSc_b hs
  have hx := spz_ok r x
  have hy := spz_ok r y
  have hcc : 0 ≤ (i : Int) ∧ (i : Int) < 8 := by omega
  rw [ze_3 (by omega), b_spot hR hg hx, zr_3_5 (by omega), b_spot hR hg hy, zr_3_13 (by omega) hs, c_needsX hs hi hE rfl, zr_3_20]
  unfold pedit at k0 k1
  generalize hsx : spz r x = sx at *
  generalize hsy : spz r y = sy at *
  have hxl : sx ≠ -1 → ∃ j : Nat, j < r.1 ∧ sx = (j : Int) := fun q => by rw [← hsx] at q ⊢; exact spz_lt q
  have hyl : sy ≠ -1 → ∃ j : Nat, j < r.1 ∧ sy = (j : Int) := fun q => by rw [← hsy] at q ⊢; exact spz_lt q
  clear hx hy hsx hsy
  have hn := hg.1.1
  -- all that is named lies there
  have main : ¬ ((d.1 ≠ 4 ∧ sx = -1) ∨ ((d.1 = 4 ∨ d.1 = 5) ∧ sy = -1)) → zEv true ((3, 45, [some (.inr (.inr 54)), some (.inr (.inr t)), some (.inl (i : Int)), some (.inl x), some (.inl y), some (.inl sx), some (.inl sy)], []) :: K) σ := by
    intro c
    rw [if_neg c] at k0 k1
    have hF1 : yFr (fun k j => k = 54 ∧ j = 9) σ (sI σ 54 9 (dn + 1)) := yFr.rf.I ⟨rfl, rfl⟩
    have hR1 : bR r (sI σ 54 9 (dn + 1)) := bR_fr hR hF1 (fun k j h => by omega)
    have g8 : gI (sI σ 54 9 (dn + 1)) 54 8 = fr := (hF1.i (by omega)).trans h8
    have g9 : gI (sI σ 54 9 (dn + 1)) 54 9 = dn + 1 := yGI_hit
    have e1 : gI (sI σ 54 9 (dn + 1)) (t + 1) i = d.1 := (hF1.i (by omega)).trans hE.1
    have e5 : gI (sI σ 54 9 (dn + 1)) (t + 5) i = d.2.2.2.2 := (hF1.i (by omega)).trans hE.2.2.2.2
    have e4 : gL σ (t + 4) i = d.2.2.2.1 := hE.2.2.2.1
    rw [zj_3_45 (by omega) hs, h9, zw_id (by omega) (by omega), Int.toNat_natCast, e1, e5, e4, yAnd hcc]
    generalize sI σ 54 9 (dn + 1) = σ1 at hF1 hR1 g8 g9 ⊢
    have lift : ∀ σ' : zW, yFr Xbe σ1 σ' → yFr Xbp σ σ' ∧ gI σ' 54 9 = dn + 1 := fun σ' h => ⟨(hF1.mono (fun k j h => by omega)).trans (h.mono (fun k j h => by omega)), (h.i (by omega)).trans g9⟩
    have wrap : ∀ (o : Option RF) (fr : zF), (∀ (v : Int) (σ' : zW), zRet true (fr :: K) (some (.inl v)) σ' = ((v = 0 ∨ v = 1) ∧ zRet true K (some (.inl v)) σ')) → (o = none → ∀ σ' : zW, yFr Xbp σ σ' → zRet true K (some (.inl 0)) σ') → (∀ z : RF, o = some z → ∀ σ' : zW, yFr Xbp σ σ' → bR z.1 σ' → gI σ' 54 8 = z.2 → gI σ' 54 9 = dn + 1 → zRet true K (some (.inl 1)) σ') → bEd o (fr :: K) σ1 := fun o fr hfr q0 q1 => ⟨fun ho σ' hF => by
        rw [hfr, yAnd (Or.inl rfl)]; exact q0 ho σ' (lift σ' hF).1, fun z hz σ' hF hRz h8z => by
        rw [hfr, yAnd (Or.inr rfl)]; exact q1 z hz σ' (lift σ' hF).1 hRz h8z (lift σ' hF).2⟩
    by_cases c0 : d.1 = 0
    · obtain ⟨s, s1, s2⟩ := hxl (fun w => c (Or.inl ⟨by omega, w⟩))
      have hcs : 0 ≤ (s : Int) ∧ (s : Int) < 20 := by omega
      rw [if_pos c0, s2, Int.toNat_natCast] at k1
      rw [if_pos c0, s2, yAnd hcc, yAnd hcs, Int.toNat_natCast]
      have hF2 : yFr (fun k j => k = 55 ∧ j = s) σ1 (sL σ1 55 s d.2.2.2.1) := yFr.rf.L ⟨rfl, rfl⟩
      have hl := lift _ (hF2.mono (fun k j h => by omega))
      refine k1 _ rfl _ hl.1 ⟨(hF2.i (by omega)).trans hR1.1, fun j hj => ?_⟩ ((hF2.i (by omega)).trans g8) hl.2
      obtain ⟨b1, b2, b3⟩ := hR1.2 j hj
      refine ⟨?_, (hF2.i (by omega)).trans b2, (hF2.i (by omega)).trans b3⟩
      show gL (sL σ1 55 s d.2.2.2.1) 55 j = fup r.2.1 s d.2.2.2.1 j
      rw [gL_sL]
      by_cases e : j = s
      · rw [if_pos ⟨rfl, e⟩, e, fup_eq]
      · rw [if_neg (fun w => e w.2), fup_ne e]; exact b1
    · rw [if_neg c0] at k0 k1 ⊢
      by_cases c1 : d.1 = 1
      · obtain ⟨s, s1, s2⟩ := hxl (fun w => c (Or.inl ⟨by omega, w⟩))
        rw [if_pos c1, s2, Int.toNat_natCast] at k0 k1
        rw [if_pos c1, s2]
        exact b_cutOut (yKK (by omega)) s1 hg hR1 g8 (wrap _ _ (fun v σ' => zr_3_121) k0 k1)
      · rw [if_neg c1] at k0 k1 ⊢
        by_cases c2 : d.1 = 2
        · obtain ⟨s, s1, s2⟩ := hxl (fun w => c (Or.inl ⟨by omega, w⟩))
          rw [if_pos c2, s2, Int.toNat_natCast] at k0 k1
          rw [if_pos c2, s2]
          exact b_dissolve (yKK (by omega)) s1 hg hR1 g8 (wrap _ _ (fun v σ' => zr_3_128) k0 k1)
        · rw [if_neg c2] at k0 k1 ⊢
          by_cases c3 : d.1 = 3
          · obtain ⟨s, s1, s2⟩ := hxl (fun w => c (Or.inl ⟨by omega, w⟩))
            rw [if_pos c3, s2, Int.toNat_natCast] at k0 k1
            rw [if_pos c3, s2, yAnd hcc]
            exact b_enclose (yKK (by omega)) s1 hg hfr hR1 g8 (wrap _ _ (fun v σ' => zr_3_141) k0 k1)
          · rw [if_neg c3] at k0 k1 ⊢
            by_cases c4 : d.1 = 4
            · obtain ⟨s, s1, s2⟩ := hyl (fun w => c (Or.inr ⟨Or.inl c4, w⟩))
              rw [if_pos c4, s2, Int.toNat_natCast] at k0 k1
              rw [if_pos c4, s2, yAnd hcc, yAnd hcc]
              exact b_putNew (yKK (by omega)) s1 hg hfr hR1 g8 (wrap _ _ (fun v σ' => zr_3_160) k0 k1)
            · have c5 : d.1 = 5 := by have := hd.1; omega
              obtain ⟨s, s1, s2⟩ := hxl (fun w => c (Or.inl ⟨by omega, w⟩))
              obtain ⟨g, g1, g2⟩ := hyl (fun w => c (Or.inr ⟨Or.inr c5, w⟩))
              rw [if_neg c4, s2, g2, Int.toNat_natCast, Int.toNat_natCast] at k0 k1
              rw [if_neg c4, if_pos c5, s2, g2, yAnd hcc]
              exact b_shift (yKK (by omega)) s1 g1 hg hR1 g8 (wrap _ _ (fun v σ' => zr_3_175) k0 k1)
  have h29 : ¬ (d.1 ≠ 4 ∧ sx = -1) → zEv true ((3, 29, [some (.inr (.inr 54)), some (.inr (.inr t)), some (.inl (i : Int)), some (.inl x), some (.inl y), some (.inl sx), some (.inl sy)], []) :: K) σ := fun c => by
    rw [zj_3_29 (by omega) hs, c_needsY hs hi hE rfl, zr_3_34]
    by_cases c2 : d.1 = 4 ∨ d.1 = 5
    · rw [if_neg (show ¬ (if d.1 = 4 ∨ d.1 = 5 then (1 : Int) else 0) = 0 by rw [if_pos c2]; decide)]
      by_cases c3 : sy = -1
      · rw [if_neg (fun w => w c3)]
        rw [if_pos (Or.inr ⟨c2, c3⟩)] at k0
        exact k0 rfl σ yFr.rf
      · rw [if_pos c3]
        exact main (fun w => by rcases w with w | w; exact c w; exact c3 w.2)
    · rw [if_pos (show (if d.1 = 4 ∨ d.1 = 5 then (1 : Int) else 0) = 0 by rw [if_neg c2])]
      exact main (fun w => by rcases w with w | w; exact c w; exact c2 w.1)
  by_cases c : d.1 = 4
  · rw [if_pos (show (if d.1 = 4 then (0 : Int) else 1) = 0 by rw [if_pos c])]
    exact h29 (fun w => w.1 c)
  · rw [if_neg (show ¬ (if d.1 = 4 then (0 : Int) else 1) = 0 by rw [if_neg c]; decide)]
    by_cases c3 : sx = -1
    · rw [if_pos c3]
      rw [if_pos (Or.inl ⟨c, c3⟩)] at k0
      exact k0 rfl σ yFr.rf
    · rw [if_neg c3]
      exact h29 (fun w => c3 w.2)
