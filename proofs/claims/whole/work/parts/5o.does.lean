/-! the model does an edit -/
/-- the words, told apart -/
theorem kz {k : Nat} (hk : k < 6) : (zlc (kwn k) 111520460465522 = 0 ↔ k = 0) ∧ (zlc (kwn k) 111550592214372 = 0 ↔ k = 1) ∧ (zlc (kwn k) 111546363770981 = 0 ↔ k = 2) ∧ (zlc (kwn k) 1885434487 = 0 ↔ k = 3) ∧ (zlc (kwn k) 6579297 = 0 ↔ k = 4) ∧ (zlc (kwn k) 1702260589 = 0 ↔ k = 5) := by
  obtain ⟨l0, l1, l2, l3, l4, l5, -, -, -, -⟩ := kwn_lits
  rw [← l0, ← l1, ← l2, ← l3, ← l4, ← l5]
  exact ⟨kw_k hk (by omega), kw_k hk (by omega), kw_k hk (by omega), kw_k hk (by omega), kw_k hk (by omega), kw_k hk (by omega)⟩
/-- whether an edit's nodes are given -/
abbrev enm (d : EDT) (x y : Int) : Prop := (d.1 ≠ 4 → x ≠ -1) ∧ (d.1 = 4 ∨ d.1 = 5 → y ≠ -1)
theorem m_does {K : List zF} (hK : K.length + 5 ≤ 60) {i : Nat} {fr x y : Int} {d : EDT} {r : ROW} {σ : zW} (hi : i < 8) (hE : mEd 160 i d σ) (hd : egd d) (hg : rgd r fr) (hfr : 0 ≤ fr ∧ fr < 1000) (hR : mRw r σ) (h8 : gI σ 122 85 = fr)
    (hBx : d.1 ≠ 4 → ∀ f : zF, zEv true (zent 236 [.inr (.inr 122), .inl (d.2.1 + 97)] :: f :: K) σ = zRet true (f :: K) (some (.inl x)) σ)
    (hBy : d.1 = 4 ∨ d.1 = 5 → ∀ f : zF, zEv true (zent 236 [.inr (.inr 122), .inl (d.2.2.1 + 97)] :: f :: K) σ = zRet true (f :: K) (some (.inl y)) σ)
    (k0 : ¬ enm d x y → zRet true K (some (.inl 0)) σ)
    (k2 : enm d x y → pedit r fr d x y = none → ∀ σ' : zW, yFr Xmd σ σ' → zRet true K (some (.inl 2)) σ')
    (k1 : enm d x y → ∀ z : RF, pedit r fr d x y = some z → ∀ σ' : zW, yFr Xmd σ σ' → mRw z.1 σ' → gI σ' 122 85 = z.2 → zRet true K (some (.inl 1)) σ') :
    zEv true (zent 237 [.inr (.inr 122), .inl (i : Int)] :: K) σ := by
  have hcc : 0 ≤ (i : Int) ∧ (i : Int) < 8 := by omega
  obtain ⟨d1, d2, d3, d4, d5, d6⟩ := hd
  obtain ⟨k, hk⟩ : ∃ k : Nat, d.1 = (k : Int) := ⟨d.1.toNat, by omega⟩
  have hk6 : k < 6 := by omega
  obtain ⟨e0, e1, e2, e3, e4⟩ := hE
  rw [hk, Int.toNat_natCast] at e0
  obtain ⟨z0, z1, z2, z3, z4, z5⟩ := kz hk6
  rw [← e0] at z0 z1 z2 z3 z4 z5
  have e1 : d.1 ≠ 4 → gI σ 161 i = d.2.1 + 97 := fun q => by
    have := e1
    rw [if_neg q] at this
    exact this
  have e2 : d.1 = 4 ∨ d.1 = 5 → gI σ 162 i = d.2.2.1 + 97 := fun q => by
    have := e2
    rw [if_pos q] at this
    exact this
  have m01 : ¬ (0 : Int) = -1 := by decide
  have hx := spz_ok r x
  have hy := spz_ok r y
  unfold pedit at k1 k2
  have sx : ∀ f : zF, zEv true (zent 221 [.inr (.inr 122), .inl x] :: f :: K) σ = zRet true (f :: K) (some (.inl (spz r x))) σ := fun f => m_spot hR hg hx
  have sy : ∀ f : zF, zEv true (zent 221 [.inr (.inr 122), .inl y] :: f :: K) σ = zRet true (f :: K) (some (.inl (spz r y))) σ := fun f => m_spot hR hg hy
  generalize hsx : spz r x = sx' at *
  generalize hsy : spz r y = sy' at *
  have hxl : sx' ≠ -1 → ∃ j : Nat, j < r.1 ∧ sx' = (j : Int) := fun q => by rw [← hsx] at q ⊢; exact spz_lt q
  have hyl : sy' ≠ -1 → ∃ j : Nat, j < r.1 ∧ sy' = (j : Int) := fun q => by rw [← hsy] at q ⊢; exact spz_lt q
  clear hx hy hsx hsy
  have hn := hg.1.1
  have wrap : ∀ (o : Option RF) (fr : zF), (∀ (v : Int) (σ' : zW), zRet true (fr :: K) (some (.inl v)) σ' = zRet true K (some (.inl (if v = 0 then 2 else 1))) σ') → (o = none → ∀ σ' : zW, yFr Xmd σ σ' → zRet true K (some (.inl 2)) σ') → (∀ z : RF, o = some z → ∀ σ' : zW, yFr Xmd σ σ' → mRw z.1 σ' → gI σ' 122 85 = z.2 → zRet true K (some (.inl 1)) σ') → mDo o (fr :: K) σ := fun o fr hfr q0 q1 => ⟨fun ho σ' hF => by
      rw [hfr, if_pos (show (0 : Int) = 0 from rfl)]; exact q0 ho σ' hF, fun z hz σ' hF hRz h8z => by
      rw [hfr, if_neg (show ¬ (1 : Int) = 0 by decide)]; exact q1 z hz σ' hF hRz h8z⟩
  rw [ze_237 (by omega)]
  by_cases c4 : k = 4
  · -- add
    have hd4 : d.1 = 4 := by omega
    have en : enm d x y ↔ y ≠ -1 := ⟨fun w => w.2 (Or.inl hd4), fun w => ⟨fun q => absurd hd4 q, fun _ => w⟩⟩
    have t4 := z4.mpr c4
    rw [yAnd hcc, Int.toNat_natCast, if_neg (fun w => w t4), yAnd hcc, if_pos t4, zj_237_54 (by omega), yAnd hcc, Int.toNat_natCast, e2 (Or.inl hd4), hBy (Or.inl hd4), zr_237_64 (by omega), if_neg m01, Int.toNat_natCast]
    by_cases cy : y = -1
    · rw [if_neg (fun w => w cy)]
      exact k0 (fun w => en.mp w cy)
    · have k2 := k2 (en.mpr cy)
      have k1 := k1 (en.mpr cy)
      rw [if_pos cy, yAnd hcc, if_neg (fun w => w t4), yAnd hcc, if_pos t4, zj_237_131 (by omega), sy, zr_237_136 (by omega), if_neg m01, Int.toNat_natCast]
      by_cases cs : sy' = -1
      · rw [if_pos (Or.inr ⟨Or.inl hd4, cs⟩)] at k2
        rw [if_neg (fun w => w cs)]
        exact k2 rfl σ yFr.rf
      · obtain ⟨g, g1, g2⟩ := hyl cs
        obtain ⟨nn, n1, n2⟩ := (d4 (Or.inl hd4)).2
        rw [if_neg (fun w => by rcases w with w | w; exact w.1 hd4; exact cs w.2), if_neg (by omega), if_neg (by omega), if_neg (by omega), if_neg (by omega), if_pos hd4, g2, Int.toNat_natCast, n2] at k1 k2
        rw [if_pos cs, yAnd hcc, if_pos (fun w => by have := z0.mp w; omega), yAnd hcc, if_pos (fun w => by have := z3.mp w; omega), yAnd hcc, if_neg (fun w => w t4), yAnd hcc, yAnd hcc, e3 (by omega), e4 (by omega), n2, Int.toNat_natCast, g2]
        exact m_adds (yKK (by omega)) g1 hg hfr hR n1 h8 (wrap _ _ (fun v σ' => by rw [zr_237_249, zj_237_314]) k2 k1)
  · have hd4 : d.1 ≠ 4 := by omega
    have t4 : ¬ zlc (gL σ 160 i) 6579297 = 0 := fun w => c4 (z4.mp w)
    rw [yAnd hcc, Int.toNat_natCast, if_pos t4, yAnd hcc, e1 hd4, hBx hd4, zr_237_27 (by omega), yAnd hcc, Int.toNat_natCast, if_neg t4, yAnd hcc]
    by_cases c5 : k = 5
    · have hd5 : d.1 = 5 := by omega
      have t5 := z5.mpr c5
      have en : enm d x y ↔ (x ≠ -1 ∧ y ≠ -1) := ⟨fun w => ⟨w.1 hd4, w.2 (Or.inr hd5)⟩, fun w => ⟨fun _ => w.1, fun _ => w.2⟩⟩
      rw [if_neg (fun w => w t5), zj_237_54 (by omega), yAnd hcc, Int.toNat_natCast, e2 (Or.inr hd5), hBy (Or.inr hd5), zr_237_64 (by omega)]
      by_cases cx : x = -1
      · rw [if_pos cx]
        exact k0 (fun w => (en.mp w).1 cx)
      · rw [if_neg cx]
        by_cases cy : y = -1
        · rw [if_neg (fun w => w cy)]
          exact k0 (fun w => (en.mp w).2 cy)
        · have k2 := k2 (en.mpr ⟨cx, cy⟩)
          have k1 := k1 (en.mpr ⟨cx, cy⟩)
          rw [if_pos cy, yAnd hcc, Int.toNat_natCast, if_pos t4, sx, zr_237_103 (by omega), yAnd hcc, Int.toNat_natCast, if_neg t4, yAnd hcc, if_neg (fun w => w t5), zj_237_131 (by omega), sy, zr_237_136 (by omega)]
          by_cases cs : sx' = -1
          · rw [if_pos (Or.inl ⟨hd4, cs⟩)] at k2
            rw [if_pos cs]
            exact k2 rfl σ yFr.rf
          · rw [if_neg cs]
            by_cases cg : sy' = -1
            · rw [if_pos (Or.inr ⟨Or.inr hd5, cg⟩)] at k2
              rw [if_neg (fun w => w cg)]
              exact k2 rfl σ yFr.rf
            · obtain ⟨s, s1, s2⟩ := hxl cs
              obtain ⟨g, g1, g2⟩ := hyl cg
              obtain ⟨nn, n1, n2⟩ := (d4 (Or.inr hd5)).2
              rw [if_neg (fun w => by rcases w with w | w; exact cs w.2; exact cg w.2), if_neg (by omega), if_neg (by omega), if_neg (by omega), if_neg (by omega), if_neg hd4, s2, g2, Int.toNat_natCast, Int.toNat_natCast, n2] at k1 k2
              rw [if_pos cg, yAnd hcc, Int.toNat_natCast, if_pos (fun w => by have := z0.mp w; omega), yAnd hcc, if_pos (fun w => by have := z3.mp w; omega), yAnd hcc, if_pos t4, yAnd hcc, if_pos (fun w => by have := z1.mp w; omega), yAnd hcc, if_pos (fun w => by have := z2.mp w; omega), yAnd hcc, e4 (by omega), n2, Int.toNat_natCast, s2, g2]
              exact m_moves (yKK (by omega)) s1 g1 hg hR n1 h8 (wrap _ _ (fun v σ' => by rw [zr_237_312, zj_237_314]) k2 k1)
    · have hd5 : ¬ d.1 = 5 := by omega
      have t5 : ¬ zlc (gL σ 160 i) 1702260589 = 0 := fun w => c5 (z5.mp w)
      have en : enm d x y ↔ x ≠ -1 := ⟨fun w => w.1 hd4, fun w => ⟨fun _ => w, fun q => by omega⟩⟩
      rw [if_pos t5]
      by_cases cx : x = -1
      · rw [if_pos cx]
        exact k0 (fun w => en.mp w cx)
      · have k2 := k2 (en.mpr cx)
        have k1 := k1 (en.mpr cx)
        rw [if_neg cx, if_pos m01, yAnd hcc, if_pos t4, sx, zr_237_103 (by omega), yAnd hcc, Int.toNat_natCast, if_neg t4, yAnd hcc, if_pos t5]
        by_cases cs : sx' = -1
        · rw [if_pos (Or.inl ⟨hd4, cs⟩)] at k2
          rw [if_pos cs]
          exact k2 rfl σ yFr.rf
        · obtain ⟨s, s1, s2⟩ := hxl cs
          have hcs : 0 ≤ (s : Int) ∧ (s : Int) < 24 := by omega
          rw [if_neg (fun w => by rcases w with w | w; exact cs w.2; omega), s2, Int.toNat_natCast] at k1 k2
          rw [if_neg cs, if_pos m01, yAnd hcc, s2]
          by_cases c0 : k = 0
          · have hd0 : d.1 = 0 := by omega
            rw [if_pos hd0] at k1
            rw [if_neg (fun w => w (z0.mpr c0)), yAnd hcc, yAnd hcs, Int.toNat_natCast, e3 (by omega), zj_237_314, if_neg (show ¬ (1 : Int) = 0 by decide)]
            have hF2 : yFr (fun k j => k = 181 ∧ j = s) σ (sL σ 181 s d.2.2.2.1) := yFr.rf.L ⟨rfl, rfl⟩
            refine k1 _ rfl _ (hF2.mono (fun k j h => by omega)) ⟨(hF2.i (by omega)).trans hR.1, fun j hj => ?_⟩ ((hF2.i (by omega)).trans h8)
            obtain ⟨b1, b2, b3⟩ := hR.2 j hj
            refine ⟨?_, (hF2.i (by omega)).trans b2, (hF2.i (by omega)).trans b3⟩
            show gL (sL σ 181 s d.2.2.2.1) 181 j = fup r.2.1 s d.2.2.2.1 j
            rw [gL_sL]
            by_cases e : j = s
            · rw [if_pos ⟨rfl, e⟩, e, fup_eq]
            · rw [if_neg (fun w => e w.2), fup_ne e]; exact b1
          · rw [if_neg (by omega)] at k1 k2
            rw [if_pos (fun w => c0 (z0.mp w)), yAnd hcc]
            by_cases c3 : k = 3
            · rw [if_neg (by omega), if_neg (by omega), if_pos (by omega)] at k1 k2
              rw [if_neg (fun w => w (z3.mpr c3)), yAnd hcc, e3 (by omega)]
              exact m_wraps (yKK (by omega)) s1 hg hfr hR h8 (wrap _ _ (fun v σ' => by rw [zr_237_213, zj_237_314]) k2 k1)
            · rw [if_pos (fun w => c3 (z3.mp w)), yAnd hcc, if_pos t4, yAnd hcc]
              by_cases c1 : k = 1
              · rw [if_pos (by omega)] at k1 k2
                rw [if_neg (fun w => w (z1.mpr c1))]
                exact m_deletes (yKK (by omega)) s1 hg hR h8 (wrap _ _ (fun v σ' => by rw [zr_237_273, zj_237_314]) k2 k1)
              · rw [if_neg (by omega), if_pos (by omega)] at k1 k2
                rw [if_pos (fun w => c1 (z1.mp w)), yAnd hcc, if_neg (fun w => w (z2.mpr (by omega)))]
                exact m_excises (yKK (by omega)) s1 hg hR h8 (wrap _ _ (fun v σ' => by rw [zr_237_295, zj_237_314]) k2 k1)
