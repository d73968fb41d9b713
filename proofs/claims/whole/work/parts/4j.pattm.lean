/-! a part read by the model, from its beginning -/
theorem m_node {K : List zF} (hK : K.length + 9 ≤ 60) {f : Nat → Int} {L a : Nat} {st : PST} {here mk : Int} {m k : Nat} {σ : zW} (hT : mT f L σ) (ha : gI σ 122 2 = (a : Int)) (haL : a ≤ L) (hP : mP st σ) (hw : pw st) (hnw : nw st) (hl : 2 * st.2.1 ≤ a) (hh : here = -1 ∨ ∃ h : Nat, h < st.1 ∧ here = (h : Int)) (hmk : mk = 0 ∨ mk = 1 ∨ mk = 2) (hmk2 : mk = 2 → here = -1 ∨ st.2.2.2.1 9 here.toNat = -1)
    (k0 : ∀ (σ' : zW) (e : Nat × Nat), nodP f L st here mk m k (sk f L a) = .inl e → yFr Xnp σ σ' → gI σ' 122 6 = (e.1 : Nat) → gI σ' 122 7 = (e.2 : Nat) → zRet true K (some (.inl 0)) σ')
    (k1 : ∀ (σ' : zW) (r : PST × Nat), nodP f L st here mk m k (sk f L a) = .inr r → yFr Xnp σ σ' → gI σ' 122 2 = (r.2 : Nat) → mP r.1 σ' → nw r.1 → zRet true K (some (.inl 1)) σ') :
    zEv true (zent 158 [.inr (.inr 122), .inl here, .inl (sgR mk), .inl (m : Int), .inl (k : Int)] :: K) σ := by
  have h6 := hT.2.2.1
  have hs := sk_le (f := f) haL
  have hg := sk_ge f L a
  have hc8 := hw.1
  have hdn : denR st.2.2.2.1 here mk = 0 ∨ denR st.2.2.2.1 here mk = 1 := by
    unfold denR; split
    · exact Or.inr rfl
    · exact Or.inl rfl
  have go : zEv true (zent 157 [.inr (.inr 122), .inl (denR st.2.2.2.1 here mk)] :: (158, 73, [some (.inr (.inr 122)), some (.inl here), some (.inl (sgR mk)), some (.inl (m : Int)), some (.inl (k : Int)), some (.inl (denR st.2.2.2.1 here mk)), some (.inl (if here = -1 then 0 else st.2.2.2.1 9 here.toNat + 1)), none, none], []) :: K) σ := by
    refine m_begin (K := _) (yKK (K := K) (by omega)) hT ha haL hP.1 hP.2.2.1 hdn rfl (fun σ' e he hF h3 h4 => ?_) (fun σ1 hbeg hF1 g2 => ?_)
    · rw [zr_158_73 (by omega), if_neg (show ¬ ¬ (0 : Int) = 0 from fun w => w rfl)]
      refine k0 σ' e ?_ (hF.mono (fun k j h => by omega)) h3 h4
      unfold nodP
      rw [he]
    · generalize hpp : sk f L a = p at k0 k1 hs hg hbeg g2 ⊢
      generalize hz : tb f L p = z at hbeg
      obtain ⟨b1, b2, b3, b4⟩ := begR_none hbeg
      have hT1 := mT_fr hT hF1 (fun k j h => by omega)
      refine m_enter (f := f) (L := L) (n := st.2.2.1) (nb := nbrR (denR st.2.2.2.1 here mk) z) (p := p) (hd := hdR st.2.2.2.1 here mk st.1 + 1) (K := K) (by omega) hT1 g2 hz ((hF1.i (by omega)).trans hP.1) ((hF1.i (by omega)).trans hP.2.2.1) b1 hw.2.1 hdn rfl (hd_m hmk hmk2) (fun σ8 hF8 e35 e50 hr e122 e158 => ?_)
      generalize ha1 : (if zlet z then p else p + 1) = a1
      have a1L : a1 ≤ L := by rw [← ha1]; split <;> omega
      have pa1 : p ≤ a1 := by rw [← ha1]; split <;> omega
      have ea : w32 ((p : Int) + (if (if zlet z then (1 : Int) else 0) = 0 then 1 else 0)) = (a1 : Int) := by
        rw [← ha1]
        by_cases w : zlet z
        · rw [if_neg (by rw [if_pos w]; omega), if_pos w, zw_id (by omega) (by omega)]; omega
        · rw [if_pos (by rw [if_neg w]), if_neg w, zw_id (by omega) (by omega)]; omega
      rw [zr_158_303 (by omega), ea]
      have hF9 : yFr (Xnm st.1) σ (sI σ8 122 2 (a1 : Nat)) := ((hF1.mono (fun k j h => by omega)).trans hF8).I (by omega)
      have g9 : gI (sI σ8 122 2 (a1 : Nat)) 122 2 = (a1 : Nat) := yGI_hit
      have g35 : gI (sI σ8 122 2 (a1 : Nat)) 122 35 = ((st.1 + 1 : Nat) : Int) := by rw [gI_sI, if_neg (by omega)]; exact e35
      have g50 : gI (sI σ8 122 2 (a1 : Nat)) 122 50 = ((st.2.2.1 + nbrR (denR st.2.2.2.1 here mk) z : Nat) : Int) := by rw [gI_sI, if_neg (by omega)]; exact e50
      have g49 : gI (sI σ8 122 2 (a1 : Nat)) 122 49 = (st.2.1 : Nat) := by
        rw [gI_sI, if_neg (by omega), e122 49 (by omega), hF1.i (by omega)]; exact hP.2.1
      have gB : ∀ i, i < st.2.1 → gL (sI σ8 122 2 (a1 : Nat)) 158 i = st.2.2.2.2 i := by
        intro i hi
        rw [gL_sI, e158, hF1.l (by omega)]; exact hP.2.2.2.2 i hi
      have gr := rwc_u hr (k0 := 122) (j0 := 2) (v := (a1 : Nat)) (by decide)
      have hT9 := mT_fr hT hF9 (fun k j h => by omega)
      generalize sI σ8 122 2 (a1 : Nat) = σ9 at hF9 g9 g35 g50 g49 gB gr hT9 ⊢
      -- the rows
      have row : ∀ (ot : Int) (l' : Nat) (q : Nat), q < 12 → q ≠ 1 → q ≠ 2 → q ≠ 3 → gI σ9 (146 + q) st.1 = MR (fun j _ => rowR (kndR z) ot here mk (cop m k) (st.2.1 : Nat) (l' : Nat) (if nbrR (denR st.2.2.2.1 here mk) z = 1 then (st.2.2.1 : Nat) else -1) (hdR st.2.2.2.1 here mk st.1) (denR st.2.2.2.1 here mk) 0 (k : Nat) (m : Nat) j) q st.1 := by
        intro ot l' q q1 q2 q3 q4
        rw [← MR_row (nm := 0) (ot := ot) (op := cop m k) (l := (st.2.1 : Nat)) (l' := (l' : Nat)) q1 q2 q3 q4]
        refine gr q ?_
        rcases q12 q1 with rfl | rfl | rfl | rfl | rfl | rfl | rfl | rfl | rfl | rfl | rfl | rfl <;> first | decide | exact absurd rfl q2
      have row2 : gI σ9 148 st.1 = 0 := gr 2 (by decide)
      have row3 : gI σ9 149 st.1 = -1 := gr 3 (by decide)
      have hcc : 0 ≤ ((st.1 : Nat) : Int) ∧ ((st.1 : Nat) : Int) < 8 := by omega
      have fin := fun (σb : zW) (b : Int × Nat × (Nat → Int64) × Nat) => m_node2 (σb := σb) (b := b) (x6 := if here = -1 then 0 else st.2.2.2.1 9 here.toNat + 1) hK hT hP hw hnw hz hbeg ha1 k0 k1
      have hnod0 : ∀ e, bodR f L st.2.2.2.1 z a1 st.2.1 st.2.2.2.2 = .inl e → nodP f L st here mk m k p = .inl e := by
        intro e he
        unfold nodP
        rw [hz, hbeg, ha1]
        simp only
        rw [he]
      -- a told name
      have told : (z = 61 ∨ z = 126) → zEv true ((158, 329, [some (.inr (.inr 122)), some (.inl here), some (.inl (sgR mk)), some (.inl (m : Int)), some (.inl (k : Int)), some (.inl (denR st.2.2.2.1 here mk)), some (.inl (if here = -1 then 0 else st.2.2.2.1 9 here.toNat + 1)), some (.inl (st.1 : Nat)), some (.inl z)], []) :: K) σ9 := by
        intro hzz
        have hbt : bodR f L st.2.2.2.1 z a1 st.2.1 st.2.2.2.2 = (match tolR f L st.2.2.2.1 a1 with | .inl e => .inl e | .inr x => .inr (x.1, st.2.1, st.2.2.2.2, x.2)) := by
          unfold bodR
          rw [if_neg (by omega), if_pos hzz]
          cases tolR f L st.2.2.2.1 a1 <;> rfl
        unfold tolR at hbt
        rw [zj_158_329 (by omega)]
        refine m_nm (K := _) (yKK (K := K) (by omega)) hT9 g9 a1L (fun σ' q he hF2 h3 h4 => ?_) (fun σ' x q he hF2 h3 h4 h5 => ?_)
        · rw [he] at hbt
          rw [zr_158_333 (by omega), if_neg (show ¬ ¬ (0 : Int) = 0 from fun w => w rfl)]
          exact k0 σ' (1, q) (hnod0 _ hbt) ((hF9.mono (fun k j h => by omega)).trans (hF2.mono (fun k j h => by omega))) h3 h4
        · obtain ⟨n1, n2, n3, n4⟩ := nmA_ok he
          rw [he] at hbt
          simp only at hbt
          have hFx : yFr (Xnm st.1) σ σ' := hF9.trans (hF2.mono (fun k j h => by omega))
          have old : ∀ q i, q < 12 → q ≠ 1 → i < st.1 → gI σ' (146 + q) i = MR st.2.2.2.1 q i := fun q i q1 q2 hi => (hFx.i (by omega)).trans (hP.2.2.2.1 q i q1 (fun w => absurd w q2) hi)
          have row5 : gI σ' 151 st.1 = 0 := (hF2.i (by omega)).trans (gr 5 (by decide))
          rw [zr_158_333 (by omega), if_pos (show ¬ (1 : Int) = 0 by omega), h5, m_named n3 b1 hw hnw ((hF2.i (by omega)).trans g35) (fun i hi => old 5 i (by decide) (by decide) hi) (fun i hi => old 7 i (by decide) (by decide) hi) (fun i hi => old 6 i (by decide) (by decide) hi) row5, zr_158_352 (by omega), yAnd hcc, yAnd hcc, Int.toNat_natCast, yGI_hit]
          have h13b := hw.2.2.1 x n3
          by_cases hok : st.2.2.2.1 13 x = -1 ∨ ¬ pln st.2.2.2.1 (st.2.2.2.1 13 x).toNat
          · rw [if_pos hok] at hbt
            have hneg : ¬ 0 ≤ (if st.2.2.2.1 13 x = -1 then (-1 : Int) else if pln st.2.2.2.1 (st.2.2.2.1 13 x).toNat then st.2.2.2.1 13 x else -2) := by
              rcases hok with w | w
              · rw [if_pos w]; omega
              · rw [if_neg w]; split <;> omega
            rw [if_neg hneg, m_fails, zr_158_372, yAnd (Or.inl rfl)]
            refine k0 _ (4, q - 1) (hnod0 _ hbt) ((((hFx.I (by omega)).mono (fun k j h => by omega)).I (by omega)).I (by omega)) (by rw [gI_sI, if_neg (by omega), yGI_hit]; rfl) ?_
            rw [yGI_hit]; exact h4
          · rw [if_neg hok] at hbt
            have w1 : ¬ st.2.2.2.1 13 x = -1 := fun w => hok (Or.inl w)
            have w2 : pln st.2.2.2.1 (st.2.2.2.1 13 x).toNat := Decidable.not_not.mp (fun w => hok (Or.inr w))
            have hval : (if st.2.2.2.1 13 x = -1 then (-1 : Int) else if pln st.2.2.2.1 (st.2.2.2.1 13 x).toNat then st.2.2.2.1 13 x else -2) = st.2.2.2.1 13 x := by rw [if_neg w1, if_pos w2]
            rw [hval, if_pos (by omega)]
            refine fin _ (st.2.2.2.1 13 x, st.2.1, st.2.2.2.2, q) hbt (hFx.I (by omega)) (by rw [gI_sI, if_neg (by omega)]; exact h3) (by dsimp only; omega) (by rw [gI_sI, if_neg (by omega), hF2.i (by omega)]; exact g35) (by rw [gI_sI, if_neg (by omega), hF2.i (by omega)]; exact g49) (by rw [gI_sI, if_neg (by omega), hF2.i (by omega)]; exact g50) (fun q q1 q2 => ?_) (fun i hi => by rw [gL_sI, hF2.l (by omega)]; exact gB i hi)
            have hq1 : q ≠ 1 := fun w => q2 w rfl
            by_cases e3 : q = 3
            · subst e3
              show gI (sI σ' 149 st.1 _) 149 st.1 = _
              rw [yGI_hit]; rfl
            · rw [gI_sI, if_neg (by omega), hF2.i (by omega)]
              by_cases e2 : q = 2
              · subst e2
                refine row2.trans ?_
                show (0 : Int) = ((st.2.1 : Nat) : Int) - (st.2.1 : Nat)
                omega
              · exact row _ _ q q1 hq1 e2 e3
      by_cases z126 : z = 126
      · rw [if_pos z126]
        exact told (Or.inr z126)
      · rw [if_neg z126]
        by_cases z61 : z = 61
        · rw [if_neg (show ¬ ¬ z = 61 from fun w => w z61)]
          exact told (Or.inl z61)
        · rw [if_pos z61]
          by_cases z42 : z = 42
          · rw [if_pos z42]
            refine fin σ9 (-1, st.2.1, st.2.2.2.2, a1) (if_pos z42) hF9 g9 a1L g35 g49 g50 (fun q q1 q2 => ?_) gB
            have hq1 : q ≠ 1 := fun w => q2 w rfl
            by_cases e2 : q = 2
            · subst e2
              refine row2.trans ?_
              show (0 : Int) = ((st.2.1 : Nat) : Int) - (st.2.1 : Nat)
              omega
            · by_cases e3 : q = 3
              · subst e3; exact row3
              · exact row _ _ q q1 hq1 e2 e3
          · rw [if_neg z42, ze_156, yAnd hcc, Int.toNat_natCast, g49]
            have hbl : bodR f L st.2.2.2.1 z a1 st.2.1 st.2.2.2.2 = (match lbR f L (L + 1) a1 st.2.1 st.2.2.2.2 with | .inl e => .inl e | .inr x => .inr (-1, x)) := by
              unfold bodR
              rw [if_neg z42, if_neg (by omega)]
              cases lbR f L (L + 1) a1 st.2.1 st.2.2.2.2 <;> rfl
            have hFq : yFr (fun k j => k = 147 ∧ j = st.1) σ9 (sI σ9 147 st.1 (st.2.1 : Nat)) := yFr.rf.I ⟨rfl, rfl⟩
            have e147 : gI (sI σ9 147 st.1 (st.2.1 : Nat)) 147 st.1 = (st.2.1 : Nat) := yGI_hit
            generalize sI σ9 147 st.1 (st.2.1 : Nat) = σq at hFq e147 ⊢
            have hFs : yFr (Xnm st.1) σ σq := hF9.trans (hFq.mono (fun k j h => by omega))
            refine m_labels_loop (K := _) (c := st.1) (yKK (K := K) (by omega)) b1 (L + 1) a1 st.2.1 st.2.1 st.2.2.2.2 σq (by omega) a1L (by omega) (mT_fr hT hFs (fun k j h => by omega)) ((hFq.i (by omega)).trans g9) ((hFq.i (by omega)).trans g49) (Nat.le_refl _) ((hFq.i (by omega)).trans (row2.trans (by omega))) (fun i hi => (hFq.l (by omega)).trans (gB i hi)) (fun σ' e he hF2 h3 h4 => ?_) (fun σ' r hr2 hF2 j2 j49 j148 jB => ?_)
            · rw [he] at hbl
              rw [zr_158_386, if_neg (show ¬ ¬ (0 : Int) = 0 from fun w => w rfl)]
              exact k0 σ' e (hnod0 _ hbl) ((hFs.mono (fun k j h => by omega)).trans (hF2.mono (fun k j h => by omega))) h3 h4
            · rw [hr2] at hbl
              obtain ⟨p1, p2, p3, p4⟩ := lbR_ok _ _ _ _ _ hr2 a1L (by omega)
              rw [zr_158_386, if_pos (show ¬ (1 : Int) = 0 by omega)]
              refine fin σ' (-1, r) hbl (hFs.trans (hF2.mono (fun k j h => by omega))) j2 p2 (by rw [hF2.i (by omega), hFq.i (by omega)]; exact g35) j49 (by rw [hF2.i (by omega), hFq.i (by omega)]; exact g50) (fun q q1 q2 => ?_) jB
              by_cases e1 : q = 1
              · subst e1
                refine ((hF2.i (by omega)).trans e147).trans ?_
                rfl
              · by_cases e2 : q = 2
                · subst e2; exact j148
                · rw [hF2.i (by omega), hFq.i (by omega)]
                  by_cases e3 : q = 3
                  · subst e3; exact row3
                  · exact row _ _ q q1 e1 e2 e3
  rw [ze_158 (by omega)]
  rcases hh with h | ⟨h, h1, h2⟩
  · rw [if_pos h] at go
    by_cases h33 : sgR mk = 33
    · have hm1 : mk = 1 := by
        rcases hmk with w | w | w
        · rw [w] at h33; exact absurd h33 (by decide)
        · exact w
        · rw [w] at h33; exact absurd h33 (by decide)
      have ed : denR st.2.2.2.1 here mk = 1 := by unfold denR; rw [if_pos (Or.inl hm1)]
      rw [ed] at go
      rw [if_pos h33, if_pos h]
      exact go
    · have hm1 : mk ≠ 1 := fun w => h33 (by rw [w]; rfl)
      have ed : denR st.2.2.2.1 here mk = 0 := by unfold denR; rw [if_neg (fun w => w.elim hm1 (fun w => w.1 h))]
      rw [ed] at go
      rw [if_neg h33, if_pos h, zj_158_24 (by omega), if_pos h]
      exact go
  · have hne : ¬ here = -1 := by omega
    have hcc : 0 ≤ here ∧ here < 8 := by omega
    have e153 : gI σ 153 here.toNat = st.2.2.2.1 11 here.toNat := by rw [h2, Int.toNat_natCast]; exact hP.2.2.2.1 7 h (by decide) (fun w => absurd w (by decide)) h1
    have e152 : gI σ 152 here.toNat = st.2.2.2.1 9 here.toNat + 1 := by rw [h2, Int.toNat_natCast]; exact hP.2.2.2.1 6 h (by decide) (fun w => absurd w (by decide)) h1
    rw [if_neg hne] at go
    have m59 : ∀ (dn : Int) (o6 : Option zV), denR st.2.2.2.1 here mk = dn → zEv true ((158, 59, [some (.inr (.inr 122)), some (.inl here), some (.inl (sgR mk)), some (.inl (m : Int)), some (.inl (k : Int)), some (.inl dn), o6, none, none], []) :: K) σ := by
      intro dn o6 hd
      rw [zj_158_59 (by omega), yAnd hcc, e152, ← hd]
      exact go
    have one : denR st.2.2.2.1 here mk = 1 → (if here = -1 then zEv true (zent 157 [.inr (.inr 122), .inl 1] :: (158, 73, [some (.inr (.inr 122)), some (.inl here), some (.inl (sgR mk)), some (.inl (m : Int)), some (.inl (k : Int)), some (.inl 1), some (.inl 0), none, none], []) :: K) σ else if (1 : Int) = 0 then zEv true ((158, 59, [some (.inr (.inr 122)), some (.inl here), some (.inl (sgR mk)), some (.inl (m : Int)), some (.inl (k : Int)), some (.inl 1), none, none, none], []) :: K) σ else (0 ≤ here ∧ here < 8) ∧ (if ¬ (gI σ 153 here.toNat) = 0 then zEv true ((158, 59, [some (.inr (.inr 122)), some (.inl here), some (.inl (sgR mk)), some (.inl (m : Int)), some (.inl (k : Int)), some (.inl 1), none, none, none], []) :: K) σ else (0 ≤ here ∧ here < 8) ∧ (if ¬ (gI σ 152 here.toNat) = 0 then zEv true ((158, 59, [some (.inr (.inr 122)), some (.inl here), some (.inl (sgR mk)), some (.inl (m : Int)), some (.inl (k : Int)), some (.inl 1), none, none, none], []) :: K) σ else zEv true (zent 157 [.inr (.inr 122), .inl 1] :: (158, 73, [some (.inr (.inr 122)), some (.inl here), some (.inl (sgR mk)), some (.inl (m : Int)), some (.inl (k : Int)), some (.inl 1), some (.inl 0), none, none], []) :: K) σ))) := by
      intro hd
      rw [if_neg hne, if_neg (show ¬ (1 : Int) = 0 by omega), yAnd hcc]
      by_cases h11 : gI σ 153 here.toNat = 0
      · rw [if_neg (show ¬ ¬ gI σ 153 here.toNat = 0 from fun w => w h11), yAnd hcc]
        by_cases h12 : gI σ 152 here.toNat = 0
        · rw [if_neg (show ¬ ¬ gI σ 152 here.toNat = 0 from fun w => w h12)]
          rw [hd, ← e152, h12] at go
          exact go
        · rw [if_pos h12]; exact m59 1 _ hd
      · rw [if_pos h11]; exact m59 1 _ hd
    by_cases h33 : sgR mk = 33
    · have hm1 : mk = 1 := by
        rcases hmk with w | w | w
        · rw [w] at h33; exact absurd h33 (by decide)
        · exact w
        · rw [w] at h33; exact absurd h33 (by decide)
      rw [if_pos h33]
      exact one (by unfold denR; rw [if_pos (Or.inl hm1)])
    · have hm1 : mk ≠ 1 := fun w => h33 (by rw [w]; rfl)
      rw [if_neg h33, if_neg hne, yAnd hcc]
      by_cases h11 : gI σ 153 here.toNat = 0
      · rw [if_pos h11, zj_158_24 (by omega), if_neg hne, if_pos (show (0 : Int) = 0 from rfl)]
        refine m59 0 _ ?_
        unfold denR
        rw [if_neg (fun w => w.elim hm1 (fun w => w.2 (by rw [← e153]; exact h11)))]
      · rw [if_neg h11]
        refine one ?_
        unfold denR
        rw [if_pos (Or.inr ⟨hne, fun w => h11 (by rw [e153]; exact w)⟩)]
