/-! a part read by the model -/
abbrev Xnp : Nat → Nat → Prop := fun k j => (k = 122 ∧ ((2 ≤ j ∧ j ≤ 7) ∨ j = 35 ∨ j = 49 ∨ j = 50)) ∨ (146 ≤ k ∧ k ≤ 158)
theorem q12 {q : Nat} (h : q < 12) : q = 0 ∨ q = 1 ∨ q = 2 ∨ q = 3 ∨ q = 4 ∨ q = 5 ∨ q = 6 ∨ q = 7 ∨ q = 8 ∨ q = 9 ∨ q = 10 ∨ q = 11 := by omega
theorem MR_nm {kd ot hr mk op l l' nu hd dn nm n m nm' : Int} {q c : Nat} (hq : q < 12) (h5 : q ≠ 5) : MR (fun j _ => rowR kd ot hr mk op l l' nu hd dn nm n m j) q c = MR (fun j _ => rowR kd ot hr mk op l l' nu hd dn nm' n m j) q c := by
  rcases q12 hq with rfl | rfl | rfl | rfl | rfl | rfl | rfl | rfl | rfl | rfl | rfl | rfl <;> first | rfl | exact absurd rfl h5
theorem MR_row {kd ot hr mk op l l' nu hd dn nm n m : Int} {q c : Nat} (hq : q < 12) (h1 : q ≠ 1) (h2 : q ≠ 2) (h3 : q ≠ 3) : rowM kd hr (sgR mk) m n dn (hd + 1) nu q = MR (fun j _ => rowR kd ot hr mk op l l' nu hd dn 0 n m j) q c := by
  rcases q12 hq with rfl | rfl | rfl | rfl | rfl | rfl | rfl | rfl | rfl | rfl | rfl | rfl <;> first | rfl | exact absurd rfl h1 | exact absurd rfl h2 | exact absurd rfl h3
theorem m_node2 {K : List zF} (hK : K.length + 9 ≤ 60) {f : Nat → Int} {L p a1 : Nat} {st : PST} {here mk z : Int} {m k : Nat} {b : Int × Nat × (Nat → Int64) × Nat} {x6 : Int} {σ σb : zW} (hT : mT f L σ) (hP : mP st σ) (hw : pw st) (hnw : nw st)
    (hz : tb f L p = z) (hbeg : begR f L p st.1 st.2.2.1 (nbrR (denR st.2.2.2.1 here mk) z) = none) (ha1 : (if zlet z then p else p + 1) = a1)
    (k0 : ∀ (σ' : zW) (e : Nat × Nat), nodP f L st here mk m k p = .inl e → yFr Xnp σ σ' → gI σ' 122 6 = (e.1 : Nat) → gI σ' 122 7 = (e.2 : Nat) → zRet true K (some (.inl 0)) σ')
    (k1 : ∀ (σ' : zW) (r : PST × Nat), nodP f L st here mk m k p = .inr r → yFr Xnp σ σ' → gI σ' 122 2 = (r.2 : Nat) → mP r.1 σ' → nw r.1 → zRet true K (some (.inl 1)) σ')
    (hbo : bodR f L st.2.2.2.1 z a1 st.2.1 st.2.2.2.2 = .inr b) (hF : yFr (Xnm st.1) σ σb) (f2 : gI σb 122 2 = (b.2.2.2 : Nat)) (fL : b.2.2.2 ≤ L) (f35 : gI σb 122 35 = ((st.1 + 1 : Nat) : Int)) (f49 : gI σb 122 49 = (b.2.1 : Nat)) (f50 : gI σb 122 50 = ((st.2.2.1 + nbrR (denR st.2.2.2.1 here mk) z : Nat) : Int))
    (frow : ∀ q, q < 12 → (q = 1 → b.2.1 ≠ st.2.1) → gI σb (146 + q) st.1 = MR (fun j _ => rowR (kndR z) b.1 here mk (cop m k) (st.2.1 : Nat) (b.2.1 : Nat) (if nbrR (denR st.2.2.2.1 here mk) z = 1 then (st.2.2.1 : Nat) else -1) (hdR st.2.2.2.1 here mk st.1) (denR st.2.2.2.1 here mk) 0 (k : Nat) (m : Nat) j) q st.1) (fB : ∀ i, i < b.2.1 → gL σb 158 i = b.2.2.1 i) :
    zEv true ((158, 391, [some (.inr (.inr 122)), some (.inl here), some (.inl (sgR mk)), some (.inl (m : Int)), some (.inl (k : Int)), some (.inl (denR st.2.2.2.1 here mk)), some (.inl x6), some (.inl (st.1 : Nat)), some (.inl z)], []) :: K) σb := by
  have h6 := hT.2.2.1
  have hc := (begR_none hbeg).1
  have hTb := mT_fr hT hF (fun k j h => by omega)
  have hFp : yFr Xnp σ σb := hF.mono (fun k j h => by omega)
  have hnod0 : ∀ e, namR f L st.2.2.2.1 z b.2.2.2 = .inl e → nodP f L st here mk m k p = .inl e := by
    intro e he
    unfold nodP
    rw [hz, hbeg, ha1]
    simp only
    rw [hbo]
    simp only
    rw [he]
  have hnod1 : ∀ w, namR f L st.2.2.2.1 z b.2.2.2 = .inr w → nodP f L st here mk m k p = .inr (nodE st here mk m k z b w.1, w.2) := by
    intro w hw
    unfold nodP
    rw [hz, hbeg, ha1]
    simp only
    rw [hbo]
    simp only
    rw [hw]
  rw [zj_158_391 (by omega)]
  by_cases z61 : z = 61
  · rw [if_pos z61]
    have hna : namR f L st.2.2.2.1 z b.2.2.2 = .inr (0, b.2.2.2) := if_pos z61
    exact k1 σb _ (hnod1 _ hna) hFp f2 (mP_end hP hF f35 f49 f50 frow fB) (nodE_nw hnw (Or.inl rfl))
  · have hna : namR f L st.2.2.2.1 z b.2.2.2 = givR f L st.2.2.2.1 b.2.2.2 := if_neg z61
    rw [hna] at hnod0 hnod1
    have hs := sk_le (f := f) fL
    unfold givR at hnod0 hnod1
    rw [if_neg z61, m_sign (yKK (by omega)) hTb f2, zr_158_402 (by omega), yGI_hit]
    by_cases h61 : tb f L (sk f L b.2.2.2) = 61
    · have hlt := tb_in (f := f) (L := L) (p := sk f L b.2.2.2) (by omega)
      rw [if_pos h61] at hnod0 hnod1
      rw [if_neg (show ¬ ¬ tb f L (sk f L b.2.2.2) = 61 from fun w => w h61), zw_id (by omega) (by omega), sI_sI, show ((sk f L b.2.2.2 : Nat) : Int) + 1 = ((sk f L b.2.2.2 + 1 : Nat) : Int) by omega]
      have hF1 : yFr (Xnm st.1) σ (sI σb 122 2 ((sk f L b.2.2.2 + 1 : Nat) : Int)) := hF.I (by omega)
      refine m_nm (K := _) (yKK (K := K) (by omega)) (mT_u hTb (by omega)) yGI_hit (by omega) (fun σ' q he hF2 h3 h4 => ?_) (fun σ' x q he hF2 h3 h4 h5 => ?_)
      · rw [he] at hnod0
        rw [zr_158_421 (by omega), if_neg (show ¬ ¬ (0 : Int) = 0 from fun w => w rfl)]
        exact k0 σ' (1, q) (hnod0 _ rfl) ((hF1.mono (fun k j h => by omega)).trans (hF2.mono (fun k j h => by omega))) h3 h4
      · obtain ⟨n1, n2, n3, n4⟩ := nmA_ok he
        rw [he] at hnod0 hnod1
        simp only at hnod0 hnod1
        have hF9 : yFr (Xnm st.1) σ σ' := hF1.trans (hF2.mono (fun k j h => by omega))
        have hFx : yFr (fun k j => k = 122 ∧ 2 ≤ j ∧ j ≤ 7) σb σ' := (yFr.rf.I (by omega)).trans hF2
        have g35 := (hFx.i (k := 122) (j := 35) (by omega)).trans f35
        have old : ∀ q i, q < 12 → q ≠ 1 → i < st.1 → gI σ' (146 + q) i = MR st.2.2.2.1 q i := fun q i q1 q2 hi => (hF9.i (by omega)).trans (hP.2.2.2.1 q i q1 (fun w => absurd w q2) hi)
        have row5 : gI σ' 151 st.1 = 0 := (hFx.i (by omega)).trans (frow 5 (by decide) (fun w => absurd w (by decide)))
        rw [zr_158_421 (by omega), if_pos (show ¬ (1 : Int) = 0 by omega), h5, m_named n3 hc hw hnw g35 (fun i hi => old 5 i (by decide) (by decide) hi) (fun i hi => old 7 i (by decide) (by decide) hi) (fun i hi => old 6 i (by decide) (by decide) hi) row5, zr_158_434 (by omega)]
        have hcc : 0 ≤ ((st.1 : Nat) : Int) ∧ ((st.1 : Nat) : Int) < 8 := by omega
        by_cases h13 : st.2.2.2.1 13 x = -1
        · rw [if_pos h13] at hnod1
          rw [if_pos (show (if st.2.2.2.1 13 x = -1 then (-1 : Int) else if pln st.2.2.2.1 (st.2.2.2.1 13 x).toNat then st.2.2.2.1 13 x else -2) = -1 from if_pos h13), yAnd hcc, Int.toNat_natCast, h5]
          have hd : ∀ n : Nat, n < 200 → zl2i (zi2l (n : Int)) = (n : Int) := by decide +kernel
          have e97 : zl2i (zi2l ((x : Nat) + 97)) = (x : Int) + 97 := by
            have := hd (x + 97) (by omega)
            rw [show ((x + 97 : Nat) : Int) = (x : Int) + 97 by omega] at this
            exact this
          rw [e97]
          have hFz : yFr (Xnm st.1) σ (sI σ' 151 st.1 ((x : Int) + 97)) := hF9.I (by omega)
          refine k1 _ _ (hnod1 _ rfl) (hFz.mono (fun k j h => by omega)) (by rw [gI_sI, if_neg (by omega)]; exact h3) ?_ (nodE_nw hnw (Or.inr ⟨x, n3, rfl, h13⟩))
          refine mP_end hP hFz (by rw [gI_sI, if_neg (by omega)]; exact g35) (by rw [gI_sI, if_neg (by omega), hFx.i (by omega)]; exact f49) (by rw [gI_sI, if_neg (by omega), hFx.i (by omega)]; exact f50) (fun q q1 q2 => ?_) (fun i hi => by rw [gL_sI, hFx.l (by omega)]; exact fB i hi)
          by_cases e : q = 5
          · subst e
            show gI (sI σ' 151 st.1 _) 151 st.1 = _
            rw [yGI_hit]; rfl
          · rw [gI_sI, if_neg (by omega), hFx.i (by omega), frow q q1 q2]
            exact MR_nm q1 e
        · rw [if_neg h13] at hnod0
          have hne : ¬ (if st.2.2.2.1 13 x = -1 then (-1 : Int) else if pln st.2.2.2.1 (st.2.2.2.1 13 x).toNat then st.2.2.2.1 13 x else -2) = -1 := by
            rw [if_neg h13]
            split
            · exact h13
            · omega
          rw [if_neg hne, m_fails, zr_158_447, yAnd (Or.inl rfl), h4]
          exact k0 _ (4, q - 1) (hnod0 _ rfl) (((hF9.mono (fun k j h => by omega)).I (by omega)).I (by omega)) (by rw [gI_sI, if_neg (by omega), yGI_hit]; rfl) yGI_hit
    · rw [if_neg h61] at hnod1
      rw [if_pos h61]
      have hFz : yFr (Xnm st.1) σ (sI σb 122 2 (sk f L b.2.2.2 : Nat)) := hF.I (by omega)
      refine k1 _ _ (hnod1 _ rfl) (hFz.mono (fun k j h => by omega)) yGI_hit ?_ (nodE_nw hnw (Or.inl rfl))
      exact mP_end hP hFz (by rw [gI_sI, if_neg (by omega)]; exact f35) (by rw [gI_sI, if_neg (by omega)]; exact f49) (by rw [gI_sI, if_neg (by omega)]; exact f50) (fun q q1 q2 => by rw [gI_sI, if_neg (by omega)]; exact frow q q1 q2) (fun i hi => by rw [gL_sI]; exact fB i hi)
