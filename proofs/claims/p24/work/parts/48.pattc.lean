/-! a part read by the class -/
abbrev Xpt (t : Nat) : Nat → Nat → Prop := fun k j => (k = 2 ∧ 2 ≤ j ∧ j ≤ 4) ∨ (t + 1 ≤ k ∧ k ≤ t + 14) ∨ (k = t ∧ 14 ≤ j ∧ j ≤ 16)
abbrev Xpg (t : Nat) : Nat → Nat → Prop := fun k j => (k = 2 ∧ j = 2) ∨ (t + 1 ≤ k ∧ k ≤ t + 14) ∨ (k = t ∧ 14 ≤ j ∧ j ≤ 16)
theorem rowR_11 {kd ot hr mk op l l' nu hd dn nm n m nm' n' m' : Int} {q : Nat} (h1 : 1 ≤ q) (h2 : q ≤ 11) (h3 : q ≠ 10) : rowR kd ot hr mk op l l' nu hd dn nm n m q = rowR kd ot hr mk op l l' nu hd dn nm' n' m' q := by
  rcases q_cases h1 h2 h3 with rfl | rfl | rfl | rfl | rfl | rfl | rfl | rfl | rfl | rfl <;> rfl
theorem begR_none {f : Nat → Int} {L p c n nb : Nat} (h : begR f L p c n nb = none) : c < 8 ∧ (nb = 1 → n < 4) ∧ p < L ∧ (zlet (tb f L p) → wl f L p ≤ 6) := by
  unfold begR at h
  split at h
  · cases h
  · rename_i h1
    split at h
    · cases h
    · split at h
      · cases h
      · refine ⟨by omega, by omega, ?_, by omega⟩
        refine tb_in (f := f) (fun w => h1 ?_)
        rw [w]
        decide
theorem nodP_pw {f : Nat → Int} {L p m k : Nat} {st : PST} {here mk : Int} {r : PST × Nat} (hw : pw st) (hh : here = -1 ∨ ∃ h : Nat, h < st.1 ∧ here = (h : Int)) (h : nodP f L st here mk m k p = .inr r) : pw r.1 ∧ r.1.1 = st.1 + 1 ∧ st.1 < 8 ∧ (∀ q i, i < st.1 → q ≠ 13 → q ≠ 14 → r.1.2.2.2.1 q i = st.2.2.2.1 q i) ∧ r.1.2.2.2.1 3 st.1 = here := by
  unfold nodP at h
  split at h
  · cases h
  · rename_i hb
    obtain ⟨b1, b2, b3, b4⟩ := begR_none hb
    split at h
    · cases h
    · rename_i b hbo
      split at h
      · cases h
      · rename_i w hna
        cases h
        obtain ⟨w1, w2, w3, w4⟩ := hw
        have hn1 : nbrR (denR st.2.2.2.1 here mk) (tb f L p) ≤ 1 := by unfold nbrR; split <;> omega
        unfold nodE
        have hold : ∀ q i, i < st.1 → q ≠ 13 → q ≠ 14 → ∀ (n nb : Nat) (nm : Int) (row : Nat → Int), entR st.2.2.2.1 st.1 n nb nm row q i = st.2.2.2.1 q i := by
          intro q i hi h1 h2 n nb nm row
          unfold entR
          rw [if_neg h1, if_neg h2, if_neg (by omega)]
        refine ⟨⟨?_, ?_, fun x hx => ?_, fun i hi => ?_⟩, rfl, b1, fun q i hi h1 h2 => hold q i hi h1 h2 _ _ _ _, ?_⟩
        · dsimp only; omega
        · dsimp only; omega
        · have := w3 x hx
          dsimp only [entR]
          rw [if_pos rfl]
          split <;> omega
        · dsimp only at hi ⊢
          by_cases e : i = st.1
          · subst e
            dsimp only [entR]
            simp only [Nat.reduceEqDiff, if_false, if_true, rowR]
            refine ⟨by rcases hh with h | ⟨h, h1, h2⟩ <;> omega, by rcases hh with h | ⟨h, h1, h2⟩ <;> omega, ?_, ?_, ?_⟩
            · unfold hdR
              rcases hh with h | ⟨h, h1, h2⟩
              · rw [if_neg (fun w => w.1 h)]; split <;> omega
              · have := w4 h h1
                rw [h2, Int.toNat_natCast]
                split
                · omega
                · split <;> omega
            · unfold hdR
              rcases hh with h | ⟨h, h1, h2⟩
              · rw [if_neg (fun w => w.1 h)]; split <;> omega
              · have := w4 h h1
                rw [h2, Int.toNat_natCast]
                split
                · omega
                · split <;> omega
            · unfold denR
              split
              · exact Or.inr rfl
              · exact Or.inl rfl
          · rw [hold 3 i (by omega) (by omega) (by omega), hold 9 i (by omega) (by omega) (by omega), hold 11 i (by omega) (by omega) (by omega)]
            exact w4 i (by omega)
        · dsimp only [entR]
          simp only [Nat.reduceEqDiff, if_false, if_true, rowR]
theorem c_node {K : List zF} (hK : K.length + 6 ≤ 60) {f : Nat → Int} {L a t : Nat} {st : PST} {here mk : Int} {m k : Nat} {σ : zW} (ht : zPn t) (hT : cT f L σ) (ha : gI σ 2 2 = (a : Int)) (haL : a ≤ L) (hP : cP t st σ) (hw : pw st) (hl : 2 * st.2.1 ≤ a) (hh : here = -1 ∨ ∃ h : Nat, h < st.1 ∧ here = (h : Int))
    (k0 : ∀ (σ' : zW) (e : Nat × Nat), nodP f L st here mk m k (sk f L a) = .inl e → yFr (Xpt t) σ σ' → gI σ' 2 3 = (e.1 : Nat) → gI σ' 2 4 = (e.2 : Nat) → zRet true K (some (.inl 0)) σ')
    (k1 : ∀ (σ' : zW) (r : PST × Nat), nodP f L st here mk m k (sk f L a) = .inr r → yFr (Xpg t) σ σ' → r.2 ≤ L → a < r.2 → 2 * r.1.2.1 ≤ r.2 + 1 → gI σ' 2 2 = (r.2 : Nat) → cP t r.1 σ' → pw r.1 → zRet true K (some (.inl 1)) σ') :
    zEv true (zent 47 [.inr (.inr t), .inr (.inr 2), .inl here, .inl mk, .inl (cop m k)] :: K) σ := by
  have hb := zPn_b ht
  have h6 := hT.2.2.1
  have hs := sk_le (f := f) haL
  have hg := sk_ge f L a
  have hpw := fun r => nodP_pw (f := f) (L := L) (p := sk f L a) (m := m) (k := k) (mk := mk) (r := r) hw hh
  rw [ze_47 (by omega), c_next (yL (by omega)) hT ha]
  generalize hpp : sk f L a = p at k0 k1 hs hg hpw ⊢
  have hF1 : yFr (fun k j => k = 2 ∧ j = 2) σ (sI σ 2 2 (p : Nat)) := yFr.rf.I ⟨rfl, rfl⟩
  have hT1 : cT f L (sI σ 2 2 (p : Nat)) := cT_u hT (by omega)
  have g2 : gI (sI σ 2 2 (p : Nat)) 2 2 = (p : Int) := yGI_hit
  generalize sI σ 2 2 (p : Nat) = σ1 at hF1 hT1 g2 ⊢
  have hPP := hP
  obtain ⟨p1, p2, p3, p4, p5, p6, p7⟩ := hP
  have g15 := (hF1.i (k := t) (j := 15) (by omega)).trans p1
  have g14 := (hF1.i (k := t) (j := 14) (by omega)).trans p2
  have g16 := (hF1.i (k := t) (j := 16) (by omega)).trans p3
  have hdn : denR st.2.2.2.1 here mk = 0 ∨ denR st.2.2.2.1 here mk = 1 := by
    unfold denR; split
    · exact Or.inr rfl
    · exact Or.inl rfl
  have main : ∀ o8 : Option zV, zEv true (zent 48 [.inr (.inr t), .inr (.inr 2), .inl (tb f L p), .inl (nbrR (denR st.2.2.2.1 here mk) (tb f L p) : Nat)] :: (47, 60, [some (.inr (.inr t)), some (.inr (.inr 2)), some (.inl here), some (.inl mk), some (.inl (cop m k)), some (.inl (tb f L p)), some (.inl (denR st.2.2.2.1 here mk)), some (.inl (nbrR (denR st.2.2.2.1 here mk) (tb f L p) : Nat)), o8], []) :: K) σ1 := by
    intro o8
    unfold nodP at k0 k1
    generalize hz : tb f L p = z at k0 k1 ⊢
    generalize hdnv : denR st.2.2.2.1 here mk = dn at k0 k1 hdn ⊢
    have hn1 : nbrR dn z ≤ 1 := by unfold nbrR; split <;> omega
    generalize hnbv : nbrR dn z = nb at k0 k1 hn1 ⊢
    rw [c_begun (yKK (by omega)) ht hT1 g2 hz.symm rfl g15 g16 hn1]
    cases hbeg : begR f L p st.1 st.2.2.1 nb with
    | some e =>
      rw [hbeg] at k0
      simp only at k0 ⊢
      rw [zr_47_60 (by omega) ht, if_neg (fun w => w rfl)]
      refine k0 _ e rfl (((hF1.mono ?_).I ?_).I ?_) ?_ ?_
      · intro k j h; omega
      all_goals first | omega | (simp (disch := omega) only [if_pos, if_neg, yAnd, Int.toNat_natCast, zw_id, gI_sI, gI_sL, gI_sR, gL_sI, gL_sL, gL_sR, gR_sI, gR_sL, gR_sR, true_and, and_true, and_self, ite_true, ite_false, ite_self, not_true_eq_false, not_false_eq_true, or_true, true_or, or_false, false_or, yB0, yB1, Decidable.not_not]; done) | (simp (disch := omega) only [if_pos, if_neg, yAnd, Int.toNat_natCast, zw_id, gI_sI, gI_sL, gI_sR, gL_sI, gL_sL, gL_sR, gR_sI, gR_sL, gR_sR, true_and, and_true, and_self, ite_true, ite_false, ite_self, not_true_eq_false, not_false_eq_true, or_true, true_or, or_false, false_or, yB0, yB1, Decidable.not_not]; rfl) | (simp (disch := omega) only [if_pos, if_neg, yAnd, Int.toNat_natCast, zw_id, gI_sI, gI_sL, gI_sR, gL_sI, gL_sL, gL_sR, gR_sI, gR_sL, gR_sR, true_and, and_true, and_self, ite_true, ite_false, ite_self, not_true_eq_false, not_false_eq_true, or_true, true_or, or_false, false_or, yB0, yB1, Decidable.not_not]; omega)
    | none =>
      rw [hbeg] at k0 k1
      simp only at k0 k1 ⊢
      obtain ⟨b1, b2, b3, b4⟩ := begR_none hbeg
      have hcc : 0 ≤ ((st.1 : Nat) : Int) ∧ ((st.1 : Nat) : Int) < 8 := by omega
      rw [zr_47_60 (by omega) ht, if_pos (by omega), g15, yAnd ⟨hcc, hdn⟩, Int.toNat_natCast]
      refine c_enter (l := st.2.1) (n := st.2.2.1) (nb := nb) (hd := hdR st.2.2.2.1 here mk st.1) (by omega) ht g15 g14 g16 g2 b1 hn1 b2 hh ?_ (fun σ8 hF8 e15 e16 e14 erow => ?_)
      · unfold hdR
        rcases hh with h | ⟨h, h1, h2⟩
        · rw [if_neg (show ¬ (here ≠ -1 ∧ st.2.2.2.1 9 here.toNat ≠ -1) from fun w => w.1 h), if_neg (show ¬ (here ≠ -1 ∧ gI σ1 (t + 9) here.toNat ≠ -1) from fun w => w.1 h)]
        · rw [h2, Int.toNat_natCast, (hF1.i (by omega)), p4 9 h (by omega) (by omega) (by omega) h1]
      · have hzz : zlet z ∨ z = 42 ∨ z = 61 ∨ z = 126 ∨ z = 33 := by
          unfold begR at hbeg
          rw [hz] at hbeg
          refine Decidable.not_not.mp (fun w => ?_)
          rw [if_pos w] at hbeg
          cases hbeg
        have hnlt : ∀ {y : Int}, z = y → ¬ zlet y → ¬ zlet z := fun e h => by rw [e]; exact h
        generalize ha1 : (if zlet z then p else p + 1) = a1 at k0 k1
        have a1L : a1 ≤ L := by rw [← ha1]; split <;> omega
        have pa1 : p ≤ a1 := by rw [← ha1]; split <;> omega
        have paz : ¬ zlet z → p < a1 := fun w => by rw [← ha1, if_neg w]; omega
        have ea : w32 ((p : Int) + (if (if zlet z then (1 : Int) else 0) = 0 then 1 else 0)) = (a1 : Int) := by
          rw [← ha1]
          by_cases w : zlet z
          · rw [if_neg (by rw [if_pos w]; omega), if_pos w, zw_id (by omega) (by omega)]; omega
          · rw [if_pos (by rw [if_neg w]), if_neg w, zw_id (by omega) (by omega)]; omega
        have hF8' : yFr (Xnd t st.1 st.2.2.1) σ σ8 := (hF1.mono (fun k j h => by omega)).trans (hF8.mono (fun k j h => by omega))
        -- the name and the end
        have nam : ∀ (σb : zW) (b : Int × Nat × (Nat → Int64) × Nat) (fr : zF), bodR f L st.2.2.2.1 z a1 st.2.1 st.2.2.2.2 = .inr b → z ≠ 61 → (∀ (v : Int) (σ : zW), v = 0 ∨ v = 1 → zRet true (fr :: K) (some (.inl v)) σ = zRet true K (some (.inl v)) σ) → yFr (Xnd t st.1 st.2.2.1) σ σb → gI σb 2 2 = (b.2.2.2 : Nat) → b.2.2.2 ≤ L → a < b.2.2.2 → 2 * b.2.1 ≤ b.2.2.2 + 1 → gI σb t 14 = (b.2.1 : Nat) → gI σb t 15 = ((st.1 + 1 : Nat) : Int) → gI σb t 16 = ((st.2.2.1 + nb : Nat) : Int) → (nb = 1 → gI σb (t + 14) st.2.2.1 = (st.1 : Nat)) →
            (∀ (nm : Int) (q : Nat), 1 ≤ q → q ≤ 11 → q ≠ 10 → gI σb (t + q) st.1 = rowR (kndR z) b.1 here mk (cop m k) (st.2.1 : Nat) (b.2.1 : Nat) (if nb = 1 then (st.2.2.1 : Nat) else -1) (hdR st.2.2.2.1 here mk st.1) dn nm (k : Nat) (m : Nat) q) →
            (∀ x, x < 26 → gI σb (t + 13) x = st.2.2.2.1 13 x) → (∀ i, i < b.2.1 → gL σb (t + 12) i = b.2.2.1 i) → zEv true (zent 54 [.inr (.inr t), .inr (.inr 2), .inl (st.1 : Nat)] :: fr :: K) σb := by
          intro σb b fr hbo hz61 hfr hFb f2 fL fa fl f14 f15 f16 fn frow f13 fB
          rw [hbo] at k0 k1
          simp only at k0 k1
          have hna : namR f L st.2.2.2.1 z b.2.2.2 = givR f L st.2.2.2.1 b.2.2.2 := if_neg hz61
          rw [hna] at k0 k1
          have hTb := cT_fr hT hFb (fun k j h => by omega)
          refine c_given (R := st.2.2.2.1) (yKK (by omega)) ht hTb f2 fL (fun x hx => ⟨f13 x hx, hw.2.2.1 x hx⟩) (fun σ' e he hF h3 h4 => ?_) (fun σ' r hr hF q1 q2 q3 q4 => ?_)
          · rw [he] at k0
            rw [hfr _ _ (Or.inl rfl)]
            exact k0 σ' e rfl ((hFb.mono (fun k j h => by omega)).trans (hF.mono (fun k j h => by omega))) h3 h4
          · rw [hr] at k1
            rw [hfr _ _ (Or.inr rfl)]
            have hr2 : nodP f L st here mk m k p = .inr (nodE st here mk m k z b r.1, r.2) := by
              unfold nodP
              rw [hz, hdnv, hnbv, hbeg, ha1]
              simp only
              rw [hbo]
              simp only
              rw [hna, hr]
            refine k1 σ' (nodE st here mk m k z b r.1, r.2) rfl ((hFb.mono (fun k j h => by omega)).trans (hF.mono (fun k j h => by omega))) q1 (by dsimp only; omega) ?_ q3 ?_ (hpw _ hr2).1
            · show 2 * b.2.1 ≤ r.2 + 1
              omega
            · refine cP_end ht hPP (hFb.trans (hF.mono (fun k j h => by omega))) ((hF.i (by omega)).trans f15) ((hF.i (by omega)).trans f14) ((hF.i (by omega)).trans ?_) (fun q q1 q2 q3 => (hF.i (by omega)).trans ?_) (fun x hx => q4 x hx) (fun w => (hF.i (by omega)).trans ?_) (fun i hi => (hF.l (by omega)).trans (fB i hi))
              · rw [hdnv, hnbv]; exact f16
              · rw [hdnv, hnbv]; exact frow _ q q1 q2 q3
              · rw [hdnv, hnbv] at w; exact fn w
        -- behind the kind
        have kind : ∀ kd : Int, kd = kndR z → yFr (Xnd t st.1 st.2.2.1) σ (sI (sI σ8 2 2 (a1 : Nat)) (t + 1) st.1 kd) ∧ gI (sI (sI σ8 2 2 (a1 : Nat)) (t + 1) st.1 kd) 2 2 = (a1 : Nat) ∧ gI (sI (sI σ8 2 2 (a1 : Nat)) (t + 1) st.1 kd) t 14 = (st.2.1 : Nat) ∧ gI (sI (sI σ8 2 2 (a1 : Nat)) (t + 1) st.1 kd) t 15 = ((st.1 + 1 : Nat) : Int) ∧ gI (sI (sI σ8 2 2 (a1 : Nat)) (t + 1) st.1 kd) t 16 = ((st.2.2.1 + nb : Nat) : Int) ∧ (nb = 1 → gI (sI (sI σ8 2 2 (a1 : Nat)) (t + 1) st.1 kd) (t + 14) st.2.2.1 = (st.1 : Nat)) ∧
            (∀ (nm : Int) (q : Nat), 1 ≤ q → q ≤ 11 → q ≠ 10 → gI (sI (sI σ8 2 2 (a1 : Nat)) (t + 1) st.1 kd) (t + q) st.1 = rowR (kndR z) (-1) here mk (cop m k) (st.2.1 : Nat) (st.2.1 : Nat) (if nb = 1 then (st.2.2.1 : Nat) else -1) (hdR st.2.2.2.1 here mk st.1) dn nm (k : Nat) (m : Nat) q) ∧
            (∀ x, x < 26 → gI (sI (sI σ8 2 2 (a1 : Nat)) (t + 1) st.1 kd) (t + 13) x = st.2.2.2.1 13 x) ∧ (∀ i, i < st.2.1 → gL (sI (sI σ8 2 2 (a1 : Nat)) (t + 1) st.1 kd) (t + 12) i = st.2.2.2.2 i) ∧ (∀ i, i < st.1 → gI (sI (sI σ8 2 2 (a1 : Nat)) (t + 1) st.1 kd) (t + 11) i = st.2.2.2.1 11 i ∧ gI (sI (sI σ8 2 2 (a1 : Nat)) (t + 1) st.1 kd) (t + 9) i = st.2.2.2.1 9 i) := by
          intro kd hkd
          have hFk : yFr (Xnd t st.1 st.2.2.1) σ (sI (sI σ8 2 2 (a1 : Nat)) (t + 1) st.1 kd) := (hF8'.I (by omega)).I (by omega)
          have hF9 : yFr (fun k j => (k = 2 ∧ j = 2) ∨ (k = t + 1 ∧ j = st.1)) σ8 (sI (sI σ8 2 2 (a1 : Nat)) (t + 1) st.1 kd) := (yFr.rf.I (by omega)).I (by omega)
          have e2 : gI (sI (sI σ8 2 2 (a1 : Nat)) (t + 1) st.1 kd) 2 2 = (a1 : Nat) := by rw [gI_sI, if_neg (by omega), yGI_hit]
          have er1 : gI (sI (sI σ8 2 2 (a1 : Nat)) (t + 1) st.1 kd) (t + 1) st.1 = kd := yGI_hit
          generalize sI (sI σ8 2 2 (a1 : Nat)) (t + 1) st.1 kd = σk at hFk hF9 e2 er1 ⊢
          refine ⟨hFk, e2, ?_, (hF9.i (by omega)).trans e15, (hF9.i (by omega)).trans e16, fun w => (hF9.i (by omega)).trans (e14 w), fun nm q q1 q2 q3 => ?_, fun x hx => ?_, fun i hi => ?_, fun i hi => ⟨?_, ?_⟩⟩
          · rw [hF9.i (by omega), hF8.i (by omega)]; exact g14
          · by_cases e : q = 1
            · subst e; rw [er1, hkd]; rfl
            · rw [hF9.i (by omega)]; exact erow _ _ _ _ q (by omega) q2 q3
          · rw [hF9.i (by omega), hF8.i (by omega), hF1.i (by omega)]; exact p5 x hx
          · rw [hF9.l (by omega), hF8.l (by omega), hF1.l (by omega)]; exact p7 i hi
          · rw [hFk.i (by omega)]; exact p4 11 i (by omega) (by omega) (by omega) hi
          · rw [hFk.i (by omega)]; exact p4 9 i (by omega) (by omega) (by omega) hi
        have hl2 : 2 * st.2.1 ≤ a1 + 1 := by omega
        rw [zr_47_104 (by omega) ht, ea, yAnd hcc, Int.toNat_natCast]
        by_cases z42 : z = 42
        · obtain ⟨k1', k2', k3', k4', k5', k6', k7', k8', k9', -⟩ := kind 0 (by rw [z42]; rfl)
          rw [if_pos z42]
          exact nam _ (-1, st.2.1, st.2.2.2.2, a1) _ (if_pos z42) (by omega) (fun v σ hv => by rw [zr_47_217, yAnd hv]) k1' k2' a1L (by have := paz (hnlt z42 (by decide)); dsimp only; omega) hl2 k3' k4' k5' k6' k7' k8' k9'
        · rw [if_neg z42]
          by_cases z61 : z = 61
          · obtain ⟨k1', k2', k3', k4', k5', k6', k7', k8', k9', k10'⟩ := kind 4 (by rw [z61]; rfl)
            have hTk := cT_fr hT k1' (fun k j h => by omega)
            rw [if_pos z61, yAnd hcc]
            generalize sI (sI σ8 2 2 (a1 : Nat)) (t + 1) st.1 4 = σk at k1' k2' k3' k4' k5' k6' k7' k8' k9' k10' hTk ⊢
            have hbod : ∀ x, tolR f L st.2.2.2.1 a1 = .inr x → bodR f L st.2.2.2.1 z a1 st.2.1 st.2.2.2.2 = .inr (x.1, st.2.1, st.2.2.2.2, x.2) := fun x hx => by unfold bodR; rw [if_neg z42, if_pos (Or.inl z61), hx]
            have hbod0 : ∀ e, tolR f L st.2.2.2.1 a1 = .inl e → bodR f L st.2.2.2.1 z a1 st.2.1 st.2.2.2.2 = .inl e := fun x hx => by unfold bodR; rw [if_neg z42, if_pos (Or.inl z61), hx]
            refine c_told (R := st.2.2.2.1) (yKK (K := K) (by omega)) ht hTk k2' a1L b1 (fun x hx => ⟨k8' x hx, hw.2.2.1 x hx⟩) k10' (fun σ' e he hF h3 h4 => ?_) (fun r hr q1 q2 q3 q4 => ?_)
            · rw [hbod0 e he] at k0
              rw [zr_47_167, yAnd (Or.inl rfl)]
              exact k0 σ' e rfl ((k1'.mono (fun k j h => by omega)).trans (hF.mono (fun k j h => by omega))) h3 h4
            · have hna : namR f L st.2.2.2.1 z r.2 = .inr (0, r.2) := if_pos z61
              rw [hbod r hr] at k1
              simp only [hna] at k1
              rw [zr_47_167, yAnd (Or.inr rfl)]
              have hr2 : nodP f L st here mk m k p = .inr (nodE st here mk m k z (r.1, st.2.1, st.2.2.2.2, r.2) 0, r.2) := by
                unfold nodP
                rw [hz, hdnv, hnbv, hbeg, ha1]
                simp only [hbod r hr, hna]
              have hF9 : yFr (fun k j => (k = 2 ∧ j = 2) ∨ (k = t + 2 ∧ j = st.1)) σk (sI (sI σk 2 2 (r.2 : Nat)) (t + 2) st.1 r.1) := (yFr.rf.I (by omega)).I (by omega)
              have er : gI (sI (sI σk 2 2 (r.2 : Nat)) (t + 2) st.1 r.1) (t + 2) st.1 = r.1 := yGI_hit
              have er2 : gI (sI (sI σk 2 2 (r.2 : Nat)) (t + 2) st.1 r.1) 2 2 = (r.2 : Nat) := by rw [gI_sI, if_neg (by omega), yGI_hit]
              generalize sI (sI σk 2 2 (r.2 : Nat)) (t + 2) st.1 r.1 = σt at hF9 er er2 ⊢
              refine k1 σt (nodE st here mk m k z (r.1, st.2.1, st.2.2.2.2, r.2) 0, r.2) rfl ((k1'.mono (fun k j h => by omega)).trans (hF9.mono (fun k j h => by omega))) q1 (by dsimp only; omega) ?_ er2 ?_ (hpw _ hr2).1
              · show 2 * st.2.1 ≤ r.2 + 1
                omega
              · refine cP_end ht hPP (k1'.trans (hF9.mono (fun k j h => by omega))) ((hF9.i (by omega)).trans k4') ((hF9.i (by omega)).trans k3') ((hF9.i (by omega)).trans ?_) (fun q q1 q2 q3 => ?_) (fun x hx => ?_) (fun w => (hF9.i (by omega)).trans ?_) (fun i hi => (hF9.l (by omega)).trans (k9' i hi))
                · rw [hdnv, hnbv]; exact k5'
                · rw [hdnv, hnbv]
                  by_cases e : q = 2
                  · subst e; rw [er]; rfl
                  · rw [hF9.i (by omega), k7' 0 q q1 q2 q3]
                    rcases q_cases q1 q2 q3 with rfl | rfl | rfl | rfl | rfl | rfl | rfl | rfl | rfl | rfl <;> first | rfl | exact absurd rfl e
                · rw [if_neg (by omega), hF9.i (by omega)]; exact k8' x hx
                · rw [hdnv, hnbv] at w; exact k6' w
          · rw [if_neg z61]
            by_cases z126 : z = 126
            · obtain ⟨k1', k2', k3', k4', k5', k6', k7', k8', k9', k10'⟩ := kind 3 (by rw [z126]; rfl)
              have hTk := cT_fr hT k1' (fun k j h => by omega)
              rw [if_pos z126, yAnd hcc]
              generalize sI (sI σ8 2 2 (a1 : Nat)) (t + 1) st.1 3 = σk at k1' k2' k3' k4' k5' k6' k7' k8' k9' k10' hTk ⊢
              have hbod : ∀ x, tolR f L st.2.2.2.1 a1 = .inr x → bodR f L st.2.2.2.1 z a1 st.2.1 st.2.2.2.2 = .inr (x.1, st.2.1, st.2.2.2.2, x.2) := fun x hx => by unfold bodR; rw [if_neg z42, if_pos (Or.inr z126), hx]
              have hbod0 : ∀ e, tolR f L st.2.2.2.1 a1 = .inl e → bodR f L st.2.2.2.1 z a1 st.2.1 st.2.2.2.2 = .inl e := fun x hx => by unfold bodR; rw [if_neg z42, if_pos (Or.inr z126), hx]
              refine c_told (R := st.2.2.2.1) (yKK (K := K) (by omega)) ht hTk k2' a1L b1 (fun x hx => ⟨k8' x hx, hw.2.2.1 x hx⟩) k10' (fun σ' e he hF h3 h4 => ?_) (fun r hr q1 q2 q3 q4 => ?_)
              · rw [hbod0 e he] at k0
                rw [zr_47_183 (by omega) ht, if_pos rfl, zj_47_200]
                exact k0 σ' e rfl ((k1'.mono (fun k j h => by omega)).trans (hF.mono (fun k j h => by omega))) h3 h4
              · rw [zr_47_183 (by omega) ht, if_neg (by omega)]
                have hF9 : yFr (fun k j => (k = 2 ∧ j = 2) ∨ (k = t + 2 ∧ j = st.1)) σk (sI (sI σk 2 2 (r.2 : Nat)) (t + 2) st.1 r.1) := (yFr.rf.I (by omega)).I (by omega)
                have er : gI (sI (sI σk 2 2 (r.2 : Nat)) (t + 2) st.1 r.1) (t + 2) st.1 = r.1 := yGI_hit
                have er2 : gI (sI (sI σk 2 2 (r.2 : Nat)) (t + 2) st.1 r.1) 2 2 = (r.2 : Nat) := by rw [gI_sI, if_neg (by omega), yGI_hit]
                generalize sI (sI σk 2 2 (r.2 : Nat)) (t + 2) st.1 r.1 = σt at hF9 er er2 ⊢
                refine nam σt (r.1, st.2.1, st.2.2.2.2, r.2) _ (hbod r hr) z61 (fun v σ hv => ?_) (k1'.trans (hF9.mono (fun k j h => by omega))) er2 q1 (by dsimp only; omega) (by dsimp only; omega) ((hF9.i (by omega)).trans k3') ((hF9.i (by omega)).trans k4') ((hF9.i (by omega)).trans k5') (fun w => (hF9.i (by omega)).trans (k6' w)) (fun nm q q1 q2 q3 => ?_) (fun x hx => (hF9.i (by omega)).trans (k8' x hx)) (fun i hi => (hF9.l (by omega)).trans (k9' i hi))
                · rw [zr_47_193]
                  rcases hv with rfl | rfl
                  · rw [if_pos rfl, zj_47_200]
                  · rw [if_neg (by omega)]
                · by_cases e : q = 2
                  · subst e; rw [er]; rfl
                  · rw [hF9.i (by omega), k7' nm q q1 q2 q3]
                    rcases q_cases q1 q2 q3 with rfl | rfl | rfl | rfl | rfl | rfl | rfl | rfl | rfl | rfl <;> first | rfl | exact absurd rfl e
            · have hkd : (if ¬ z = 33 then (1 : Int) else 2) = kndR z := by
                unfold kndR
                rw [if_neg z42, if_neg z61, if_neg z126]
                by_cases z33 : z = 33
                · rw [if_neg (fun w => w z33), if_pos z33]
                · rw [if_pos z33, if_neg z33]
              obtain ⟨k1', k2', k3', k4', k5', k6', k7', k8', k9', k10'⟩ := kind _ hkd
              have hTk := cT_fr hT k1' (fun k j h => by omega)
              rw [if_neg z126, yAnd hcc, ze_51]
              generalize sI (sI σ8 2 2 (a1 : Nat)) (t + 1) st.1 (if ¬ z = 33 then (1 : Int) else 2) = σk at k1' k2' k3' k4' k5' k6' k7' k8' k9' k10' hTk ⊢
              have hbod : ∀ x, lbR f L (L + 1) a1 st.2.1 st.2.2.2.2 = .inr x → bodR f L st.2.2.2.1 z a1 st.2.1 st.2.2.2.2 = .inr (-1, x) := fun x hx => by unfold bodR; rw [if_neg z42, if_neg (by omega), hx]
              have hbod0 : ∀ e, lbR f L (L + 1) a1 st.2.1 st.2.2.2.2 = .inl e → bodR f L st.2.2.2.1 z a1 st.2.1 st.2.2.2.2 = .inl e := fun x hx => by unfold bodR; rw [if_neg z42, if_neg (by omega), hx]
              refine c_labels_loop (c := st.1) (yKK (K := K) (by omega)) ht b1 (L + 1) a1 st.2.1 0 st.2.2.2.2 σk none none (by omega) a1L (by omega) (Nat.zero_le _) hTk k2' k3' k9' (fun σ' e he hF h3 h4 => ?_) (fun σ' r hr hF q1 q2 q3 q4 e2 e14' e7 eB => ?_)
              · rw [hbod0 e he] at k0
                rw [zr_47_244 (by omega) ht, if_pos rfl, zj_47_261]
                exact k0 σ' e rfl ((k1'.mono (fun k j h => by omega)).trans (hF.mono (fun k j h => by omega))) h3 h4
              · rw [zr_47_244 (by omega) ht, if_neg (by omega)]
                refine nam σ' (-1, r) _ (hbod r hr) z61 (fun v σ hv => ?_) (k1'.trans (hF.mono (fun k j h => by omega))) e2 q1 (by dsimp only; omega) (by dsimp only; omega) e14' ((hF.i (by omega)).trans k4') ((hF.i (by omega)).trans k5') (fun w => (hF.i (by omega)).trans (k6' w)) (fun nm q q1 q2 q3 => ?_) (fun x hx => (hF.i (by omega)).trans (k8' x hx)) eB
                · rw [zr_47_254]
                  rcases hv with rfl | rfl
                  · rw [if_pos rfl, zj_47_261]
                  · rw [if_neg (by omega)]
                · by_cases e : q = 7
                  · subst e; rw [e7]; rfl
                  · rw [hF.i (by omega), k7' nm q q1 q2 q3]
                    rcases q_cases q1 q2 q3 with rfl | rfl | rfl | rfl | rfl | rfl | rfl | rfl | rfl | rfl <;> first | rfl | exact absurd rfl e
  have m48 : ∀ (o7 o8 : Option zV), nbrR (denR st.2.2.2.1 here mk) (tb f L p) = 0 → zEv true ((47, 48, [some (.inr (.inr t)), some (.inr (.inr 2)), some (.inl here), some (.inl mk), some (.inl (cop m k)), some (.inl (tb f L p)), some (.inl (denR st.2.2.2.1 here mk)), o7, o8], []) :: K) σ1 := by
    intro o7 o8 hn
    have h := main o8
    rw [hn] at h
    rw [zj_47_48 (by omega) ht]
    exact h
  have m1 : ∀ (o7 o8 : Option zV), denR st.2.2.2.1 here mk = 1 → zEv true ((47, 48, [some (.inr (.inr t)), some (.inr (.inr 2)), some (.inl here), some (.inl mk), some (.inl (cop m k)), some (.inl (tb f L p)), some (.inl 1), o7, o8], []) :: K) σ1 := by
    intro o7 o8 h
    have h2 := m48 o7 o8 (by unfold nbrR; rw [if_neg (by omega)])
    rw [h] at h2
    exact h2
  have m0 : ∀ (o6 o7 o8 : Option zV), denR st.2.2.2.1 here mk = 0 → zEv true ((47, 29, [some (.inr (.inr t)), some (.inr (.inr 2)), some (.inl here), some (.inl mk), some (.inl (cop m k)), some (.inl (tb f L p)), o6, o7, o8], []) :: K) σ1 := by
    intro o6 o7 o8 h
    rw [zj_47_29 (by omega) ht]
    by_cases z61 : tb f L p = 61
    · have h2 := m48 o7 o8 (by unfold nbrR; rw [if_neg (fun w => w.2 z61)])
      rw [h] at h2
      rw [if_pos z61]
      exact h2
    · have h2 := main o8
      rw [h, show nbrR 0 (tb f L p) = 1 from if_pos ⟨rfl, z61⟩] at h2
      rw [if_neg z61, if_neg (fun w => w rfl)]
      exact h2
  rw [zr_47_4 (by omega) ht]
  have d1 : ∀ o8 : Option zV, denR st.2.2.2.1 here mk = 1 → ∀ A : Prop, (if tb f L p = 61 then zEv true ((47, 48, [some (.inr (.inr t)), some (.inr (.inr 2)), some (.inl here), some (.inl mk), some (.inl (cop m k)), some (.inl (tb f L p)), some (.inl 1), none, o8], []) :: K) σ1 else if ¬ (1 : Int) = 0 then zEv true ((47, 48, [some (.inr (.inr t)), some (.inr (.inr 2)), some (.inl here), some (.inl mk), some (.inl (cop m k)), some (.inl (tb f L p)), some (.inl 1), none, o8], []) :: K) σ1 else A) := by
    intro o8 h A
    by_cases z61 : tb f L p = 61
    · rw [if_pos z61]; exact m1 _ _ h
    · rw [if_neg z61, if_pos (by omega)]; exact m1 _ _ h
  by_cases hm1 : mk = 1
  · rw [if_pos hm1]
    exact d1 _ (by unfold denR; rw [if_pos (Or.inl hm1)]) _
  · rw [if_neg hm1]
    rcases hh with h | ⟨h, h1, h2⟩
    · rw [if_pos h]
      exact m0 _ _ _ (by unfold denR; rw [if_neg (fun w => w.elim hm1 (fun w => w.1 h))])
    · have hcc : 0 ≤ here ∧ here < 8 := by have := hw.1; omega
      have e11 : gI σ1 (t + 11) here.toNat = st.2.2.2.1 11 here.toNat := by
        rw [h2, Int.toNat_natCast, hF1.i (by omega)]
        exact p4 11 h (by omega) (by omega) (by omega) h1
      rw [if_neg (by omega), yAnd hcc, e11]
      by_cases h11 : st.2.2.2.1 11 here.toNat = 0
      · rw [if_pos h11]
        exact m0 _ _ _ (by unfold denR; rw [if_neg (fun w => w.elim hm1 (fun w => w.2 h11))])
      · rw [if_neg h11]
        exact d1 _ (by unfold denR; rw [if_pos (Or.inr ⟨by omega, h11⟩)]) _
