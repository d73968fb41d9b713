theorem Xsc_T {t c : Nat} (h : t = 110 ∨ t = 116) : ∀ k j, Xsc t c k j → k ≠ 3 ∧ ¬ (k = 2 ∧ j = 1) := fun k j q => by omega
theorem c_edB {K : List zF} (hK : K.length + 5 ≤ 60) {f : Nat → Int} {L a t c : Nat} {k x : Int} {σ : zW} (hs : zSc t) (hT : cT f L σ) (ha : gI σ 2 2 = (a : Int)) (haL : a ≤ L) (hc : c < 8) (hk0 : 0 ≤ k ∧ k < 6) (hE : cEd t c (k, x, -1, 0, -1) σ)
    (k0 : ∀ (σ' : zW) (e : Nat × Nat), edB f L k a = .inl e → yFr (Xsc t c) σ σ' → gI σ' 2 3 = (e.1 : Nat) → gI σ' 2 4 = (e.2 : Nat) → gI σ' t 5 = gI σ t 5 → zRet true K (some (.inl 0)) σ')
    (k1 : ∀ (σ' : zW) (r : (Int64 × Int × Int) × Nat), edB f L k a = .inr r → yFr (Xsc t c) σ σ' → gI σ' 2 3 = gI σ 2 3 → gI σ' 2 4 = gI σ 2 4 → gI σ' 2 2 = (r.2 : Nat) → gI σ' t 5 = gI σ t 5 → cEd t c (k, x, r.1.2.2, r.1.1, r.1.2.1) σ' → zRet true K (some (.inl 1)) σ') :
    zEv true ((60, 136, [some (.inr (.inr t)), some (.inr (.inr 2)), some (.inl k), some (.inl (c : Int))], []) :: K) σ := by
  have hE0 := hE
  obtain ⟨e1, e2, e3, e4, e5⟩ := hE
  simp only at e1 e2 e3 e4 e5
  have hb := zSc_b hs
  have h6 := hT.2.2.1
  have hcc : 0 ≤ (c : Int) ∧ (c : Int) < 8 := by omega
  rw [zj_60_136]
  unfold edB at k0 k1
  by_cases h4 : k = 0 ∨ k = 3 ∨ k = 4
  · rw [if_pos h4] at k0 k1
    have go : zEv true ((60, 150, [some (.inr (.inr t)), some (.inr (.inr 2)), some (.inl k), some (.inl (c : Int))], []) :: K) σ := by
      rw [zj_60_150 (by omega) hs, c_readLabel (yKK (by omega)) hT ha haL]
      unfold rdlW
      cases hr : rdl f L a with
      | inl e =>
        rw [hr] at k0
        simp only [rdlV]
        rw [zr_60_159 hs hs, yAnd hcc, yAnd hcc, Int.toNat_natCast, yGL_hit, if_neg (by decide)]
        refine k0 _ e rfl ((((yFr.rf.I ?_).I ?_).I ?_).L ?_) ?_ ?_ ?_ <;> first | omega | (simp (disch := omega) only [if_pos, if_neg, yAnd, Int.toNat_natCast, zw_id, gI_sI, gI_sL, gI_sR, gL_sI, gL_sL, gL_sR, gR_sI, gR_sL, gR_sR, true_and, and_true, and_self, ite_true, ite_false, ite_self, not_true_eq_false, not_false_eq_true, or_true, true_or, or_false, false_or, yB0, yB1, Decidable.not_not]; done) | (simp (disch := omega) only [if_pos, if_neg, yAnd, Int.toNat_natCast, zw_id, gI_sI, gI_sL, gI_sR, gL_sI, gL_sL, gL_sR, gR_sI, gR_sL, gR_sR, true_and, and_true, and_self, ite_true, ite_false, ite_self, not_true_eq_false, not_false_eq_true, or_true, true_or, or_false, false_or, yB0, yB1, Decidable.not_not]; rfl) | (simp (disch := omega) only [if_pos, if_neg, yAnd, Int.toNat_natCast, zw_id, gI_sI, gI_sL, gI_sR, gL_sI, gL_sL, gL_sR, gR_sI, gR_sL, gR_sR, true_and, and_true, and_self, ite_true, ite_false, ite_self, not_true_eq_false, not_false_eq_true, or_true, true_or, or_false, false_or, yB0, yB1, Decidable.not_not]; omega)
      | inr r =>
        obtain ⟨v, q⟩ := r
        rw [hr] at k0 k1
        simp only [rdlV] at k0 k1 ⊢
        obtain ⟨g1, g2, -⟩ := rdl_ok hr
        rw [zr_60_159 hs hs, yAnd hcc, yAnd hcc, Int.toNat_natCast, yGL_hit, if_pos (zlc0 (rdl_good hr))]
        have hF : yFr (Xsc t c) σ (sL (sI σ 2 2 (q : Nat)) (t + 4) c v) := (yFr.rf.I (by omega)).L (by omega)
        refine c_edC (x := x) (v := v) hK hs (cT_fr hT hF (Xsc_T hb)) (by simp (disch := omega) only [if_pos, if_neg, yAnd, Int.toNat_natCast, zw_id, gI_sI, gI_sL, gI_sR, gL_sI, gL_sL, gL_sR, gR_sI, gR_sL, gR_sR, true_and, and_true, and_self, ite_true, ite_false, ite_self, not_true_eq_false, not_false_eq_true, or_true, true_or, or_false, false_or, yB0, yB1, Decidable.not_not]) g2 hc hk0.1 ⟨?e1, ?e2, ?e3, ?e4, ?e5⟩ (fun σ' e he hF2 a3 a4 a5 => ?k0) (fun σ' r hr2 hF2 a3 a4 a2 a5 hE2 => ?k1)
        case k0 =>
          rw [he] at k0
          exact k0 σ' e rfl (hF.trans hF2) a3 a4 (a5.trans (by simp (disch := omega) only [if_pos, if_neg, yAnd, Int.toNat_natCast, zw_id, gI_sI, gI_sL, gI_sR, gL_sI, gL_sL, gL_sR, gR_sI, gR_sL, gR_sR, true_and, and_true, and_self, ite_true, ite_false, ite_self, not_true_eq_false, not_false_eq_true, or_true, true_or, or_false, false_or, yB0, yB1, Decidable.not_not]))
        case k1 =>
          rw [hr2] at k1
          exact k1 σ' ((v, r.1), r.2) rfl (hF.trans hF2) (a3.trans (by simp (disch := omega) only [if_pos, if_neg, yAnd, Int.toNat_natCast, zw_id, gI_sI, gI_sL, gI_sR, gL_sI, gL_sL, gL_sR, gR_sI, gR_sL, gR_sR, true_and, and_true, and_self, ite_true, ite_false, ite_self, not_true_eq_false, not_false_eq_true, or_true, true_or, or_false, false_or, yB0, yB1, Decidable.not_not])) (a4.trans (by simp (disch := omega) only [if_pos, if_neg, yAnd, Int.toNat_natCast, zw_id, gI_sI, gI_sL, gI_sR, gL_sI, gL_sL, gL_sR, gR_sI, gR_sL, gR_sR, true_and, and_true, and_self, ite_true, ite_false, ite_self, not_true_eq_false, not_false_eq_true, or_true, true_or, or_false, false_or, yB0, yB1, Decidable.not_not])) a2 (a5.trans (by simp (disch := omega) only [if_pos, if_neg, yAnd, Int.toNat_natCast, zw_id, gI_sI, gI_sL, gI_sR, gL_sI, gL_sL, gL_sR, gR_sI, gR_sL, gR_sR, true_and, and_true, and_self, ite_true, ite_false, ite_self, not_true_eq_false, not_false_eq_true, or_true, true_or, or_false, false_or, yB0, yB1, Decidable.not_not])) hE2
        case e1 => show gI _ _ _ = k; simp (disch := omega) only [e1, if_pos, if_neg, yAnd, Int.toNat_natCast, zw_id, gI_sI, gI_sL, gI_sR, gL_sI, gL_sL, gL_sR, gR_sI, gR_sL, gR_sR, true_and, and_true, and_self, ite_true, ite_false, ite_self, not_true_eq_false, not_false_eq_true, or_true, true_or, or_false, false_or, yB0, yB1, Decidable.not_not]
        case e2 => show gI _ _ _ = x; simp (disch := omega) only [e2, if_pos, if_neg, yAnd, Int.toNat_natCast, zw_id, gI_sI, gI_sL, gI_sR, gL_sI, gL_sL, gL_sR, gR_sI, gR_sL, gR_sR, true_and, and_true, and_self, ite_true, ite_false, ite_self, not_true_eq_false, not_false_eq_true, or_true, true_or, or_false, false_or, yB0, yB1, Decidable.not_not]
        case e3 => show gI _ _ _ = -1; simp (disch := omega) only [e3, if_pos, if_neg, yAnd, Int.toNat_natCast, zw_id, gI_sI, gI_sL, gI_sR, gL_sI, gL_sL, gL_sR, gR_sI, gR_sL, gR_sR, true_and, and_true, and_self, ite_true, ite_false, ite_self, not_true_eq_false, not_false_eq_true, or_true, true_or, or_false, false_or, yB0, yB1, Decidable.not_not]
        case e4 => show gL _ _ _ = v; simp (disch := omega) only [if_pos, if_neg, yAnd, Int.toNat_natCast, zw_id, gI_sI, gI_sL, gI_sR, gL_sI, gL_sL, gL_sR, gR_sI, gR_sL, gR_sR, true_and, and_true, and_self, ite_true, ite_false, ite_self, not_true_eq_false, not_false_eq_true, or_true, true_or, or_false, false_or, yB0, yB1, Decidable.not_not]
        case e5 => show gI _ _ _ = -1; simp (disch := omega) only [e5, if_pos, if_neg, yAnd, Int.toNat_natCast, zw_id, gI_sI, gI_sL, gI_sR, gL_sI, gL_sL, gL_sR, gR_sI, gR_sL, gR_sR, true_and, and_true, and_self, ite_true, ite_false, ite_self, not_true_eq_false, not_false_eq_true, or_true, true_or, or_false, false_or, yB0, yB1, Decidable.not_not]
    by_cases h0 : k = 0
    · rw [if_pos h0]; exact go
    · rw [if_neg h0]
      by_cases h3 : k = 3
      · rw [if_pos h3]; exact go
      · rw [if_neg h3, if_neg (by omega)]; exact go
  · rw [if_neg h4] at k0 k1
    rw [if_neg (by omega), if_neg (by omega), if_pos (by omega)]
    refine c_edC (x := x) (v := 0) hK hs hT ha haL hc hk0.1 hE0 (fun σ' e he hF2 a3 a4 a5 => ?k0) (fun σ' r hr2 hF2 a3 a4 a2 a5 hE2 => ?k1)
    case k0 =>
      rw [he] at k0
      exact k0 σ' e rfl hF2 a3 a4 a5
    case k1 =>
      rw [hr2] at k1
      exact k1 σ' ((0, r.1), r.2) rfl hF2 a3 a4 a2 a5 hE2
theorem c_edit {K : List zF} (hK : K.length + 6 ≤ 60) {f : Nat → Int} {L a t c : Nat} {σ : zW} (hs : zSc t) (hT : cT f L σ) (ha : gI σ 2 2 = (a : Int)) (haL : a ≤ L) (hc5 : gI σ t 5 = (c : Int)) (hc : c ≤ 8)
    (k0 : ∀ (σ' : zW) (e : Nat × Nat), edR f L (sk f L a) c = .inl e → yFr (Xsc t c) σ σ' → gI σ' 2 3 = (e.1 : Nat) → gI σ' 2 4 = (e.2 : Nat) → zRet true K (some (.inl 0)) σ')
    (k1 : ∀ (σ' : zW) (r : EDT × Nat), edR f L (sk f L a) c = .inr r → yFr (Xsc t c) σ σ' → gI σ' 2 3 = gI σ 2 3 → gI σ' 2 4 = gI σ 2 4 → gI σ' 2 2 = (r.2 : Nat) → gI σ' t 5 = ((c + 1 : Nat) : Int) → cEd t c r.1 σ' → c < 8 → zRet true K (some (.inl 1)) σ') :
    zEv true (zent 60 [.inr (.inr t), .inr (.inr 2)] :: K) σ := by
  have hb := zSc_b hs
  have h6 := hT.2.2.1
  have hss := sk_le (f := f) haL
  have hT2 : cT f L (sI σ 2 2 (sk f L a : Nat)) := cT_u hT (by omega)
  have ha2 : gI (sI σ 2 2 (sk f L a : Nat)) 2 2 = (sk f L a : Nat) := yGI_hit
  have hF : yFr (Xsc t c) σ (sI σ 2 2 (sk f L a : Nat)) := yFr.rf.I (by omega)
  have h52 : gI (sI σ 2 2 (sk f L a : Nat)) t 5 = (c : Int) := by rw [gI_sI, if_neg (by omega)]; exact hc5
  have hkb := kdR_b f L (sk f L a)
  rw [ze_60 (by omega), c_next (yL (by omega)) hT ha, zr_60_4 (by omega), c_kindAt (yL (by omega)) hT2 ha2, zr_60_9 (by omega) hs, h52, ha2]
  unfold edR at k0 k1
  have bad : ∀ (x : Int) (e : Nat × Nat), (x = -1 → e = (1, sk f L a)) → (x ≠ -1 → e = (3, sk f L a)) → (∀ (σ' : zW), yFr (Xsc t c) σ σ' → gI σ' 2 3 = (e.1 : Nat) → gI σ' 2 4 = (e.2 : Nat) → zRet true K (some (.inl 0)) σ') → ∀ o3 : Option zV, zEv true ((60, 24, [some (.inr (.inr t)), some (.inr (.inr 2)), some (.inl x), o3], []) :: K) (sI σ 2 2 (sk f L a : Nat)) := by
    intro x e h1 h2 kk o3
    rw [zj_60_24 (by omega), c_fail, zr_60_42, yAnd (Or.inl rfl), ha2]
    by_cases hx : x = -1
    · rw [h1 hx] at kk
      rw [if_neg (fun w => w hx)]
      refine kk _ ((hF.I ?_).I ?_) ?_ ?_ <;> first | omega | (simp (disch := omega) only [if_pos, if_neg, yAnd, Int.toNat_natCast, zw_id, gI_sI, gI_sL, gI_sR, gL_sI, gL_sL, gL_sR, gR_sI, gR_sL, gR_sR, true_and, and_true, and_self, ite_true, ite_false, ite_self, not_true_eq_false, not_false_eq_true, or_true, true_or, or_false, false_or, yB0, yB1, Decidable.not_not]; done) | (simp (disch := omega) only [if_pos, if_neg, yAnd, Int.toNat_natCast, zw_id, gI_sI, gI_sL, gI_sR, gL_sI, gL_sL, gL_sR, gR_sI, gR_sL, gR_sR, true_and, and_true, and_self, ite_true, ite_false, ite_self, not_true_eq_false, not_false_eq_true, or_true, true_or, or_false, false_or, yB0, yB1, Decidable.not_not]; rfl) | (simp (disch := omega) only [if_pos, if_neg, yAnd, Int.toNat_natCast, zw_id, gI_sI, gI_sL, gI_sR, gL_sI, gL_sL, gL_sR, gR_sI, gR_sL, gR_sR, true_and, and_true, and_self, ite_true, ite_false, ite_self, not_true_eq_false, not_false_eq_true, or_true, true_or, or_false, false_or, yB0, yB1, Decidable.not_not]; omega)
    · rw [h2 hx] at kk
      rw [if_pos hx]
      refine kk _ ((hF.I ?_).I ?_) ?_ ?_ <;> first | omega | (simp (disch := omega) only [if_pos, if_neg, yAnd, Int.toNat_natCast, zw_id, gI_sI, gI_sL, gI_sR, gL_sI, gL_sL, gL_sR, gR_sI, gR_sL, gR_sR, true_and, and_true, and_self, ite_true, ite_false, ite_self, not_true_eq_false, not_false_eq_true, or_true, true_or, or_false, false_or, yB0, yB1, Decidable.not_not]; done) | (simp (disch := omega) only [if_pos, if_neg, yAnd, Int.toNat_natCast, zw_id, gI_sI, gI_sL, gI_sR, gL_sI, gL_sL, gL_sR, gR_sI, gR_sL, gR_sR, true_and, and_true, and_self, ite_true, ite_false, ite_self, not_true_eq_false, not_false_eq_true, or_true, true_or, or_false, false_or, yB0, yB1, Decidable.not_not]; rfl) | (simp (disch := omega) only [if_pos, if_neg, yAnd, Int.toNat_natCast, zw_id, gI_sI, gI_sL, gI_sR, gL_sI, gL_sL, gL_sR, gR_sI, gR_sL, gR_sR, true_and, and_true, and_self, ite_true, ite_false, ite_self, not_true_eq_false, not_false_eq_true, or_true, true_or, or_false, false_or, yB0, yB1, Decidable.not_not]; omega)
  by_cases h1 : kdR f L (sk f L a) = -1
  · rw [if_pos h1] at k0
    rw [if_pos h1]
    exact bad _ (1, sk f L a) (fun _ => rfl) (fun w => absurd h1 w) (fun σ' q1 q2 q3 => k0 σ' _ rfl q1 q2 q3) _
  · rw [if_neg h1] at k0 k1
    rw [if_neg h1]
    by_cases h8 : 8 ≤ c
    · rw [if_pos h8] at k0
      rw [if_neg (by omega)]
      exact bad _ (3, sk f L a) (fun w => absurd w h1) (fun _ => rfl) (fun σ' q1 q2 q3 => k0 σ' _ rfl q1 q2 q3) _
    · rw [if_neg h8] at k0 k1
      have hc8 : c < 8 := by omega
      have hcc : 0 ≤ (c : Int) ∧ (c : Int) < 8 := by omega
      have hwl := kdR_wl h1
      have hwle := wl_le (f := f) hss
      rw [if_pos (by omega), c_wl (yL (by omega)) hT2 ha2, zr_60_52 (by omega) hs, zw_id (by omega) (by omega), sI_sI, show ((sk f L a : Nat) : Int) + (wl f L (sk f L a) : Nat) = ((sk f L a + wl f L (sk f L a) : Nat) : Int) by omega]
      have h53 : gI (sI σ 2 2 ((sk f L a + wl f L (sk f L a) : Nat) : Int)) t 5 = (c : Int) := by rw [gI_sI, if_neg (by omega)]; exact hc5
      rw [h53, yAnd hcc, yAnd hcc, yAnd hcc, yAnd hcc, yAnd hcc, Int.toNat_natCast, zw_id (by omega) (by omega), show ((c : Int) + 1) = ((c + 1 : Nat) : Int) by omega]
      generalize hq0 : sk f L a + wl f L (sk f L a) = q0 at k0 k1 ⊢
      generalize hk : kdR f L (sk f L a) = k at k0 k1 hkb h1 ⊢
      have hF1 : yFr (Xsc t c) σ (sI (sL (sI (sI (sI (sI (sI σ 2 2 (q0 : Nat)) t 5 ((c + 1 : Nat) : Int)) (t + 1) c k) (t + 2) c (-1)) (t + 3) c (-1)) (t + 4) c 0) (t + 5) c (-1)) :=
        ((((((yFr.rf.I (by omega)).I (by omega)).I (by omega)).I (by omega)).I (by omega)).L (by omega)).I (by omega)
      have hE1 : cEd t c (k, -1, -1, 0, -1) (sI (sL (sI (sI (sI (sI (sI σ 2 2 (q0 : Nat)) t 5 ((c + 1 : Nat) : Int)) (t + 1) c k) (t + 2) c (-1)) (t + 3) c (-1)) (t + 4) c 0) (t + 5) c (-1)) := by
        refine ⟨?_, ?_, ?_, ?_, ?_⟩
        · show gI _ _ _ = k; simp (disch := omega) only [if_pos, if_neg, yAnd, Int.toNat_natCast, zw_id, gI_sI, gI_sL, gI_sR, gL_sI, gL_sL, gL_sR, gR_sI, gR_sL, gR_sR, true_and, and_true, and_self, ite_true, ite_false, ite_self, not_true_eq_false, not_false_eq_true, or_true, true_or, or_false, false_or, yB0, yB1, Decidable.not_not]
        · show gI _ _ _ = -1; simp (disch := omega) only [if_pos, if_neg, yAnd, Int.toNat_natCast, zw_id, gI_sI, gI_sL, gI_sR, gL_sI, gL_sL, gL_sR, gR_sI, gR_sL, gR_sR, true_and, and_true, and_self, ite_true, ite_false, ite_self, not_true_eq_false, not_false_eq_true, or_true, true_or, or_false, false_or, yB0, yB1, Decidable.not_not]
        · show gI _ _ _ = -1; simp (disch := omega) only [if_pos, if_neg, yAnd, Int.toNat_natCast, zw_id, gI_sI, gI_sL, gI_sR, gL_sI, gL_sL, gL_sR, gR_sI, gR_sL, gR_sR, true_and, and_true, and_self, ite_true, ite_false, ite_self, not_true_eq_false, not_false_eq_true, or_true, true_or, or_false, false_or, yB0, yB1, Decidable.not_not]
        · show gL _ _ _ = 0; simp (disch := omega) only [if_pos, if_neg, yAnd, Int.toNat_natCast, zw_id, gI_sI, gI_sL, gI_sR, gL_sI, gL_sL, gL_sR, gR_sI, gR_sL, gR_sR, true_and, and_true, and_self, ite_true, ite_false, ite_self, not_true_eq_false, not_false_eq_true, or_true, true_or, or_false, false_or, yB0, yB1, Decidable.not_not]
        · show gI _ _ _ = -1; simp (disch := omega) only [if_pos, if_neg, yAnd, Int.toNat_natCast, zw_id, gI_sI, gI_sL, gI_sR, gL_sI, gL_sL, gL_sR, gR_sI, gR_sL, gR_sR, true_and, and_true, and_self, ite_true, ite_false, ite_self, not_true_eq_false, not_false_eq_true, or_true, true_or, or_false, false_or, yB0, yB1, Decidable.not_not]
      have hT1 := cT_fr hT hF1 (Xsc_T hb)
      have g2 : gI (sI (sL (sI (sI (sI (sI (sI σ 2 2 (q0 : Nat)) t 5 ((c + 1 : Nat) : Int)) (t + 1) c k) (t + 2) c (-1)) (t + 3) c (-1)) (t + 4) c 0) (t + 5) c (-1)) 2 2 = (q0 : Nat) := by simp (disch := omega) only [if_pos, if_neg, yAnd, Int.toNat_natCast, zw_id, gI_sI, gI_sL, gI_sR, gL_sI, gL_sL, gL_sR, gR_sI, gR_sL, gR_sR, true_and, and_true, and_self, ite_true, ite_false, ite_self, not_true_eq_false, not_false_eq_true, or_true, true_or, or_false, false_or, yB0, yB1, Decidable.not_not]
      have g3 : gI (sI (sL (sI (sI (sI (sI (sI σ 2 2 (q0 : Nat)) t 5 ((c + 1 : Nat) : Int)) (t + 1) c k) (t + 2) c (-1)) (t + 3) c (-1)) (t + 4) c 0) (t + 5) c (-1)) 2 3 = gI σ 2 3 := by simp (disch := omega) only [if_pos, if_neg, yAnd, Int.toNat_natCast, zw_id, gI_sI, gI_sL, gI_sR, gL_sI, gL_sL, gL_sR, gR_sI, gR_sL, gR_sR, true_and, and_true, and_self, ite_true, ite_false, ite_self, not_true_eq_false, not_false_eq_true, or_true, true_or, or_false, false_or, yB0, yB1, Decidable.not_not]
      have g4 : gI (sI (sL (sI (sI (sI (sI (sI σ 2 2 (q0 : Nat)) t 5 ((c + 1 : Nat) : Int)) (t + 1) c k) (t + 2) c (-1)) (t + 3) c (-1)) (t + 4) c 0) (t + 5) c (-1)) 2 4 = gI σ 2 4 := by simp (disch := omega) only [if_pos, if_neg, yAnd, Int.toNat_natCast, zw_id, gI_sI, gI_sL, gI_sR, gL_sI, gL_sL, gL_sR, gR_sI, gR_sL, gR_sR, true_and, and_true, and_self, ite_true, ite_false, ite_self, not_true_eq_false, not_false_eq_true, or_true, true_or, or_false, false_or, yB0, yB1, Decidable.not_not]
      have g5 : gI (sI (sL (sI (sI (sI (sI (sI σ 2 2 (q0 : Nat)) t 5 ((c + 1 : Nat) : Int)) (t + 1) c k) (t + 2) c (-1)) (t + 3) c (-1)) (t + 4) c 0) (t + 5) c (-1)) t 5 = ((c + 1 : Nat) : Int) := by simp (disch := omega) only [if_pos, if_neg, yAnd, Int.toNat_natCast, zw_id, gI_sI, gI_sL, gI_sR, gL_sI, gL_sL, gL_sR, gR_sI, gR_sL, gR_sR, true_and, and_true, and_self, ite_true, ite_false, ite_self, not_true_eq_false, not_false_eq_true, or_true, true_or, or_false, false_or, yB0, yB1, Decidable.not_not]
      generalize (sI (sL (sI (sI (sI (sI (sI σ 2 2 (q0 : Nat)) t 5 ((c + 1 : Nat) : Int)) (t + 1) c k) (t + 2) c (-1)) (t + 3) c (-1)) (t + 4) c 0) (t + 5) c (-1)) = σ1 at hF1 hE1 hT1 g2 g3 g4 g5 ⊢
      rw [ze_57 hs, yAnd hcc, Int.toNat_natCast, hE1.1]
      unfold edA at k0 k1
      have hq0L : q0 ≤ L := by omega
      show if k = 4 then _ else _
      by_cases h4 : k = 4
      · rw [if_pos h4] at k0 k1
        rw [if_pos h4, zr_60_111 (by omega) hs, if_pos rfl]
        refine c_edB (x := -1) (by omega) hs hT1 g2 hq0L hc8 (by omega) hE1 (fun σ' e he hF2 a3 a4 a5 => ?k0) (fun σ' r hr2 hF2 a3 a4 a2 a5 hE2 => ?k1)
        case k0 =>
          rw [he] at k0
          exact k0 σ' e rfl (hF1.trans hF2) a3 a4
        case k1 =>
          rw [hr2] at k1
          exact k1 σ' ((k, -1, r.1.2.2, r.1.1, r.1.2.1), r.2) rfl (hF1.trans hF2) (a3.trans g3) (a4.trans g4) a2 (a5.trans g5) hE2 hc8
      · rw [if_neg h4] at k0 k1
        rw [if_neg h4, zr_60_111 (by omega) hs, if_neg (by omega), c_name (yKK (by omega)) hT1 g2 hq0L]
        cases hn : nmR f L q0 with
        | inl p =>
          rw [hn] at k0
          simp only
          rw [zr_60_123 hs hs, yAnd hcc, yAnd hcc, Int.toNat_natCast, yGI_hit, if_neg (fun w => w rfl)]
          refine k0 _ (1, p) rfl ((((hF1.I ?_).I ?_).I ?_).I ?_) ?_ ?_ <;> first | omega | (simp (disch := omega) only [if_pos, if_neg, yAnd, Int.toNat_natCast, zw_id, gI_sI, gI_sL, gI_sR, gL_sI, gL_sL, gL_sR, gR_sI, gR_sL, gR_sR, true_and, and_true, and_self, ite_true, ite_false, ite_self, not_true_eq_false, not_false_eq_true, or_true, true_or, or_false, false_or, yB0, yB1, Decidable.not_not]; done) | (simp (disch := omega) only [if_pos, if_neg, yAnd, Int.toNat_natCast, zw_id, gI_sI, gI_sL, gI_sR, gL_sI, gL_sL, gL_sR, gR_sI, gR_sL, gR_sR, true_and, and_true, and_self, ite_true, ite_false, ite_self, not_true_eq_false, not_false_eq_true, or_true, true_or, or_false, false_or, yB0, yB1, Decidable.not_not]; rfl) | (simp (disch := omega) only [if_pos, if_neg, yAnd, Int.toNat_natCast, zw_id, gI_sI, gI_sL, gI_sR, gL_sI, gL_sL, gL_sR, gR_sI, gR_sL, gR_sR, true_and, and_true, and_self, ite_true, ite_false, ite_self, not_true_eq_false, not_false_eq_true, or_true, true_or, or_false, false_or, yB0, yB1, Decidable.not_not]; omega)
        | inr r2 =>
          obtain ⟨x, q1⟩ := r2
          rw [hn] at k0 k1
          simp only at k0 k1 ⊢
          obtain ⟨n1, n2, n3, n4, -⟩ := nmR_ok hn
          rw [zr_60_123 hs hs, yAnd hcc, yAnd hcc, Int.toNat_natCast, yGI_hit, if_pos (by omega)]
          obtain ⟨e1, e2, e3, e4, e5⟩ := hE1
          simp only at e1 e2 e3 e4 e5
          have hF3 : yFr (Xsc t c) σ (sI (sI σ1 2 2 (q1 : Nat)) (t + 2) c x) := (hF1.I (by omega)).I (by omega)
          refine c_edB (x := x) (a := q1) (by omega) hs (cT_fr hT hF3 (Xsc_T hb)) (by simp (disch := omega) only [if_pos, if_neg, yAnd, Int.toNat_natCast, zw_id, gI_sI, gI_sL, gI_sR, gL_sI, gL_sL, gL_sR, gR_sI, gR_sL, gR_sR, true_and, and_true, and_self, ite_true, ite_false, ite_self, not_true_eq_false, not_false_eq_true, or_true, true_or, or_false, false_or, yB0, yB1, Decidable.not_not]) (by omega) hc8 (by omega) ⟨?e1, ?e2, ?e3, ?e4, ?e5⟩ (fun σ' e he hF2 a3 a4 a5 => ?k0) (fun σ' r hr2 hF2 a3 a4 a2 a5 hE2 => ?k1)
          case k0 =>
            rw [he] at k0
            exact k0 σ' e rfl (hF3.trans hF2) a3 a4
          case k1 =>
            rw [hr2] at k1
            exact k1 σ' ((k, x, r.1.2.2, r.1.1, r.1.2.1), r.2) rfl (hF3.trans hF2) (a3.trans (by simp (disch := omega) only [g3, if_pos, if_neg, yAnd, Int.toNat_natCast, zw_id, gI_sI, gI_sL, gI_sR, gL_sI, gL_sL, gL_sR, gR_sI, gR_sL, gR_sR, true_and, and_true, and_self, ite_true, ite_false, ite_self, not_true_eq_false, not_false_eq_true, or_true, true_or, or_false, false_or, yB0, yB1, Decidable.not_not])) (a4.trans (by simp (disch := omega) only [g4, if_pos, if_neg, yAnd, Int.toNat_natCast, zw_id, gI_sI, gI_sL, gI_sR, gL_sI, gL_sL, gL_sR, gR_sI, gR_sL, gR_sR, true_and, and_true, and_self, ite_true, ite_false, ite_self, not_true_eq_false, not_false_eq_true, or_true, true_or, or_false, false_or, yB0, yB1, Decidable.not_not])) a2 (a5.trans (by simp (disch := omega) only [g5, if_pos, if_neg, yAnd, Int.toNat_natCast, zw_id, gI_sI, gI_sL, gI_sR, gL_sI, gL_sL, gL_sR, gR_sI, gR_sL, gR_sR, true_and, and_true, and_self, ite_true, ite_false, ite_self, not_true_eq_false, not_false_eq_true, or_true, true_or, or_false, false_or, yB0, yB1, Decidable.not_not])) hE2 hc8
          case e1 => show gI _ _ _ = k; simp (disch := omega) only [e1, if_pos, if_neg, yAnd, Int.toNat_natCast, zw_id, gI_sI, gI_sL, gI_sR, gL_sI, gL_sL, gL_sR, gR_sI, gR_sL, gR_sR, true_and, and_true, and_self, ite_true, ite_false, ite_self, not_true_eq_false, not_false_eq_true, or_true, true_or, or_false, false_or, yB0, yB1, Decidable.not_not]
          case e2 => show gI _ _ _ = x; simp (disch := omega) only [if_pos, if_neg, yAnd, Int.toNat_natCast, zw_id, gI_sI, gI_sL, gI_sR, gL_sI, gL_sL, gL_sR, gR_sI, gR_sL, gR_sR, true_and, and_true, and_self, ite_true, ite_false, ite_self, not_true_eq_false, not_false_eq_true, or_true, true_or, or_false, false_or, yB0, yB1, Decidable.not_not]
          case e3 => show gI _ _ _ = -1; simp (disch := omega) only [e3, if_pos, if_neg, yAnd, Int.toNat_natCast, zw_id, gI_sI, gI_sL, gI_sR, gL_sI, gL_sL, gL_sR, gR_sI, gR_sL, gR_sR, true_and, and_true, and_self, ite_true, ite_false, ite_self, not_true_eq_false, not_false_eq_true, or_true, true_or, or_false, false_or, yB0, yB1, Decidable.not_not]
          case e4 => show gL _ _ _ = 0; simp (disch := omega) only [e4, if_pos, if_neg, yAnd, Int.toNat_natCast, zw_id, gI_sI, gI_sL, gI_sR, gL_sI, gL_sL, gL_sR, gR_sI, gR_sL, gR_sR, true_and, and_true, and_self, ite_true, ite_false, ite_self, not_true_eq_false, not_false_eq_true, or_true, true_or, or_false, false_or, yB0, yB1, Decidable.not_not]
          case e5 => show gI _ _ _ = -1; simp (disch := omega) only [e5, if_pos, if_neg, yAnd, Int.toNat_natCast, zw_id, gI_sI, gI_sL, gI_sR, gL_sI, gL_sL, gL_sR, gR_sI, gR_sL, gR_sR, true_and, and_true, and_self, ite_true, ite_false, ite_self, not_true_eq_false, not_false_eq_true, or_true, true_or, or_false, false_or, yB0, yB1, Decidable.not_not]
/-- what is written where a script is read into t -/
abbrev Xss (t : Nat) : Nat → Nat → Prop := fun k j => (k = 2 ∧ 2 ≤ j ∧ j ≤ 4) ∨ (t + 1 ≤ k ∧ k ≤ t + 5) ∨ (k = t ∧ j = 5)
theorem edR_end {f : Nat → Int} {L p c : Nat} {d : EDT} {q : Nat} (h : edR f L p c = .inr (d, q)) (hp : p ≤ L) : p < q ∧ q ≤ L := by
  unfold edR at h
  split at h
  · cases h
  · rename_i h1
    split at h
    · cases h
    · have hw := kdR_wl h1
      have hwl := wl_le (f := f) hp
      have hC : ∀ (k : Int) (a q : Nat) (r : Int × Int), a ≤ L → edC f L k a = .inr (r, q) → a ≤ q ∧ q ≤ L := by
        intro k a q r ha h
        unfold edC at h
        split at h
        · split at h
          · cases h
          · rename_i w hw2
            split at h
            · cases h
            · rename_i y hy
              cases h
              obtain ⟨w1, w2⟩ := w
              obtain ⟨y1, y2⟩ := y
              have g1 := whR_ok hw2 ha
              have g2 := nmR_ok hy
              have := sk_ge f L a
              have := sk_ge f L w2
              simp only at g2 ⊢
              exact ⟨by omega, by omega⟩
        · cases h; exact ⟨Nat.le_refl _, ha⟩
      have hB : ∀ (k : Int) (a q : Nat) (r : Int64 × Int × Int), a ≤ L → edB f L k a = .inr (r, q) → a ≤ q ∧ q ≤ L := by
        intro k a q r ha h
        unfold edB at h
        split at h
        · split at h
          · cases h
          · rename_i w hw2
            split at h
            · cases h
            · rename_i y hy
              cases h
              obtain ⟨w1, w2⟩ := w
              obtain ⟨y1, y2⟩ := y
              have g1 := rdl_ok hw2
              have g2 := hC k w2 y2 y1 g1.2.1 hy
              exact ⟨by omega, g2.2⟩
        · split at h
          · cases h
          · rename_i y hy
            cases h
            obtain ⟨y1, y2⟩ := y
            exact hC k a y2 y1 ha hy
      unfold edA at h
      split at h
      · split at h
        · cases h
        · rename_i y hy
          cases h
          obtain ⟨y1, y2⟩ := y
          have := hB _ _ y2 y1 hwl hy
          exact ⟨by omega, this.2⟩
      · split at h
        · cases h
        · rename_i w hw2
          split at h
          · cases h
          · rename_i y hy
            cases h
            obtain ⟨w1, w2⟩ := w
            obtain ⟨y1, y2⟩ := y
            have g1 := nmR_ok hw2
            have := sk_ge f L (p + wl f L p)
            have := hB _ w2 y2 y1 (by omega) hy
            exact ⟨by omega, this.2⟩
theorem cEd_fr {t c : Nat} {d : EDT} {X : Nat → Nat → Prop} {σ σ' : zW} (h : cEd t c d σ) (hF : yFr X σ σ') (hX : ∀ k, t + 1 ≤ k → k ≤ t + 5 → ¬ X k c) : cEd t c d σ' := by
  obtain ⟨h1, h2, h3, h4, h5⟩ := h
  exact ⟨(hF.i (hX _ (by omega) (by omega))).trans h1, (hF.i (hX _ (by omega) (by omega))).trans h2, (hF.i (hX _ (by omega) (by omega))).trans h3, (hF.l (hX _ (by omega) (by omega))).trans h4, (hF.i (hX _ (by omega) (by omega))).trans h5⟩
theorem c_script_loop {K : List zF} (hK : K.length + 7 ≤ 60) {f : Nat → Int} {L t : Nat} (hs : zSc t) : ∀ (n a c : Nat) (es : Nat → EDT) (σ : zW) (o3 : Option zV), 9 ≤ c + n → c ≤ 8 → a ≤ L → cT f L σ → gI σ 2 2 = (a : Int) → gI σ 2 3 = 0 → gI σ 2 4 = 0 → gI σ t 5 = (c : Int) → (∀ i, i < c → cEd t i (es i) σ) →
    (∀ (σ' : zW) (e : Nat × Nat), scR f L n a c es = .inl e → yFr (Xss t) σ σ' → gI σ' 2 3 = (e.1 : Nat) → gI σ' 2 4 = (e.2 : Nat) → zRet true K (some (.inl 0)) σ') →
    (∀ (σ' : zW) (r : Nat × (Nat → EDT)), scR f L n a c es = .inr r → yFr (Xss t) σ σ' → gI σ' 2 3 = 0 → gI σ' 2 4 = 0 → gI σ' t 5 = (r.1 : Nat) → r.1 ≤ 8 → (∀ i, i < r.1 → cEd t i (r.2 i) σ') → zRet true K (some (.inl 1)) σ') →
    zEv true ((59, 21, [some (.inr (.inr t)), some (.inr (.inr 2)), some (.inl (c : Int)), o3], []) :: K) σ := by
  have hb := zSc_b hs
  intro n
  induction n with
  | zero => intro a c es σ o3 hn hc; omega
  | succ n ih =>
    intro a c es σ o3 hn hc haL hT ha h3 h4 h5 hE k0 k1
    have h6 := hT.2.2.1
    have hss := sk_le (f := f) haL
    rw [scR] at k0 k1
    rw [zj_59_21 (by omega) hs, if_neg (by omega)]
    have hXX : ∀ k j, Xsc t c k j → Xss t k j := fun k j h => by omega
    refine c_edit (yKK (by omega)) hs hT ha haL h5 hc (fun σ' e he hF a3 a4 => ?k0) (fun σ' r hr hF a3 a4 a2 a5 hE2 hc8 => ?k1)
    case k0 =>
      rw [he] at k0
      rw [zr_59_32 (by omega), if_neg (fun w => w rfl)]
      exact k0 σ' e rfl (hF.mono hXX) a3 a4
    case k1 =>
      rw [hr] at k0 k1
      obtain ⟨d, q⟩ := r
      simp only at k0 k1 a2 hE2
      obtain ⟨q1, q2⟩ := edR_end hr hss
      have hT2 := cT_fr hT hF (Xsc_T hb)
      have hs2 := sk_le (f := f) q2
      rw [zr_59_32 (by omega), if_pos (by omega), c_next (yL (by omega)) hT2 a2, zr_59_41 (by omega), yGI_hit]
      have hEE : ∀ (x : Int) (i : Nat), i < c + 1 → cEd t i (fup es c d i) (sI σ' 2 2 x) := by
        intro x i hi
        have hF2 : yFr (fun k j => k = 2 ∧ j = 2) σ' (sI σ' 2 2 x) := yFr.rf.I ⟨rfl, rfl⟩
        by_cases e : i = c
        · subst e; rw [fup_eq]; exact cEd_fr hE2 hF2 (fun k h1 h2 => by omega)
        · rw [fup_ne e]; exact cEd_fr (cEd_fr (hE i (by omega)) hF (fun k h1 h2 => by omega)) hF2 (fun k h1 h2 => by omega)
      have hF9 : ∀ x : Int, yFr (Xss t) σ (sI σ' 2 2 x) := fun x => (hF.mono hXX).I (by omega)
      by_cases hE1 : tb f L (sk f L q) = -1
      · rw [if_pos hE1] at k1
        rw [if_neg (fun w => w hE1)]
        exact k1 _ (c + 1, fup es c d) rfl (hF9 _) (by simp (disch := omega) only [a3, h3, if_pos, if_neg, yAnd, Int.toNat_natCast, zw_id, gI_sI, gI_sL, gI_sR, gL_sI, gL_sL, gL_sR, gR_sI, gR_sL, gR_sR, true_and, and_true, and_self, ite_true, ite_false, ite_self, not_true_eq_false, not_false_eq_true, or_true, true_or, or_false, false_or, yB0, yB1, Decidable.not_not]) (by simp (disch := omega) only [a4, h4, if_pos, if_neg, yAnd, Int.toNat_natCast, zw_id, gI_sI, gI_sL, gI_sR, gL_sI, gL_sL, gL_sR, gR_sI, gR_sL, gR_sR, true_and, and_true, and_self, ite_true, ite_false, ite_self, not_true_eq_false, not_false_eq_true, or_true, true_or, or_false, false_or, yB0, yB1, Decidable.not_not]) (by simp (disch := omega) only [a5, if_pos, if_neg, yAnd, Int.toNat_natCast, zw_id, gI_sI, gI_sL, gI_sR, gL_sI, gL_sL, gL_sR, gR_sI, gR_sL, gR_sR, true_and, and_true, and_self, ite_true, ite_false, ite_self, not_true_eq_false, not_false_eq_true, or_true, true_or, or_false, false_or, yB0, yB1, Decidable.not_not]) (by omega) (hEE _)
      · rw [if_neg hE1] at k0 k1
        rw [if_pos hE1]
        by_cases h59 : tb f L (sk f L q) = 59
        · rw [if_pos h59] at k0 k1
          have hlt : sk f L q < L := by
            rcases Nat.lt_or_ge (sk f L q) L with q9 | q9
            · exact q9
            · rw [tb_ge q9] at h59; omega
          rw [if_pos h59, zw_id (by omega) (by omega), zw_id (by omega) (by omega), sI_sI, show ((c : Int) + 1) = ((c + 1 : Nat) : Int) by omega, show ((sk f L q : Nat) : Int) + 1 = ((sk f L q + 1 : Nat) : Int) by omega]
          exact ih (sk f L q + 1) (c + 1) (fup es c d) _ _ (by omega) (by omega) (by omega) (cT_u hT2 (by omega)) yGI_hit (by simp (disch := omega) only [a3, h3, if_pos, if_neg, yAnd, Int.toNat_natCast, zw_id, gI_sI, gI_sL, gI_sR, gL_sI, gL_sL, gL_sR, gR_sI, gR_sL, gR_sR, true_and, and_true, and_self, ite_true, ite_false, ite_self, not_true_eq_false, not_false_eq_true, or_true, true_or, or_false, false_or, yB0, yB1, Decidable.not_not]) (by simp (disch := omega) only [a4, h4, if_pos, if_neg, yAnd, Int.toNat_natCast, zw_id, gI_sI, gI_sL, gI_sR, gL_sI, gL_sL, gL_sR, gR_sI, gR_sL, gR_sR, true_and, and_true, and_self, ite_true, ite_false, ite_self, not_true_eq_false, not_false_eq_true, or_true, true_or, or_false, false_or, yB0, yB1, Decidable.not_not]) (by simp (disch := omega) only [a5, if_pos, if_neg, yAnd, Int.toNat_natCast, zw_id, gI_sI, gI_sL, gI_sR, gL_sI, gL_sL, gL_sR, gR_sI, gR_sL, gR_sR, true_and, and_true, and_self, ite_true, ite_false, ite_self, not_true_eq_false, not_false_eq_true, or_true, true_or, or_false, false_or, yB0, yB1, Decidable.not_not]) (hEE _) (fun σ2 e he hF2 => k0 σ2 e he ((hF9 _).trans hF2)) (fun σ2 r hr hF2 => k1 σ2 r hr ((hF9 _).trans hF2))
        · rw [if_neg h59] at k0
          rw [if_neg h59, c_fail, zr_59_64, yAnd (Or.inl rfl)]
          refine k0 _ (1, sk f L q) rfl (((hF9 _).I ?_).I ?_) ?_ ?_ <;> first | omega | (simp (disch := omega) only [if_pos, if_neg, yAnd, Int.toNat_natCast, zw_id, gI_sI, gI_sL, gI_sR, gL_sI, gL_sL, gL_sR, gR_sI, gR_sL, gR_sR, true_and, and_true, and_self, ite_true, ite_false, ite_self, not_true_eq_false, not_false_eq_true, or_true, true_or, or_false, false_or, yB0, yB1, Decidable.not_not]; done) | (simp (disch := omega) only [if_pos, if_neg, yAnd, Int.toNat_natCast, zw_id, gI_sI, gI_sL, gI_sR, gL_sI, gL_sL, gL_sR, gR_sI, gR_sL, gR_sR, true_and, and_true, and_self, ite_true, ite_false, ite_self, not_true_eq_false, not_false_eq_true, or_true, true_or, or_false, false_or, yB0, yB1, Decidable.not_not]; rfl) | (simp (disch := omega) only [if_pos, if_neg, yAnd, Int.toNat_natCast, zw_id, gI_sI, gI_sL, gI_sR, gL_sI, gL_sL, gL_sR, gR_sI, gR_sL, gR_sR, true_and, and_true, and_self, ite_true, ite_false, ite_self, not_true_eq_false, not_false_eq_true, or_true, true_or, or_false, false_or, yB0, yB1, Decidable.not_not]; omega)
/-- Script.read -/
theorem c_script {K : List zF} (hK : K.length + 7 ≤ 60) {f : Nat → Int} {L t : Nat} {σ : zW} (hs : zSc t) (hT : cT f L σ)
    (k0 : ∀ (σ' : zW) (e : Nat × Nat), sread f L = .inl e → yFr (Xss t) σ σ' → gI σ' 2 3 = (e.1 : Nat) → gI σ' 2 4 = (e.2 : Nat) → zRet true K (some (.inl 0)) σ')
    (k1 : ∀ (σ' : zW) (r : Nat × (Nat → EDT)), sread f L = .inr r → yFr (Xss t) σ σ' → gI σ' 2 3 = 0 → gI σ' 2 4 = 0 → gI σ' t 5 = (r.1 : Nat) → r.1 ≤ 8 → (∀ i, i < r.1 → cEd t i (r.2 i) σ') → zRet true K (some (.inl 1)) σ') :
    zEv true (zent 59 [.inr (.inr t), .inr (.inr 2)] :: K) σ := by
  have hb := zSc_b hs
  have hF1 : yFr (Xss t) σ (sI (sI (sI (sI σ 2 2 0) 2 3 0) 2 4 0) t 5 0) := (((yFr.rf.I (by omega)).I (by omega)).I (by omega)).I (by omega)
  have hT1 := cT_fr hT hF1 (fun k j h => by omega)
  have g2 : gI (sI (sI (sI (sI σ 2 2 0) 2 3 0) 2 4 0) t 5 0) 2 2 = ((0 : Nat) : Int) := by simp (disch := omega) only [if_pos, if_neg, yAnd, Int.toNat_natCast, zw_id, gI_sI, gI_sL, gI_sR, gL_sI, gL_sL, gL_sR, gR_sI, gR_sL, gR_sR, true_and, and_true, and_self, ite_true, ite_false, ite_self, not_true_eq_false, not_false_eq_true, or_true, true_or, or_false, false_or, yB0, yB1, Decidable.not_not]; rfl
  rw [ze_59 (by omega), c_begin, zr_59_4 (by omega) hs, c_next (yL (by omega)) hT1 g2, zr_59_13]
  unfold sread at k0 k1
  by_cases hE : tb f L (sk f L 0) = -1
  · rw [if_pos hE] at k1
    rw [if_neg (fun w => w hE)]
    refine k1 _ _ rfl (hF1.I (by omega)) ?_ ?_ ?_ (Nat.zero_le _) (fun i hi => by omega) <;> first | omega | (simp (disch := omega) only [if_pos, if_neg, yAnd, Int.toNat_natCast, zw_id, gI_sI, gI_sL, gI_sR, gL_sI, gL_sL, gL_sR, gR_sI, gR_sL, gR_sR, true_and, and_true, and_self, ite_true, ite_false, ite_self, not_true_eq_false, not_false_eq_true, or_true, true_or, or_false, false_or, yB0, yB1, Decidable.not_not]; done) | (simp (disch := omega) only [if_pos, if_neg, yAnd, Int.toNat_natCast, zw_id, gI_sI, gI_sL, gI_sR, gL_sI, gL_sL, gL_sR, gR_sI, gR_sL, gR_sR, true_and, and_true, and_self, ite_true, ite_false, ite_self, not_true_eq_false, not_false_eq_true, or_true, true_or, or_false, false_or, yB0, yB1, Decidable.not_not]; rfl) | (simp (disch := omega) only [if_pos, if_neg, yAnd, Int.toNat_natCast, zw_id, gI_sI, gI_sL, gI_sR, gL_sI, gL_sL, gL_sR, gR_sI, gR_sL, gR_sR, true_and, and_true, and_self, ite_true, ite_false, ite_self, not_true_eq_false, not_false_eq_true, or_true, true_or, or_false, false_or, yB0, yB1, Decidable.not_not]; omega)
  · rw [if_neg hE] at k0 k1
    rw [if_pos hE]
    have hs0 := sk_le (f := f) (L := L) (Nat.zero_le L)
    refine c_script_loop (c := 0) hK hs 10 (sk f L 0) (fun _ => (0, 0, 0, 0, 0)) _ none (by omega) (by omega) hs0 (cT_u hT1 (by omega)) yGI_hit ?_ ?_ ?_ (fun i hi => by omega) (fun σ' e he hF => k0 σ' e he ((hF1.I (by omega)).trans hF)) (fun σ' r hr hF => k1 σ' r hr ((hF1.I (by omega)).trans hF)) <;> first | omega | (simp (disch := omega) only [if_pos, if_neg, yAnd, Int.toNat_natCast, zw_id, gI_sI, gI_sL, gI_sR, gL_sI, gL_sL, gL_sR, gR_sI, gR_sL, gR_sR, true_and, and_true, and_self, ite_true, ite_false, ite_self, not_true_eq_false, not_false_eq_true, or_true, true_or, or_false, false_or, yB0, yB1, Decidable.not_not]; done) | (simp (disch := omega) only [if_pos, if_neg, yAnd, Int.toNat_natCast, zw_id, gI_sI, gI_sL, gI_sR, gL_sI, gL_sL, gL_sR, gR_sI, gR_sL, gR_sR, true_and, and_true, and_self, ite_true, ite_false, ite_self, not_true_eq_false, not_false_eq_true, or_true, true_or, or_false, false_or, yB0, yB1, Decidable.not_not]; rfl) | (simp (disch := omega) only [if_pos, if_neg, yAnd, Int.toNat_natCast, zw_id, gI_sI, gI_sL, gI_sR, gL_sI, gL_sL, gL_sR, gR_sI, gR_sL, gR_sR, true_and, and_true, and_self, ite_true, ite_false, ite_self, not_true_eq_false, not_false_eq_true, or_true, true_or, or_false, false_or, yB0, yB1, Decidable.not_not]; omega)
