/-! the two searches find the matches -/
theorem FL_opt {T : TRE} {st : PST} {pd : Nat → Nat} (hg : pgd st pd) (hw8 : pw st) (hu : pup st) {v : Nat → Int} (h : FL T st v) (M : Nat → Prop) {k : Nat} (hk : k < st.2.2.1) (hp : pln st.2.2.2.1 (np st k)) : ∃ a : Nat, a < T.1 ∧ v k = (a : Int) ∧ optQ T st v M k st.1 a := by
  obtain ⟨t, hz, hD⟩ := h
  obtain ⟨A, B, C, E⟩ := FL_parts hg hw8 hu hD
  obtain ⟨n1, n2, n3, n4, n5⟩ := np_ok hg hk
  obtain ⟨-, -, ⟨a, a1, a2, a3, a4, a5⟩, -⟩ := Dq_act (hD _ n1) (C _ n1 hp)
  obtain ⟨e1, e2⟩ := vp_np (v := v) hg hk
  have hvk : v k = (a : Int) := by rw [← e1]; exact a5 e2
  refine ⟨a, a1, hvk, ⟨fun x => ?_, fun x => ?_⟩, fun r r1 r2 r3 => ?_⟩
  · unfold own at a3
    rw [if_neg (by omega), if_neg (by omega)] at a3
    exact a3.1 x
  · unfold own at a3
    rw [if_neg (by omega), if_neg (by omega)] at a3
    exact a3.2 x
  · obtain ⟨-, hf, ⟨b, b1, b2, b3, b4, b5⟩, -⟩ := Dq_act (hD r r2) (C r r2 r3)
    have h0 : r ≠ 0 := by omega
    have hlt := up_lt hw8 hu r2 h0
    have hr := b4 h0
    have v1 : v (nm st r) = (b : Int) := (B r r2 (C r r2 r3)).trans b2
    have v2 : v (nm st (fr3 st r)) = t (fr3 st r) := B _ (Nat.lt_trans hlt r2) (hf h0)
    refine ⟨fun x _ => ?_, fun x _ => ?_⟩
    · rw [x, hvk] at v1
      rw [v2, Int.ofNat.inj v1]; exact hr
    · rw [x, hvk] at v2
      rw [v1, Int.toNat_natCast]
      rw [← v2, Int.toNat_natCast] at hr
      exact hr
theorem bkR_0 {T : TRE} {st : PST} {pd : Nat → Nat} {ℓ : Nat → Nat} {m : Nat} {w v : Nat → Int} (hg : pgd st pd) (hw8 : pw st) (hu : pup st) (hl : plOK st ℓ m) : bkR T st ℓ m 0 w v ↔ FL T st v := by
  constructor
  · rintro ⟨w', -, -, -, h⟩
    exact h
  · intro h
    refine ⟨v, fun j hj => absurd hj (Nat.not_lt_zero j), fun j _ hj => ?_, fun _ _ _ _ => rfl, h⟩
    obtain ⟨l1, l2⟩ := hl.2.1 j hj
    exact FL_opt hg hw8 hu h _ l1 l2
abbrev Xr (tf k j : Nat) : Prop := (k = 41 ∧ (j = 9 ∨ j = 12)) ∨ k = 46 ∨ k = 47 ∨ k = 48 ∨ (k = tf ∧ j = 5) ∨ k = tf + 1
theorem run_pre {t tp tf : Nat} {x : Int} {T : TRE} {st : PST} {pd : Nat → Nat} {P : Nat → Prop} {σ : zW} (htf : zFo tf) (hS : sAll t tp T st pd σ) (hf : fdS tf (T.1 + 1) st.2.2.1 P σ) : yFr (fun k j => k = 41 ∧ (j = 9 ∨ j = 12)) σ (sI (sR σ 41 12 tf) 41 9 x) ∧ sAll t tp T st pd (sI (sR σ 41 12 tf) 41 9 x) ∧ gI (sI (sR σ 41 12 tf) 41 9 x) 41 9 = x ∧ gR (sI (sR σ 41 12 tf) 41 9 x) 41 12 = tf ∧ fdS tf (T.1 + 1) st.2.2.1 P (sI (sR σ 41 12 tf) 41 9 x) := by
  have htf' : tf = 50 ∨ tf = 52 := htf
  have hF : yFr (fun k j => k = 41 ∧ (j = 9 ∨ j = 12)) σ (sI (sR σ 41 12 tf) 41 9 x) := (yFr.rf.R (X := fun k j => k = 41 ∧ (j = 9 ∨ j = 12)) ⟨rfl, Or.inr rfl⟩).I ⟨rfl, Or.inl rfl⟩
  refine ⟨hF, sAll_fr hS hF (fun k j x => Or.inl ⟨x.1, by omega, by omega⟩), yGI_hit, ?_, fdS_fr hf hF (fun k j x => by omega)⟩
  rw [gR_sI, gR_sR, if_pos ⟨rfl, rfl⟩]
theorem c_runAll {K : List zF} (hK : K.length + 13 ≤ 60) {t tp tf : Nat} {T : TRE} {st : PST} {pd : Nat → Nat} {P : Nat → Prop} {σ : zW} (hgT : tgd T) (hg : pgd st pd) (hw8 : pw st) (hu : pup st) (htf : zFo tf) (hS : sAll t tp T st pd σ) (hf : fdS tf (T.1 + 1) st.2.2.1 P σ)
    (k : ∀ (σ' : zW) (Q : Nat → Prop), yFr (Xr tf) σ σ' → fdS tf (T.1 + 1) st.2.2.1 Q σ' → (∀ c, Q c ↔ (P c ∨ MT T st c)) → zRet true K none σ') : zEv true (zent 73 [.inr (.inr 41), .inr (.inr tf)] :: K) σ := by
  have hc := hw8.1
  obtain ⟨hF, h1, h2, h3, h4⟩ := run_pre (x := 0) htf hS hf
  rw [ze_73 (by omega)]
  generalize sI (sR σ 41 12 tf) 41 9 0 = σ1 at hF h1 h2 h3 h4 ⊢
  have hWk := c_walk (t := t) (tp := tp) (ah := False) hgT hg hw8 hu htf st.1 0 (Nat.le_of_eq (Nat.sub_zero _)) (Nat.zero_le _)
  refine hWk _ (fun _ => 0) (fun _ => 0) P σ1 (by show K.length + 1 + (st.1 + 2) ≤ 60; omega) ⟨h1, by rw [zb_f (fun x => x)]; exact h2, h3, h4, fun k _ hk => absurd hk (Nat.not_lt_zero _), fun k _ _ hk => absurd hk (Nat.not_lt_zero _), fun x => x.elim, fun q hq => absurd hq (Nat.not_lt_zero q)⟩ (fun q hq => absurd hq (Nat.not_lt_zero q)) (fun σ' Q hF' hQ hQc => ?_)
  rw [zr_73_15]
  refine k σ' Q ((hF.mono (fun k j x => Or.inl x)).trans (hF'.mono (fun k j x => ?_))) hQ (fun c => ?_)
  · rcases x with x | x | x | x | x
    · exact Or.inr (Or.inl x)
    · exact Or.inr (Or.inr (Or.inl x.1))
    · exact Or.inr (Or.inr (Or.inr (Or.inl x.1)))
    · exact Or.inr (Or.inr (Or.inr (Or.inr (Or.inl x))))
    · exact Or.inr (Or.inr (Or.inr (Or.inr (Or.inr x))))
  · rw [hQc c, ← FL_MT hg hw8 hu]
    constructor
    · rintro (x | ⟨v, v1, v2⟩)
      · exact Or.inl x
      · exact Or.inr ⟨v, (wk_0.mp v1).2, v2⟩
    · rintro (x | ⟨v, v1, v2⟩)
      · exact Or.inl x
      · exact Or.inr ⟨v, wk_0.mpr ⟨fun x => x.elim, v1⟩, v2⟩
theorem c_runPlan {K : List zF} (hK : K.length + 17 ≤ 60) {t tp tf m : Nat} {T : TRE} {st : PST} {pd ℓ : Nat → Nat} {P : Nat → Prop} {σ : zW} (hgT : tgd T) (hg : pgd st pd) (hw8 : pw st) (hu : pup st) (h1c : 1 ≤ st.1) (htf : zFo tf) (hS : sAll t tp T st pd σ) (hf : fdS tf (T.1 + 1) st.2.2.1 P σ) (hl : plOK st ℓ m) (h8 : gI σ 41 8 = (m : Int)) (h49 : ∀ j, j < m → gI σ 49 j = (ℓ j : Int))
    (k : ∀ (σ' : zW) (Q : Nat → Prop), yFr (Xr tf) σ σ' → fdS tf (T.1 + 1) st.2.2.1 Q σ' → (∀ c, Q c ↔ (P c ∨ MT T st c)) → zRet true K none σ') : zEv true (zent 72 [.inr (.inr 41), .inr (.inr tf)] :: K) σ := by
  have hc := hw8.1
  have hm := hl.1
  obtain ⟨hF, h1, h2, h3, h4⟩ := run_pre (x := 1) htf hS hf
  rw [ze_72 (by omega)]
  generalize sI (sR σ 41 12 tf) 41 9 1 = σ1 at hF h1 h2 h3 h4 ⊢
  have hB := c_bind (t := t) (tp := tp) hgT hg hw8 hu h1c htf hl m 0 (Nat.sub_zero m) (Nat.zero_le m)
  have e0 : (0 : Int) = ((bs (Ml ℓ 0) 4 : Nat) : Int) := by
    have : bs (Ml ℓ 0) 4 = 0 := bs_zero.mpr (fun i _ x => by obtain ⟨j, j1, -⟩ := x; exact absurd j1 (Nat.not_lt_zero j))
    rw [this]; rfl
  have goal : ∀ z : Int, z = ((bs (Ml ℓ 0) 4 : Nat) : Int) → zEv true (zent 74 [.inr (.inr 41), .inl 0, .inl z] :: (72, 16, [some (.inr (.inr 41)), some (.inr (.inr tf))], []) :: K) σ1 := fun z hz => by
    subst hz
    refine hB _ (fun _ => 0) P σ1 (by show K.length + 1 + (m - 0) + 12 ≤ 60; omega) ⟨h1, h2, h3, h4, (hF.i (by omega)).trans h8, fun j hj => (hF.i (by omega)).trans (h49 j hj), fun k hk => by obtain ⟨j, j1, -⟩ := hk; exact absurd j1 (Nat.not_lt_zero j)⟩ (fun σ' Q hF' hQ hQc => ?_)
    rw [zr_72_16]
    refine k σ' Q ((hF.mono (fun k j x => Or.inl x)).trans (hF'.mono (fun k j x => ?_))) hQ (fun c => ?_)
    · rcases x with x | x | x | x | x
      · exact Or.inr (Or.inl x)
      · exact Or.inr (Or.inr (Or.inl x))
      · exact Or.inr (Or.inr (Or.inr (Or.inl x.1)))
      · exact Or.inr (Or.inr (Or.inr (Or.inr (Or.inl x))))
      · exact Or.inr (Or.inr (Or.inr (Or.inr (Or.inr x))))
    · rw [hQc c, ← FL_MT hg hw8 hu]
      constructor
      · rintro (x | ⟨v, v1, v2⟩)
        · exact Or.inl x
        · exact Or.inr ⟨v, (bkR_0 hg hw8 hu hl).mp v1, v2⟩
      · rintro (x | ⟨v, v1, v2⟩)
        · exact Or.inl x
        · exact Or.inr ⟨v, (bkR_0 hg hw8 hu hl).mpr v1, v2⟩
  exact goal 0 e0
