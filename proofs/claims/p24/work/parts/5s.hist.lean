/-! a tree given back by the class -/
theorem idx20r {e i : Nat} (h : 20 * e + i < 100000) : w32 (w32 ((e : Int) * 20) + (i : Int)) = ((20 * e + i : Nat) : Int) := by rw [zw_id (z := (e : Int) * 20) (by omega) (by omega), zw_id (by omega) (by omega)]; omega
theorem idx20l {e i : Nat} (h : 20 * e + i < 100000) : w32 (w32 (20 * (e : Int)) + (i : Int)) = ((20 * e + i : Nat) : Int) := by rw [zw_id (z := 20 * (e : Int)) (by omega) (by omega), zw_id (by omega) (by omega)]; omega
theorem pkc_lab {T : TRE} {i : Nat} (h : tgd T) (hi : i < T.1) : pkc T i &&& 281474976710655 = T.2.1 i := pk48_lab (lgs_nv (h.2 i hi)) (by have := wfd_lt h.1 i hi; have := h.1.1; omega)
theorem pkc_dep {T : TRE} {i : Nat} (h : tgd T) (hi : i < T.1) : zl2i (zlushr (pkc T i) 48) = ((T.2.2 i : Nat) : Int) := pk48_c (lgs_nv (h.2 i hi)) (by have := wfd_lt h.1 i hi; have := h.1.1; omega)
theorem c_giveBack {K : List zF} (hK : K.length + 4 ≤ 60) {u p t : Nat} {H : Nat → List TRE} {σ : zW} (hp : p < 3) (ht : zTr t) (hu : u ≤ 512) (h : cH u H σ)
    (k0 : H p = [] → zRet true K (some (.inl 0)) σ)
    (k1 : ∀ (T : TRE) (l : List TRE) (σ' : zW), H p = T :: l → tgd T ∧ 1 ≤ T.1 → yFr (fun k j => (k = 65 ∧ j = p) ∨ (t + 1 ≤ k ∧ k ≤ t + 11) ∨ (k = t ∧ 11 ≤ j)) σ σ' → cTr t T σ' → cH u (fup H p l) σ' → zRet true K (some (.inl 1)) σ') :
    zEv true (zent 30 [.inr (.inr 61), .inl (p : Int), .inr (.inr t)] :: K) σ := by
  have hb := zTr_b ht
  have ht6 : t + 11 < 61 ∨ 65 < t := by rcases ht with rfl | rfl | rfl | rfl <;> omega
  have hcp : 0 ≤ (p : Int) ∧ (p : Int) < 3 := by omega
  have hh := h.2 p hp
  rw [ze_30 ht, yAnd hcp, Int.toNat_natCast]
  cases hl : H p with
  | nil =>
    rw [hl] at hh
    have e : gI σ 65 p = -1 := hh
    rw [e, if_neg (fun w => w rfl)]
    exact k0 hl
  | cons T l =>
    rw [hl] at hh
    obtain ⟨e, h1, h2, h3, h4, h5, h6⟩ := hh
    have hn := h4.1.1.1
    have hce : 0 ≤ (e : Int) ∧ (e : Int) < 512 := by omega
    rw [h1, if_pos (by omega), yAnd hce, Int.toNat_natCast, h3]
    have loop : ∀ (m i : Nat) (o5 o6 : Option zV) (σ2 : zW), T.1 - i = m → i ≤ T.1 → yFr (fun k j => k = t + 1 ∨ k = t + 2 ∨ (k = t ∧ j = 12)) σ σ2 → gI σ2 t 12 = (T.1 : Int) → (∀ j, j < i → gL σ2 (t + 1) j = T.2.1 j ∧ gI σ2 (t + 2) j = (T.2.2 j : Nat)) → zEv true ((30, 27, [some (.inr (.inr 61)), some (.inl (p : Int)), some (.inr (.inr t)), some (.inl (e : Int)), some (.inl (i : Int)), o5, o6], []) :: K) σ2 := by
      intro m
      induction m with
      | zero =>
        intro i o5 o6 σ2 hm hi hF e12 hE
        rw [zj_30_27 (by omega) ht, e12, if_pos (by omega)]
        refine c_settle_tree (T := T) (yKK (K := K) (by omega)) ht h4.1 ⟨e12, fun j hj => hE j (by omega)⟩ (fun σ3 hF3 hT3 => ?_)
        have hFF : yFr (fun k j => (t + 1 ≤ k ∧ k ≤ t + 11) ∨ (k = t ∧ 11 ≤ j)) σ σ3 := (hF.mono (fun k j h => by omega)).trans (hF3.mono (fun k j h => by omega))
        rw [zr_30_86, yAnd hce, yAnd hcp, Int.toNat_natCast, Int.toNat_natCast, hFF.i (k := 64) (j := e) (by omega)]
        have hF4 : yFr (fun k j => k = 65 ∧ j = p) σ3 (sI σ3 65 p (gI σ 64 e)) := yFr.rf.I ⟨rfl, rfl⟩
        have hCH := cH_fr h hFF (fun k j h => by omega)
        refine k1 T l _ hl h4 ((hFF.mono (fun k j h => by omega)).trans (hF4.mono (fun k j h => by omega))) ?_ ⟨(hF4.i (by omega)).trans hCH.1, fun q hq => ?_⟩
        · exact cTr_fr hT3 hF4 (fun k j h => by omega)
        · by_cases eq : q = p
          · subst eq
            rw [fup_eq, yGI_hit]
            refine hch_mono _ _ _ _ _ (hch_fr _ _ _ _ _ h6 (fun k hk => ⟨?_, ?_, fun i hi => ?_⟩)) (by omega)
            · rw [hF4.i (by omega), hFF.i (by omega)]
            · rw [hF4.i (by omega), hFF.i (by omega)]
            · rw [hF4.l (by omega), hFF.l (by omega)]
          · rw [fup_ne eq, hF4.i (by omega)]
            exact hch_fr _ _ _ _ _ (hCH.2 q hq) (fun k hk => ⟨hF4.i (by omega), hF4.i (by omega), fun i hi => hF4.l (by omega)⟩)
      | succ m ih =>
        intro i o5 o6 σ2 hm hi hF e12 hE
        have hi' : i < T.1 := by omega
        have hcc : 0 ≤ (i : Int) ∧ (i : Int) < 20 := by omega
        have hcx : 0 ≤ ((20 * e + i : Nat) : Int) ∧ ((20 * e + i : Nat) : Int) < 10240 := by omega
        have ec : gL σ2 62 (20 * e + i) = pkc T i := (hF.l (by omega)).trans (h5 i hi')
        rw [zj_30_27 (by omega) ht, e12, if_neg (by omega), idx20r (e := e) (i := i) (by omega), yAnd hcx, yAnd hcc, yAnd hcc, Int.toNat_natCast, Int.toNat_natCast, ec, pkc_lab h4.1 hi', pkc_dep h4.1 hi', zw_id (by omega) (by omega), show (i : Int) + 1 = ((i + 1 : Nat) : Int) by omega]
        refine ih (i + 1) _ _ _ (by omega) (by omega) ((hF.L (by omega)).I (by omega)) ?_ (fun j hj => ?_)
        · rw [gI_sI, if_neg (by omega), gI_sL]; exact e12
        · by_cases ej : j = i
          · subst ej
            exact ⟨by rw [gL_sI, gL_sL, if_pos ⟨rfl, rfl⟩], yGI_hit⟩
          · exact ⟨by rw [gL_sI, gL_sL, if_neg (fun w => ej w.2)]; exact (hE j (by omega)).1, by rw [gI_sI, if_neg (fun w => ej w.2), gI_sL]; exact (hE j (by omega)).2⟩
    exact loop T.1 0 none none _ (Nat.sub_zero _) (Nat.zero_le _) (yFr.rf.I (by omega)) yGI_hit (fun j hj => by omega)
