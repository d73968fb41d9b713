/-! the model's row of a tree that is edited or shown -/
/-- a row: how many, labels, depths, ids -/
abbrev ROW : Type := Nat × (Nat → Int64) × (Nat → Nat) × (Nat → Int)
def mRw (r : ROW) (σ : zW) : Prop := gI σ 122 77 = (r.1 : Int) ∧ ∀ i, i < r.1 → gL σ 181 i = r.2.1 i ∧ gI σ 180 i = (r.2.2.1 i : Nat) ∧ gI σ 179 i = r.2.2.2 i
theorem mRw_fr {r : ROW} {σ σ' : zW} {X : Nat → Nat → Prop} (h : mRw r σ) (hF : yFr X σ σ') (hX : ∀ k j, X k j → ¬ (179 ≤ k ∧ k ≤ 181) ∧ ¬ (k = 122 ∧ j = 77)) : mRw r σ' := by
  refine ⟨(hF.i (fun w => (hX _ _ w).2 ⟨rfl, rfl⟩)).trans h.1, fun i hi => ?_⟩
  obtain ⟨h1, h2, h3⟩ := h.2 i hi
  exact ⟨(hF.l (fun w => (hX _ _ w).1 (by omega))).trans h1, (hF.i (fun w => (hX _ _ w).1 (by omega))).trans h2, (hF.i (fun w => (hX _ _ w).1 (by omega))).trans h3⟩
abbrev Xur : Nat → Nat → Prop := fun k j => (k = 122 ∧ (j = 77 ∨ j = 85)) ∨ (179 ≤ k ∧ k ≤ 181)
theorem m_unrolls {K : List zF} {p : Nat} {T : TRE} {σ : zW} (hp : p < 3) (hg : tgd T) (h : mTr p T σ)
    (k : ∀ σ' : zW, yFr Xur σ σ' → gI σ' 122 85 = 20 → mRw (T.1, T.2.1, T.2.2, fun i => (i : Int)) σ' → zRet true K none σ') : zEv true (zent 238 [.inr (.inr 122), .inl (p : Int)] :: K) σ := by
  obtain ⟨n, lab, dep⟩ := T
  have hw : wfd n dep := hg.1
  have hn := hw.1
  obtain ⟨t1, t2⟩ := h
  simp only at t1 t2
  have loop : ∀ (m i : Nat) (o3 : Option zV) (σ2 : zW), n - i = m → i ≤ n → yFr Xur σ σ2 → gI σ2 122 85 = 20 → gI σ2 122 77 = (n : Int) → (∀ j, j < i → gL σ2 181 j = lab j ∧ gI σ2 180 j = (dep j : Nat) ∧ gI σ2 179 j = (j : Int)) → zEv true ((238, 18, [some (.inr (.inr 122)), some (.inl (p : Int)), some (.inl (i : Int)), o3], []) :: K) σ2 := by
    intro m
    induction m with
    | zero =>
      intro i o3 σ2 hm hi hF e85 e77 hE
      rw [zj_238_18, e77, if_pos (by omega)]
      exact k σ2 hF e85 ⟨e77, fun j hj => hE j (by have : j < n := hj; omega)⟩
    | succ m ih =>
      intro i o3 σ2 hm hi hF e85 e77 hE
      have hi' : i < n := by omega
      have hcc : 0 ≤ (i : Int) ∧ (i : Int) < 24 := by omega
      have ex : w32 (w32 (20 * (p : Int)) + (i : Int)) = ((20 * p + i : Nat) : Int) := by rw [zw_id (z := 20 * (p : Int)) (by omega) (by omega), zw_id (by omega) (by omega)]; omega
      have hcx : 0 ≤ ((20 * p + i : Nat) : Int) ∧ ((20 * p + i : Nat) : Int) < 60 := by omega
      have e126 : gI σ2 126 (20 * p + i) = par dep i := (hF.i (by omega)).trans (t2 i hi').2
      have e125 : gL σ2 125 (20 * p + i) = lab i := (hF.l (by omega)).trans (t2 i hi').1
      have hpl := par_lt dep i
      have ev : (if ¬ par dep i = (-1) then w32 ((gI σ2 180 (par dep i).toNat) + 1) else 0 : Int) = (dep i : Nat) := by
        by_cases e : i = 0
        · subst e
          rw [par_root hw, if_neg (fun w => w rfl), hw.2.1 hi']; rfl
        · obtain ⟨a, ha, ha2, ha3⟩ := par_some hw hi' (by omega)
          have hdl := wfd_lt hw a (by omega)
          rw [ha, if_pos (by omega), Int.toNat_natCast, (hE a (by omega)).2.1, zw_id (by omega) (by omega)]
          omega
      rw [zj_238_18, e77, if_neg (by omega), ex, Int.toNat_natCast, Int.toNat_natCast, e126, ev, e125, yAnd hcx, yAnd hcc, yAnd (fun q => by omega), yAnd hcc, yAnd hcx, yAnd hcc, zw_id (by omega) (by omega), show (i : Int) + 1 = ((i + 1 : Nat) : Int) by omega]
      have hF2 : yFr (fun k j => 179 ≤ k ∧ k ≤ 181 ∧ j = i) σ2 (sL (sI (sI σ2 179 i (i : Int)) 180 i ((dep i : Nat) : Int)) 181 i (lab i)) := ((yFr.rf.I (by omega)).I (by omega)).L (by omega)
      refine ih (i + 1) _ _ (by omega) (by omega) (hF.trans (hF2.mono (fun k j h => by omega))) ((hF2.i (by omega)).trans e85) ((hF2.i (by omega)).trans e77) (fun j hj => ?_)
      by_cases e : j = i
      · subst e
        refine ⟨?_, ?_, ?_⟩
        · rw [gL_sL, if_pos ⟨rfl, rfl⟩]
        · rw [gI_sL, yGI_hit]
        · rw [gI_sL, gI_sI, if_neg (by omega), yGI_hit]
      · rw [hF2.l (by omega), hF2.i (by omega), hF2.i (by omega)]; exact hE j (by omega)
  have hcp : 0 ≤ (p : Int) ∧ (p : Int) < 3 := by omega
  rw [ze_238, yAnd hcp, Int.toNat_natCast, t1]
  refine loop n 0 none _ rfl (Nat.zero_le _) ((yFr.rf.I (by omega)).I (by omega)) yGI_hit ?_ (fun j hj => by omega)
  rw [gI_sI, if_neg (by omega), yGI_hit]
theorem m_end {K : List zF} {r : ROW} {s : Nat} {z : Int} {σ : zW} (hR : mRw r σ) (hn : r.1 ≤ 20) (hs : s < r.1) (hz : z = (s : Int)) : zEv true (zent 222 [.inr (.inr 122), .inl z] :: K) σ = zRet true K (some (.inl ((ed r.2.2.1 r.1 s : Nat) : Int))) σ := by
  subst hz
  obtain ⟨n, lab, dep, id⟩ := r
  obtain ⟨r1, r2⟩ := hR
  simp only at r1 r2 hn hs
  have loop : ∀ (m i : Nat), n - i = m → s < i → i ≤ n → zEv true ((222, 4, [some (.inr (.inr 122)), some (.inl (s : Int)), some (.inl (i : Int))], []) :: K) σ = zRet true K (some (.inl ((edr dep (dep s) n m i : Nat) : Int))) σ := by
    intro m
    induction m with
    | zero =>
      intro i hm h1 h2
      rw [zj_222_4, r1, if_pos (by omega), edr]
    | succ m ih =>
      intro i hm h1 h2
      have hcc : 0 ≤ (i : Int) ∧ (i : Int) < 24 := by omega
      have hcs : 0 ≤ (s : Int) ∧ (s : Int) < 24 := by omega
      rw [zj_222_4, r1, if_neg (by omega), yAnd hcc, yAnd hcs, Int.toNat_natCast, Int.toNat_natCast, (r2 i (by omega)).2.1, (r2 s hs).2.1, edr]
      by_cases e : dep i ≤ dep s
      · rw [if_pos (by omega), if_neg (by omega)]
      · rw [if_neg (by omega), if_pos (by omega), zw_id (by omega) (by omega), show (i : Int) + 1 = ((i + 1 : Nat) : Int) by omega]
        exact ih (i + 1) (by omega) (by omega) (by omega)
  rw [ze_222, zw_id (by omega) (by omega), show (s : Int) + 1 = ((s + 1 : Nat) : Int) by omega]
  exact loop _ (s + 1) rfl (by omega) hs
theorem m_isSingle {K : List zF} (hK : K.length < 60) {r : ROW} {s : Nat} {z : Int} {σ : zW} (hR : mRw r σ) (hn : r.1 ≤ 20) (hs : s < r.1) (hz : z = (s : Int)) : zEv true (zent 224 [.inr (.inr 122), .inl z] :: K) σ = zRet true K (some (.inl (if ed r.2.2.1 r.1 s = s + 1 then 1 else 0))) σ := by
  subst hz
  rw [ze_224 hK, m_end hR hn hs rfl, zr_224_5, zw_id (by omega) (by omega)]
  by_cases e : ed r.2.2.1 r.1 s = s + 1
  · rw [if_neg (by omega), if_pos e]
  · rw [if_pos (by omega), if_neg e]
theorem m_upOf {K : List zF} {r : ROW} {s : Nat} {z : Int} {σ : zW} (hR : mRw r σ) (hn : r.1 ≤ 20) (hs : s < r.1) (hz : z = (s : Int)) : zEv true (zent 223 [.inr (.inr 122), .inl z] :: K) σ = zRet true K (some (.inl (par r.2.2.1 s))) σ := by
  subst hz
  obtain ⟨n, lab, dep, id⟩ := r
  obtain ⟨r1, r2⟩ := hR
  simp only at r1 r2 hn hs
  have loop : ∀ (i : Nat), i ≤ s → ∀ z : Int, z = (i : Int) - 1 → zEv true ((223, 4, [some (.inr (.inr 122)), some (.inl (s : Int)), some (.inl z)], []) :: K) σ = zRet true K (some (.inl (pa dep (dep s) i))) σ := by
    intro i
    induction i with
    | zero =>
      intro hi z hz
      rw [zj_223_4, if_pos (by omega), hz]; rfl
    | succ i ih =>
      intro hi z hz
      have hz2 : z = (i : Int) := by omega
      subst hz2
      have hcc : 0 ≤ (i : Int) ∧ (i : Int) < 24 := by omega
      have hcs : 0 ≤ (s : Int) ∧ (s : Int) < 24 := by omega
      rw [zj_223_4, if_neg (by omega), yAnd hcc, yAnd hcs, Int.toNat_natCast, Int.toNat_natCast, (r2 i (by omega)).2.1, (r2 s hs).2.1, pa]
      by_cases e : dep i < dep s
      · rw [if_pos (by omega), if_pos e]
      · rw [if_neg (by omega), if_neg e]
        exact ih (by omega) _ (by rw [zw_id (by omega) (by omega)]; omega)
  rw [ze_223]
  exact loop s (Nat.le_refl _) _ (by rw [zw_id (by omega) (by omega)])
