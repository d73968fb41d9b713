/-! all: one number of all that can be shown and asked -/
theorem v_matV {K : List zF} (hK : K.length + 22 ≤ 60) {l : List Int} {R : STR} {y : TX} {u p : Nat} {z : Int} {σ : zW} (h : LV l (rO R y) u σ) (hp : p < 3) (hz : z = (p : Int)) (k : ∀ σ', lFr 0 σ σ' → LV l (rO R y) u σ' → zRet true K (some (.inl ((lM R p).length : Int))) σ') : zEv true (zent 115 [.inr (.inr 1), .inl z] :: K) σ := by
  obtain ⟨f, ⟨hg, u', hu, hC⟩, he⟩ := h
  subst hz
  have e : oMatches ((f, l.length), rO R y) (p : Int) = (0, ((lM R p).length : Int), ((f, l.length), rO R y)) := by
    unfold oMatches
    rw [if_pos (by omega), Int.toNat_natCast]
    rfl
  refine l_matches hK hg hC ?_
  rw [e]
  exact ⟨fun _ σ' u2 hF hC' hl2 => k σ' (lFr.of hF) ⟨f, ⟨hg, u2, by omega, hC'⟩, he⟩, fun x => absurd rfl x⟩
def hW (x : TX) : Nat → Int64 → Int64
  | 0, h => h
  | k + 1, h => 31 * hW x k h + wdv x k
def hP (T : TRE) (m : Nat) (h : Int64) : Int64 := hW (shw T T.1) (((shw T T.1).1 + 7) / 8) (((1000003 * h + zi2l ((shw T T.1).1 : Int)) + 31 * zi2l (T.1 : Int)) + 257 * zi2l (m : Int))
def allH (Ts : Nat → TRE) (m : Nat → Nat) : Int64 := hP (Ts 2) (m 2) (hP (Ts 1) (m 1) (hP (Ts 0) (m 0) 0))
theorem v_all {K : List zF} (hK : K.length + 23 ≤ 60) {l : List Int} {R : STR} {u : Nat} {σ : zW} (h : LO l R u σ) (k : ∀ σ', lFr 0 σ σ' → LO l R u σ' → zRet true K (some (.inr (.inl (allH R.1 (fun p => (lM R p).length))))) σ') : zEv true (zent 143 [.inr (.inr 1)] :: K) σ := by
  have hKl : K.length < 60 := by omega
  have place : ∀ (p : Nat) (h0 : Int64) (o4 o5 : Option zV) (σ1 : zW), p < 3 → LO l R u σ1 → (∀ (σ' : zW) (o4 o5 : Option zV), lFr 0 σ1 σ' → LO l R u σ' → zEv true ((143, 4, [some (.inr (.inr 1)), some (.inr (.inl (hP (R.1 p) (lM R p).length h0))), none, some (.inl ((p + 1 : Nat) : Int)), o4, o5], []) :: K) σ') → zEv true ((143, 4, [some (.inr (.inr 1)), some (.inr (.inl h0)), none, some (.inl (p : Int)), o4, o5], []) :: K) σ1 := by
    intro p h0 o4 o5 σ1 hp h1 kk
    rw [zj_143_4 hKl, if_neg (by omega)]
    refine v_show (by show K.length + 1 + 8 ≤ 60; omega) h1 hp rfl (fun σ2 hF2 hV2 => ?_)
    rw [zr_143_14 hKl, e_nodes (by show K.length + 1 + 4 ≤ 60; omega) hV2.lo hp rfl, zr_143_33 hKl]
    refine v_matV (p := p) (by show K.length + 1 + 22 ≤ 60; omega) hV2 hp rfl (fun σ3 hF3 hV3 => ?_)
    have hF23 : lFr 0 σ1 σ3 := hF2.trans hF3
    have hR1 : (rO R (shw (R.1 p) (R.1 p).1)).1 = R.1 := rfl
    rw [hR1, zr_143_44]
    have hx : (shw (R.1 p) (R.1 p).1).1 ≤ 184 := by
      obtain ⟨f, hW, -⟩ := hV3
      exact hW.1.2.2.2.2
    have hdn := fun (σ' : zW) (o4 o5 : Option zV) hF hV => kk σ' o4 o5 hF hV
    unfold hP at hdn
    have hw : ∀ z, zEv true (zent 124 [.inr (.inr 1), .inl z] :: ((143, 72, [some (.inr (.inr 1)), none, none, none, none, none], []) :: K)) σ3 = zEv true (zent 124 [.inr (.inr 1), .inl z] :: ((143, 72, [some (.inr (.inr 1)), none, none, none, none, none], []) :: K)) σ3 := fun _ => rfl
    generalize ((1000003 * h0 + zi2l ((shw (R.1 p) (R.1 p).1).1 : Int)) + 31 * zi2l ((R.1 p).1 : Int)) + 257 * zi2l ((lM R p).length : Int) = hh at hdn ⊢
    have loop : ∀ (m j : Nat), ((shw (R.1 p) (R.1 p).1).1 + 7) / 8 - j = m → j ≤ ((shw (R.1 p) (R.1 p).1).1 + 7) / 8 → zEv true ((143, 51, [some (.inr (.inr 1)), some (.inr (.inl (hW (shw (R.1 p) (R.1 p).1) j hh))), none, some (.inl (p : Int)), some (.inl ((shw (R.1 p) (R.1 p).1).1 : Int)), some (.inl (j : Int))], []) :: K) σ3 := by
      intro m
      induction m with
      | zero =>
        intro j hm hj
        have e : j = ((shw (R.1 p) (R.1 p).1).1 + 7) / 8 := by omega
        rw [zj_143_51 hKl, zw_id (by omega) (by omega), if_pos (by omega), ws1 (by omega), e]
        exact hdn σ3 _ _ hF23 hV3.lo
      | succ m ih =>
        intro j hm hj
        have hj' : 8 * j < (shw (R.1 p) (R.1 p).1).1 := by omega
        rw [zj_143_51 hKl, zw_id (by omega) (by omega), if_neg (by omega), e_word (by show K.length + 1 + 2 ≤ 60; omega) hV3, zr_143_72, ws1 (by omega)]
        exact ih (j + 1) (by omega) (by omega)
    exact loop _ 0 rfl (Nat.zero_le _)
  rw [ze_143]
  refine place 0 0 _ _ σ (by decide) h (fun σ1 o4 o5 hF1 hV1 => ?_)
  refine place 1 _ _ _ σ1 (by decide) hV1 (fun σ2 o4 o5 hF2 hV2 => ?_)
  refine place 2 _ _ _ σ2 (by decide) hV2 (fun σ3 o4 o5 hF3 hV3 => ?_)
  rw [zj_143_4 hKl, if_pos (by decide)]
  exact k σ3 ((hF1.trans hF2).trans hF3) hV3
theorem lM_cg {R R' : STR} (h1 : R'.1 = R.1) (h2 : R'.2.1 = R.2.1) : (fun p => (lM R' p).length) = (fun p => (lM R p).length) := by
  funext p
  unfold lM
  rw [h1, h2]
/-! the fault -/
theorem e_fault {K : List zF} {l : List Int} {R : STR} {u : Nat} {z : Int} {σ : zW} (h : LO l R u σ) : zEv true (zent 108 [.inr (.inr 1), .inl z] :: K) σ = zRet true K (some (.inl (if z = 0 then R.2.2.2.1.1 else R.2.2.2.1.2))) σ := by
  obtain ⟨x, f, ⟨hg, u', hu, hC⟩, he⟩ := h
  have hx : gI σ 1 13 = R.2.2.2.1.1 ∧ gI σ 1 14 = R.2.2.2.1.2 := hC.2.2.2.2.1
  rw [ze_108, hx.1, hx.2]
