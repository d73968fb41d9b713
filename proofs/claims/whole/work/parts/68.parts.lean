/-! the model lays which nodes would do for the parts -/
theorem inpart_child {st : PST} {pd : Nat → Nat} {p q : Nat} (hg : pgd st pd) (hq : q < st.1) (h0 : 0 < q) (h3 : st.2.2.2.1 3 q = (p : Int)) (hp : ¬ pln st.2.2.2.1 p) : ¬ pln st.2.2.2.1 q := by
  obtain ⟨-, -, -, -, -, -, -, -, -, a10⟩ := hg.2.1 q hq
  obtain ⟨b1, b2, -⟩ := a10 h0
  rw [h3, Int.toNat_natCast] at b1 b2
  rintro ⟨c1, c2⟩
  apply hp
  have e1 : st.2.2.2.1 11 p = 0 := Classical.byContradiction (fun w => by
    rw [if_pos (Or.inr w)] at b1
    omega)
  refine ⟨e1, Classical.byContradiction (fun w => ?_)⟩
  rw [if_pos w, c2] at b2
  exact w b2.symm
theorem sgR_33 {x : Int} (h : 0 ≤ x ∧ x ≤ 2) : sgR x = 33 ↔ x = 1 := by
  have : x = 0 ∨ x = 1 ∨ x = 2 := by omega
  rcases this with rfl | rfl | rfl <;> decide
/-- the parts above p are laid -/
def lyd (T : TRE) (st : PST) (w : Nat → Int) (p : Nat) (σ : zW) : Prop := ∀ q, p < q → q < st.1 → ¬ pln st.2.2.2.1 q → ∀ b, b < T.1 → gI σ 175 (20 * q + b) = zb (sat T st w q b)
/-- the values that are met again are there -/
def vOn (T : TRE) (st : PST) (w : Nat → Int) (σ : zW) : Prop := ∀ p, p < st.1 → (st.2.2.2.1 1 p = 3 ∨ st.2.2.2.1 1 p = 4 → gI σ 174 (st.2.2.2.1 2 p).toNat = vp w st.2.2.2.1 (st.2.2.2.1 2 p).toNat) ∧ (st.2.2.2.1 1 p = 3 → ∃ j : Nat, j < T.1 ∧ vp w st.2.2.2.1 (st.2.2.2.1 2 p).toNat = (j : Int))
theorem vOn_fr {T : TRE} {st : PST} {w : Nat → Int} {σ σ' : zW} {X : Nat → Nat → Prop} (h : vOn T st w σ) (hF : yFr X σ σ') (hX : ∀ j, ¬ X 174 j) : vOn T st w σ' := fun p hp => ⟨fun q => (hF.i (hX _)).trans ((h p hp).1 q), (h p hp).2⟩
theorem m_laysParts {K : List zF} (hK : K.length + 6 ≤ 60) {q : Nat} {T : TRE} {st : PST} {pd : Nat → Nat} {w : Nat → Int} {σ : zW} (hgT : tgd T) (hO : mOn q T st σ) (hg : pgd st pd) (hw8 : pw st) (h1c : 1 ≤ st.1) (hl : st.2.1 ≤ 300) (hV : vOn T st w σ)
    (k : ∀ σ' : zW, yFr (fun k _ => k = 175) σ σ' → lyd T st w 0 σ' → zRet true K none σ') : zEv true (zent 198 [.inr (.inr 122)] :: K) σ := by
  have hn := hgT.1.1
  have hc := hw8.1
  have XO : ∀ σ2 : zW, yFr (fun k _ => k = 175) σ σ2 → mOn q T st σ2 ∧ vOn T st w σ2 := fun σ2 h => ⟨mOn_fr hO h (fun k j w => by omega), vOn_fr hV h (fun j => by omega)⟩
  -- one node
  have node : ∀ (p i : Nat) (σ2 : zW) (d x4 : Nat) (y : Int), 0 < p → p < st.1 → i < T.1 → ¬ pln st.2.2.2.1 p → yFr (fun k _ => k = 175) σ σ2 → lyd T st w p σ2 → (∀ b, b < i → gI σ2 175 (20 * p + b) = zb (sat T st w p b)) → st.1 - x4 = d → p < x4 → x4 ≤ st.1 → ((y = 0 ∧ ¬ sat T st w p i) ∨ (y = 1 ∧ own T st w p i ∧ ∀ r, p < r → r < x4 → st.2.2.2.1 3 r = (p : Int) → (smo T st w r i ↔ st.2.2.2.1 4 r ≠ 1))) →
      (∀ σ3 : zW, ∀ o3 o4 : Option zV, yFr (fun k _ => k = 175) σ σ3 → lyd T st w p σ3 → (∀ b, b < i + 1 → gI σ3 175 (20 * p + b) = zb (sat T st w p b)) → zEv true ((198, 13, [some (.inr (.inr 122)), some (.inl (p : Int)), some (.inl ((i + 1 : Nat) : Int)), o3, o4], []) :: K) σ3) →
      zEv true ((198, 41, [some (.inr (.inr 122)), some (.inl (p : Int)), some (.inl (i : Int)), some (.inl y), some (.inl (x4 : Int))], []) :: K) σ2 := by
    intro p i σ2 d
    induction d with
    | zero =>
      intro x4 y hp0 hp hi hnp hF hLy hB hd hx1 hx2 hv kk
      have hfin : y = zb (sat T st w p i) := by
        rcases hv with ⟨y0, h⟩ | ⟨y1, h, h'⟩
        · rw [y0, zb_f h]
        · rw [y1, zb_t ((sat_iff hp).mpr ⟨h, fun r r1 r2 r3 => h' r r1 (by omega) r3⟩)]
      have h1 : ((st.1 : Nat) : Int) ≤ (x4 : Int) := by clear hv hfin; omega
      have hcx : 0 ≤ ((20 * p + i : Nat) : Int) ∧ ((20 * p + i : Nat) : Int) < 160 := by clear hv hfin; omega
      have hix : 20 * p + i < 100000 := by clear hv hfin; omega
      have ei : w32 ((i : Int) + 1) = ((i + 1 : Nat) : Int) := by clear hv hfin; rw [zw_id (by omega) (by omega)]; omega
      have hO2 := (XO σ2 hF).1
      rw [zj_198_41 (by clear hv hfin ei; omega), hO2.2.2.2.2.1, if_pos h1, zj_198_104, idx20l (e := p) (i := i) hix, hfin, yAnd ⟨hcx, zb01 _⟩, Int.toNat_natCast, ei]
      clear ei hv hfin
      have hF2 : yFr (fun k j => k = 175 ∧ j = 20 * p + i) σ2 (sI σ2 175 (20 * p + i) (zb (sat T st w p i))) := yFr.rf.I ⟨rfl, rfl⟩
      refine kk _ _ _ (hF.trans (hF2.mono (fun k j h => h.1))) (fun r r1 r2 r3 b hb => ?_) (fun b hb => ?_)
      · rw [hF2.i (by omega)]; exact hLy r r1 r2 r3 b hb
      · by_cases e : b = i
        · rw [e, yGI_hit]
        · rw [hF2.i (by omega)]; exact hB b (by omega)
    | succ d ih =>
      intro x4 y hp0 hp hi hnp hF hLy hB hd hx1 hx2 hv kk
      have hx' : x4 < st.1 := by clear hv; omega
      have h1 : ¬ ((st.1 : Nat) : Int) ≤ (x4 : Int) := by clear hv; omega
      have hd1 : st.1 - (x4 + 1) = d := by clear hv; omega
      have hxp : p < x4 + 1 := by clear hv; omega
      have hcx : 0 ≤ ((20 * p + i : Nat) : Int) ∧ ((20 * p + i : Nat) : Int) < 160 := by clear hv; omega
      have hc4 : 0 ≤ (x4 : Int) ∧ (x4 : Int) < 8 := by clear hv; omega
      have hix : 20 * p + i < 100000 := by clear hv; omega
      have ei : w32 ((i : Int) + 1) = ((i + 1 : Nat) : Int) := by clear hv; rw [zw_id (by omega) (by omega)]; omega
      have e4 : w32 ((x4 : Int) + 1) = ((x4 + 1 : Nat) : Int) := by clear hv ei; rw [zw_id (by omega) (by omega)]; omega
      obtain ⟨hO2, hV2⟩ := XO σ2 hF
      have e140 : gI σ2 140 x4 = st.2.2.2.1 3 x4 := mG_k hO2.2.2.2.2 (q := 8) (i := x4) (by clear hv ei e4; omega) (by clear hv ei e4; omega) hx'
      have e141 : gI σ2 141 x4 = sgR (st.2.2.2.1 4 x4) := mG_k hO2.2.2.2.2 (q := 9) (i := x4) (by clear hv ei e4; omega) (by clear hv ei e4; omega) hx'
      have hb4 := (hg.2.1 x4 hx').2.2.1
      rw [zj_198_41 (by clear hv ei e4 e140 e141; omega), hO2.2.2.2.2.1, if_neg h1]
      rcases hv with ⟨y0, h⟩ | ⟨y1, h, h'⟩
      · rw [y0, if_pos (show (0 : Int) = 0 from rfl), zj_198_104, idx20l (e := p) (i := i) hix, yAnd ⟨hcx, Or.inl rfl⟩, Int.toNat_natCast, ei]
        clear ei e4 e140 e141
        have hF2 : yFr (fun k j => k = 175 ∧ j = 20 * p + i) σ2 (sI σ2 175 (20 * p + i) 0) := yFr.rf.I ⟨rfl, rfl⟩
        refine kk _ _ _ (hF.trans (hF2.mono (fun k j h => h.1))) (fun r r1 r2 r3 b hb => ?_) (fun b hb => ?_)
        · rw [hF2.i (by omega)]; exact hLy r r1 r2 r3 b hb
        · by_cases e : b = i
          · rw [e, yGI_hit, zb_f h]
          · rw [hF2.i (by omega)]; exact hB b (by omega)
      · rw [y1, if_neg (show ¬ (1 : Int) = 0 by decide), yAnd hc4, Int.toNat_natCast, e140]
        by_cases c : st.2.2.2.1 3 x4 = (p : Int)
        · have hnx := inpart_child hg hx' (by clear ei e4 e140 e141; omega) c hnp
          rw [if_neg (fun w => w c), m_isSome (yKK (by clear ei e4 e140 e141; omega)) hgT hO2 hg hc hx' (by clear ei e4 e140 e141; omega) hi (hLy x4 hx1 hx' hnx) rfl rfl, zr_198_72, yAnd hc4, Int.toNat_natCast, e141, e4]
          have hiff : (zb (smo T st w x4 i) = (if sgR (st.2.2.2.1 4 x4) = 33 then 0 else 1 : Int)) ↔ (smo T st w x4 i ↔ st.2.2.2.1 4 x4 ≠ 1) := by
            clear ei e4 e140 e141
            have hs := sgR_33 hb4
            by_cases c1 : st.2.2.2.1 4 x4 = 1
            · rw [if_pos (hs.mpr c1), zb0]
              exact ⟨fun w => ⟨fun q => absurd q w, fun q => absurd c1 q⟩, fun w q => (w.mp q) c1⟩
            · rw [if_neg (fun w => c1 (hs.mp w))]
              rcases Classical.em (smo T st w x4 i) with hh | hh
              · rw [zb_t hh]; exact ⟨fun _ => ⟨fun _ => c1, fun _ => hh⟩, fun _ => rfl⟩
              · rw [zb_f hh]; exact ⟨fun w => absurd w (by decide), fun w => absurd (w.mpr c1) hh⟩
          clear ei e4 e140 e141
          by_cases c2 : zb (smo T st w x4 i) = (if sgR (st.2.2.2.1 4 x4) = 33 then 0 else 1 : Int)
          · rw [if_neg (fun w => w c2)]
            refine ih (x4 + 1) 1 hp0 hp hi hnp hF hLy hB hd1 hxp hx' (Or.inr ⟨rfl, h, fun r r1 r2 r3 => ?_⟩) kk
            by_cases e : r = x4
            · rw [e]; exact hiff.mp c2
            · exact h' r r1 (by omega) r3
          · rw [if_pos c2]
            exact ih (x4 + 1) 0 hp0 hp hi hnp hF hLy hB hd1 hxp hx' (Or.inl ⟨rfl, fun hs => c2 (hiff.mpr (((sat_iff hp).mp hs).2 x4 hx1 hx' c))⟩) kk
        · rw [if_pos c, e4]
          clear ei e4 e140 e141
          refine ih (x4 + 1) 1 hp0 hp hi hnp hF hLy hB hd1 hxp hx' (Or.inr ⟨rfl, h, fun r r1 r2 r3 => ?_⟩) kk
          by_cases e : r = x4
          · rw [e] at r3; exact absurd r3 c
          · exact h' r r1 (by omega) r3
  have outer : ∀ (p : Nat) (o2 o3 o4 : Option zV) (σ2 : zW), p < st.1 → yFr (fun k _ => k = 175) σ σ2 → lyd T st w p σ2 → zEv true ((198, 7, [some (.inr (.inr 122)), some (.inl (p : Int)), o2, o3, o4], []) :: K) σ2 := by
    intro p
    induction p with
    | zero =>
      intro o2 o3 o4 σ2 hp hF hLy
      rw [zj_198_7, if_pos (by omega)]
      exact k σ2 hF hLy
    | succ p ihp =>
      intro o2 o3 o4 σ2 hp hF hLy
      have ep : w32 (((p + 1 : Nat) : Int) + -1) = (p : Int) := by rw [zw_id (by omega) (by omega)]; omega
      rw [zj_198_7, if_neg (by clear ep; omega)]
      have nodes : ∀ (d i : Nat) (o3 o4 : Option zV) (σ3 : zW), T.1 - i = d → i ≤ T.1 → yFr (fun k _ => k = 175) σ σ3 → lyd T st w (p + 1) σ3 → (∀ b, b < i → ¬ pln st.2.2.2.1 (p + 1) → gI σ3 175 (20 * (p + 1) + b) = zb (sat T st w (p + 1) b)) → zEv true ((198, 13, [some (.inr (.inr 122)), some (.inl ((p + 1 : Nat) : Int)), some (.inl (i : Int)), o3, o4], []) :: K) σ3 := by
        intro d
        induction d with
        | zero =>
          intro i o3 o4 σ3 hd hi hF3 hLy3 hB
          have hO3 := (XO σ3 hF3).1
          rw [zj_198_13 (by clear ep; omega), hO3.2.2.1.1, if_pos (by clear ep; omega), ep]
          refine ihp _ _ _ σ3 (by clear ep; omega) hF3 (fun r r1 r2 r3 b hb => ?_)
          by_cases e : r = p + 1
          · rw [e] at r3 ⊢; exact hB b (by clear ep; omega) r3
          · exact hLy3 r (by clear ep; omega) r2 r3 b hb
        | succ d ih =>
          intro i o3 o4 σ3 hd hi hF3 hLy3 hB
          have hi' : i < T.1 := by clear ep; omega
          obtain ⟨hO3, hV3⟩ := XO σ3 hF3
          have hw9 := (hw8.2.2.2 (p + 1) hp).2.2.1
          rw [zj_198_13 (by clear ep; omega), hO3.2.2.1.1, if_neg (by clear ep; omega), m_isInPart hO3 hc hp hw9 rfl, zr_198_26 (by clear ep; omega)]
          rcases Classical.em (pln st.2.2.2.1 (p + 1)) with hpl | hpl
          · rw [if_pos (zb_f (fun w => w hpl)), ep]
            refine ihp _ _ _ σ3 (by clear ep; omega) hF3 (fun r r1 r2 r3 b hb => ?_)
            by_cases e : r = p + 1
            · rw [e] at r3; exact absurd hpl r3
            · exact hLy3 r (by clear ep; omega) r2 r3 b hb
          · have e41 : w32 (((p + 1 : Nat) : Int) + 1) = ((p + 1 + 1 : Nat) : Int) := by clear ep; rw [zw_id (by omega) (by omega)]; omega
            rw [if_neg (fun w => zb0.mp w hpl), m_fits (yKK (by clear ep e41; omega)) hgT hO3 hg hc hl hp hi' (hV3 (p + 1) hp).1 (hV3 (p + 1) hp).2 rfl rfl, zr_198_35, e41]
            clear e41
            refine node (p + 1) i σ3 (st.1 - (p + 1 + 1)) (p + 1 + 1) _ (Nat.succ_pos p) hp hi' hpl hF3 hLy3 (fun b hb => hB b hb hpl) rfl (Nat.lt_succ_self _) hp ?_ (fun σ4 o3 o4 hF4 hLy4 hB4 => ih (i + 1) _ _ σ4 (by clear ep; omega) hi' hF4 hLy4 (fun b hb _ => hB4 b hb))
            rcases Classical.em (own T st w (p + 1) i) with ho | ho
            · exact Or.inr ⟨zb_t ho, ho, fun r r1 r2 _ => by omega⟩
            · exact Or.inl ⟨zb_f ho, fun hs => ho ((sat_iff hp).mp hs).1⟩
      exact nodes T.1 0 _ _ σ2 (Nat.sub_zero _) (Nat.zero_le _) hF hLy (fun b hb => absurd hb (Nat.not_lt_zero _))
  have e18 := hO.2.2.2.2.1
  rw [ze_198, e18, zw_id (by omega) (by omega), show ((st.1 : Nat) : Int) - 1 = ((st.1 - 1 : Nat) : Int) by omega]
  exact outer (st.1 - 1) _ _ _ σ (by omega) yFr.rf (fun r r1 r2 => by omega)
