theorem c_putTree {K : List zF} (hK : K.length + 2 ≤ 60) {t : Nat} {T : TRE} {σ : zW} (ht : zTr t) (hg : tgd T) (hT : cTr t T σ)
    (k : ∀ σ' : zW, yFr Xco σ σ' → cO (shw T T.1) σ' → zRet true K none σ') : zEv true (zent 34 [.inr (.inr 66), .inr (.inr t)] :: K) σ := by
  have hb := zTr_b ht
  have hb2 : t + 10 < 66 ∨ 67 < t := by rcases ht with rfl | rfl | rfl | rfl <;> omega
  have hw := hg.1
  have hn := hw.1
  have loop : ∀ (m i : Nat) (o3 o4 o5 : Option zV) (σ2 : zW), T.1 - i = m → i ≤ T.1 → yFr Xco σ σ2 → cO (shw T i) σ2 → zEv true ((34, 7, [some (.inr (.inr 66)), some (.inr (.inr t)), some (.inl (i : Int)), o3, o4, o5], []) :: K) σ2 := by
    intro m
    induction m with
    | zero =>
      intro i o3 o4 o5 σ2 hm hi hF hO
      rw [zj_34_7 (by omega) ht, (hF.i (by omega)).trans hT.1.1, if_pos (by omega)]
      exact k σ2 hF (by rw [show T.1 = i by omega]; exact hO)
    | succ m ih =>
      intro i o3 o4 o5 σ2 hm hi hF hO
      have hi' : i < T.1 := by omega
      have hcc : 0 ≤ (i : Int) ∧ (i : Int) < 20 := by omega
      have hsb : shB T i := sh_b hw hi'
      have ei : w32 ((i : Int) + 1) = ((i + 1 : Nat) : Int) := by rw [zw_id (by omega) (by omega)]; omega
      -- behind the label
      have p60 : ∀ (o4 o5 : Option zV) (σ3 : zW), yFr Xco σ σ3 → cO (lbt (T.2.1 i) 6 0 (sh2 T i (sh1 i (shw T i)))) σ3 → zRet true ((34, 60, [some (.inr (.inr 66)), some (.inr (.inr t)), some (.inl (i : Int)), some (.inl (if ¬ ((kidc T.2.2 i T.1 : Nat) : Int) = 0 then 0 else 1)), o4, o5], []) :: K) none σ3 := by
        intro o4 o5 σ3 hF3 hO3
        have en : (if (T.1 : Int) ≤ ((i + 1 : Nat) : Int) then 0 else gI σ3 (t + 2) (i + 1) : Int) = ((nxt T i : Nat) : Int) := by
          unfold nxt
          by_cases e : i + 1 < T.1
          · rw [if_neg (by omega), if_pos e, (hF3.i (by omega)).trans (hT.1.2 (i + 1) e).2]
          · rw [if_pos (by omega), if_neg e]; rfl
        rw [zr_34_60 ht, ei, Int.toNat_natCast, Int.toNat_natCast, (hF3.i (by omega)).trans hT.1.1, yAnd (fun q => by omega), yAnd hcc, en, (hF3.i (by omega)).trans (hT.1.2 i hi').2]
        by_cases e : kidc T.2.2 i T.1 = 0
        · have e1 : (if ¬ ((kidc T.2.2 i T.1 : Nat) : Int) = 0 then (0 : Int) else 1) = 1 := if_neg (by omega)
          have hl := nxt_leaf hw hi' e
          rw [e1]
          have cl : ∀ (d : Nat) (t2 : TX) (σ4 : zW), t2.1 + d ≤ 184 → yFr Xco σ σ4 → cO t2 σ4 → clt d t2 = shw T (i + 1) → zEv true ((34, 92, [some (.inr (.inr 66)), some (.inr (.inr t)), some (.inl (i : Int)), some (.inl 1), some (.inl ((nxt T i : Nat) : Int)), some (.inl ((nxt T i + d : Nat) : Int))], []) :: K) σ4 := by
            intro d
            induction d with
            | zero =>
              intro t2 σ4 hd hF4 hO4 hE
              rw [zj_34_92 (by omega), if_neg (show ¬ (1 : Int) = 0 by omega), if_pos (by omega), ei]
              exact ih (i + 1) _ _ _ σ4 (by omega) (by omega) hF4 (hE ▸ hO4)
            | succ d ihd =>
              intro t2 σ4 hd hF4 hO4 hE
              rw [zj_34_92 (by omega), if_neg (show ¬ (1 : Int) = 0 by omega), if_neg (by omega)]
              refine c_put hO4 (by omega) (fun σ5 hF5 hO5 => ?_)
              have hdl := wfd_lt hw i hi'
              rw [zr_34_109, zw_id (by omega) (by omega), show ((nxt T i + (d + 1) : Nat) : Int) + -1 = ((nxt T i + d : Nat) : Int) by omega]
              exact ihd (apt t2 41) σ5 (by show t2.1 + 1 + d ≤ 184; omega) (hF4.trans hF5) hO5 hE
          have := cl (T.2.2 i - nxt T i) _ σ3 (hsb.2.2.2 e) hF3 hO3 (by rw [shw]; unfold shn; rw [if_pos e])
          rw [show nxt T i + (T.2.2 i - nxt T i) = T.2.2 i by omega] at this
          exact this
        · have e1 : (if ¬ ((kidc T.2.2 i T.1 : Nat) : Int) = 0 then (0 : Int) else 1) = 0 := if_pos (by omega)
          rw [e1, zj_34_92 (by omega), if_pos (show (0 : Int) = 0 from rfl), ei]
          refine ih (i + 1) _ _ _ σ3 (by omega) (by omega) hF3 ?_
          rw [shw]; unfold shn; rw [if_neg e]; exact hO3
      have e5 : ∀ σ3 : zW, yFr Xco σ σ3 → gI σ3 (t + 5) i = ((kidc T.2.2 i T.1 : Nat) : Int) := fun σ3 h => (h.i (by omega)).trans (hT.2.1 i hi').2.2.1
      have e1 : ∀ σ3 : zW, yFr Xco σ σ3 → gL σ3 (t + 1) i = T.2.1 i := fun σ3 h => (h.l (by omega)).trans (hT.1.2 i hi').1
      have p50 : ∀ (σ3 : zW), yFr Xco σ σ3 → cO (sh1 i (shw T i)) σ3 → zEv true ((34, 25, [some (.inr (.inr 66)), some (.inr (.inr t)), some (.inl (i : Int)), o3, o4, o5], []) :: K) σ3 ∧ zRet true ((34, 25, [some (.inr (.inr 66)), some (.inr (.inr t)), some (.inl (i : Int)), o3, o4, o5], []) :: K) none σ3 := by
        intro σ3 hF3 hO3
        rw [zj_34_25 (by omega) ht, zr_34_25 (by omega) ht, yAnd hcc, Int.toNat_natCast, e5 σ3 hF3]
        by_cases e : kidc T.2.2 i T.1 = 0
        · have q1 : ¬ (if ¬ ((kidc T.2.2 i T.1 : Nat) : Int) = 0 then (0 : Int) else 1) = 0 := by rw [if_neg (by omega)]; omega
          have a2 : sh2 T i (sh1 i (shw T i)) = sh1 i (shw T i) := if_pos e
          rw [if_pos q1, zj_34_50 (by omega) ht, yAnd hcc, Int.toNat_natCast, e1 σ3 hF3]
          have b1 := hsb.1
          rw [a2] at b1
          rw [and_self]
          refine c_putLabel (yKK (by omega)) hO3 b1 (fun σ4 hF4 hO4 => ?_)
          exact p60 _ _ σ4 (hF3.trans hF4) (by rw [a2]; exact hO4)
        · have q1 : ¬ ¬ (if ¬ ((kidc T.2.2 i T.1 : Nat) : Int) = 0 then (0 : Int) else 1) = 0 := by rw [if_pos (by omega)]; omega
          have a2 : sh2 T i (sh1 i (shw T i)) = apt (sh1 i (shw T i)) 40 := if_neg e
          rw [if_neg q1, and_self]
          refine c_put hO3 hsb.2.1 (fun σ4 hF4 hO4 => ?_)
          have b1 := hsb.1
          rw [a2] at b1
          rw [zr_34_50 (by omega) ht, yAnd hcc, Int.toNat_natCast, e1 σ4 (hF3.trans hF4)]
          refine c_putLabel (yKK (by omega)) hO4 b1 (fun σ5 hF5 hO5 => ?_)
          exact p60 _ _ σ5 ((hF3.trans hF4).trans hF5) (by rw [a2]; exact hO5)
      rw [zj_34_7 (by omega) ht, (hF.i (by omega)).trans hT.1.1, if_neg (by omega)]
      by_cases e : i = 0
      · rw [if_pos (by omega)]
        refine (p50 σ2 hF ?_).1
        unfold sh1; rw [if_pos e]; exact hO
      · rw [if_neg (by omega)]
        refine c_put hO hsb.2.2.1 (fun σ4 hF4 hO4 => (p50 σ4 (hF.trans hF4) ?_).2)
        unfold sh1; rw [if_neg e]; exact hO4
  rw [ze_34]
  exact loop T.1 0 none none none _ rfl (Nat.zero_le _) (yFr.rf.I (by omega)) ⟨yGI_hit, fun j hj => absurd hj (Nat.not_lt_zero _)⟩
