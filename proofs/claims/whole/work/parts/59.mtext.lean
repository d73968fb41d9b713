/-! trees shown by the model -/
theorem m_showRow {K : List zF} (hK : K.length + 3 ≤ 60) {T : TRE} {id : Nat → Int} {σ : zW} (hg : tgd T) (hR : mRw (T.1, T.2.1, T.2.2, id) σ) (h87 : gI σ 122 87 = 0) {o1 o3 o4 : Option zV}
    (k : ∀ σ' : zW, yFr Xmo σ σ' → mO (shw T T.1) σ' → zRet true K (some (.inl ((shw T T.1).1 : Int))) σ') : zEv true ((248, 33, [some (.inr (.inr 122)), o1, some (.inl 0), o3, o4], []) :: K) σ := by
  have hw := hg.1
  have hn : T.1 ≤ 20 := hw.1
  have loop : ∀ (m i : Nat) (o1 o3 o4 : Option zV) (σ2 : zW), T.1 - i = m → i ≤ T.1 → yFr Xmo σ σ2 → mO (shw T i) σ2 → zEv true ((248, 33, [some (.inr (.inr 122)), o1, some (.inl (i : Int)), o3, o4], []) :: K) σ2 := by
    intro m
    induction m with
    | zero =>
      intro i o1 o3 o4 σ2 hm hi hF hO
      have e77 : gI σ2 122 77 = (T.1 : Int) := (hF.i (by omega)).trans hR.1
      have ei : T.1 = i := by omega
      rw [zj_248_33 (by omega), e77, if_pos (by omega), hO.1, ← ei]
      exact k σ2 hF (by rw [show T.1 = i by omega]; exact hO)
    | succ m ih =>
      intro i o1 o3 o4 σ2 hm hi hF hO
      have hi' : i < T.1 := by omega
      have hcc : 0 ≤ (i : Int) ∧ (i : Int) < 24 := by omega
      have hsb : shB T i := sh_b hw hi'
      have e77 : ∀ σ3 : zW, yFr Xmo σ σ3 → gI σ3 122 77 = (T.1 : Int) := fun σ3 h => (h.i (by omega)).trans hR.1
      have hRf : ∀ σ3 : zW, yFr Xmo σ σ3 → mRw (T.1, T.2.1, T.2.2, id) σ3 := fun σ3 h => mRw_fr hR h (fun k j w => by omega)
      have ei : w32 ((i : Int) + 1) = ((i + 1 : Nat) : Int) := by rw [zw_id (by omega) (by omega)]; omega
      have hdl := wfd_lt hw i hi'
      have p75 : ∀ (o3 o4 : Option zV) (σ3 : zW), yFr Xmo σ σ3 → mO (lbt (T.2.1 i) 6 0 (sh2 T i (sh1 i (shw T i)))) σ3 → zRet true ((248, 75, [some (.inr (.inr 122)), o1, some (.inl (i : Int)), o3, o4], []) :: K) none σ3 := by
        intro o3 o4 σ3 hF3 hO3
        have en : (if (T.1 : Int) ≤ ((i + 1 : Nat) : Int) then 0 else gI σ3 180 (i + 1) : Int) = ((nxt T i : Nat) : Int) := by
          unfold nxt
          by_cases e : i + 1 < T.1
          · rw [if_neg (by omega), if_pos e, ((hRf σ3 hF3).2 (i + 1) e).2.1]
          · rw [if_pos (by omega), if_neg e]; rfl
        rw [zr_248_75, ei, Int.toNat_natCast, Int.toNat_natCast, e77 σ3 hF3, yAnd (fun q => by omega), yAnd hcc, en, ((hRf σ3 hF3).2 i hi').2.1]
        have cl : ∀ (d : Nat) (t2 : TX) (o1 : Option zV) (σ4 : zW), nxt T i ≤ 21 → t2.1 + d ≤ 184 → yFr Xmo σ σ4 → mO t2 σ4 → clt d t2 = shw T (i + 1) → ∀ e : Nat, (0 < d → e = nxt T i + d) → (d = 0 → e ≤ nxt T i) → zEv true ((248, 106, [some (.inr (.inr 122)), o1, some (.inl (i : Int)), some (.inl ((nxt T i : Nat) : Int)), some (.inl (e : Int))], []) :: K) σ4 := by
          intro d
          induction d with
          | zero =>
            intro t2 o1 σ4 hn21 hd hF4 hO4 hE e he1 he2
            have he3 := he2 rfl
            rw [zj_248_106 (by omega), if_pos (by omega), ei]
            exact ih (i + 1) _ _ _ σ4 (by omega) (by omega) hF4 (hE ▸ hO4)
          | succ d ihd =>
            intro t2 o1 σ4 hn21 hd hF4 hO4 hE e he1 he2
            have he3 := he1 (by omega)
            rw [zj_248_106 (by omega), if_neg (by omega)]
            refine m_print hO4 (by omega) (fun σ5 hF5 hO5 => ?_)
            rw [zr_248_118, he3, zw_id (by omega) (by omega), show ((nxt T i + (d + 1) : Nat) : Int) + -1 = ((nxt T i + d : Nat) : Int) by omega]
            exact ihd (apt t2 41) _ σ5 hn21 (by show t2.1 + 1 + d ≤ 184; omega) (hF4.trans hF5) hO5 hE (nxt T i + d) (fun _ => rfl) (fun w => by omega)
        by_cases e : kidc T.2.2 i T.1 = 0
        · have hl := nxt_leaf hw hi' e
          refine cl (T.2.2 i - nxt T i) _ _ σ3 (by omega) (hsb.2.2.2 e) hF3 hO3 (by rw [shw]; unfold shn; rw [if_pos e]) (T.2.2 i) (fun w => by omega) (fun w => by omega)
        · have hl := nxt_node hw hi' e
          have hb6 : (lbt (T.2.1 i) 6 0 (sh2 T i (sh1 i (shw T i)))).1 ≤ 184 := Nat.le_trans (lbt_len _ _ _ _) hsb.1
          exact cl 0 _ _ σ3 (by omega) hb6 hF3 hO3 (by rw [shw]; unfold shn; rw [if_neg e]; rfl) (T.2.2 i) (fun w => absurd w (Nat.lt_irrefl 0)) (fun _ => by omega)
      have p51 : ∀ (σ3 : zW), yFr Xmo σ σ3 → mO (sh1 i (shw T i)) σ3 → zEv true (zent 224 [.inr (.inr 122), .inl (i : Int)] :: (248, 56, [some (.inr (.inr 122)), o1, some (.inl (i : Int)), o3, o4], []) :: K) σ3 := by
        intro σ3 hF3 hO3
        have hsi := m_isSingle (K := (248, 56, [some (.inr (.inr 122)), o1, some (.inl (i : Int)), o3, o4], []) :: K) (yL (by omega)) (hRf σ3 hF3) hn hi' rfl
        rw [hsi, zr_248_56 (by omega)]
        have hlab : ∀ σ4 : zW, yFr Xmo σ σ4 → gL σ4 181 i = T.2.1 i := fun σ4 h => ((hRf σ4 h).2 i hi').1
        have hlg := lgs_good (hg.2 i hi')
        by_cases e : kidc T.2.2 i T.1 = 0
        · have a2 : sh2 T i (sh1 i (shw T i)) = sh1 i (shw T i) := if_pos e
          have b1 := hsb.1
          rw [a2] at b1
          rw [if_pos (show ¬ (if ed T.2.2 T.1 i = i + 1 then (1 : Int) else 0) = 0 by rw [if_pos ((leaf_iff hw hi').mp e)]; exact fun w => absurd w (by decide)), zj_248_65 (by omega), yAnd hcc, Int.toNat_natCast, hlab σ3 hF3]
          refine m_printsLabel (yKK (by omega)) hlg hO3 (Nat.le_trans b1 (by decide)) (fun σ4 hF4 hO4 => ?_)
          exact p75 _ _ σ4 (hF3.trans hF4) (by rw [a2]; exact hO4)
        · have a2 : sh2 T i (sh1 i (shw T i)) = apt (sh1 i (shw T i)) 40 := if_neg e
          have b1 := hsb.1
          rw [a2] at b1
          rw [if_neg (show ¬ ¬ (if ed T.2.2 T.1 i = i + 1 then (1 : Int) else 0) = 0 by rw [if_neg (fun w => e ((leaf_iff hw hi').mpr w))]; exact fun w => w rfl)]
          refine m_print hO3 (Nat.lt_trans hsb.2.1 (by decide)) (fun σ4 hF4 hO4 => ?_)
          rw [zr_248_65 (by omega), yAnd hcc, Int.toNat_natCast, hlab σ4 (hF3.trans hF4)]
          refine m_printsLabel (yKK (by omega)) hlg hO4 (Nat.le_trans b1 (by decide)) (fun σ5 hF5 hO5 => ?_)
          exact p75 _ _ σ5 ((hF3.trans hF4).trans hF5) (by rw [a2]; exact hO5)
      rw [zj_248_33 (by omega), e77 σ2 hF, if_neg (by omega)]
      by_cases e : i = 0
      · rw [if_pos (by omega), zj_248_51 (by omega)]
        refine p51 σ2 hF ?_
        unfold sh1; rw [if_pos e]; exact hO
      · rw [if_neg (by omega)]
        refine m_print hO (Nat.lt_trans hsb.2.2.1 (by decide)) (fun σ4 hF4 hO4 => ?_)
        rw [zr_248_51 (by omega)]
        refine p51 σ4 (hF.trans hF4) ?_
        unfold sh1; rw [if_neg e]; exact hO4
  exact loop T.1 0 o1 o3 o4 σ (Nat.sub_zero _) (Nat.zero_le _) yFr.rf ⟨h87, fun j hj => absurd hj (Nat.not_lt_zero _)⟩
