/-! patterns read by the class -/
theorem zPn_b {t : Nat} (h : zPn t) : t = 80 ∨ t = 95 := h
/-- a fault told, the reading at its place -/
abbrev cfw (e : Nat × Nat) (σ : zW) : zW := sI (sI (sI σ 2 2 (e.2 : Nat)) 2 3 (e.1 : Nat)) 2 4 (e.2 : Nat)
theorem c_plain {K : List zF} {t i : Nat} {x u w : Int} {σ : zW} (ht : zPn t) (hx : x = (i : Int)) (hi : i < 8) (h11 : gI σ (t + 11) i = u) (h9 : gI σ (t + 9) i = w) : zEv true (zent 40 [.inr (.inr t), .inl x] :: K) σ = zRet true K (some (.inl (if u = 0 ∧ w = -1 then 1 else 0))) σ := by
  have hcc : 0 ≤ (i : Int) ∧ (i : Int) < 8 := by omega
  subst hx
  rw [ze_40 ht, yAnd hcc, yAnd hcc, Int.toNat_natCast, h11, h9]
  by_cases h1 : u = 0
  · by_cases h2 : w = -1
    · rw [if_neg (fun q => q h1), if_neg (fun q => q h2), if_pos ⟨h1, h2⟩]
    · rw [if_neg (fun q => q h1), if_pos h2, if_neg (fun q => h2 q.2), zj_40_23]
  · rw [if_pos h1, if_neg (fun q => h1 q.1), zj_40_23]
theorem c_mark {K : List zF} (hK : K.length + 3 ≤ 60) {f : Nat → Int} {L a t i : Nat} {R : PRW} {x : Int} {σ : zW} (ht : zPn t) (hT : cT f L σ) (ha : gI σ 2 2 = (a : Int)) (haL : a ≤ L) (hx : x = (i : Int)) (hi : i < 8) (h11 : gI σ (t + 11) i = R 11 i) (h9 : gI σ (t + 9) i = R 9 i) : zEv true (zent 43 [.inr (.inr t), .inr (.inr 2), .inl x] :: K) σ = (match mkR f L R i (sk f L a) with
    | .inl e => zRet true K (some (.inl (-1))) (cfw e σ)
    | .inr r => zRet true K (some (.inl r.1)) (sI σ 2 2 (r.2 : Nat))) := by
  have hb := zPn_b ht
  have h6 := hT.2.2.1
  have hs := sk_le (f := f) haL
  rw [ze_43 (by omega), c_next (yL (by omega)) hT ha, zr_43_4]
  unfold mkR
  by_cases h33 : tb f L (sk f L a) = 33
  · have := tb_in (f := f) (L := L) (p := sk f L a) (by omega)
    rw [if_pos h33, if_pos h33, zj_43_19 (by omega) ht, if_pos (by omega), zj_43_45, if_neg (by omega), yGI_hit, zw_id (by omega) (by omega), sI_sI]
    rfl
  · rw [if_neg h33, if_neg h33]
    by_cases h63 : tb f L (sk f L a) = 63
    · have := tb_in (f := f) (L := L) (p := sk f L a) (by omega)
      rw [if_pos h63, if_pos h63, zj_43_19 (by omega) ht, if_neg (by omega), c_plain (u := R 11 i) (w := R 9 i) ht hx hi (by simp (disch := omega) only [h11, if_pos, if_neg, yAnd, Int.toNat_natCast, zw_id, gI_sI, gI_sL, gI_sR, gL_sI, gL_sL, gL_sR, gR_sI, gR_sL, gR_sR, true_and, and_true, and_self, ite_true, ite_false, ite_self, not_true_eq_false, not_false_eq_true, or_true, true_or, or_false, false_or, yB0, yB1, Decidable.not_not]) (by simp (disch := omega) only [h9, if_pos, if_neg, yAnd, Int.toNat_natCast, zw_id, gI_sI, gI_sL, gI_sR, gL_sI, gL_sL, gL_sR, gR_sI, gR_sL, gR_sR, true_and, and_true, and_self, ite_true, ite_false, ite_self, not_true_eq_false, not_false_eq_true, or_true, true_or, or_false, false_or, yB0, yB1, Decidable.not_not]), zr_43_30 (by omega)]
      by_cases hp : pln R i
      · rw [if_pos (show ¬ (if R 11 i = 0 ∧ R 9 i = -1 then (1 : Int) else 0) = 0 by rw [if_pos hp]; omega), if_pos hp, zj_43_45, if_pos (by omega), yGI_hit, zw_id (by omega) (by omega), sI_sI]
        rfl
      · rw [if_neg (show ¬ ¬ (if R 11 i = 0 ∧ R 9 i = -1 then (1 : Int) else 0) = 0 by rw [if_neg hp]; omega), if_neg hp, c_fail, zr_43_42, yGI_hit]
        rfl
    · rw [if_neg h63, if_neg h63]
theorem cop_d {d : Int} (h : 1 ≤ d ∧ d ≤ 9) {x y : Int} (hx : x = 0 ∨ x = 16) (hy : y = 3 ∨ y = 4) : zor (zor (zshl d 5) x) y = 32 * d + x + y := by
  obtain ⟨n, rfl⟩ : ∃ n : Nat, d = (n : Int) := ⟨d.toNat, by omega⟩
  have hn : n < 10 := by omega
  have : ∀ n : Nat, n < 10 → ∀ x : Nat, x < 2 → ∀ y : Nat, y < 2 → zor (zor (zshl (n : Int) 5) (16 * x : Nat)) ((3 + y : Nat) : Int) = 32 * (n : Int) + (16 * x : Nat) + (3 + y : Nat) := by decide +kernel
  rcases hx with rfl | rfl <;> rcases hy with rfl | rfl
  · exact this n hn 0 (by omega) 0 (by omega)
  · exact this n hn 0 (by omega) 1 (by omega)
  · exact this n hn 1 (by omega) 0 (by omega)
  · exact this n hn 1 (by omega) 1 (by omega)
theorem c_dom {K : List zF} (hK : K.length + 2 ≤ 60) {f : Nat → Int} {L p b : Nat} {z : Int} {σ : zW} (hT : cT f L σ) (ha : gI σ 2 2 = (p : Int)) (hpL : p < L) (hz : (z = 60 ∧ b = 0) ∨ (z = 62 ∧ b = 5)) : zEv true (zent 45 [.inr (.inr 2), .inl z] :: K) σ = (match relR f L b z p with
    | .inl e => zRet true K (some (.inl (-1))) (cfw e σ)
    | .inr r => zRet true K (some (.inl (cop r.1 r.2.1))) (sI σ 2 2 (r.2.2 : Nat))) := by
  have h6 := hT.2.2.1
  obtain ⟨x2, hx2, hxx⟩ : ∃ x2 : Int, (if ¬ z = 62 then (0 : Int) else 16) = x2 ∧ ((x2 = 0 ∧ b = 0) ∨ (x2 = 16 ∧ b = 5)) := by
    refine ⟨_, rfl, ?_⟩
    rcases hz with ⟨rfl, rfl⟩ | ⟨rfl, rfl⟩ <;> simp
  have e1 : w32 (gI σ 2 2 + 1) = ((p + 1 : Nat) : Int) := by rw [ha, zw_id (by omega) (by omega)]; omega
  rw [ze_45 (by omega), e1, hx2, c_byteAt (cT_u hT (by omega)) rfl, zr_45_31 (by omega), yGI_hit]
  unfold relR
  by_cases h1 : tb f L (p + 1) = z
  · have := tb_in (f := f) (L := L) (p := p + 1) (by omega)
    rw [if_neg (fun w => w h1), if_pos h1, zw_id (by omega) (by omega), sI_sI]
    have : zor x2 1 = cop (b + 2) 0 := by rcases hxx with ⟨rfl, rfl⟩ | ⟨rfl, rfl⟩ <;> decide +kernel
    rw [this]
    rfl
  · rw [if_pos h1, if_neg h1]
    by_cases h2 : tb f L (p + 1) = 58
    · have := tb_in (f := f) (L := L) (p := p + 1) (by omega)
      rw [if_neg (fun w => w h2), if_pos h2, zw_id (by omega) (by omega), sI_sI]
      have : zor x2 2 = cop (b + 3) 0 := by rcases hxx with ⟨rfl, rfl⟩ | ⟨rfl, rfl⟩ <;> decide +kernel
      rw [this]
      rfl
    · rw [if_pos h2, if_neg h2]
      have e0 : zor x2 0 = cop (b + 1) 0 := by rcases hxx with ⟨rfl, rfl⟩ | ⟨rfl, rfl⟩ <;> decide +kernel
      by_cases h3 : tb f L (p + 1) = 45
      · have := tb_in (f := f) (L := L) (p := p + 1) (by omega)
        have e45 : (if ¬ tb f L (p + 1) = 45 then (0 : Int) else 1) = 1 := if_neg (fun w => w h3)
        rw [if_pos h3, e45, if_neg (show ¬ (1 : Int) = 0 by omega), zw_id (by omega) (by omega), sI_sI, show (((p + 1 : Nat) : Int) + 1) = ((p + 2 : Nat) : Int) by omega, c_byteAt (cT_u hT (by omega)) rfl, zr_45_111, yGI_hit]
        have hw : w32 (tb f L (p + 2) - 48) = tb f L (p + 2) - 48 := by
          unfold tb
          split
          · rename_i hlt; have := hT.2.2.2 _ hlt; exact zw_id (by omega) (by omega)
          · exact zw_id (by omega) (by omega)
        rw [hw]
        have bad : ∀ o1 o3 o5 : Option zV, zEv true ((45, 157, [some (.inr (.inr 2)), o1, some (.inl x2), o3, some (.inl 1), o5], []) :: K) (sI σ 2 2 ((p + 2 : Nat) : Int)) = zRet true K (some (.inl (-1))) (cfw (1, p + 2) σ) := by
          intro o1 o3 o5
          rw [zj_45_157 (by omega), if_neg (by omega), c_fail, zr_45_171, yGI_hit]
          rfl
        by_cases h4 : 49 ≤ tb f L (p + 2) ∧ tb f L (p + 2) ≤ 57
        · have := tb_in (f := f) (L := L) (p := p + 2) (by omega)
          rw [if_neg (by omega), if_neg (by omega), if_pos h4, if_neg (show ¬ (1 : Int) = 0 by omega), zw_id (by omega) (by omega), sI_sI, cop_d (by omega) (by omega) (by omega)]
          have : 32 * (tb f L (p + 2) - 48) + x2 + 4 = cop (b + 5) (tb f L (p + 2) - 48).toNat := by
            unfold cop
            rcases hxx with ⟨rfl, rfl⟩ | ⟨rfl, rfl⟩
            · rw [if_neg (by omega), if_pos (by omega)]; omega
            · rw [if_neg (by omega), if_neg (by omega), if_pos (by omega)]; omega
          rw [this]
          rfl
        · rw [if_neg h4]
          by_cases h5 : tb f L (p + 2) - 48 < 1
          · rw [if_pos h5, bad]
          · rw [if_neg h5, if_pos (by omega), bad]
      · rw [if_neg h3, if_pos h3, if_pos (show (0 : Int) = 0 by rfl), Int.add_zero, zw_id (by omega) (by omega), sI_sI, c_byteAt (cT_u hT (by omega)) rfl, zr_45_111, yGI_hit]
        have hw : w32 (tb f L (p + 1) - 48) = tb f L (p + 1) - 48 := by
          unfold tb
          split
          · rename_i hlt; have := hT.2.2.2 _ hlt; exact zw_id (by omega) (by omega)
          · exact zw_id (by omega) (by omega)
        rw [hw]
        have good : ∀ o1 o3 o5 : Option zV, zEv true ((45, 157, [some (.inr (.inr 2)), o1, some (.inl x2), o3, some (.inl 0), o5], []) :: K) (sI σ 2 2 ((p + 1 : Nat) : Int)) = zRet true K (some (.inl (cop (b + 1) 0))) (sI σ 2 2 ((p + 1 : Nat) : Int)) := by
          intro o1 o3 o5
          rw [zj_45_157 (by omega), if_pos rfl, e0]
        by_cases h4 : 49 ≤ tb f L (p + 1) ∧ tb f L (p + 1) ≤ 57
        · have := tb_in (f := f) (L := L) (p := p + 1) (by omega)
          rw [if_neg (by omega), if_neg (by omega), if_pos h4, if_pos (show (0 : Int) = 0 by rfl), zw_id (by omega) (by omega), sI_sI, cop_d (by omega) (by omega) (by omega)]
          have : 32 * (tb f L (p + 1) - 48) + x2 + 3 = cop (b + 4) (tb f L (p + 1) - 48).toNat := by
            unfold cop
            rcases hxx with ⟨rfl, rfl⟩ | ⟨rfl, rfl⟩
            · rw [if_neg (by omega), if_pos (by omega)]; omega
            · rw [if_neg (by omega), if_neg (by omega), if_pos (by omega)]; omega
          rw [this]
          rfl
        · rw [if_neg h4]
          by_cases h5 : tb f L (p + 1) - 48 < 1
          · rw [if_pos h5, good]
          · rw [if_neg h5, if_pos (by omega), good]
theorem c_order {K : List zF} (hK : K.length + 2 ≤ 60) {f : Nat → Int} {L p m : Nat} {z x2 x3 : Int} {σ : zW} (hT : cT f L σ) (ha : gI σ 2 2 = (p : Int)) (hpL : p < L) (hz : z = 44 ∨ z = 46) (e0 : zor (if ¬ z = 44 then (0 : Int) else 16) x2 = cop m 0) (e1 : zor (if ¬ z = 44 then (0 : Int) else 16) x3 = cop (m + 1) 0) : zEv true (zent 46 [.inr (.inr 2), .inl z, .inl x2, .inl x3] :: K) σ = zRet true K (some (.inl (cop (dblR f L m z p).1 (dblR f L m z p).2.1))) (sI σ 2 2 ((dblR f L m z p).2.2 : Nat)) := by
  have h6 := hT.2.2.1
  have e2 : w32 (gI σ 2 2 + 1) = ((p + 1 : Nat) : Int) := by rw [ha, zw_id (by omega) (by omega)]; omega
  rw [ze_46 (by omega), e2, c_byteAt (cT_u hT (by omega)) rfl, zr_46_32, yGI_hit, e0, e1]
  unfold dblR
  by_cases h : tb f L (p + 1) = z
  · have := tb_in (f := f) (L := L) (p := p + 1) (by omega)
    rw [if_pos h, if_pos h, zw_id (by omega) (by omega), sI_sI]
    rfl
  · rw [if_neg h, if_neg h]
theorem c_op {K : List zF} (hK : K.length + 4 ≤ 60) {f : Nat → Int} {L a : Nat} {σ : zW} (hT : cT f L σ) (ha : gI σ 2 2 = (a : Int)) (haL : a ≤ L) : zEv true (zent 44 [.inr (.inr 2)] :: K) σ = (match opR f L a with
    | .inl e => zRet true K (some (.inl (-1))) (cfw e σ)
    | .inr r => zRet true K (some (.inl (cop r.1 r.2.1))) (sI σ 2 2 (r.2.2 : Nat))) := by
  have h6 := hT.2.2.1
  have hs := sk_le (f := f) haL
  rw [ze_44 (by omega), c_next (yL (by omega)) hT ha, zr_44_4 (by omega)]
  unfold opR opS
  generalize sk f L a = p at hs ⊢
  have hT2 : cT f L (sI σ 2 2 (p : Nat)) := cT_u hT (by omega)
  have g2 : gI (sI σ 2 2 (p : Nat)) 2 2 = (p : Int) := yGI_hit
  by_cases h1 : tb f L p = 60
  · have hp := tb_in (f := f) (L := L) (p := p) (by omega)
    rw [if_pos h1, if_pos h1, zj_44_17 (by omega), h1, c_dom (b := 0) (yKK (by omega)) hT2 g2 hp (Or.inl ⟨rfl, rfl⟩)]
    cases relR f L 0 60 p with
    | inl e => simp only [zr_44_22, cfw, sI_sI]
    | inr r => simp only [zr_44_22, cfw, sI_sI]
  · rw [if_neg h1, if_neg h1]
    by_cases h2 : tb f L p = 62
    · have hp := tb_in (f := f) (L := L) (p := p) (by omega)
      rw [if_neg (fun w => w h2), if_pos h2, zj_44_17 (by omega), h2, c_dom (b := 5) (yKK (by omega)) hT2 g2 hp (Or.inr ⟨rfl, rfl⟩)]
      cases relR f L 5 62 p with
      | inl e => simp only [zr_44_22, cfw, sI_sI]
      | inr r => simp only [zr_44_22, cfw, sI_sI]
    · rw [if_pos h2, if_neg h2]
      by_cases h3 : tb f L p = 46
      · have hp := tb_in (f := f) (L := L) (p := p) (by omega)
        rw [if_pos h3, if_pos h3, zj_44_35 (by omega), h3, c_order (m := 11) (yKK (by omega)) hT2 g2 hp (Or.inr rfl) (by decide +kernel) (by decide +kernel), zr_44_43, sI_sI]
      · rw [if_neg h3, if_neg h3]
        by_cases h4 : tb f L p = 44
        · have hp := tb_in (f := f) (L := L) (p := p) (by omega)
          rw [if_neg (fun w => w h4), if_pos h4, zj_44_35 (by omega), h4, c_order (m := 13) (yKK (by omega)) hT2 g2 hp (Or.inl rfl) (by decide +kernel) (by decide +kernel), zr_44_43, sI_sI]
        · rw [if_pos h4, if_neg h4]
          by_cases h5 : tb f L p = 36
          · have hp := tb_in (f := f) (L := L) (p := p) (by omega)
            have e2 : w32 (gI (sI σ 2 2 (p : Nat)) 2 2 + 1) = ((p + 1 : Nat) : Int) := by rw [g2, zw_id (by omega) (by omega)]; omega
            rw [if_pos h5, if_pos h5, e2, sI_sI, c_byteAt (cT_u hT (by omega)) rfl, zr_44_80 (by omega)]
            have hT3 : cT f L (sI σ 2 2 ((p + 1 : Nat) : Int)) := cT_u hT (by omega)
            by_cases h6 : tb f L (p + 1) = 46
            · have hp2 := tb_in (f := f) (L := L) (p := p + 1) (by omega)
              rw [if_pos h6, if_pos h6, if_neg (by omega), h6, c_order (m := 16) (yKK (by omega)) hT3 yGI_hit hp2 (Or.inr rfl) (by decide +kernel) (by decide +kernel), zr_44_112, sI_sI]
            · rw [if_neg h6, if_neg h6]
              by_cases h7 : tb f L (p + 1) = 44
              · have hp2 := tb_in (f := f) (L := L) (p := p + 1) (by omega)
                have e44 : (if ¬ tb f L (p + 1) = 44 then (0 : Int) else 1) = 1 := if_neg (fun w => w h7)
                rw [e44, if_pos h7, if_neg (by omega), h7, c_order (m := 18) (yKK (by omega)) hT3 yGI_hit hp2 (Or.inl rfl) (by decide +kernel) (by decide +kernel), zr_44_112, sI_sI]
              · rw [if_pos h7, if_neg h7, if_pos rfl]
                rfl
          · rw [if_neg h5, if_neg h5, c_fail, zr_44_59, g2]
            rfl
