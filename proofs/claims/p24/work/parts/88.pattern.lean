/-! patterns told to the tape -/
/-- an operator's first byte, its second -/
def opc (i : Nat) : Int := if i < 2 then 60 else if i < 4 then 62 else if i < 6 then 46 else if i < 8 then 44 else 36
def opd (i : Nat) : Int := if i < 11 then 46 else 44
def opl (i : Nat) : List Int := if i < 8 then (if i % 2 = 1 then [opc i, opc i] else [opc i]) else if i = 8 then [opc i] else if i % 2 = 0 then [opc i, opd i, opd i] else [opc i, opd i]
theorem opc_i {i : Nat} : (if (2 : Int) ≤ (i : Int) then (if (4 : Int) ≤ (i : Int) then (if (6 : Int) ≤ (i : Int) then (if (8 : Int) ≤ (i : Int) then 36 else 44 : Int) else 46 : Int) else 62 : Int) else 60 : Int) = opc i := by
  unfold opc
  by_cases c1 : i < 2
  · rw [if_pos c1, if_neg (by omega)]
  · rw [if_neg c1, if_pos (by omega)]
    by_cases c2 : i < 4
    · rw [if_pos c2, if_neg (by omega)]
    · rw [if_neg c2, if_pos (by omega)]
      by_cases c3 : i < 6
      · rw [if_pos c3, if_neg (by omega)]
      · rw [if_neg c3, if_pos (by omega)]
        by_cases c4 : i < 8
        · rw [if_pos c4, if_neg (by omega)]
        · rw [if_neg c4, if_pos (by omega)]
theorem opd_i {i : Nat} : (if (11 : Int) ≤ (i : Int) then 44 else 46 : Int) = opd i := by
  unfold opd
  by_cases c : i < 11
  · rw [if_pos c, if_neg (by omega)]
  · rw [if_neg c, if_pos (by omega)]
theorem opc_b (i : Nat) : 0 ≤ opc i ∧ opc i < 256 := by unfold opc; repeat' split <;> omega
theorem opd_b (i : Nat) : 0 ≤ opd i ∧ opd i < 256 := by unfold opd; split <;> omega
theorem opl_len (i : Nat) : (opl i).length ≤ 3 := by
  unfold opl
  split
  · split <;> exact Nat.le_of_ble_eq_true rfl
  · split
    · exact Nat.le_of_ble_eq_true rfl
    · split <;> exact Nat.le_of_ble_eq_true rfl
theorem v_saysOp {K : List zF} (hK : K.length + 10 ≤ 60) {l : List Int} {R : STR} {u i : Nat} {z : Int} {σ : zW} (h : LV l R u σ) (hi : i < 13) (hz : z = (i : Int)) (hl : l.length + 3 ≤ 600) (k : ∀ σ', lFr 3 σ σ' → LV (l ++ opl i) R u σ' → zRet true K none σ') : zEv true (zent 153 [.inr (.inr 1), .inl z] :: K) σ := by
  subst hz
  have hKl : K.length < 60 := by omega
  have hr2 : ∀ _ : Unit, zrem (i : Int) 2 = ((i % 2 : Nat) : Int) := fun _ => zrem_nat (x := i) (y := 2) (by omega) (by decide)
  rw [ze_153 hKl, opc_i]
  refine v_says (by show K.length + 1 + 9 ≤ 60; omega) h (opc_b i).1 (opc_b i).2 (by omega) (fun σ1 hF1 hV1 => ?_)
  have hl1 : (l ++ [opc i]).length = l.length + 1 := len1
  rw [zr_153_50 hKl, hr2 ()]
  by_cases c8 : i < 8
  · rw [if_neg (by omega)]
    by_cases c2 : i % 2 = 1
    · rw [if_neg (by omega)]
      refine v_says (by show K.length + 1 + 9 ≤ 60; omega) hV1 (opc_b i).1 (opc_b i).2 (by omega) (fun σ2 hF2 hV2 => ?_)
      rw [zr_153_68]
      refine k σ2 ((hF1.trans hF2).le (by omega)) ?_
      unfold opl
      rw [if_pos c8, if_pos c2]
      rw [List.append_assoc] at hV2
      exact hV2
    · rw [if_pos (by omega), zj_153_71 hKl, if_pos (by omega)]
      refine k σ1 (hF1.le (by omega)) ?_
      unfold opl
      rw [if_pos c8, if_neg c2]
      exact hV1
  · rw [if_pos (by omega), zj_153_71 hKl]
    by_cases c9 : i = 8
    · rw [if_pos (by omega)]
      refine k σ1 (hF1.le (by omega)) ?_
      unfold opl
      rw [if_neg c8, if_pos c9]
      exact hV1
    · rw [if_neg (by omega), opd_i]
      refine v_says (by show K.length + 1 + 9 ≤ 60; omega) hV1 (opd_b i).1 (opd_b i).2 (by omega) (fun σ2 hF2 hV2 => ?_)
      have hl2 : (l ++ [opc i] ++ [opd i]).length = l.length + 2 := by rw [List.length_append, hl1]; rfl
      rw [zr_153_94 hKl, hr2 (), opd_i]
      by_cases c2 : i % 2 = 0
      · rw [if_neg (by omega)]
        refine v_says (by show K.length + 1 + 9 ≤ 60; omega) hV2 (opd_b i).1 (opd_b i).2 (by omega) (fun σ3 hF3 hV3 => ?_)
        rw [zr_153_117]
        refine k σ3 (((hF1.trans hF2).trans hF3).le (by omega)) ?_
        unfold opl
        rw [if_neg c8, if_neg c9, if_pos c2]
        rw [List.append_assoc, List.append_assoc] at hV3
        exact hV3
      · rw [if_pos (by omega)]
        refine k σ2 ((hF1.trans hF2).le (by omega)) ?_
        unfold opl
        rw [if_neg c8, if_neg c9, if_neg c2]
        rw [List.append_assoc] at hV2
        exact hV2
/-- a label's byte: * or a letter -/
def lbc (a : Nat) : Int := if a % 4 = 0 then 42 else ((a % 4 : Nat) : Int) + 64
theorem lbc_b (a : Nat) : 0 ≤ lbc a ∧ lbc a < 256 := by unfold lbc; split <;> omega
theorem lbc_i {a : Nat} (ha : a < 2147483648) : (if ¬ zrem (a : Int) 4 = 0 then w32 (w32 (65 + zrem (a : Int) 4) - 1) else 42 : Int) = lbc a := by
  have hr : ∀ _ : Unit, zrem (a : Int) 4 = ((a % 4 : Nat) : Int) := fun _ => zrem_nat (x := a) (y := 4) (by omega) (by decide)
  rw [hr ()]
  unfold lbc
  by_cases c : a % 4 = 0
  · rw [if_pos c, if_neg (by omega)]
  · rw [if_neg c, if_pos (by omega), zw_id (z := 65 + ((a % 4 : Nat) : Int)) (by omega) (by omega), zw_id (by omega) (by omega)]
    omega
/-- the short text: X=x op Y=y -/
def pt2 (w : Nat) : List Int := lbc w :: 61 :: 120 :: (opl (w / 4 % 13) ++ 32 :: lbc (w / 52) :: 61 :: [121])
/-- the long one, with or without brackets -/
def pt3 (w x : Nat) : List Int := if x % 2 = 0 then lbc w :: 61 :: 120 :: (opl (w / 4 % 13) ++ 32 :: 40 :: lbc (w / 52) :: 61 :: 121 :: 32 :: (opl (x / 2 % 13) ++ 32 :: lbc (x / 26) :: [41])) else lbc w :: 61 :: 120 :: (opl (w / 4 % 13) ++ 32 :: lbc (w / 52) :: 61 :: 121 :: 32 :: (opl (x / 2 % 13) ++ 32 :: [lbc (x / 26)]))
theorem v_saysP {K : List zF} (hK : K.length + 11 ≤ 60) {R : STR} {u w x : Nat} {b : Int} {σ : zW} (h : LV [] R u σ) (hw : w < 2147483648) (hx : x < 2147483648) (hb : b = 0 ∨ b = 1) (k : ∀ σ', lFr 20 σ σ' → LV (if b = 0 then pt3 w x else pt2 w) R u σ' → zRet true K none σ') : zEv true (zent 156 [.inr (.inr 1), .inl (w : Int), .inl (x : Int), .inl b] :: K) σ := by
  have hKl : K.length < 60 := by omega
  have d4 : ∀ _ : Unit, zdiv (w : Int) 4 = ((w / 4 : Nat) : Int) := fun _ => zdiv_pos (a := w) (b := 4) hw (by decide)
  have d52 : ∀ _ : Unit, zdiv (w : Int) 52 = ((w / 52 : Nat) : Int) := fun _ => zdiv_pos (a := w) (b := 52) hw (by decide)
  have d2 : ∀ _ : Unit, zdiv (x : Int) 2 = ((x / 2 : Nat) : Int) := fun _ => zdiv_pos (a := x) (b := 2) hx (by decide)
  have d26 : ∀ _ : Unit, zdiv (x : Int) 26 = ((x / 26 : Nat) : Int) := fun _ => zdiv_pos (a := x) (b := 26) hx (by decide)
  have r13 : ∀ _ : Unit, zrem ((w / 4 : Nat) : Int) 13 = ((w / 4 % 13 : Nat) : Int) := fun _ => zrem_nat (x := w / 4) (y := 13) (by omega) (by decide)
  have r132 : ∀ _ : Unit, zrem ((x / 2 : Nat) : Int) 13 = ((x / 2 % 13 : Nat) : Int) := fun _ => zrem_nat (x := x / 2) (y := 13) (by omega) (by decide)
  have r2 : ∀ _ : Unit, zrem (x : Int) 2 = ((x % 2 : Nat) : Int) := fun _ => zrem_nat (x := x) (y := 2) (by omega) (by decide)
  have o1 := opl_len (w / 4 % 13)
  have o2 := opl_len (x / 2 % 13)
  have hKs : ∀ F : zF, (F :: K).length + 9 ≤ 60 := fun F => by show K.length + 1 + 9 ≤ 60; omega
  have hKo : ∀ F : zF, (F :: K).length + 10 ≤ 60 := fun F => by show K.length + 1 + 10 ≤ 60; omega
  rw [ze_156 hKl, lbc_i hw]
  refine v_says (hKs _) h (lbc_b _).1 (lbc_b _).2 (by decide) (fun σ1 hF1 hV1 => ?_)
  rw [zr_156_23 hKl]
  refine v_says (hKs _) hV1 (by decide) (by decide) (Nat.le_of_ble_eq_true rfl) (fun σ2 hF2 hV2 => ?_)
  rw [zr_156_29 hKl]
  refine v_says (hKs _) hV2 (by decide) (by decide) (Nat.le_of_ble_eq_true rfl) (fun σ3 hF3 hV3 => ?_)
  rw [zr_156_35 hKl, d4 (), r13 ()]
  refine v_saysOp (hKo _) hV3 (Nat.mod_lt _ (by decide)) rfl (Nat.le_of_ble_eq_true rfl) (fun σ4 hF4 hV4 => ?_)
  have e4 : [] ++ [lbc w] ++ [61] ++ [120] ++ opl (w / 4 % 13) = lbc w :: 61 :: 120 :: opl (w / 4 % 13) := by simp
  rw [e4] at hV4
  have l4 : (lbc w :: 61 :: 120 :: opl (w / 4 % 13)).length ≤ 6 := by simp only [List.length_cons]; omega
  generalize hp4 : lbc w :: 61 :: 120 :: opl (w / 4 % 13) = p4 at hV4 l4
  rw [zr_156_45 hKl]
  refine v_says (hKs _) hV4 (by decide) (by decide) (by omega) (fun σ5 hF5 hV5 => ?_)
  have l5 : (p4 ++ [32]).length = p4.length + 1 := len1
  have hF05 := (((hF1.trans hF2).trans hF3).trans hF4).trans hF5
  rw [zr_156_51 hKl, r2 ()]
  -- from the second label on
  have tail : ∀ (p5 : List Int) (σ' : zW) (x4 : Int) (F : zF), p5.length ≤ 8 → (x4 = 0 ∨ (x4 = 1 ∧ b = 0)) → lFr 8 σ σ' → LV p5 R u σ' → F = (156, 108, [some (.inr (.inr 1)), some (.inl (w : Int)), some (.inl (x : Int)), some (.inl b), some (.inl x4)], []) →
      (∀ σ', lFr 20 σ σ' → LV (p5 ++ lbc (w / 52) :: 61 :: 121 :: (if b = 0 then 32 :: (opl (x / 2 % 13) ++ 32 :: lbc (x / 26) :: (if x4 = 0 then [] else [41])) else [])) R u σ' → zRet true K none σ') →
      zEv true (zent 142 [.inr (.inr 1), .inl (if ¬ zrem (zdiv (w : Int) 52) 4 = 0 then w32 (w32 (65 + zrem (zdiv (w : Int) 52) 4) - 1) else 42 : Int)] :: F :: K) σ' := by
    intro p5 σ' x4 F hp5 hx4 hF5 hV5 hFe kk
    subst hFe
    rw [d52 (), lbc_i (by omega)]
    refine v_says (hKs _) hV5 (lbc_b _).1 (lbc_b _).2 (by omega) (fun σ6 hF6 hV6 => ?_)
    have l6 : (p5 ++ [lbc (w / 52)]).length = p5.length + 1 := len1
    rw [zr_156_108 hKl]
    refine v_says (hKs _) hV6 (by decide) (by decide) (by omega) (fun σ7 hF7 hV7 => ?_)
    have l7 : (p5 ++ [lbc (w / 52)] ++ [61]).length = p5.length + 2 := by rw [List.length_append, l6]; rfl
    rw [zr_156_114 hKl]
    refine v_says (hKs _) hV7 (by decide) (by decide) (by omega) (fun σ8 hF8 hV8 => ?_)
    have l8 : (p5 ++ [lbc (w / 52)] ++ [61] ++ [121]).length = p5.length + 3 := by rw [List.length_append, l7]; rfl
    have hF08 := ((hF5.trans hF6).trans hF7).trans hF8
    rw [zr_156_120 hKl]
    rcases hb with hb | hb
    · rw [if_neg (fun w => w hb)]
      rw [if_pos hb] at kk
      refine v_says (hKs _) hV8 (by decide) (by decide) (by omega) (fun σ9 hF9 hV9 => ?_)
      have l9 : (p5 ++ [lbc (w / 52)] ++ [61] ++ [121] ++ [32]).length = p5.length + 4 := by rw [List.length_append, l8]; rfl
      rw [zr_156_130 hKl, d2 (), r132 ()]
      refine v_saysOp (hKo _) hV9 (Nat.mod_lt _ (by decide)) rfl (by omega) (fun σ10 hF10 hV10 => ?_)
      have l10 : (p5 ++ [lbc (w / 52)] ++ [61] ++ [121] ++ [32] ++ opl (x / 2 % 13)).length ≤ p5.length + 7 := by rw [List.length_append, l9]; omega
      rw [zr_156_140 hKl]
      refine v_says (hKs _) hV10 (by decide) (by decide) (by omega) (fun σ11 hF11 hV11 => ?_)
      have l11 : (p5 ++ [lbc (w / 52)] ++ [61] ++ [121] ++ [32] ++ opl (x / 2 % 13) ++ [32]).length ≤ p5.length + 8 := by rw [len1]; omega
      rw [zr_156_146 hKl, d26 (), lbc_i (by omega)]
      refine v_says (hKs _) hV11 (lbc_b _).1 (lbc_b _).2 (by omega) (fun σ12 hF12 hV12 => ?_)
      have l12 : (p5 ++ [lbc (w / 52)] ++ [61] ++ [121] ++ [32] ++ opl (x / 2 % 13) ++ [32] ++ [lbc (x / 26)]).length ≤ p5.length + 9 := by rw [len1]; omega
      have hF12a := (((hF08.trans hF9).trans hF10).trans hF11).trans hF12
      rw [zr_156_175 hKl]
      by_cases c4 : x4 = 0
      · rw [if_pos c4] at kk ⊢
        refine kk σ12 (hF12a.le (by omega)) ?_
        have e : p5 ++ lbc (w / 52) :: 61 :: 121 :: 32 :: (opl (x / 2 % 13) ++ 32 :: lbc (x / 26) :: []) = p5 ++ [lbc (w / 52)] ++ [61] ++ [121] ++ [32] ++ opl (x / 2 % 13) ++ [32] ++ [lbc (x / 26)] := by simp
        rw [e]; exact hV12
      · rw [if_neg c4] at kk ⊢
        refine v_says (hKs _) hV12 (by decide) (by decide) (by omega) (fun σ13 hF13 hV13 => ?_)
        rw [zr_156_186]
        refine kk σ13 ((hF12a.trans hF13).le (by omega)) ?_
        have e : p5 ++ lbc (w / 52) :: 61 :: 121 :: 32 :: (opl (x / 2 % 13) ++ 32 :: lbc (x / 26) :: [41]) = p5 ++ [lbc (w / 52)] ++ [61] ++ [121] ++ [32] ++ opl (x / 2 % 13) ++ [32] ++ [lbc (x / 26)] ++ [41] := by simp
        rw [e]; exact hV13
    · rw [if_pos (by rw [hb]; decide), zj_156_175 hKl]
      rw [if_neg (by rw [hb]; decide)] at kk
      have c4 : x4 = 0 := by
        rcases hx4 with c | ⟨-, c⟩
        · exact c
        · omega
      rw [if_pos c4]
      refine kk σ8 (hF08.le (by omega)) ?_
      have e : p5 ++ [lbc (w / 52), 61, 121] = p5 ++ [lbc (w / 52)] ++ [61] ++ [121] := by simp
      rw [e]; exact hV8
  by_cases c2 : x % 2 = 0
  · rw [if_neg (by omega)]
    rcases hb with hb | hb
    · rw [if_neg (fun w => w hb), if_neg (by decide)]
      rw [if_pos hb] at k
      refine v_says (hKs _) hV5 (by decide) (by decide) (by omega) (fun σ6 hF6 hV6 => ?_)
      have l6 : (p4 ++ [32] ++ [40]).length ≤ 8 := by rw [len1]; omega
      rw [zr_156_79 hKl]
      refine tail _ σ6 1 _ l6 (Or.inr ⟨rfl, hb⟩) ((hF05.trans hF6).le (by omega)) hV6 rfl (fun σ' hF' hV' => k σ' hF' ?_)
      rw [if_pos hb, if_neg (show ¬ (1 : Int) = 0 by decide), ← hp4] at hV'
      unfold pt3
      rw [if_pos c2]
      simpa using hV'
    · rw [if_pos (by rw [hb]; decide), zj_156_65 hKl, if_pos rfl, zj_156_79 hKl]
      rw [if_neg (by rw [hb]; decide)] at k
      refine tail _ σ5 0 _ (by omega) (Or.inl rfl) (hF05.le (by omega)) hV5 rfl (fun σ' hF' hV' => k σ' hF' ?_)
      rw [if_neg (show ¬ b = 0 by rw [hb]; decide), ← hp4] at hV'
      unfold pt2
      simpa using hV'
  · rw [if_pos (by omega), zj_156_65 hKl, if_pos rfl, zj_156_79 hKl]
    refine tail _ σ5 0 _ (by omega) (Or.inl rfl) (hF05.le (by omega)) hV5 rfl (fun σ' hF' hV' => k σ' hF' ?_)
    rw [← hp4] at hV'
    rcases hb with hb | hb
    · rw [if_pos hb, if_pos rfl] at hV'
      rw [if_pos hb]
      unfold pt3
      rw [if_neg c2]
      simpa using hV'
    · rw [if_neg (show ¬ b = 0 by rw [hb]; decide)] at hV'
      rw [if_neg (by rw [hb]; decide)]
      unfold pt2
      simpa using hV'
