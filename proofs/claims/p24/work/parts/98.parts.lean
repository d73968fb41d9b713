/-! areParts -/
theorem rP_1 {R : STR} {ps : Option (PST × (Nat → Nat))} : (rP R ps).1 = R.1 := rfl
theorem lM_e {R : STR} {st : PST} {pd : Nat → Nat} {N : Nat} (hN : st.2.2.1 = N) : lM (rP R (some (st, pd))) 0 = lst (MT (R.1 0) st) (((R.1 0).1 + 1) ^ N) := by
  rw [← hN]
  rfl
theorem mAt_e {R : STR} {st : PST} {pd : Nat → Nat} {N i j : Nat} (hN : st.2.2.1 = N) (hi : i < (lst (MT (R.1 0) st) (((R.1 0).1 + 1) ^ N)).length) (hj : j < N) : mAt (rP R (some (st, pd))) i j = wdc ((R.1 0).1 + 1) N ((lst (MT (R.1 0) st) (((R.1 0).1 + 1) ^ N)).getD i 0) j := by
  have hp : nPs (rP R (some (st, pd))).2.1 = N := hN
  unfold mAt
  rw [lM_e hN, hp, if_pos ⟨hi, hj⟩]
  rfl
/-- one way: !, then ? -/
theorem v_way {K : List zF} (hK : K.length + 32 ≤ 60) {R : STR} {u w : Nat} {wy b both firsts fit : Int} {o5 o8 : Option zV} {σ : zW} (h : LO [] R u σ) (hw : w < 2147483648) (hwy : (wy = 0 ∧ b = 33) ∨ (wy = 1 ∧ b = 63)) (hcnt : ∀ (q0 q : Nat) (pd : Nat → Nat), pgd (if b = 33 then stN w q0 q else stQ w q0 q) pd → ((lst (MT (R.1 0) (if b = 33 then stN w q0 q else stQ w q0 q)) (((R.1 0).1 + 1) ^ (if b = 33 then 1 else 2))).length : Int) = w32 (w32 ((if ¬ wy = 0 then both else 0 : Int) + fit) - firsts))
    (k : ∀ (σ' : zW) (q0 q : Nat), lFr 9 σ σ' → LO [] (rP R (some (if b = 33 then stN w q0 q else stQ w q0 q, pdO (if b = 33 then stN w q0 q else stQ w q0 q)))) u σ' → zEv true ((160, 144, [some (.inr (.inr 1)), some (.inl (w : Int)), some (.inl 1), some (.inl both), some (.inl firsts), o5, some (.inl fit), some (.inl (w32 (wy + 1))), o8], []) :: K) σ') :
    zEv true ((160, 144, [some (.inr (.inr 1)), some (.inl (w : Int)), some (.inl 1), some (.inl both), some (.inl firsts), o5, some (.inl fit), some (.inl wy), o8], []) :: K) σ := by
  have hKl : K.length < 60 := by omega
  obtain ⟨t, h⟩ := h
  have hb : b = 33 ∨ b = 63 := by omega
  have hbw : (if ¬ wy = 0 then 63 else 33 : Int) = b := by
    rcases hwy with ⟨c, e⟩ | ⟨c, e⟩
    · rw [if_neg (fun x => x c), e]
    · rw [if_pos (by omega), e]
  have d52 : ∀ _ : Unit, zdiv (w : Int) 52 = ((w / 52 : Nat) : Int) := fun _ => zdiv_pos (a := w) (b := 52) hw (by decide)
  have d4 : ∀ _ : Unit, zrem (zdiv (w : Int) 4) 13 = ((w / 4 % 13 : Nat) : Int) := fun _ => by
    have g9 : zdiv (w : Int) 4 = ((w / 4 : Nat) : Int) := zdiv_pos (a := w) (b := 4) hw (by decide)
    rw [g9]
    exact zrem_nat (x := w / 4) (y := 13) (by omega) (by decide)
  have hKs : ∀ F : zF, (F :: K).length + 9 ≤ 60 := fun F => by show K.length + 1 + 9 ≤ 60; omega
  have ol := opl_len (w / 4 % 13)
  rw [zj_160_144 hKl, if_neg (by omega), if_neg (by decide), lbc_i hw]
  refine v_says (hKs _) h (lbc_b _).1 (lbc_b _).2 (by decide) (fun σ1 hF1 hV1 => ?_)
  rw [zr_160_177 hKl]
  refine v_says (hKs _) hV1 (by decide) (by decide) (Nat.le_of_ble_eq_true rfl) (fun σ2 hF2 hV2 => ?_)
  rw [zr_160_183 hKl, hbw]
  refine v_says (hKs _) hV2 (by omega) (by omega) (Nat.le_of_ble_eq_true rfl) (fun σ3 hF3 hV3 => ?_)
  rw [zr_160_199 hKl, d4 ()]
  refine v_saysOp (by show K.length + 1 + 10 ≤ 60; omega) hV3 (Nat.mod_lt _ (by decide)) rfl (Nat.le_of_ble_eq_true rfl) (fun σ4 hF4 hV4 => ?_)
  have l4 : ([] ++ [lbc w] ++ [32] ++ [b] ++ opl (w / 4 % 13)).length ≤ 6 := by
    rw [List.length_append]
    show 3 + _ ≤ 6
    omega
  rw [zr_160_209 hKl]
  refine v_says (hKs _) hV4 (by decide) (by decide) (by omega) (fun σ5 hF5 hV5 => ?_)
  have l5 : ([] ++ [lbc w] ++ [32] ++ [b] ++ opl (w / 4 % 13) ++ [32]).length ≤ 7 := by rw [len1]; omega
  rw [zr_160_215 hKl, d52 (), lbc_i (by omega)]
  refine v_says (hKs _) hV5 (lbc_b _).1 (lbc_b _).2 (by omega) (fun σ6 hF6 hV6 => ?_)
  have e6 : [] ++ [lbc w] ++ [32] ++ [b] ++ opl (w / 4 % 13) ++ [32] ++ [lbc (w / 52)] = ptm b w := by
    unfold ptm
    simp
  rw [e6] at hV6
  have hV6' : LO (ptm b w) R u σ6 := LO.rO hV6
  obtain ⟨q0, q, hr⟩ := read_m b w hb
  have kk := fun σ' => k σ' q0 q
  have hcn := hcnt q0 q
  have hpw : pw (if b = 33 then stN w q0 q else stQ w q0 q) ∧ pup (if b = 33 then stN w q0 q else stQ w q0 q) ∧ 1 ≤ (if b = 33 then stN w q0 q else stQ w q0 q).1 := by
    split
    · exact pwN w q0 q
    · exact pwQ w q0 q
  have hN : (if b = 33 then stN w q0 q else stQ w q0 q).2.2.1 = (if b = 33 then 1 else 2) := by
    split
    · rw [stN_e]
    · rw [stQ_e]
  generalize (if b = 33 then stN w q0 q else stQ w q0 q) = st at hr kk hcn hpw hN
  rw [zr_160_244 hKl]
  refine v_pattern (by show K.length + 1 + 14 ≤ 60; omega) hV6' hr hpw (fun σ7 hF7 hV7 => ?_)
  have hc := hcn (pdO st) hV7.pg
  have hlM : lM (rP R (some (st, pdO st))) 0 = lst (MT (R.1 0) st) (((R.1 0).1 + 1) ^ (if b = 33 then 1 else 2)) := lM_e hN
  have hNi : (st.2.2.1 : Int) = w32 (1 + wy) := by
    rw [hN]
    rcases hwy with ⟨c, e⟩ | ⟨c, e⟩
    · rw [if_pos e, c]; decide
    · rw [if_neg (by omega), c]; decide
  rw [zr_160_251 hKl, if_neg (fun x => x hNi)]
  refine v_matches (p := 0) (by show K.length + 1 + 22 ≤ 60; omega) hV7 (by decide) rfl (fun σ8 hF8 hV8 => ?_)
  rw [zr_160_263 hKl, hlM, if_neg (fun x => x hc)]
  refine v_trying (p := 0) (by show K.length + 1 + 22 ≤ 60; omega) hV8 (by decide) rfl (fun σ9 hF9 hV9 => ?_)
  rw [zr_160_287 hKl]
  refine v_matches (p := 0) (by show K.length + 1 + 22 ≤ 60; omega) hV9 (by decide) rfl (fun σ10 hF10 hV10 => ?_)
  rw [zr_160_292, if_neg (fun x => x rfl)]
  exact kk σ10 ((((((((((hF1.trans hF2).trans hF3).trans hF4).trans hF5).trans hF6).trans hF7).trans hF8).trans hF9).trans hF10).le (by omega)) hV10
theorem v_areParts {K : List zF} (hK : K.length + 33 ≤ 60) {R : STR} {u w : Nat} {y : Int} {tt lb : Nat → Int} {σ : zW} (h : LO [] R u σ) (hT : tmT (R.1 0) tt lb) (hl : lbT (R.1 0) lb) (hw : w < 2147483648) (hy : y = (w : Int)) (k : ∀ σ', lFr 60 σ σ' → LT R.1 R.2.2.2.2.2 u σ' → zRet true K (some (.inl 1)) σ') : zEv true (zent 160 [.inr (.inr 1), .inl y] :: K) σ := by
  have hKl : K.length < 60 := by omega
  subst hy
  have hn9 := hT.2.2.1
  have hn1 := hT.2.1
  have hlT : labT (R.1 0) lb := fun i hi => ⟨hl i hi, (hT.2.2.2 i hi).2⟩
  have hnn : (R.1 0).1 * (R.1 0).1 ≤ 81 := Nat.mul_le_mul hn9 hn9
  rw [ze_160 hKl]
  refine v_saysP2 (by show K.length + 1 + 11 ≤ 60; omega) h hw (x := 0) (by decide) (Or.inr rfl) rfl rfl (fun σ1 hF1 hV1 => ?_)
  rw [if_neg (by decide)] at hV1
  obtain ⟨q, hr⟩ := read_2 w
  have hpw := pw2 w q
  have hN : (st2 w q).2.2.1 = 2 := by rw [st2_e]
  rw [zr_160_7 hKl]
  refine v_pattern (by show K.length + 1 + 14 ≤ 60; omega) hV1 hr hpw (fun σ2 hF2 hV2 => ?_)
  have hpg := hV2.pg
  have hMT := MT_F2 hpg hlT (w := w)
  rw [hN, zr_160_14 hKl, if_neg (fun w => w rfl)]
  have hcnt := cnt_all (M := ((R.1 0).1 + 1) ^ 2) (fun i j hij _ => enc2_mono (by omega) i j hij) hMT (fun j hj => (wdc_enc2 hj).1)
  have hmA : ∀ i j, i < (lst (MT (R.1 0) (st2 w q)) (((R.1 0).1 + 1) ^ 2)).length → j < 2 → mAt (rP R (some (st2 w q, pdO (st2 w q)))) i j = wdc ((R.1 0).1 + 1) 2 ((lst (MT (R.1 0) (st2 w q)) (((R.1 0).1 + 1) ^ 2)).getD i 0) j := fun i j => mAt_e hN
  have hlM : lM (rP R (some (st2 w q, pdO (st2 w q)))) 0 = lst (MT (R.1 0) (st2 w q)) (((R.1 0).1 + 1) ^ 2) := lM_e hN
  have hnP : nPs (rP R (some (st2 w q, pdO (st2 w q)))).2.1 = 2 := hN
  refine v_matches (p := 0) (by show K.length + 1 + 22 ≤ 60; omega) hV2 (by decide) rfl (fun σ3 hF3 hV3 => ?_)
  have hF03 : lFr 21 σ σ3 := ((hF1.trans hF2).trans hF3).le (by omega)
  rw [zr_160_29, hlM]
  obtain ⟨hc1, hc2⟩ := hcnt
  have hboth : (lst (MT (R.1 0) (st2 w q)) (((R.1 0).1 + 1) ^ 2)).length = (lst (F2 (R.1 0) lb w) ((R.1 0).1 * (R.1 0).1)).length := hc1
  rw [hboth]
  have hval : ∀ i, i < (R.1 0).1 * (R.1 0).1 → F2 (R.1 0) lb w i → (lst (F2 (R.1 0) lb w) i).length < (lM (rP R (some (st2 w q, pdO (st2 w q)))) 0).length ∧ mAt (rP R (some (st2 w q, pdO (st2 w q)))) (lst (F2 (R.1 0) lb w) i).length 0 = ((i / (R.1 0).1 : Nat) : Int) := fun i hi hFi => by
    obtain ⟨g1, g2⟩ := hc2 i hi hFi
    refine ⟨by rw [hlM]; exact g1, ?_⟩
    rw [hmA _ _ g1 (by decide), g2, (wdc_enc2 hi).2]
    rfl
  -- the last loop: what is gone
  have last : ∀ (q0 q' : Nat) (σ4 : zW) (o1 o3 o5 : Option zV) (i m : Nat), (R.1 0).1 * ((R.1 0).1 + 1) - i = m → i ≤ (R.1 0).1 * ((R.1 0).1 + 1) → ∀ (RQ : STR), RQ = rP RQ (some (stQ w q0 q', pdO (stQ w q0 q'))) → RQ.1 = R.1 → RQ.2.2.2.2.2 = R.2.2.2.2.2 → pgd (stQ w q0 q') (pdO (stQ w q0 q')) → lFr 60 σ σ4 → LO [] RQ u σ4 → zEv true ((160, 313, [some (.inr (.inr 1)), o1, some (.inl 1), o3, some (.inl ((lst (Fn (R.1 0) lb w) (R.1 0).1).length : Int)), o5, some (.inl ((lst (fitP lb w) (R.1 0).1).length : Int)), some (.inl ((lst (Gq (R.1 0) lb w) i).length : Int)), some (.inl ((lst (Fq (R.1 0) lb w) i).length : Int))], []) :: K) σ4 := by
    intro q0 q' σ4 o1 o3 o5 i m
    induction m generalizing i σ4 with
    | zero =>
      intro hm hi RQ hRQ hR1 hRH hpq hF4 hV4
      have e : i = (R.1 0).1 * ((R.1 0).1 + 1) := by omega
      have hNQ : (stQ w q0 q').2.2.1 = 2 := by rw [stQ_e]
      have hcq := cnt_Q (lb := lb) hpq hlT
      have hlQ : lM RQ 0 = lst (MT (R.1 0) (stQ w q0 q')) (((R.1 0).1 + 1) ^ 2) := by rw [hRQ, lM_e hNQ, hR1]
      have hpow : ((R.1 0).1 + 1) ^ 2 = ((R.1 0).1 + 1) * ((R.1 0).1 + 1) := by rw [Nat.pow_succ, Nat.pow_one]
      have hcl := (cnt_all (M := ((R.1 0).1 + 1) ^ 2) (e := fun k => k + ((R.1 0).1 + 1)) (m := (R.1 0).1 * ((R.1 0).1 + 1)) (fun i j hij _ => by show i + _ < j + _; omega) hcq (fun j hj => by rw [hpow, Nat.add_mul _ 1, Nat.one_mul]; show j + _ < _; omega)).1
      have hsp := lst_split (P := fitP lb w) (Q := smP (R.1 0) lb w) (R.1 0).1
      have hsp' : (lst (fitP lb w) (R.1 0).1).length = (lst (Fn (R.1 0) lb w) (R.1 0).1).length + (lst (Gn (R.1 0) lb w) (R.1 0).1).length := hsp
      have hgn := (Fq_len (T := R.1 0) (lb := lb) (w := w) (R.1 0).1).2
      have hle := lst_len (P := fitP lb w) (R.1 0).1
      rw [zj_160_313 hKl]
      refine v_matches (p := 0) (by show K.length + 1 + 22 ≤ 60; omega) hV4 (by decide) rfl (fun σ5 hF5 hV5 => ?_)
      have g9 : ((lst (Gq (R.1 0) lb w) i).length : Int) = w32 (((lst (fitP lb w) (R.1 0).1).length : Int) - ((lst (Fn (R.1 0) lb w) (R.1 0).1).length : Int)) := by
        rw [e, hgn, zw_id (by omega) (by omega)]
        omega
      rw [zr_160_320 hKl, if_pos (by rw [hlQ, hcl, e]; exact Int.le_refl _), zj_160_354, if_neg (by decide), if_neg (fun x => x g9)]
      have hlp := LT.of hV5
      rw [hR1, hRH] at hlp
      exact k σ5 ((hF4.trans hF5).le (by omega)) hlp
    | succ m ih =>
      intro hm hi RQ hRQ hR1 hRH hpq hF4 hV4
      have hi' : i < (R.1 0).1 * ((R.1 0).1 + 1) := by omega
      by_cases c : Fq (R.1 0) lb w i
      · have hNQ : (stQ w q0 q').2.2.1 = 2 := by rw [stQ_e]
        have hcq := cnt_Q (lb := lb) hpq hlT
        have hlQ : lM RQ 0 = lst (MT (R.1 0) (stQ w q0 q')) (((R.1 0).1 + 1) ^ 2) := by rw [hRQ, lM_e hNQ, hR1]
        have hnQ : nPs RQ.2.1 = 2 := by rw [hRQ]; exact hNQ
        have hpow : ((R.1 0).1 + 1) ^ 2 = ((R.1 0).1 + 1) * ((R.1 0).1 + 1) := by rw [Nat.pow_succ, Nat.pow_one]
        obtain ⟨g1, g2⟩ := (cnt_all (M := ((R.1 0).1 + 1) ^ 2) (e := fun k => k + ((R.1 0).1 + 1)) (m := (R.1 0).1 * ((R.1 0).1 + 1)) (fun i j hij _ => by show i + _ < j + _; omega) hcq (fun j hj => by rw [hpow, Nat.add_mul _ 1, Nat.one_mul]; show j + _ < _; omega)).2 i hi' c
        have hv1 : mAt RQ (lst (Fq (R.1 0) lb w) i).length 1 = ((i % ((R.1 0).1 + 1) : Nat) : Int) - 1 := by
          rw [hRQ, mAt_e hNQ (by rw [hR1]; exact g1) (by decide), hR1, g2]
          unfold wdc
          rw [if_pos (by decide), show (2 : Nat) - 1 - 1 = 0 from rfl, Nat.pow_zero, Nat.div_one, Nat.add_mod_right]
        have hfl := lst_len (P := Fq (R.1 0) lb w) i
        have hgl := lst_len (P := Gq (R.1 0) lb w) i
        have h90 : (R.1 0).1 * ((R.1 0).1 + 1) ≤ 9 * 10 := Nat.mul_le_mul hn9 (by omega)
        rw [zj_160_313 hKl]
        refine v_matches (p := 0) (by show K.length + 1 + 22 ≤ 60; omega) hV4 (by decide) rfl (fun σ5 hF5 hV5 => ?_)
        rw [zr_160_320 hKl, if_neg (by rw [hlQ]; omega), if_neg (by decide)]
        refine v_matD (i := (lst (Fq (R.1 0) lb w) i).length) (j := 1) (by show K.length + 1 + 22 ≤ 60; omega) hV5 rfl rfl (by rw [hlQ]; exact g1) (by rw [hnQ]; decide) (fun σ6 hF6 hV6 => ?_)
        have hgo := ih σ6 (i + 1) (by omega) hi' RQ hRQ hR1 hRH hpq (((hF4.trans hF5).trans hF6).le (by omega)) hV6
        rw [len_y c] at hgo
        rw [zr_160_337, hv1, ws1 (i := (lst (Fq (R.1 0) lb w) i).length) (by omega)]
        by_cases c0 : i % ((R.1 0).1 + 1) = 0
        · rw [len_y (P := Gq (R.1 0) lb w) ⟨c, c0⟩] at hgo
          rw [if_neg (by omega), ws1 (i := (lst (Gq (R.1 0) lb w) i).length) (by omega)]
          exact hgo
        · rw [len_n (P := Gq (R.1 0) lb w) (fun x => c0 x.2)] at hgo
          rw [if_pos (by omega), Int.add_zero, zw_id (z := ((lst (Gq (R.1 0) lb w) i).length : Int)) (by omega) (by omega)]
          exact hgo
      · have hgo := ih σ4 (i + 1) (by omega) hi' RQ hRQ hR1 hRH hpq hF4 hV4
        rw [len_n c, len_n (P := Gq (R.1 0) lb w) (fun x => c x.1)] at hgo
        exact hgo
  -- the two ways
  have ways : ∀ (σ4 : zW) (o5 o8 : Option zV), lFr 21 σ σ4 → LO [] (rP R (some (st2 w q, pdO (st2 w q)))) u σ4 → zEv true ((160, 144, [some (.inr (.inr 1)), some (.inl (w : Int)), some (.inl 1), some (.inl ((lst (F2 (R.1 0) lb w) ((R.1 0).1 * (R.1 0).1)).length : Int)), some (.inl ((lst (Fn (R.1 0) lb w) (R.1 0).1).length : Int)), o5, some (.inl ((lst (fitP lb w) (R.1 0).1).length : Int)), some (.inl 0), o8], []) :: K) σ4 := by
    intro σ4 o5 o8 hF4 hV4
    have hsp := lst_split (P := fitP lb w) (Q := smP (R.1 0) lb w) (R.1 0).1
    have hsp' : (lst (fitP lb w) (R.1 0).1).length = (lst (Fn (R.1 0) lb w) (R.1 0).1).length + (lst (Gn (R.1 0) lb w) (R.1 0).1).length := hsp
    have hle := lst_len (P := fitP lb w) (R.1 0).1
    have hle2 := lst_len (P := F2 (R.1 0) lb w) ((R.1 0).1 * (R.1 0).1)
    have hfq := (Fq_len (T := R.1 0) (lb := lb) (w := w) (R.1 0).1).1
    refine v_way (b := 33) (by omega) hV4 hw (Or.inl ⟨rfl, rfl⟩) (fun q0 q' pd hpq => ?_) (fun σ5 q0 q' hF5 hV5 => ?_)
    · rw [if_pos rfl] at hpq ⊢
      rw [if_pos rfl, if_neg (fun x => x rfl)]
      have hc := cnt_N hpq hlT
      rw [rP_1, hc, Int.zero_add, zw_id (z := ((lst (fitP lb w) (R.1 0).1).length : Int)) (by omega) (by omega), zw_id (by omega) (by omega)]
      omega
    · rw [show w32 ((0 : Int) + 1) = 1 by decide]
      refine v_way (b := 63) (by omega) hV5 hw (Or.inr ⟨rfl, rfl⟩) (fun q0 q' pd hpq => ?_) (fun σ6 q1 q1' hF6 hV6 => ?_)
      · rw [if_neg (show ¬ (63 : Int) = 33 by decide)] at hpq ⊢
        rw [if_neg (show ¬ (63 : Int) = 33 by decide), if_pos (show ¬ (1 : Int) = 0 by decide)]
        have hcq := cnt_Q (lb := lb) hpq hlT
        have hpow : ((R.1 0).1 + 1) ^ 2 = ((R.1 0).1 + 1) * ((R.1 0).1 + 1) := by rw [Nat.pow_succ, Nat.pow_one]
        have hcl := (cnt_all (M := ((R.1 0).1 + 1) ^ 2) (e := fun k => k + ((R.1 0).1 + 1)) (m := (R.1 0).1 * ((R.1 0).1 + 1)) (fun i j hij _ => by show i + _ < j + _; omega) hcq (fun j hj => by rw [hpow, Nat.add_mul _ 1, Nat.one_mul]; show j + _ < _; omega)).1
        rw [rP_1, rP_1, hcl, hfq, zw_id (z := ((lst (F2 (R.1 0) lb w) ((R.1 0).1 * (R.1 0).1)).length : Int) + ((lst (fitP lb w) (R.1 0).1).length : Int)) (by omega) (by omega), zw_id (by omega) (by omega)]
        omega
      · rw [if_neg (show ¬ (63 : Int) = 33 by decide)] at hV6
        rw [show w32 ((1 : Int) + 1) = 2 by decide, zj_160_144 hKl, if_pos (by decide), zj_160_307]
        refine last q1 q1' σ6 _ _ _ 0 _ rfl (Nat.zero_le _) _ ?_ ?_ ?_ hV6.pg (((hF4.trans hF5).trans hF6).le (by omega)) hV6
        · rfl
        · rfl
        · rfl
  -- who fits
  have fits : ∀ (m i : Nat) (σ4 : zW) (o5 o8 : Option zV), (R.1 0).1 - i = m → i ≤ (R.1 0).1 → lFr 21 σ σ4 → LO [] (rP R (some (st2 w q, pdO (st2 w q)))) u σ4 → zEv true ((160, 105, [some (.inr (.inr 1)), some (.inl (w : Int)), some (.inl 1), some (.inl ((lst (F2 (R.1 0) lb w) ((R.1 0).1 * (R.1 0).1)).length : Int)), some (.inl ((lst (Fn (R.1 0) lb w) (R.1 0).1).length : Int)), o5, some (.inl ((lst (fitP lb w) i).length : Int)), some (.inl (i : Int)), o8], []) :: K) σ4 := by
    intro m
    induction m with
    | zero =>
      intro i σ4 o5 o8 hm hi hF4 hV4
      have e : i = (R.1 0).1 := by omega
      rw [zj_160_105 hKl, e_nodes (p := 0) (z := 0) (by show K.length + 1 + 4 ≤ 60; omega) hV4 (by decide) rfl, zr_160_112 hKl, rP_1, if_pos (by omega), e]
      exact ways σ4 _ _ hF4 hV4
    | succ m ih =>
      intro i σ4 o5 o8 hm hi hF4 hV4
      have hi' : i < (R.1 0).1 := by omega
      have hle := lst_len (P := fitP lb w) i
      rw [zj_160_105 hKl, e_nodes (p := 0) (z := 0) (by show K.length + 1 + 4 ≤ 60; omega) hV4 (by decide) rfl, zr_160_112 hKl, rP_1, if_neg (by omega)]
      refine v_fits (by show K.length + 1 + 13 ≤ 60; omega) hV4 hi' hlT hw rfl rfl (fun σ5 hF5 hV5 => ?_)
      have hgo := fun o5 => ih (i + 1) σ5 o5 o8 (by omega) hi' ((hF4.trans hF5).le (by omega)) hV5
      rw [zr_160_124, ws1 (i := i) (by omega)]
      by_cases c : fitP lb w i
      · rw [len_y c] at hgo
        rw [zb_t c, if_neg (by decide), ws1 (i := (lst (fitP lb w) i).length) (by omega)]
        exact hgo _
      · rw [len_n c] at hgo
        rw [zb_f c, if_pos rfl, Int.add_zero, zw_id (z := ((lst (fitP lb w) i).length : Int)) (by omega) (by omega)]
        exact hgo _
  -- the first nodes of both
  have loop : ∀ (m i : Nat) (bf : Int) (σ4 : zW) (o7 o8 : Option zV), (R.1 0).1 * (R.1 0).1 - i = m → i ≤ (R.1 0).1 * (R.1 0).1 → (∀ j, j < i → F2 (R.1 0) lb w j → ((j / (R.1 0).1 : Nat) : Int) ≤ bf) → (bf = -1 ∨ ∃ j, j < i ∧ F2 (R.1 0) lb w j ∧ bf = ((j / (R.1 0).1 : Nat) : Int)) → lFr 21 σ σ4 → LO [] (rP R (some (st2 w q, pdO (st2 w q)))) u σ4 → zEv true ((160, 39, [some (.inr (.inr 1)), some (.inl (w : Int)), some (.inl 1), some (.inl ((lst (F2 (R.1 0) lb w) ((R.1 0).1 * (R.1 0).1)).length : Int)), some (.inl ((lst (nwF (R.1 0) lb w) i).length : Int)), some (.inl bf), some (.inl ((lst (F2 (R.1 0) lb w) i).length : Int)), o7, o8], []) :: K) σ4 := by
    intro m
    induction m with
    | zero =>
      intro i bf σ4 o7 o8 hm hi hb1 hb2 hF4 hV4
      have e : i = (R.1 0).1 * (R.1 0).1 := by omega
      rw [zj_160_39 hKl, if_pos (by rw [e]; exact Int.le_refl _), zj_160_99, e, nw_len]
      exact fits _ 0 σ4 _ _ rfl (Nat.zero_le _) hF4 hV4
    | succ m ih =>
      intro i bf σ4 o7 o8 hm hi hb1 hb2 hF4 hV4
      have hi' : i < (R.1 0).1 * (R.1 0).1 := by omega
      have hm2 : (R.1 0).1 * (R.1 0).1 - (i + 1) = m := by clear hb1 hb2; omega
      have hpos : 0 ≤ ((i / (R.1 0).1 : Nat) : Int) := Int.natCast_nonneg _
      by_cases c : F2 (R.1 0) lb w i
      · obtain ⟨g1, g2⟩ := hval i hi' c
        have g1' := g1
        rw [hlM, hboth] at g1'
        have hle := lst_len (P := F2 (R.1 0) lb w) i
        have hle2 := lst_len (P := nwF (R.1 0) lb w) i
        have hle3 := lst_len (P := F2 (R.1 0) lb w) ((R.1 0).1 * (R.1 0).1)
        have hbl : bf ≤ ((i / (R.1 0).1 : Nat) : Int) := by
          rcases hb2 with e | ⟨j, j1, -, e⟩
          · rw [e]; exact Int.le_trans (by decide) hpos
          · have := Nat.div_le_div_right (c := (R.1 0).1) (Nat.le_of_lt j1)
            omega
        rw [zj_160_39 hKl, if_neg (by omega), if_neg (by decide)]
        refine v_matD (i := (lst (F2 (R.1 0) lb w) i).length) (j := 0) (by show K.length + 1 + 22 ≤ 60; omega) hV4 rfl rfl g1 (by rw [hnP]; decide) (fun σ5 hF5 hV5 => ?_)
        have hgo := fun o7 o8 => ih (i + 1) ((i / (R.1 0).1 : Nat) : Int) σ5 o7 o8 hm2 hi' (fun j hj hFj => by
          have := Nat.div_le_div_right (c := (R.1 0).1) (show j ≤ i by omega)
          omega) (Or.inr ⟨i, by omega, c, rfl⟩) ((hF4.trans hF5).le (by omega)) hV5
        rw [len_y c] at hgo
        rw [zr_160_57, g2, if_neg (by omega), ws1 (i := (lst (F2 (R.1 0) lb w) i).length) (by omega)]
        have hnw : nwF (R.1 0) lb w i ↔ ¬ ((i / (R.1 0).1 : Nat) : Int) ≤ bf := by
          constructor
          · rintro ⟨-, h2⟩ h3
            rcases hb2 with e | ⟨j, j1, j2, e⟩
            · rw [e] at h3; exact absurd (Int.le_trans hpos h3) (by decide)
            · have := h2 j j1 j2
              omega
          · intro h3
            refine ⟨c, fun j hj hFj => ?_⟩
            have := hb1 j hj hFj
            omega
        by_cases c2 : ((i / (R.1 0).1 : Nat) : Int) ≤ bf
        · rw [len_n (fun x => hnw.mp x c2)] at hgo
          rw [if_pos c2, Int.add_zero, zw_id (z := ((lst (nwF (R.1 0) lb w) i).length : Int)) (by omega) (by omega)]
          exact hgo _ _
        · rw [len_y (hnw.mpr c2)] at hgo
          rw [if_neg c2, ws1 (i := (lst (nwF (R.1 0) lb w) i).length) (by omega)]
          exact hgo _ _
      · have hgo := ih (i + 1) bf σ4 o7 o8 hm2 hi' (fun j hj hFj => by
          by_cases q : j = i
          · rw [q] at hFj; exact absurd hFj c
          · exact hb1 j (by omega) hFj) (hb2.imp id (fun ⟨j, j1, j2, j3⟩ => ⟨j, by omega, j2, j3⟩)) hF4 hV4
        rw [len_n c, len_n (P := nwF (R.1 0) lb w) (fun x => c x.1)] at hgo
        exact hgo
  exact loop _ 0 (-1) σ3 _ _ rfl (Nat.zero_le _) (fun j hj => by omega) (Or.inl rfl) hF03 hV3
