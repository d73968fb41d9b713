/-! all matches with three nodes -/
/-- the trees and what is kept of them; the tape is empty; all else as it may be -/
def LT (Ts : Nat → TRE) (H : Nat → List TRE) (u : Nat) (σ : zW) : Prop := ∃ ps sc x, LO [] (Ts, ps, sc, x, (0, fun _ => 0), H) u σ
theorem LT.of {R : STR} {u : Nat} {σ : zW} (h : LO [] R u σ) : LT R.1 R.2.2.2.2.2 u σ := by
  obtain ⟨y, h⟩ := h
  exact ⟨R.2.1, R.2.2.1, R.2.2.2.1, y, h⟩
theorem LT.le {Ts : Nat → TRE} {H : Nat → List TRE} {u u2 : Nat} {σ : zW} (h : LT Ts H u σ) (hu : u ≤ u2) : LT Ts H u2 σ := by
  obtain ⟨ps, sc, x, h⟩ := h
  exact ⟨ps, sc, x, h.le hu⟩
theorem v_saysP2 {K : List zF} (hK : K.length + 11 ≤ 60) {R : STR} {u w x : Nat} {b y z : Int} {σ : zW} (h : LO [] R u σ) (hw : w < 2147483648) (hx : x < 2147483648) (hb : b = 0 ∨ b = 1) (hy : y = (w : Int)) (hz : z = (x : Int)) (k : ∀ σ', lFr 20 σ σ' → LO (if b = 0 then pt3 w x else pt2 w) R u σ' → zRet true K none σ') : zEv true (zent 156 [.inr (.inr 1), .inl y, .inl z, .inl b] :: K) σ := by
  obtain ⟨t, h⟩ := h
  subst hy
  subst hz
  exact v_saysP hK h hw hx hb (fun σ' hF hV => k σ' hF (LO.rO hV))
theorem n3_le {n : Nat} (h : n ≤ 9) : n * n * n ≤ 729 := by
  have h1 : n * n ≤ 9 * 9 := Nat.mul_le_mul h h
  exact Nat.mul_le_mul h1 h
theorem v_areMatches {K : List zF} (hK : K.length + 32 ≤ 60) {R : STR} {u w x : Nat} {y z : Int} {tt lb : Nat → Int} {σ : zW} (h : LO [] R u σ) (hT : tmT (R.1 0) tt lb) (hl : lbT (R.1 0) lb) (h9 : (R.1 1).1 = 0) (hw : w < 2147483648) (hx : x < 2147483648) (hy : y = (w : Int)) (hz : z = (x : Int)) (k : ∀ σ', lFr 3000 σ σ' → LT R.1 R.2.2.2.2.2 u σ' → zRet true K (some (.inl 1)) σ') : zEv true (zent 158 [.inr (.inr 1), .inl y, .inl z] :: K) σ := by
  have hKl : K.length < 60 := by omega
  subst hy
  subst hz
  have hwf := hT.1
  have hn9 := hT.2.2.1
  have hn1 := hT.2.1
  have hlT : labT (R.1 0) lb := fun i hi => ⟨hl i hi, (hT.2.2.2 i hi).2⟩
  rw [ze_158 hKl]
  refine v_saysP2 (by show K.length + 1 + 11 ≤ 60; omega) h hw hx (Or.inl rfl) rfl rfl (fun σ1 hF1 hV1 => ?_)
  rw [if_pos rfl] at hV1
  obtain ⟨q, q2, hr⟩ := read_3 w x
  have hpw := pw3 w x q q2
  have hN : (st3 w x q q2).2.2.1 = 3 := by rw [st3_e]
  rw [zr_158_7 hKl]
  refine v_pattern (by show K.length + 1 + 14 ≤ 60; omega) hV1 hr hpw (fun σ2 hF2 hV2 => ?_)
  have hpg := hV2.pg
  have hpl := pl3 w x q q2
  have hMT := MT_F3 hpg hlT (w := w) (x := x)
  obtain ⟨hst1, hst2, hst3⟩ := hpw
  rw [hN]
  generalize st3 w x q q2 = st at hV2 hpg hpl hMT hst1 hst2 hst3 hN
  generalize hRR : rP R (some (st, pdO st)) = RR at hV2
  have hR1 : RR.1 = R.1 := by rw [← hRR]; rfl
  have hR2 : RR.2.1 = some (st, pdO st) := by rw [← hRR]; rfl
  have hRH : RR.2.2.2.2.2 = R.2.2.2.2.2 := by rw [← hRR]; rfl
  have hn3 := n3_le hn9
  have hmono : ∀ i j, i < j → j < (R.1 0).1 * (R.1 0).1 * (R.1 0).1 → enc3 (R.1 0).1 i < enc3 (R.1 0).1 j := fun i j hij _ => enc3_mono (by omega) i j hij
  have hcnt := cnt_all (M := ((R.1 0).1 + 1) ^ 3) hmono hMT (fun j hj => (wdc_enc3 hj).1)
  have hlM : lM RR 0 = lst (MT (R.1 0) st) (((R.1 0).1 + 1) ^ 3) := by
    unfold lM
    rw [hR1, hR2]
    show lst (fun c => MT (R.1 0) st c) (((R.1 0).1 + 1) ^ st.2.2.1) = _
    rw [hN]
  have hnP : nPs RR.2.1 = 3 := by rw [hR2]; exact hN
  rw [zr_158_14 hKl, if_neg (fun w => w rfl)]
  refine v_matches (p := 0) (by show K.length + 1 + 22 ≤ 60; omega) hV2 (by decide) rfl (fun σ3 hF3 hV3 => ?_)
  rw [zr_158_29 hKl, e_nodes (p := 0) (z := 0) (by show K.length + 1 + 4 ≤ 60; omega) hV3 (by decide) rfl, zr_158_36, hR1, hlM]
  have hF03 : lFr 21 σ σ3 := ((hF1.trans hF2).trans hF3).le (by omega)
  generalize hm : lst (MT (R.1 0) st) (((R.1 0).1 + 1) ^ 3) = ms at hcnt hlM
  obtain ⟨hc1, hc2⟩ := hcnt
  have hval : ∀ i j, i < (R.1 0).1 * (R.1 0).1 * (R.1 0).1 → F3 (R.1 0) lb w x i → j < 3 → mAt RR (lst (F3 (R.1 0) lb w x) i).length j = vec (i / (R.1 0).1 / (R.1 0).1) (i / (R.1 0).1 % (R.1 0).1) (i % (R.1 0).1) j := fun i j hi hFi hj => by
    obtain ⟨g1, g2⟩ := hc2 i hi hFi
    unfold mAt
    rw [hlM, hnP, if_pos ⟨g1, hj⟩, hR1, g2, (wdc_enc3 hi).2]
  have hnn : ∀ _ : Unit, w32 (w32 (((R.1 0).1 : Int) * ((R.1 0).1 : Int)) * ((R.1 0).1 : Int)) = (((R.1 0).1 * (R.1 0).1 * (R.1 0).1 : Nat) : Int) := fun _ => by
    have h2 : (R.1 0).1 * (R.1 0).1 ≤ 81 := Nat.mul_le_mul hn9 hn9
    have g1 : ((R.1 0).1 : Int) * ((R.1 0).1 : Int) = (((R.1 0).1 * (R.1 0).1 : Nat) : Int) := by rw [Int.natCast_mul]
    rw [g1, zw_id (z := (((R.1 0).1 * (R.1 0).1 : Nat) : Int)) (by omega) (by omega)]
    have g2 : (((R.1 0).1 * (R.1 0).1 : Nat) : Int) * ((R.1 0).1 : Int) = (((R.1 0).1 * (R.1 0).1 * (R.1 0).1 : Nat) : Int) := by rw [← Int.natCast_mul]
    rw [g2, zw_id (by omega) (by omega)]
  -- behind the loop
  have last : ∀ (σ4 : zW) (o8 o9 o10 o11 : Option zV), lFr (21 + 4 * ((R.1 0).1 * (R.1 0).1 * (R.1 0).1)) σ σ4 → LO [] RR u σ4 → zEv true ((158, 271, [some (.inr (.inr 1)), some (.inl (w : Int)), some (.inl (x : Int)), some (.inl 1), some (.inl (ms.length : Int)), some (.inl ((R.1 0).1 : Int)), some (.inl (ms.length : Int)), some (.inl (((R.1 0).1 * (R.1 0).1 * (R.1 0).1 : Nat) : Int)), o8, o9, o10, o11], []) :: K) σ4 := by
    intro σ4 o8 o9 o10 o11 hF4 hV4
    have out : ∀ i j, ¬ (i < ms.length ∧ j < 3) → mAt RR i j = -1191 := fun i j hij => by
      unfold mAt
      rw [hlM, hnP, if_neg hij]
    rw [zj_158_271 hKl, if_neg (by decide), if_neg (fun w => w rfl)]
    refine v_trying (p := 0) (by show K.length + 1 + 22 ≤ 60; omega) hV4 (by decide) rfl (fun σ5 hF5 hV5 => ?_)
    rw [hlM, zr_158_287 hKl, if_neg (fun w => w rfl)]
    refine v_mat8 (i := ms.length) (j := 0) (by show K.length + 1 + 24 ≤ 60; omega) hV5 rfl rfl (fun σ6 hF6 hV6 => ?_)
    rw [out _ _ (by omega), zr_158_302 hKl, if_neg (fun w => w rfl)]
    refine v_mat9 (i := ms.length) (j := 2) (by show K.length + 1 + 24 ≤ 60; omega) hV6 rfl rfl (fun σ7 hF7 hV7 => ?_)
    rw [out _ _ (by omega), zr_158_318 hKl, if_neg (fun w => w rfl)]
    refine v_mat8 (i := 0) (j := 3) (by show K.length + 1 + 24 ≤ 60; omega) hV7 rfl rfl (fun σ8 hF8 hV8 => ?_)
    rw [out _ _ (by omega), zr_158_333 hKl, if_neg (fun w => w rfl)]
    refine v_isPlan (by show K.length + 1 + 26 ≤ 60; omega) hV8 hR2 hpg hst1 hst2 hN (fun i hi => ?_) (by rw [hR1]; omega) (by rw [hR1]; exact h9) (fun σ9 hF9 hV9 => ?_)
    · have hi' : i = 0 ∨ i = 1 ∨ i = 2 := by omega
      obtain ⟨a0, a1, a2⟩ := hpl
      rcases hi' with rfl | rfl | rfl
      · have : np st 0 = 0 := by unfold np; rw [a0.2.2.2.2.1]; rfl
        rw [this]; exact ⟨a0.1, a0.2.1⟩
      · have : np st 1 = 1 := by unfold np; rw [a1.2.2.2.2.1]; rfl
        rw [this]; exact ⟨a1.1, a1.2.1⟩
      · have : np st 2 = 2 := by unfold np; rw [a2.2.2.2.2.1]; rfl
        rw [this]; exact ⟨a2.1, a2.2.1⟩
    · rw [zr_158_344, if_neg (by decide)]
      have hlp := LT.of hV9
      rw [hR1, hRH] at hlp
      exact k σ9 ((((((hF4.trans hF5).trans hF6).trans hF7).trans hF8).trans hF9).le (by omega)) hlp
  have d52 : ∀ _ : Unit, zdiv (w : Int) 52 = ((w / 52 : Nat) : Int) := fun _ => zdiv_pos (a := w) (b := 52) hw (by decide)
  have d26 : ∀ _ : Unit, zdiv (x : Int) 26 = ((x / 26 : Nat) : Int) := fun _ => zdiv_pos (a := x) (b := 26) hx (by decide)
  have d4 : ∀ _ : Unit, zrem (zdiv (w : Int) 4) 13 = ((w / 4 % 13 : Nat) : Int) := fun _ => by
    have g9 : zdiv (w : Int) 4 = ((w / 4 : Nat) : Int) := zdiv_pos (a := w) (b := 4) hw (by decide)
    rw [g9]
    exact zrem_nat (x := w / 4) (y := 13) (by omega) (by decide)
  have d2 : ∀ _ : Unit, zrem (zdiv (x : Int) 2) 13 = ((x / 2 % 13 : Nat) : Int) := fun _ => by
    have g9 : zdiv (x : Int) 2 = ((x / 2 : Nat) : Int) := zdiv_pos (a := x) (b := 2) hx (by decide)
    rw [g9]
    exact zrem_nat (x := x / 2) (y := 13) (by omega) (by decide)
  have r2 : ∀ _ : Unit, zrem (x : Int) 2 = ((x % 2 : Nat) : Int) := fun _ => zrem_nat (x := x) (y := 2) (by omega) (by decide)
  have loop : ∀ (m i : Nat) (σ4 : zW) (o8 o9 o10 o11 : Option zV), (R.1 0).1 * (R.1 0).1 * (R.1 0).1 - i = m → i ≤ (R.1 0).1 * (R.1 0).1 * (R.1 0).1 → lFr (21 + 4 * i) σ σ4 → LO [] RR u σ4 → zEv true ((158, 44, [some (.inr (.inr 1)), some (.inl (w : Int)), some (.inl (x : Int)), some (.inl 1), some (.inl (ms.length : Int)), some (.inl ((R.1 0).1 : Int)), some (.inl ((lst (F3 (R.1 0) lb w x) i).length : Int)), some (.inl (i : Int)), o8, o9, o10, o11], []) :: K) σ4 := by
    intro m
    induction m with
    | zero =>
      intro i σ4 o8 o9 o10 o11 hm2 hi hF4 hV4
      have e : i = (R.1 0).1 * (R.1 0).1 * (R.1 0).1 := by omega
      rw [zj_158_44 hKl, hnn (), if_pos (by omega), e, ← hc1]
      rw [e] at hF4
      exact last σ4 _ _ _ _ hF4 hV4
    | succ m ih =>
      intro i σ4 o8 o9 o10 o11 hm2 hi hF4 hV4
      have hi' : i < (R.1 0).1 * (R.1 0).1 * (R.1 0).1 := by omega
      have hn0 : ¬ ((R.1 0).1 : Int) = 0 := by omega
      have e1 : ∀ _ : Unit, zdiv (i : Int) ((R.1 0).1 : Int) = ((i / (R.1 0).1 : Nat) : Int) := fun _ => zdiv_pos (by omega) (by omega)
      have e2 : ∀ _ : Unit, zdiv ((i / (R.1 0).1 : Nat) : Int) ((R.1 0).1 : Int) = ((i / (R.1 0).1 / (R.1 0).1 : Nat) : Int) := fun _ => zdiv_pos (by have := Nat.div_le_self i (R.1 0).1; omega) (by omega)
      have e3 : ∀ _ : Unit, zrem ((i / (R.1 0).1 : Nat) : Int) ((R.1 0).1 : Int) = ((i / (R.1 0).1 % (R.1 0).1 : Nat) : Int) := fun _ => zrem_nat (by have := Nat.div_le_self i (R.1 0).1; omega) (by omega)
      have e4 : ∀ _ : Unit, zrem (i : Int) ((R.1 0).1 : Int) = ((i % (R.1 0).1 : Nat) : Int) := fun _ => zrem_nat (by omega) (by omega)
      have a1 := div_lt hi'
      have ha := div_lt a1
      have hb := Nat.mod_lt (i / (R.1 0).1) hn1
      have hd := Nat.mod_lt i hn1
      have hcl := lst_len (P := F3 (R.1 0) lb w x) i
      have hvali := hval i
      have hsk : ¬ F3 (R.1 0) lb w x i → ∀ (σ5 : zW) (o8 o9 o10 o11 : Option zV), lFr (21 + 4 * i) σ σ5 → LO [] RR u σ5 → zEv true ((158, 44, [some (.inr (.inr 1)), some (.inl (w : Int)), some (.inl (x : Int)), some (.inl 1), some (.inl (ms.length : Int)), some (.inl ((R.1 0).1 : Int)), some (.inl ((lst (F3 (R.1 0) lb w x) i).length : Int)), some (.inl (w32 ((i : Int) + 1))), o8, o9, o10, o11], []) :: K) σ5 := by
        intro hnF σ5 o8 o9 o10 o11 hF5 hV5
        have := ih (i + 1) σ5 o8 o9 o10 o11 (by omega) hi' (hF5.le (by omega)) hV5
        rw [lst_n hnF] at this
        rw [ws1 (by omega)]
        exact this
      have hgo : F3 (R.1 0) lb w x i → ∀ (σ5 : zW) (o8 o9 o10 o11 : Option zV), lFr (21 + 4 * i + 4) σ σ5 → LO [] RR u σ5 → zEv true ((158, 44, [some (.inr (.inr 1)), some (.inl (w : Int)), some (.inl (x : Int)), some (.inl 1), some (.inl (ms.length : Int)), some (.inl ((R.1 0).1 : Int)), some (.inl (w32 (((lst (F3 (R.1 0) lb w x) i).length : Int) + 1))), some (.inl (w32 ((i : Int) + 1))), o8, o9, o10, o11], []) :: K) σ5 := by
        intro hFi σ5 o8 o9 o10 o11 hF5 hV5
        have := ih (i + 1) σ5 o8 o9 o10 o11 (by omega) hi' (hF5.le (by omega)) hV5
        rw [lst_y hFi, List.length_append] at this
        rw [ws1 (i := i) (by omega), ws1 (i := (lst (F3 (R.1 0) lb w x) i).length) (by omega)]
        exact this
      rw [zj_158_44 hKl, hnn (), if_neg (by omega), if_neg (by decide), yAnd hn0, yAnd hn0, yAnd hn0, yAnd hn0, yAnd hn0, e1 (), e2 (), e3 (), e4 ()]
      unfold F3 at hvali hsk hgo
      generalize i / (R.1 0).1 / (R.1 0).1 = A at *
      generalize i / (R.1 0).1 % (R.1 0).1 = B at *
      generalize i % (R.1 0).1 = D at *
      refine v_fits (by show K.length + 1 + 13 ≤ 60; omega) hV4 (by rw [hR1]; exact ha) (by rw [hR1]; exact hlT) hw rfl rfl (fun σ5 hF5 hV5 => ?_)
      have hF45 : lFr (21 + 4 * i) σ σ5 := (hF4.trans hF5).le (by omega)
      rw [zr_158_95 hKl]
      rcases Classical.em (fitP lb w A) with f1 | f1
      · rw [zb_t f1, if_neg (by decide), d52 ()]
        refine v_fits (by show K.length + 1 + 13 ≤ 60; omega) hV5 (by rw [hR1]; exact hb) (by rw [hR1]; exact hlT) (show w / 52 < 2147483648 by omega) rfl rfl (fun σ6 hF6 hV6 => ?_)
        have hF46 : lFr (21 + 4 * i) σ σ6 := (hF45.trans hF6).le (by omega)
        rw [zr_158_108 hKl]
        rcases Classical.em (fitP lb (w / 52) B) with f2 | f2
        · rw [zb_t f2, if_neg (by decide), d26 ()]
          refine v_fits (by show K.length + 1 + 13 ≤ 60; omega) hV6 (by rw [hR1]; exact hd) (by rw [hR1]; exact hlT) (show x / 26 < 2147483648 by omega) rfl rfl (fun σ7 hF7 hV7 => ?_)
          have hF47 : lFr (21 + 4 * i) σ σ7 := (hF46.trans hF7).le (by omega)
          rw [zr_158_121 hKl]
          rcases Classical.em (fitP lb (x / 26) D) with f3 | f3
          · rw [zb_t f3, if_neg (by decide), if_neg (by decide)]
            refine q_holds (by show K.length + 1 + 6 ≤ 60; omega) hV7 (by rw [hR1]; exact hwf) (Nat.mod_lt _ (by decide)) (by rw [hR1]; exact ha) (by rw [hR1]; exact hb) (d4 ()) rfl rfl ?_
            rw [hR1, zr_158_150 hKl]
            rcases Classical.em (relP (R.1 0) (opm (w / 4 % 13)) 0 A B) with f4 | f4
            · rw [zb_t f4, if_neg (by decide), r2 ()]
              have hsel : (if ¬ ((x % 2 : Nat) : Int) = 0 then (A : Int) else (B : Int)) = ((if x % 2 = 0 then B else A : Nat) : Int) := by
                by_cases c : x % 2 = 0
                · rw [if_pos c, if_neg (by omega)]
                · rw [if_neg c, if_pos (by omega)]
              have hsl : (if x % 2 = 0 then B else A) < (R.1 0).1 := by split <;> assumption
              rw [hsel]
              refine q_holds (by show K.length + 1 + 6 ≤ 60; omega) hV7 (by rw [hR1]; exact hwf) (Nat.mod_lt _ (by decide)) (by rw [hR1]; exact hsl) (by rw [hR1]; exact hd) (d2 ()) rfl rfl ?_
              rw [hR1, zr_158_178]
              rcases Classical.em (relP (R.1 0) (opm (x / 2 % 13)) 0 (if x % 2 = 0 then B else A) D) with f5 | f5
              · have hFi := hgo ⟨⟨f1, f2, f3⟩, f4, f5⟩
                have hvi := fun j hj => hvali j hi' ⟨⟨f1, f2, f3⟩, f4, f5⟩ hj
                rw [zb_t f5, if_neg (by decide)]
                -- the four questions
                have ask : ∀ o11, zEv true ((158, 196, [some (.inr (.inr 1)), some (.inl (w : Int)), some (.inl (x : Int)), some (.inl 1), some (.inl (ms.length : Int)), some (.inl ((R.1 0).1 : Int)), some (.inl ((lst (fun k => (fitP lb w (k / (R.1 0).1 / (R.1 0).1) ∧ fitP lb (w / 52) (k / (R.1 0).1 % (R.1 0).1) ∧ fitP lb (x / 26) (k % (R.1 0).1)) ∧ relP (R.1 0) (opm (w / 4 % 13)) 0 (k / (R.1 0).1 / (R.1 0).1) (k / (R.1 0).1 % (R.1 0).1) ∧ relP (R.1 0) (opm (x / 2 % 13)) 0 (if x % 2 = 0 then k / (R.1 0).1 % (R.1 0).1 else k / (R.1 0).1 / (R.1 0).1) (k % (R.1 0).1)) i).length : Int)), some (.inl (i : Int)), some (.inl (A : Int)), some (.inl (B : Int)), some (.inl (D : Int)), o11], []) :: K) σ7 := by
                  intro o11
                  rw [zj_158_196 hKl]
                  refine v_mat8 (j := 0) (by show K.length + 1 + 24 ≤ 60; omega) hV7 rfl rfl (fun σ8 hF8 hV8 => ?_)
                  rw [hvi 0 (by decide), zr_158_206 hKl, if_neg (fun w => w rfl)]
                  refine v_mat8 (j := 1) (by show K.length + 1 + 24 ≤ 60; omega) hV8 rfl rfl (fun σ9 hF9 hV9 => ?_)
                  rw [hvi 1 (by decide), zr_158_221 hKl, if_neg (fun w => w rfl)]
                  refine v_mat8 (j := 2) (by show K.length + 1 + 24 ≤ 60; omega) hV9 rfl rfl (fun σ10 hF10 hV10 => ?_)
                  rw [hvi 2 (by decide), zr_158_236 hKl, if_neg (fun w => w rfl)]
                  refine v_mat9 (j := 1) (by show K.length + 1 + 24 ≤ 60; omega) hV10 rfl rfl (fun σ11 hF11 hV11 => ?_)
                  rw [hvi 1 (by decide), zr_158_251, if_neg (fun w => w rfl)]
                  exact hFi σ11 _ _ _ _ (((((hF47.trans hF8).trans hF9).trans hF10).trans hF11).le (by omega)) hV11
                by_cases c20 : ((lst (fun k => (fitP lb w (k / (R.1 0).1 / (R.1 0).1) ∧ fitP lb (w / 52) (k / (R.1 0).1 % (R.1 0).1) ∧ fitP lb (x / 26) (k % (R.1 0).1)) ∧ relP (R.1 0) (opm (w / 4 % 13)) 0 (k / (R.1 0).1 / (R.1 0).1) (k / (R.1 0).1 % (R.1 0).1) ∧ relP (R.1 0) (opm (x / 2 % 13)) 0 (if x % 2 = 0 then k / (R.1 0).1 % (R.1 0).1 else k / (R.1 0).1 / (R.1 0).1) (k % (R.1 0).1)) i).length : Int) ≤ 20
                · have := ask (some (.inl 1))
                  show @ite Prop (_ ≤ 20) _ _ _
                  rw [if_pos (show (((lst (F3 (R.1 0) lb w x) i).length : Nat) : Int) ≤ 20 from c20)]
                  exact this
                · show @ite Prop (_ ≤ 20) _ _ _
                  rw [if_neg (show ¬ (((lst (F3 (R.1 0) lb w x) i).length : Nat) : Int) ≤ 20 from c20)]
                  by_cases c7 : 0 < zrem (i : Int) 7
                  · rw [if_pos c7]
                    exact hFi σ7 _ _ _ _ (hF47.le (by omega)) hV7
                  · rw [if_neg c7]
                    exact ask _
              · rw [zb_f f5, if_pos rfl]
                exact hsk (fun w => f5 w.2.2) σ7 _ _ _ _ hF47 hV7
            · rw [zb_f f4, if_pos rfl]
              exact hsk (fun w => f4 w.2.1) σ7 _ _ _ _ hF47 hV7
          · rw [zb_f f3, if_pos rfl, zj_158_128 hKl, if_pos rfl]
            exact hsk (fun w => f3 w.1.2.2) σ7 _ _ _ _ hF47 hV7
        · rw [zb_f f2, if_pos rfl, zj_158_128 hKl, if_pos rfl]
          exact hsk (fun w => f2 w.1.2.1) σ6 _ _ _ _ hF46 hV6
      · rw [zb_f f1, if_pos rfl, zj_158_128 hKl, if_pos rfl]
        exact hsk (fun w => f1 w.1.1) σ5 _ _ _ _ hF45 hV5
  exact loop _ 0 σ3 _ _ _ _ rfl (Nat.zero_le _) (hF03.le (by omega)) hV3
