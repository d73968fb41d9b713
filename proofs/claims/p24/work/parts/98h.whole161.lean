/-! isEdited -/
theorem v_isEdited {K : List zF} (hK : K.length + 34 ≤ 60) {Ts : Nat → TRE} {H : Nat → List TRE} {u w x : Nat} {y z : Int} {tt lb : Nat → Int} {σ : zW} (h : LT Ts H u σ) (hT : tmT (Ts 0) tt lb) (hl : lbT (Ts 0) lb) (hA : tmA (Ts 0).1 tt lb σ) (hQ : ∀ i, i < (Ts 0).1 → lb i ≠ 81) (hH : H 0 = []) (hu : u + 1 ≤ 512) (hw : w < 2147483648) (hx : x < 2147483648) (hy : y = (w : Int)) (hz : z = (x : Int)) (k : ∀ σ', lFr 150 σ σ' → LT Ts H (u + 1) σ' → zRet true K (some (.inl 1)) σ') : zEv true (zent 161 [.inr (.inr 1), .inr (.inr 122), .inr (.inr 123), .inl y, .inl z] :: K) σ := by
  have hKl : K.length < 60 := by omega
  have hK' : K.length + 33 ≤ 60 := by omega
  obtain ⟨ps, sc, fx, h⟩ := h
  subst hy
  subst hz
  have hn9 := hT.2.2.1
  have hn1 := hT.2.1
  have hlT : labT (Ts 0) lb := fun i hi => ⟨hl i hi, (hT.2.2.2 i hi).2⟩
  have hr4 : ∀ _ : Unit, zrem (x : Int) 4 = ((x % 4 : Nat) : Int) := fun _ => zrem_nat (x := x) (y := 4) (by omega) (by decide)
  have hi : x % 4 < 4 := Nat.mod_lt _ (by decide)
  generalize x % 4 = i at hi hr4
  rw [ze_161 hKl]
  refine v_saysP2 (by show K.length + 1 + 11 ≤ 60; omega) h hw (x := 0) (by decide) (Or.inr rfl) rfl rfl (fun σ1 hF1 hV1 => ?_)
  rw [if_neg (by decide)] at hV1
  obtain ⟨q, hr⟩ := read_2 w
  have hpw := pw2 w q
  have hN : (st2 w q).2.2.1 = 2 := by rw [st2_e]
  rw [zr_161_7 hKl]
  refine v_pattern (by show K.length + 1 + 14 ≤ 60; omega) hV1 hr hpw (fun σ2 hF2 hV2 => ?_)
  have hpg := hV2.pg
  have hMT := MT_F2 hpg hlT (w := w)
  rw [hN, zr_161_14 hKl, if_neg (fun w => w rfl)]
  have hlM : lM (rP (Ts, ps, sc, fx, (0, fun _ => 0), H) (some (st2 w q, pdO (st2 w q)))) 0 = lst (MT (Ts 0) (st2 w q)) (((Ts 0).1 + 1) ^ 2) := lM_e hN
  have hnP : nPs (rP (Ts, ps, sc, fx, (0, fun _ => 0), H) (some (st2 w q, pdO (st2 w q)))).2.1 = 2 := hN
  generalize hRR : rP (Ts, ps, sc, fx, (0, fun _ => 0), H) (some (st2 w q, pdO (st2 w q))) = RR at hV2 hlM hnP
  have hR1 : RR.1 = Ts := by rw [← hRR]; rfl
  have hR2 : RR.2.1 = some (st2 w q, pdO (st2 w q)) := by rw [← hRR]; rfl
  have hRH : RR.2.2.2.2.2 = H := by rw [← hRR]; rfl
  refine v_matches (p := 0) (by show K.length + 1 + 22 ≤ 60; omega) hV2 (by decide) rfl (fun σ3 hF3 hV3 => ?_)
  have hF03 : lFr 21 σ σ3 := ((hF1.trans hF2).trans hF3).le (by omega)
  have done : ∀ (r : Nat × (Nat → EDT)) σ4 σ5, lFr 24 σ σ4 → lFr 110 σ4 σ5 → LO [] (rS RR r) (u + 1) σ5 → zRet true K (some (.inl 1)) σ5 := by
    intro r σ4 σ5 hF4 hF5 hV5
    have hlp := LT.of hV5
    have e1 : (rS RR r).1 = Ts := hR1
    have e2 : (rS RR r).2.2.2.2.2 = H := hRH
    rw [e1, e2] at hlp
    exact k σ5 ((hF4.trans hF5).le (by omega)) hlp
  have hHR : ∀ r, (rS RR r).2.2.2.2.2 0 = [] := fun r => by show RR.2.2.2.2.2 0 = []; rw [hRH]; exact hH
  rw [zr_161_30 hKl]
  cases hm : lM RR 0 with
  | nil =>
    rw [if_pos (show ((([] : List Nat).length : Nat) : Int) ≤ 0 by decide), if_pos rfl, if_pos rfl, hr4 ()]
    refine ed_pre hK' hV3 hi (fun r σ4 o4 s2 s3 hF4 hV4 => ?_)
    have hA4 := tmA_fr (tmA_fr hA hF03) hF4
    rw [zj_161_215 hKl, hA4.2.1, if_neg (by omega), if_pos rfl, zj_161_255, zj_161_263, if_pos (by decide)]
    have call : ∀ (can : Int) (o3 o4 o13 o15 o16 : Option zV), zEv true (zent 140 [.inr (.inr 1), .inl 4, .inr (.inl 0), .inl 0] :: (161, 430, [some (.inr (.inr 1)), some (.inr (.inr 122)), some (.inr (.inr 123)), o3, o4, some (.inl 1), some (.inl 0), some (.inl (-1)), some (.inl (-1)), some (.inl (i : Int)), some (.inr (.inl (allH RR.1 (fun p => (lM RR p).length)))), none, some (.inl 0), o13, some (.inl can), o15, o16], []) :: K) σ4 := by
      intro can o3 o4 o13 o15 o16
      refine v_edit0 (by show K.length + 1 + 26 ≤ 60; omega) hV4 (by omega) hm (fun σ5 hF5 hV5 => ?_)
      rw [zr_161_430 hKl, if_pos rfl]
      exact ed_442 hK' hV5 (hHR r) hu rfl rfl (fun σ6 hF6 hV6 => done r σ4 σ6 ((hF03.trans hF4).le (by omega)) ((hF5.trans hF6).le (by omega)) hV6)
    have hi' : i = 0 ∨ i = 1 ∨ i = 2 ∨ i = 3 := by omega
    rcases hi' with rfl | rfl | rfl | rfl
    · rw [zj_161_357 hKl, if_pos (by decide)]
      exact call _ _ _ _ _ _
    · rw [zj_161_357 hKl, if_neg (by decide), if_neg (by decide), if_pos rfl]
      exact call _ _ _ _ _ _
    · rw [zj_161_357 hKl, if_neg (by decide), if_pos (by decide), zj_161_373 hKl, if_neg (by decide), hA4.2.1, if_pos (by omega)]
      exact call _ _ _ _ _ _
    · rw [zj_161_357 hKl, if_neg (by decide), if_pos (by decide), zj_161_373 hKl, if_pos (by decide), zj_161_387 hKl, if_neg (by decide), hA4.2.1, if_neg (by omega), if_pos rfl, zj_161_420 hKl]
      exact call _ _ _ _ _ _
  | cons c l' =>
    have hlen : ¬ (((c :: l').length : Nat) : Int) ≤ 0 := by rw [List.length_cons]; omega
    rw [if_neg hlen, if_neg (by decide)]
    have hmem : c ∈ lst (MT (Ts 0) (st2 w q)) (((Ts 0).1 + 1) ^ 2) := by rw [← hlM, hm]; exact List.mem_cons_self
    obtain ⟨kk, hk, hc, hF2k⟩ := (hMT c).mp ((lst_mem _).mp hmem).2
    have hwd := (wdc_enc2 hk).2
    rw [← hc] at hwd
    have ha : kk / (Ts 0).1 < (Ts 0).1 := div_lt hk
    have hb : kk % (Ts 0).1 < (Ts 0).1 := Nat.mod_lt _ hn1
    generalize kk / (Ts 0).1 = a at ha hwd
    generalize kk % (Ts 0).1 = b at hb hwd
    have hmA : ∀ j, j < 2 → mAt RR 0 j = vec2 a b j := fun j hj => by
      unfold mAt
      rw [hnP, hm, if_pos ⟨by rw [List.length_cons]; omega, hj⟩, hR1]
      show wdc ((Ts 0).1 + 1) 2 c j = _
      rw [hwd]
    refine v_matD (i := 0) (j := 0) (by show K.length + 1 + 22 ≤ 60; omega) hV3 rfl rfl (by rw [hm, List.length_cons]; omega) (by rw [hnP]; decide) (fun σ4 hF4 hV4 => ?_)
    rw [hmA 0 (by decide), zr_161_52 hKl, if_neg (by decide)]
    refine v_matD (i := 0) (j := 1) (by show K.length + 1 + 22 ≤ 60; omega) hV4 rfl rfl (by rw [hm, List.length_cons]; omega) (by rw [hnP]; decide) (fun σ5 hF5 hV5 => ?_)
    rw [hmA 1 (by decide), zr_161_70 hKl, hr4 ()]
    have v0 : vec2 a b 0 = (a : Int) := rfl
    have v1 : vec2 a b 1 = (b : Int) := rfl
    rw [v0, v1]
    refine ed_pre hK' hV5 hi (fun r σ6 o4 s2 s3 hF6 hV6 => ?_)
    have hF06 : lFr 24 σ σ6 := (((hF03.trans hF4).trans hF5).trans hF6).le (by omega)
    have hA6 := tmA_fr hA hF06
    have hS : eST (rS RR r) w q a b (esD i) := ⟨⟨_, hR2⟩, s2, s3, c, l', hm, by show wdc ((RR.1 0).1 + 1) 2 c = _; rw [hR1]; exact hwd⟩
    obtain ⟨e1, e2, -⟩ := ed_spec (dep := (Ts 0).2.2) hb
    obtain ⟨b1, b2, b3⟩ := bnd_x (w := w) (q := q) (a := a) (b := b)
    have hTR : tmT ((rS RR r).1 0) tt lb := by show tmT (RR.1 0) tt lb; rw [hR1]; exact hT
    have hlR : lbT ((rS RR r).1 0) lb := by show lbT (RR.1 0) lb; rw [hR1]; exact hl
    have hAR : tmA ((rS RR r).1 0).1 tt lb σ6 := by show tmA (RR.1 0).1 tt lb σ6; rw [hR1]; exact hA6
    have hQR : ∀ i, i < ((rS RR r).1 0).1 → lb i ≠ 81 := by show ∀ i, i < (RR.1 0).1 → lb i ≠ 81; rw [hR1]; exact hQ
    have hRe : (rS RR r).1 0 = Ts 0 := by show RR.1 0 = Ts 0; rw [hR1]
    refine ed_lost hK' hT hA6 hb (fun o13 => ?_)
    rw [zj_161_255]
    refine ed_up hK' hT hA6 (by omega) b hb (by omega) _ _ (fun o14 o15 o16 => ?_)
    have hi' : i = 0 ∨ i = 1 ∨ i = 2 ∨ i = 3 := by omega
    have no : ∀ (one two what lost : Int) (o3 o4 o13 o15 o16 : Option zV), enm (esD i) (bndP (st2 w q) (vec2 a b) (esD i).2.1) (bndP (st2 w q) (vec2 a b) (esD i).2.2.1) → pedit (rwT (Ts 0)) 20 (esD i) (bndP (st2 w q) (vec2 a b) (esD i).2.1) (bndP (st2 w q) (vec2 a b) (esD i).2.2.1) = none → zEv true (zent 140 [.inr (.inr 1), .inl 4, .inr (.inl 0), .inl 0] :: (161, 430, [some (.inr (.inr 1)), some (.inr (.inr 122)), some (.inr (.inr 123)), o3, o4, some (.inl 1), some (.inl 1), some (.inl one), some (.inl two), some (.inl what), some (.inr (.inl (allH RR.1 (fun p => (lM RR p).length)))), none, some (.inl lost), o13, some (.inl 0), o15, o16], []) :: K) σ6 := by
      intro one two what lost o3 o4 o13 o15 o16 hn hp
      exact ed_no hK' hV6 (hHR r) hu rfl hS hn (by rw [hRe]; exact hp) (fun σ7 hF7 hV7 => done r σ6 σ7 hF06 (hF7.le (by omega)) hV7)
    rcases hi' with rfl | rfl | rfl | rfl
    · rw [zj_161_357 hKl, if_pos (by decide)]
      exact ed_ren hK' hV6 (hHR r) hTR hlR hAR hQR (by rw [hRe]; exact ha) hu rfl hS (fun σ7 hF7 hV7 => done r σ6 σ7 hF06 hF7 hV7)
    · have hpd := pd_del (v := 0) (y := -1) hT.1 hb
      cases hd : dlu (Ts 0).2.2 (Ts 0).1 b with
      | mk s t =>
        rw [hd] at hpd
        cases t with
        | false =>
          rw [zj_161_357 hKl, if_neg (by decide), if_neg (by decide), if_pos (show (if (false : Bool) = true then 1 else 0 : Int) = 0 by decide)]
          have e9 : ed ((rS RR r).1 0).2.2 ((rS RR r).1 0).1 b = ed (Ts 0).2.2 (Ts 0).1 b := by rw [hRe]
          have := fun o3 o4 o13 o15 o16 => ed_del (o3 := o3) (o4 := o4) (o13 := o13) (o15 := o15) (o16 := o16) hK' hV6 (hHR r) hTR hlR hAR hQR (by rw [hRe]; exact hb) hu rfl hS (by rw [hRe]; exact hd) (fun σ7 hF7 hV7 => done r σ6 σ7 hF06 hF7 hV7)
          rw [e9] at this
          exact this _ _ _ _ _
        | true =>
          rw [zj_161_357 hKl, if_neg (by decide), if_neg (by decide), if_neg (show ¬ (if (true : Bool) = true then 1 else 0 : Int) = 0 by decide), zj_161_373 hKl, if_pos (by decide), zj_161_387 hKl, if_pos (by decide), zj_161_420 hKl]
          exact no _ _ _ _ _ _ _ _ _ ⟨fun _ => by show bndP _ _ 24 ≠ -1; rw [b2]; omega, fun w => absurd w (by decide)⟩ (by show pedit _ 20 (1, 24, -1, 0, -1) (bndP _ _ 24) (bndP _ _ (-1)) = _; rw [b2, b3]; exact hpd.1 rfl)
    · rw [zj_161_357 hKl, if_neg (by decide), if_pos (by decide), zj_161_373 hKl, if_neg (by decide), hA6.2.1, if_pos (by omega)]
      exact ed_wrp hK' hV6 (hHR r) hTR hlR hAR hQR (by rw [hRe]; exact hb) hu rfl hS (fun σ7 hF7 hV7 => done r σ6 σ7 hF06 hF7 hV7)
    · have hpd := pd_add (v := zi2l 81) (x := -1) (T := Ts 0) (by omega) ha
      have hlf := leaf_iff hT.1 ha
      have htt := leaf_tt hT (k := a)
      rw [zj_161_357 hKl, if_neg (by decide), if_pos (by decide), zj_161_373 hKl, if_pos (by decide), zj_161_387 hKl, if_neg (by decide), hA6.2.1, if_neg (by omega), if_neg (by decide), q_hasChild hA6, zr_161_413 hKl, zb_c htt]
      by_cases ce : ed (Ts 0).2.2 (Ts 0).1 a = a + 1
      · rw [zb_f (fun w => w (hlf.mpr ce)), if_pos rfl, zj_161_420 hKl]
        exact no _ _ _ _ _ _ _ _ _ ⟨fun w => absurd rfl w, fun _ => by show bndP _ _ 23 ≠ -1; rw [b1]; omega⟩ (by show pedit _ 20 (4, -1, 23, zi2l 81, 1) (bndP _ _ (-1)) (bndP _ _ 23) = _; rw [b1, b3]; exact hpd.1 ce)
      · rw [zb_t (fun w => ce (hlf.mp w)), if_neg (by decide)]
        exact ed_add hK' hV6 (hHR r) hTR hlR hAR hQR (by rw [hRe]; exact ha) (by rw [hRe]; exact ce) hu rfl hS (fun σ7 hF7 hV7 => done r σ6 σ7 hF06 hF7 hV7)
