/-! the edit of the class -/
noncomputable def bndP (st : PST) (w : Nat → Int) (x : Int) : Int := if x < 0 ∨ 26 ≤ x then -1 else if st.2.2.2.1 13 x.toNat = -1 then -1 else if st.2.2.2.1 8 (st.2.2.2.1 13 x.toNat).toNat = -1 then -1 else w (st.2.2.2.1 8 (st.2.2.2.1 13 x.toNat).toNat).toNat
noncomputable def edL (st : PST) (w : Nat → Int) (es : Nat → EDT) : Nat → Nat → RF → Nat → Option (RF × Nat)
  | 0, _, r, dn => some (r, dn)
  | n + 1, i, r, dn => @ite (Option (RF × Nat)) (enm (es i) (bndP st w (es i).2.1) (bndP st w (es i).2.2.1)) (Classical.propDecidable _) (match pedit r.1 r.2 (es i) (bndP st w (es i).2.1) (bndP st w (es i).2.2.1) with
    | none => none
    | some z => edL st w es n (i + 1) z (dn + 1)) (edL st w es n (i + 1) r dn)
theorem edL_n {st : PST} {w : Nat → Int} {es : Nat → EDT} {n i dn : Nat} {r : RF} (h : ¬ enm (es i) (bndP st w (es i).2.1) (bndP st w (es i).2.2.1)) : edL st w es (n + 1) i r dn = edL st w es n (i + 1) r dn := by
  rw [edL, if_neg h]
theorem edL_0 {st : PST} {w : Nat → Int} {es : Nat → EDT} {n i dn : Nat} {r : RF} (h : enm (es i) (bndP st w (es i).2.1) (bndP st w (es i).2.2.1)) (h2 : pedit r.1 r.2 (es i) (bndP st w (es i).2.1) (bndP st w (es i).2.2.1) = none) : edL st w es (n + 1) i r dn = none := by
  rw [edL, if_pos h, h2]
theorem edL_1 {st : PST} {w : Nat → Int} {es : Nat → EDT} {n i dn : Nat} {r z : RF} (h : enm (es i) (bndP st w (es i).2.1) (bndP st w (es i).2.2.1)) (h2 : pedit r.1 r.2 (es i) (bndP st w (es i).2.1) (bndP st w (es i).2.2.1) = some z) : edL st w es (n + 1) i r dn = edL st w es n (i + 1) z (dn + 1) := by
  rw [edL, if_pos h, h2]
theorem edL_gd {st : PST} {w : Nat → Int} {es : Nat → EDT} : ∀ (n i dn : Nat) (r : RF) (o : RF × Nat), rgd r.1 r.2 → 0 ≤ r.2 → (∀ j, j < i + n → egd (es j)) → edL st w es n i r dn = some o → rgd o.1.1 o.1.2 := by
  intro n
  induction n with
  | zero =>
    intro i dn r o hr _ _ h
    rw [edL] at h
    rw [← Option.some.inj h]; exact hr
  | succ n ih =>
    intro i dn r o hr h0 hE h
    by_cases c : enm (es i) (bndP st w (es i).2.1) (bndP st w (es i).2.2.1)
    · cases hz : pedit r.1 r.2 (es i) (bndP st w (es i).2.1) (bndP st w (es i).2.2.1) with
      | none => rw [edL_0 c hz] at h; cases h
      | some z =>
        rw [edL_1 c hz] at h
        obtain ⟨g1, g2, g3⟩ := pedit_gd hr h0 (hE i (by omega)) hz
        exact ih (i + 1) (dn + 1) z o g1 (by omega) (fun j hj => hE j (by omega)) h
    · rw [edL_n c] at h
      exact ih (i + 1) dn r o hr h0 (fun j hj => hE j (by omega)) h
def rfT (T : TRE) : RF := ((T.1, T.2.1, T.2.2, fun i => (i : Int)), 20)
theorem rfT_g {T : TRE} (hg : tgd T) (h1 : 1 ≤ T.1) : rgd (rfT T).1 (rfT T).2 := by
  have hn := hg.1.1
  refine ⟨hg.1, h1, hg.2, fun i hi => ?_, fun i j _ _ e => Int.ofNat.inj e⟩
  show 0 ≤ (i : Int) ∧ (i : Int) < 20
  have hi' : i < T.1 := hi
  omega
noncomputable def oEdit (S : STA) (z : Int) : OUT := if 0 ≤ z ∧ z < 3 then (match lMt S z.toNat with
  | [] => (0, 0, S)
  | c :: _ => match edL (pOf S) (wdc ((qT S z.toNat).1 + 1) (nPs (qP S)) c) (qS S).2 (qS S).1 0 (rfT (qT S z.toNat)) 0 with
    | none => (2, 0, S)
    | some o => if o.2 = 0 then (0, 0, S) else (0, (o.2 : Int), (S.1, fup (qT S) z.toNat (o.1.1.1, o.1.1.2.1, o.1.1.2.2.1), qP S, qS S, qX S, qO S, fup (qH S) z.toNat (qT S z.toNat :: qH S z.toNat)))) else (1, 0, S)
theorem c_nodeNamed {K : List zF} (hK : K.length + 4 ≤ 60) {S : STA} {p c : Nat} {st : PST} {pd : Nat → Nat} {x : Int} {σ : zW} (hp : p < 3) (hg : SG S) (hP : kPt (qP S) σ) (hps : qP S = some (st, pd)) (hf : fdS 50 ((qT S p).1 + 1) (nPs (qP S)) (mPs (qT S p) (qP S)) σ) (hc : (lMt S p)[0]? = some c) : zEv true (zent 135 [.inr (.inr 1), .inl x] :: K) σ = zRet true K (some (.inl (bndP st (wdc ((qT S p).1 + 1) (nPs (qP S)) c) x))) σ := by
  have hn := (hg.1 p hp).1.1
  obtain ⟨g1, g2, g3, g4, g5⟩ := hg.2.1 st pd hps
  have hcP := (hP.2.2.2.2 st pd hps).1
  have hc8 := g2.1
  have hN : nPs (qP S) = st.2.2.1 := by rw [hps]; rfl
  rw [ze_135 (by omega) hP.1]
  unfold bndP
  by_cases a1 : x < 0
  · rw [if_pos a1, if_pos (Or.inl a1)]
  · rw [if_neg a1]
    by_cases a2 : x < 26
    · rw [if_pos a2, yAnd (by omega), if_neg (show ¬ (x < 0 ∨ 26 ≤ x) by omega), hcP.2.2.2.2.1 x.toNat (by omega)]
      rcases g1.2.2.2.2 x.toNat (by omega) with e | ⟨j, j1, j2, j3⟩
      · rw [e, yAnd (fun h => absurd rfl h), if_neg (show ¬ ¬ (-1 : Int) = -1 from fun h => h rfl), if_neg (show ¬ ¬ (-1 : Int) = -1 from fun h => h rfl), if_pos rfl]
      · have hj : ¬ (j : Int) = -1 := by omega
        have hcj : 0 ≤ (j : Int) ∧ (j : Int) < 8 := by omega
        have e8 : gI σ (gR σ 1 9 + 8) j = st.2.2.2.1 8 j := hcP.2.2.2.1 8 j (by omega) (by omega) (by omega) j1
        rw [j2, yAnd (fun _ => hcj), if_pos hj, Int.toNat_natCast, e8, if_neg hj]
        by_cases c8 : st.2.2.2.1 8 j = -1
        · rw [if_neg (fun h => h c8), if_pos c8]
        · obtain ⟨k, k1, k2, k3⟩ := np_num g1 j1 c8
          have hl : (lMt S p)[0]? = some c := hc
          rw [if_pos c8, if_neg c8, k2, c_nodeIn (i := 0) (j := k) (z := 0) (x := (k : Int)) (by show K.length + 1 + 2 < 60; omega) (Or.inl rfl) (by omega) (Nat.le_add_left 1 _) (nPs_le hg) hf hl (by rw [hN]; exact k1) rfl rfl, zr_135_59, Int.toNat_natCast]
    · rw [if_neg a2, if_pos (Or.inr (by omega))]
theorem c_editLoop {K : List zF} (hK : K.length + 10 ≤ 60) {S : STA} {u p c : Nat} {st : PST} {pd : Nat → Nat} {σ : zW} (hp : p < 3) (hg : SG S) (hC : CS S u σ) (hps : qP S = some (st, pd)) (hf : fdS 50 ((qT S p).1 + 1) (nPs (qP S)) (mPs (qT S p) (qP S)) σ) (hc : (lMt S p)[0]? = some c)
    (k0 : edL st (wdc ((qT S p).1 + 1) (nPs (qP S)) c) (qS S).2 (qS S).1 0 (rfT (qT S p)) 0 = none → ∀ σ' : zW, yFr Xbp σ σ' → zThr true K 1 (zex σ'))
    (k1 : ∀ (o : RF × Nat) (σ' : zW) (o3 o4 o5 : Option zV), edL st (wdc ((qT S p).1 + 1) (nPs (qP S)) c) (qS S).2 (qS S).1 0 (rfT (qT S p)) 0 = some o → yFr Xbp σ σ' → bR o.1.1 σ' → rgd o.1.1 o.1.2 → gI σ' 54 9 = (o.2 : Int) → o.2 ≤ (qS S).1 → zEv true ((120, 36, [some (.inr (.inr 1)), some (.inl (p : Int)), some (.inl ((qS S).1 : Int)), o3, o4, o5], []) :: K) σ') :
    ∀ (d i dn : Nat) (r : RF) (σ2 : zW) (o3 o4 o5 : Option zV), (qS S).1 - i = d → i ≤ (qS S).1 → dn ≤ i → rgd r.1 r.2 → 0 ≤ r.2 → r.2 ≤ 20 + i → yFr Xbp σ σ2 → bR r.1 σ2 → gI σ2 54 8 = r.2 → gI σ2 54 9 = (dn : Int) → edL st (wdc ((qT S p).1 + 1) (nPs (qP S)) c) (qS S).2 ((qS S).1 - i) i r dn = edL st (wdc ((qT S p).1 + 1) (nPs (qP S)) c) (qS S).2 (qS S).1 0 (rfT (qT S p)) 0 → zEv true ((120, 36, [some (.inr (.inr 1)), some (.inl (p : Int)), some (.inl (i : Int)), o3, o4, o5], []) :: K) σ2 := by
  have h8 := hg.2.2.1
  intro d
  induction d with
  | zero =>
    intro i dn r σ2 o3 o4 o5 hd hi hdn hr h0 hfr hF hR h54 h549 he
    have e : i = (qS S).1 := by omega
    rw [e, Nat.sub_self, edL] at he
    rw [e] at hdn ⊢
    exact k1 (r, dn) σ2 o3 o4 o5 he.symm hF hR hr h549 hdn
  | succ d ih =>
    intro i dn r σ2 o3 o4 o5 hd hi hdn hr h0 hfr hF hR h54 h549 he
    have hi' : i < (qS S).1 := by omega
    have hci : 0 ≤ (i : Int) ∧ (i : Int) < 8 := by omega
    have hni : ¬ ((qS S).1 : Int) ≤ (i : Int) := by omega
    have hKl : K.length < 60 := by omega
    have hd1 : (qS S).1 - (i + 1) = d := by omega
    have hX : ∀ k j, Xbp k j → Xcf k j := fun k j x => by
      have x' : (k = 54 ∧ 6 ≤ j ∧ j ≤ 9) ∨ (55 ≤ k ∧ k ≤ 60) := x
      exact Or.inr (Or.inr (Or.inr (Or.inr (by omega))))
    have hC2 := CS_fr hC hF hX
    obtain ⟨s1, s2, s3, s4, s5⟩ := hC2.2.2.2.1
    have hf2 : fdS 50 ((qT S p).1 + 1) (nPs (qP S)) (mPs (qT S p) (qP S)) σ2 := fdS_fr hf hF (fun k j x => by
      have x' : (k = 54 ∧ 6 ≤ j ∧ j ≤ 9) ∨ (55 ≤ k ∧ k ≤ 60) := x
      omega)
    have hE := s5 i hi'
    have hed := hg.2.2.2.1 i hi'
    have hs : (qS S).1 - i = ((qS S).1 - (i + 1)) + 1 := by omega
    rw [hs] at he
    have ei : ∀ _ : Unit, w32 ((i : Int) + 1) = ((i + 1 : Nat) : Int) := fun _ => w_s (by omega)
    rw [zj_120_36 hKl s1, s4, if_neg hni, yAnd hci, Int.toNat_natCast, hE.2.1, c_nodeNamed (by show K.length + 1 + 4 ≤ 60; omega) hp hg hC2.2.2.1 hps hf2 hc, zr_120_60 hKl s1, yAnd hci, Int.toNat_natCast, hE.2.2.1, c_nodeNamed (by show K.length + 1 + 4 ≤ 60; omega) hp hg hC2.2.2.1 hps hf2 hc, zr_120_74 hKl s1]
    generalize hx : bndP st (wdc ((qT S p).1 + 1) (nPs (qP S)) c) ((qS S).2 i).2.1 = x
    generalize hy : bndP st (wdc ((qT S p).1 + 1) (nPs (qP S)) c) ((qS S).2 i).2.2.1 = y
    -- left out
    have skip : ¬ enm ((qS S).2 i) x y → ∀ o5, zEv true ((120, 113, [some (.inr (.inr 1)), some (.inl (p : Int)), some (.inl (i : Int)), some (.inl x), some (.inl y), o5], []) :: K) σ2 := fun hn o5 => by
      rw [zj_120_113 hKl, if_pos rfl, ei ()]
      rw [edL_n (by rw [hx, hy]; exact hn)] at he
      exact ih (i + 1) dn r σ2 _ _ _ hd1 hi' (Nat.le_succ_of_le hdn) hr h0 (by omega) hF hR h54 h549 he
    have go : enm ((qS S).2 i) x y → zEv true (zent 3 [.inr (.inr 54), .inr (.inr (gR σ2 1 11)), .inl (i : Int), .inl x, .inl y] :: (120, 136, [some (.inr (.inr 1)), some (.inl (p : Int)), some (.inl (i : Int)), some (.inl x), some (.inl y), some (.inl 1)], []) :: K) σ2 := fun hn => by
      refine c_perform (fr := r.2) (dn := (dn : Int)) (by show K.length + 1 + 5 ≤ 60; omega) s1 (by omega) hE hed hr (by omega) hR h54 h549 (by omega) (fun hz σ3 hF3 => ?_) (fun z hz σ3 hF3 hR3 h38 h39 => ?_)
      · rw [zr_120_136, if_neg (fun x => x rfl)]
        rw [edL_0 (by rw [hx, hy]; exact hn) (by rw [hx, hy]; exact hz)] at he
        exact k0 he.symm σ3 (hF.trans hF3)
      · obtain ⟨g1, g2, g3⟩ := pedit_gd hr h0 hed hz
        rw [zr_120_136, if_pos (by decide), ei ()]
        rw [edL_1 (by rw [hx, hy]; exact hn) (by rw [hx, hy]; exact hz)] at he
        exact ih (i + 1) (dn + 1) z σ3 _ _ _ hd1 hi' (Nat.succ_le_succ hdn) g1 (by omega) (by omega) (hF.trans hF3) hR3 h38 (by rw [h39]; rfl) he
    have j92 : ((((qS S).2 i).1 ≠ 4 → x ≠ -1)) → ∀ o5, zEv true ((120, 92, [some (.inr (.inr 1)), some (.inl (p : Int)), some (.inl (i : Int)), some (.inl x), some (.inl y), o5], []) :: K) σ2 := fun hx1 o5 => by
      rw [zj_120_92 hKl s1]
      by_cases cy : y = -1
      · rw [if_neg (fun h => h cy), c_needsY s1 (by omega) hE rfl, zr_120_106 hKl]
        by_cases cd : ((qS S).2 i).1 = 4 ∨ ((qS S).2 i).1 = 5
        · rw [if_pos cd, if_pos (by decide)]
          exact skip (fun h => h.2 cd cy) _
        · rw [if_neg cd, if_neg (fun h => h rfl), if_neg (by decide)]
          have e11 : gR σ2 1 11 = gR σ2 1 11 := rfl
          exact go ⟨hx1, fun h => absurd h cd⟩
      · rw [if_pos cy, if_neg (by decide)]
        exact go ⟨hx1, fun _ => cy⟩
    by_cases cx : x = -1
    · rw [if_neg (fun h => h cx), c_needsX s1 (by omega) hE rfl, zr_120_89]
      by_cases cd : ((qS S).2 i).1 = 4
      · rw [if_pos cd, if_neg (fun h => h rfl)]
        exact j92 (fun h => absurd cd h) _
      · rw [if_neg cd, if_pos (by decide)]
        exact skip (fun h => h.1 cd cx) _
    · rw [if_pos cx]
      exact j92 (fun _ => cx) _
theorem l_edit {K : List zF} (hK : K.length + 24 ≤ 60) {S : STA} {u : Nat} {z : Int} {σ : zW} (hg : SG S) (hC : CS S u σ) (hu : u < 512) (k : kOp κP S (u + 1) σ K (oEdit S z)) : zEv true (zent 120 [.inr (.inr 1), .inl z] :: K) σ := by
  rw [ze_120 (by show K.length < 60; omega), c_requirePlace (by show K.length + 1 < 60; omega)]
  unfold oEdit at k
  by_cases hp : 0 ≤ z ∧ z < 3
  · rw [if_pos hp] at k ⊢
    obtain ⟨p, rfl⟩ : ∃ p : Nat, z = p := ⟨z.toNat, by omega⟩
    have hp3 : p < 3 := by omega
    rw [Int.toNat_natCast] at k
    have hK1 : K.length < 60 := by omega
    rw [zr_120_4 hK1]
    refine c_planned (by show K.length + 1 + 18 ≤ 60; omega) hp3 hg hC (fun σ1 hF1 hC1 h1 hf => ?_)
    have h505 : gI σ1 50 5 = ((lMt S p).length : Int) := hf.2.2.2.2.1
    rw [zr_120_9 hK1, h505]
    cases hl : lMt S p with
    | nil =>
      rw [hl] at k
      simp only at k
      rw [if_neg (show ¬ ¬ ((([] : List Nat).length : Nat) : Int) = 0 from fun x => x rfl)]
      exact k_ok k rfl rfl hF1 hC1 (Nat.le_succ u)
    | cons c rest =>
      rw [hl] at k
      simp only at k
      have hc : (lMt S p)[0]? = some c := by rw [hl]; rfl
      have hMc : mPs (qT S p) (qP S) c := ((lst_mem _).mp (List.mem_of_getElem? hc)).2
      obtain ⟨st, pd, hps⟩ : ∃ st pd, qP S = some (st, pd) := by
        cases h : qP S with
        | none => rw [h] at hMc; exact hMc.elim
        | some x => exact ⟨x.1, x.2, rfl⟩
      have hpo : pOf S = st := by unfold pOf; rw [hps]
      rw [hpo] at k
      obtain ⟨g1, g2, g3, g4, g5⟩ := hg.2.1 st pd hps
      have hT1 : 1 ≤ (qT S p).1 := by
        rcases Nat.eq_zero_or_pos (qT S p).1 with x | x
        · rw [hps] at hMc; exact absurd hMc (MT_0 g1 g4 x)
        · exact x
      have hgT := hg.1 p hp3
      obtain ⟨t1, t2, t3⟩ := hC1.2.1.1 p hp3
      rw [if_pos (show ¬ (((c :: rest).length : Nat) : Int) = 0 by rw [List.length_cons]; omega), yAnd hp, Int.toNat_natCast]
      refine c_take t1 hgT t2.1 (fun σ2 hF2 hR2 h8 h9 => ?_)
      rw [zr_120_34]
      have hX : ∀ k j, Xbp k j → Xcf k j := fun k j x => by
        have x' : (k = 54 ∧ 6 ≤ j ∧ j ≤ 9) ∨ (55 ≤ k ∧ k ≤ 60) := x
        exact Or.inr (Or.inr (Or.inr (Or.inr (by omega))))
      have hX2 : ∀ k j, Xbp k j → k < 122 := fun k j x => by
        have x' : (k = 54 ∧ 6 ≤ j ∧ j ≤ 9) ∨ (55 ≤ k ∧ k ≤ 60) := x
        omega
      have hC2 := CS_fr hC1 hF2 hX
      have hf2 : fdS 50 ((qT S p).1 + 1) (nPs (qP S)) (mPs (qT S p) (qP S)) σ2 := fdS_fr hf hF2 (fun k j x => by
        have x' : (k = 54 ∧ 6 ≤ j ∧ j ≤ 9) ∨ (55 ≤ k ∧ k ≤ 60) := x
        omega)
      refine c_editLoop (by show K.length + 10 ≤ 60; omega) hp3 hg hC2 hps hf2 hc (fun hn σ3 hF3 => ?_) (fun o σ3 o3 o4 o5 ho hF3 hR3 hrg h39 hle => ?_) (qS S).1 0 0 (rfT (qT S p)) σ2 _ _ _ (Nat.sub_zero _) (Nat.zero_le _) (Nat.le_refl _) (rfT_g hgT hT1) (by show (0 : Int) ≤ 20; decide) (by show (20 : Int) ≤ 20 + ((0 : Nat) : Int); decide) yFr.rf hR2 h8 h9 rfl
      · rw [hn] at k
        simp only at k
        exact k_ex (e := 2) k rfl (by decide) (hF1.trans ((hF2.mono hX2).trans (hF3.mono hX2))) (CS_fr hC2 hF3 hX) (Nat.le_succ u)
      · rw [ho] at k
        simp only at k
        have hC3 := CS_fr hC2 hF3 hX
        obtain ⟨s1, s2, s3, s4, s5⟩ := hC3.2.2.2.1
        have hF03 := hF1.trans ((hF2.mono hX2).trans (hF3.mono hX2))
        rw [zj_120_36 hK1 s1, s4, if_pos (Int.le_refl _), h39]
        by_cases cd : o.2 = 0
        · rw [if_pos cd] at k
          rw [if_pos (by omega), zj_120_196, h39]
          exact k_ok k rfl (by show (o.2 : Int) = 0; omega) hF03 hC3 (Nat.le_succ u)
        · rw [if_neg cd] at k
          obtain ⟨b1, b2, b3, b4, b5, b6, b7, b8, b9, b10⟩ := id hC3
          obtain ⟨q1, q2, q3⟩ := b2.1 p hp3
          have ht : gR σ3 4 p = 5 ∨ gR σ3 4 p = 17 ∨ gR σ3 4 p = 29 ∨ gR σ3 4 p = 68 := q1
          rw [if_neg (by omega), yAnd hp, Int.toNat_natCast]
          refine c_keep hp3 q1 hu ⟨hgT, hT1⟩ q2.1 b7 (fun σ4 hF4 hH4 => ?_)
          have e44 : gR σ4 4 p = gR σ3 4 p := hF4.r (by
            have : ¬ ((4 = 61 ∧ p = 4) ∨ (62 ≤ 4 ∧ 4 ≤ 65)) := by omega
            exact this)
          rw [zr_120_179 hK1, yAnd hp, Int.toNat_natCast, e44]
          have hF4' : yFr (fun k j => (k = 61 ∧ j = 4) ∨ (62 ≤ k ∧ k ≤ 65)) σ3 σ4 := hF4
          have hR4 : bR o.1.1 σ4 := ⟨(hF4'.i (by omega)).trans hR3.1, fun i hi => ⟨(hF4'.l (by omega)).trans (hR3.2 i hi).1, (hF4'.i (by omega)).trans (hR3.2 i hi).2.1, (hF4'.i (by omega)).trans (hR3.2 i hi).2.2⟩⟩
          refine c_giveTo (by show K.length + 1 + 4 ≤ 60; omega) q1 hrg hR4 (fun σ5 hF5 hT5 => ?_)
          rw [zr_120_192 hK1]
          refine c_forget (fun σ6 hF6 f1 f2 f3 => ?_)
          have h96 : gI σ6 54 9 = (o.2 : Int) := (hF6.i (by omega)).trans ((hF5.i (by omega)).trans ((hF4'.i (by omega)).trans h39))
          rw [zr_120_196, h96]
          have hF36 : yFr (fun k j => ((k = 61 ∧ j = 4) ∨ (62 ≤ k ∧ k ≤ 65)) ∨ ((gR σ3 4 p + 1 ≤ k ∧ k ≤ gR σ3 4 p + 11) ∨ (k = gR σ3 4 p ∧ 11 ≤ j)) ∨ ((k = 1 ∧ j = 15) ∨ (k = 50 ∧ j = 1) ∨ (k = 52 ∧ j = 1))) σ3 σ6 := (hF4'.mono (fun k j x => Or.inl x)).trans ((hF5.mono (fun k j x => Or.inr (Or.inl x))).trans (hF6.mono (fun k j x => Or.inr (Or.inr x))))
          have hT6 := cTr_fr hT5 hF6 (fun k j w x => by omega)
          refine k_ok k rfl rfl (hF03.trans (hF36.mono (fun k j x => by omega))) (u' := u + 1) ⟨cT_fr b1 hF36 (fun k j x => by omega), kTr_put b2 hp3 hF36 hT6 (fun k j x => by omega), kPt_fr b3 hF36 (fun k j x => by omega), kSc_fr b4 hF36 (fun k j x => by omega), kFl_fr b5 hF36 (fun k j x => by omega), cO_fr b6 hF36 (fun k j x => by omega), ?_, Or.inl f1, Or.inl f2, Or.inl f3⟩ (Nat.le_refl _)
          have hH5 := cH_fr hH4 hF5 (fun k j w x => by
            have w' : (k = 61 ∧ j = 4) ∨ (62 ≤ k ∧ k ≤ 65) := w
            omega)
          exact cH_fr hH5 hF6 (fun k j w x => by
            have w' : (k = 61 ∧ j = 4) ∨ (62 ≤ k ∧ k ≤ 65) := w
            omega)
  · rw [if_neg hp] at k ⊢
    rw [zThr_no (m := 120) rfl]
    exact k_ex (e := 1) k rfl (by decide) yFr.rf hC (Nat.le_succ u)
