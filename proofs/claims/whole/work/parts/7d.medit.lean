/-! the edit of the model -/
theorem m_bound {K : List zF} {S : STA} {m : Nat} {st : PST} {pd : Nat → Nat} {w : Nat → Int} {x : Int} {σ : zW} (hg : SG S) (hM : MS S m σ) (hps : qP S = some (st, pd)) (hV : mVm st w st.2.2.1 σ) (hx : 0 ≤ x ∧ x < 26) : zEv true (zent 236 [.inr (.inr 122), .inl (x + 97)] :: K) σ = zRet true K (some (.inl (bndP st w x))) σ := by
  obtain ⟨g1, g2, g3, g4, g5⟩ := hg.2.1 st pd hps
  obtain ⟨hG, hnw⟩ := hM.2.2.1.2 st pd hps
  obtain ⟨y, rfl⟩ : ∃ y : Nat, x = y := ⟨x.toNat, by omega⟩
  have hy : y < 26 := by omega
  have h8 := g2.1
  have h18 : gI σ 122 18 = (st.1 : Int) := hG.1
  rw [ze_236]
  unfold bndP
  rw [if_neg (show ¬ ((y : Int) < 0 ∨ 26 ≤ (y : Int)) by omega), Int.toNat_natCast]
  have step : ∀ (q : Nat) (a : Int), q < st.1 → (st.2.2.2.1 15 q ≠ (y : Int) + 97 ∨ st.2.2.2.1 8 q = -1) → zEv true ((236, 4, [some (.inr (.inr 122)), some (.inl ((y : Int) + 97)), some (.inl a), some (.inl (q : Int))], []) :: K) σ = zEv true ((236, 4, [some (.inr (.inr 122)), some (.inl ((y : Int) + 97)), some (.inl a), some (.inl ((q + 1 : Nat) : Int))], []) :: K) σ := fun q a hq h => by
    have hcq : 0 ≤ (q : Int) ∧ (q : Int) < 8 := by omega
    have hni : ¬ (st.1 : Int) ≤ (q : Int) := by omega
    have eq1 : ∀ _ : Unit, w32 ((q : Int) + 1) = ((q + 1 : Nat) : Int) := fun _ => w_s (by omega)
    have e137 : gI σ 137 q = st.2.2.2.1 15 q := mG_k hG (q := 5) (i := q) (by omega) (by omega) hq
    have e136 : gI σ 136 q = st.2.2.2.1 8 q := mG_k hG (q := 4) (i := q) (by omega) (by omega) hq
    rw [zj_236_4, h18, if_neg hni, yAnd hcq, Int.toNat_natCast, e137, e136]
    by_cases c : st.2.2.2.1 15 q = (y : Int) + 97
    · rw [if_neg (fun z => z c), yAnd hcq]
      rcases h with h | h
      · exact absurd c h
      · rw [if_pos h, zj_236_41, eq1 ()]
    · rw [if_pos c, zj_236_41, eq1 ()]
  have fin : ∀ (q : Nat) (a : Int), q = st.1 → zEv true ((236, 4, [some (.inr (.inr 122)), some (.inl ((y : Int) + 97)), some (.inl a), some (.inl (q : Int))], []) :: K) σ = zRet true K (some (.inl a)) σ := fun q a hq => by
    rw [zj_236_4, h18, hq, if_pos (Int.le_refl _)]
  have run : ∀ (d q : Nat) (a : Int), st.1 - q = d → q ≤ st.1 → (∀ q', q ≤ q' → q' < st.1 → (st.2.2.2.1 15 q' ≠ (y : Int) + 97 ∨ st.2.2.2.1 8 q' = -1)) → zEv true ((236, 4, [some (.inr (.inr 122)), some (.inl ((y : Int) + 97)), some (.inl a), some (.inl (q : Int))], []) :: K) σ = zRet true K (some (.inl a)) σ := by
    intro d
    induction d with
    | zero => intro q a hd hq _; exact fin q a (by omega)
    | succ d ih =>
      intro q a hd hq h
      rw [step q a (by omega) (h q (Nat.le_refl q) (by omega))]
      exact ih (q + 1) a (by omega) (by omega) (fun q' h1 h2 => h q' (by omega) h2)
  have upto : ∀ (i q : Nat), q ≤ i → i ≤ st.1 → (∀ q', q' < i → (st.2.2.2.1 15 q' ≠ (y : Int) + 97 ∨ st.2.2.2.1 8 q' = -1)) → zEv true ((236, 4, [some (.inr (.inr 122)), some (.inl ((y : Int) + 97)), some (.inl (-1)), some (.inl 0)], []) :: K) σ = zEv true ((236, 4, [some (.inr (.inr 122)), some (.inl ((y : Int) + 97)), some (.inl (-1)), some (.inl (q : Int))], []) :: K) σ := by
    intro i q
    induction q with
    | zero => intro _ _ _; rfl
    | succ q ih =>
      intro hq hi h
      rw [ih (by omega) hi h, step q (-1) (by omega) (h q (by omega))]
  rcases hnw.2 y hy with ⟨h13, hno⟩ | ⟨i, i1, i2, i3, i4⟩
  · rw [if_pos h13]
    exact run st.1 0 (-1) (Nat.sub_zero _) (Nat.zero_le _) (fun q' _ h2 => Or.inl (hno q' h2))
  · rw [if_neg (by omega), i2, Int.toNat_natCast]
    by_cases c8 : st.2.2.2.1 8 i = -1
    · rw [if_pos c8]
      refine run st.1 0 (-1) (Nat.sub_zero _) (Nat.zero_le _) (fun q' _ h2 => ?_)
      by_cases e : q' = i
      · rw [e]; exact Or.inr c8
      · exact Or.inl (i4 q' h2 e)
    · obtain ⟨k, k1, k2, k3⟩ := np_num g1 i1 c8
      have hci : 0 ≤ (i : Int) ∧ (i : Int) < 8 := by omega
      have hni : ¬ (st.1 : Int) ≤ (i : Int) := by omega
      have e137 : gI σ 137 i = st.2.2.2.1 15 i := mG_k hG (q := 5) (i := i) (by omega) (by omega) i1
      have e136 : gI σ 136 i = st.2.2.2.1 8 i := mG_k hG (q := 4) (i := i) (by omega) (by omega) i1
      have eq1 : ∀ _ : Unit, w32 ((i : Int) + 1) = ((i + 1 : Nat) : Int) := fun _ => w_s (by omega)
      have e174 : gI σ 174 i = w k := by have := hV k k1; rw [k3] at this; exact this
      rw [if_neg c8, upto i i (Nat.le_refl i) (Nat.le_of_lt i1) (fun q' h => Or.inl (i4 q' (by omega) (by omega)))]
      rw [zj_236_4, h18, if_neg hni, yAnd hci, Int.toNat_natCast, e137, e136, if_neg (fun z => z i3), yAnd hci, if_neg c8, yAnd hci, e174, eq1 (), k2, Int.toNat_natCast]
      exact run (st.1 - (i + 1)) (i + 1) _ rfl i1 (fun q' h1 h2 => Or.inl (i4 q' h2 (by omega)))
abbrev Xmz (k j : Nat) : Prop := (k = 122 ∧ (j = 77 ∨ j = 81 ∨ j = 85 ∨ j = 88)) ∨ (179 ≤ k ∧ k ≤ 184)
theorem Xmz_q {k j : Nat} (x : Xmz k j) : Xmq k j := by
  have x' : (k = 122 ∧ (j = 77 ∨ j = 81 ∨ j = 85 ∨ j = 88)) ∨ (179 ≤ k ∧ k ≤ 184) := x
  show k < 122 ∨ 186 ≤ k ∨ (k = 122 ∧ ((2 ≤ j ∧ j ≤ 5) ∨ j = 13 ∨ j = 35 ∨ j = 49 ∨ j = 50 ∨ j = 58 ∨ j = 77 ∨ j = 81 ∨ j = 85 ∨ j = 88)) ∨ k = 127 ∨ k = 128 ∨ (146 ≤ k ∧ k ≤ 159) ∨ (165 ≤ k ∧ k ≤ 169) ∨ (174 ≤ k ∧ k ≤ 176) ∨ (178 ≤ k ∧ k ≤ 184)
  omega
theorem m_editLoop {K : List zF} (hK : K.length + 10 ≤ 60) {S : STA} {m p : Nat} {st : PST} {pd : Nat → Nat} {w : Nat → Int} {σ : zW} (hp : p < 3) (hg : SG S) (hM : MS S m σ) (hps : qP S = some (st, pd)) (hV : mVm st w st.2.2.1 σ)
    (k0 : edL st w (qS S).2 (qS S).1 0 (rfT (qT S p)) 0 = none → ∀ σ' : zW, yFr Xmz σ σ' → gI σ' 122 88 = 2 → zRet true K (some (.inl 0)) σ')
    (k1 : ∀ (o : RF × Nat) (σ' : zW) (o4 : Option zV), edL st w (qS S).2 (qS S).1 0 (rfT (qT S p)) 0 = some o → yFr Xmz σ σ' → mRw o.1.1 σ' → rgd o.1.1 o.1.2 → gI σ' 122 88 = 0 → o.2 ≤ (qS S).1 → zEv true ((240, 43, [some (.inr (.inr 122)), some (.inl (p : Int)), some (.inl (o.2 : Int)), some (.inl ((qS S).1 : Int)), o4], []) :: K) σ') :
    ∀ (d i dn : Nat) (r : RF) (σ2 : zW) (o4 : Option zV), (qS S).1 - i = d → i ≤ (qS S).1 → dn ≤ i → rgd r.1 r.2 → 0 ≤ r.2 → r.2 ≤ 20 + i → yFr Xmz σ σ2 → mRw r.1 σ2 → gI σ2 122 85 = r.2 → gI σ2 122 88 = 0 → edL st w (qS S).2 ((qS S).1 - i) i r dn = edL st w (qS S).2 (qS S).1 0 (rfT (qT S p)) 0 → zEv true ((240, 43, [some (.inr (.inr 122)), some (.inl (p : Int)), some (.inl (dn : Int)), some (.inl (i : Int)), o4], []) :: K) σ2 := by
  have h8 := hg.2.2.1
  intro d
  induction d with
  | zero =>
    intro i dn r σ2 o4 hd hi hdn hr h0 hfr hF hR h85 h88 he
    have e : i = (qS S).1 := by omega
    rw [e, Nat.sub_self, edL] at he
    rw [e] at hdn ⊢
    exact k1 (r, dn) σ2 o4 he.symm hF hR hr h88 hdn
  | succ d ih =>
    intro i dn r σ2 o4 hd hi hdn hr h0 hfr hF hR h85 h88 he
    have hi' : i < (qS S).1 := by omega
    have hni : ¬ ((qS S).1 : Int) ≤ (i : Int) := by omega
    have hKl : K.length < 60 := by omega
    have hd1 : (qS S).1 - (i + 1) = d := by omega
    have hFx : yFr (fun k j => (k = 122 ∧ (j = 77 ∨ j = 81 ∨ j = 85 ∨ j = 88)) ∨ (179 ≤ k ∧ k ≤ 184)) σ σ2 := hF
    have hM2 := MS_fr hM hF (fun k j x => Xmz_q x)
    have hV2 : mVm st w st.2.2.1 σ2 := fun k hk => (hFx.i (by omega)).trans (hV k hk)
    have h52 : gI σ2 122 52 = ((qS S).1 : Int) := hM2.2.2.2.1.1
    have hE := hM2.2.2.2.1.2 i hi'
    have hed := hg.2.2.2.1 i hi'
    have hs : (qS S).1 - i = ((qS S).1 - (i + 1)) + 1 := by omega
    rw [hs] at he
    have ei : ∀ _ : Unit, w32 ((i : Int) + 1) = ((i + 1 : Nat) : Int) := fun _ => w_s (by omega)
    have ed : ∀ v : Nat, v ≤ 1 → ∀ _ : Unit, w32 ((dn : Int) + (v : Int)) = ((dn + v : Nat) : Int) := fun v hv _ => by rw [zw_id (by omega) (by omega)]; omega
    rw [zj_240_43 hKl, h52, if_neg hni]
    have next : ∀ (v : Nat) (σ3 : zW) (r' : RF) (hv : v ≤ 1), yFr Xmz σ2 σ3 → mRw r'.1 σ3 → gI σ3 122 85 = r'.2 → rgd r'.1 r'.2 → 0 ≤ r'.2 → r'.2 ≤ 20 + ((i + 1 : Nat) : Int) → edL st w (qS S).2 ((qS S).1 - (i + 1)) (i + 1) r' (dn + v) = edL st w (qS S).2 (qS S).1 0 (rfT (qT S p)) 0 → zRet true ((240, 56, [some (.inr (.inr 122)), some (.inl (p : Int)), some (.inl (dn : Int)), some (.inl (i : Int)), o4], []) :: K) (some (.inl (v : Int))) σ3 := fun v σ3 r' hv hF3 hR3 h385 hr3 h03 hfr3 he3 => by
      have hF4 : yFr (fun k j => k = 122 ∧ j = 88) σ3 (sI σ3 122 88 0) := yFr.rf.I ⟨rfl, rfl⟩
      have e88 : gI (sI σ3 122 88 0) 122 88 = 0 := yGI_hit
      have hR4 : mRw r'.1 (sI σ3 122 88 0) := mRw_fr hR3 hF4 (fun k j x => by omega)
      rw [zr_240_56 hKl, if_pos (show ¬ (v : Int) = 2 by omega), m_goes, if_pos rfl, zr_240_73, if_pos (by decide), ed v hv (), ei ()]
      refine ih (i + 1) (dn + v) r' _ _ hd1 hi' (by omega) hr3 h03 hfr3 ((hF.trans hF3).trans (hF4.mono (fun k j x => Or.inl (by omega)))) hR4 ((hF4.i (by omega)).trans h385) e88 he3
    refine m_does (fr := r.2) (x := bndP st w ((qS S).2 i).2.1) (y := bndP st w ((qS S).2 i).2.2.1) (by show K.length + 1 + 5 ≤ 60; omega) (by omega) hE hed hr (by omega) hR h85 (fun h f => m_bound hg hM2 hps hV2 (hed.2.1 h)) (fun h f => m_bound hg hM2 hps hV2 (hed.2.2.2.1 h).1) (fun hn => ?_) (fun hn hz σ3 hF3 => ?_) (fun hn z hz σ3 hF3 hR3 h385 => ?_)
    · rw [edL_n hn] at he
      exact next 0 σ2 r (by omega) yFr.rf hR h85 hr h0 (by omega) he
    · rw [edL_0 hn hz] at he
      have hF3' : yFr (fun k j => (k = 122 ∧ (j = 77 ∨ j = 81 ∨ j = 85)) ∨ (179 ≤ k ∧ k ≤ 184)) σ2 σ3 := hF3
      have hF4 : yFr (fun k j => k = 122 ∧ j = 88) σ3 (sI σ3 122 88 2) := yFr.rf.I ⟨rfl, rfl⟩
      rw [zr_240_56 hKl, if_neg (show ¬ ¬ (2 : Int) = 2 from fun x => x rfl), m_goes, if_neg (by decide), zr_240_73, if_neg (fun x => x rfl)]
      exact k0 he.symm _ ((hF.trans (hF3'.mono (fun k j x => by show (k = 122 ∧ (j = 77 ∨ j = 81 ∨ j = 85 ∨ j = 88)) ∨ (179 ≤ k ∧ k ≤ 184); omega))).trans (hF4.mono (fun k j x => by show (k = 122 ∧ (j = 77 ∨ j = 81 ∨ j = 85 ∨ j = 88)) ∨ (179 ≤ k ∧ k ≤ 184); omega))) yGI_hit
    · obtain ⟨g1, g2, g3⟩ := pedit_gd hr h0 hed hz
      rw [edL_1 hn hz] at he
      have hF3' : yFr (fun k j => (k = 122 ∧ (j = 77 ∨ j = 81 ∨ j = 85)) ∨ (179 ≤ k ∧ k ≤ 184)) σ2 σ3 := hF3
      exact next 1 σ3 z (by omega) (hF3'.mono (fun k j x => by show (k = 122 ∧ (j = 77 ∨ j = 81 ∨ j = 85 ∨ j = 88)) ∨ (179 ≤ k ∧ k ≤ 184); omega)) hR3 h385 g1 (by omega) (by omega) he
theorem n_edit {K : List zF} (hK : K.length + 14 ≤ 60) {S : STA} {m : Nat} {z : Int} {σ : zW} (hg : SG S) (hM : MS S m σ) (hm : m < 512) (k : nOp S m σ K (oEdit S z)) : zEv true (zent 240 [.inr (.inr 122), .inl z] :: K) σ := by
  unfold oEdit at k
  rw [ze_240 (by omega), m_isPlace (by show K.length + 1 < 60; omega), zr_240_5 (by omega), m_goes, zr_240_16 (by omega)]
  by_cases hp : 0 ≤ z ∧ z < 3
  · rw [if_pos hp] at k
    obtain ⟨p, rfl⟩ : ∃ p : Nat, z = p := ⟨z.toNat, by omega⟩
    have hp3 : p < 3 := by omega
    rw [Int.toNat_natCast] at k
    obtain ⟨a1, a2, a3, a4⟩ := n_go (x := 0) hM
    rw [plc hp, if_neg (show ¬ (1 : Int) = 0 by decide), if_pos (show (0 : Int) = 0 from rfl), if_neg (show ¬ (1 : Int) = 0 by decide)]
    generalize sI σ 122 88 0 = σ0 at a1 a2 a3 a4 ⊢
    refine m_count (by show K.length + 1 + 10 ≤ 60; omega) hp3 hg a2 (fun σ1 hF1 hM1 hof => ?_)
    have hF01 : yFr (fun k _ => 122 ≤ k ∧ k ≤ 185) σ σ1 := a1.trans (hF1.mono (fun k j x => by omega))
    have h188 : gI σ1 122 88 = 0 := (hF1.i (by omega)).trans a3
    rw [zr_240_24 (by omega)]
    cases hl : lMt S p with
    | nil =>
      rw [hl] at k
      simp only at k
      rw [if_neg (show ¬ ¬ ((([] : List Nat).length : Nat) : Int) = 0 from fun x => x rfl)]
      exact k σ1 m _ hF01 hM1 (Nat.le_succ m) h188 (fun _ => rfl)
    | cons c rest =>
      rw [hl] at k
      simp only at k
      have hc : (lMt S p)[0]? = some c := by rw [hl]; rfl
      have hMc : mPs (qT S p) (qP S) c := ((lst_mem _).mp (List.mem_of_getElem? hc)).2
      obtain ⟨st, pd, hps⟩ : ∃ st pd, qP S = some (st, pd) := by
        cases h : qP S with
        | none => rw [h] at hMc; exact hMc.elim
        | some x => exact ⟨x.1, x.2, rfl⟩
      have hpo : pOf S = st := by unfold pOf; rw [hps]
      rw [hpo] at k
      obtain ⟨g1, g2, g3, g4, g5⟩ := hg.2.1 st pd hps
      have hT1 : 1 ≤ (qT S p).1 := by
        rcases Nat.eq_zero_or_pos (qT S p).1 with x | x
        · rw [hps] at hMc; exact absurd hMc (MT_0 g1 g4 x)
        · exact x
      have hgT := hg.1 p hp3
      obtain ⟨hO1, hf1⟩ := hof st pd hps (by omega)
      rw [if_pos (show ¬ (((c :: rest).length : Nat) : Int) = 0 by rw [List.length_cons]; omega)]
      refine m_give (i := 0) (by show K.length + 1 + 10 ≤ 60; omega) hp3 hg hM1 hps hO1 hf1 hc rfl (fun σ2 hF2 hM2 hV => ?_)
      rw [zr_240_34 (by omega)]
      refine m_unrolls hp3 hgT (hM2.2.1 p hp3) (fun σ3 hF3 h85 hR => ?_)
      have hF3' : yFr (fun k j => (k = 122 ∧ (j = 77 ∨ j = 85)) ∨ (179 ≤ k ∧ k ≤ 181)) σ2 σ3 := hF3
      rw [zr_240_39]
      have hM3 := MS_fr hM2 hF3' (fun k j x => Xmz_q (by show (k = 122 ∧ (j = 77 ∨ j = 81 ∨ j = 85 ∨ j = 88)) ∨ (179 ≤ k ∧ k ≤ 184); omega))
      have hV3 : mVm st (wdc ((qT S p).1 + 1) (nPs (qP S)) c) st.2.2.1 σ3 := fun k hk => (hF3'.i (by omega)).trans (hV k hk)
      have hF03 : yFr (fun k _ => 122 ≤ k ∧ k ≤ 185) σ σ3 := (hF01.trans (hF2.mono (fun k j x => by omega))).trans (hF3'.mono (fun k j x => by omega))
      have h388 : gI σ3 122 88 = 0 := (hF3'.i (by omega)).trans ((hF2.i (by omega)).trans h188)
      refine m_editLoop (w := wdc ((qT S p).1 + 1) (nPs (qP S)) c) (by omega) hp3 hg hM3 hps hV3 (fun hn σ4 hF4 h88 => ?_) (fun o σ4 o4 ho hF4 hR4 hrg h88 hle => ?_) (qS S).1 0 0 (rfT (qT S p)) σ3 _ (Nat.sub_zero _) (Nat.zero_le _) (Nat.le_refl _) (rfT_g hgT hT1) (by show (0 : Int) ≤ 20; decide) (by show (20 : Int) ≤ 20 + ((0 : Nat) : Int); decide) yFr.rf hR h85 h388 rfl
      · have hF4' : yFr (fun k j => (k = 122 ∧ (j = 77 ∨ j = 81 ∨ j = 85 ∨ j = 88)) ∨ (179 ≤ k ∧ k ≤ 184)) σ3 σ4 := hF4
        rw [hn] at k
        simp only at k
        exact k σ4 m _ (hF03.trans (hF4'.mono (fun k j x => by omega))) (MS_fr hM3 hF4 (fun k j x => Xmz_q x)) (Nat.le_succ m) h88 (fun (x : (2 : Nat) = 0) => absurd x (by decide))
      · have hF4' : yFr (fun k j => (k = 122 ∧ (j = 77 ∨ j = 81 ∨ j = 85 ∨ j = 88)) ∨ (179 ≤ k ∧ k ≤ 184)) σ3 σ4 := hF4
        have hM4 := MS_fr hM3 hF4 (fun k j x => Xmz_q x)
        have hF04 := hF03.trans (hF4'.mono (Y := fun k _ => 122 ≤ k ∧ k ≤ 185) (fun k j x => by omega))
        rw [ho] at k
        simp only at k
        rw [zj_240_43 (by omega), hM4.2.2.2.1.1, if_pos (Int.le_refl _)]
        by_cases cd : o.2 = 0
        · rw [if_pos cd] at k
          rw [if_pos (by omega)]
          exact k σ4 m _ hF04 hM4 (Nat.le_succ m) h88 (fun _ => by show (o.2 : Int) = 0; omega)
        · rw [if_neg cd] at k
          rw [if_neg (by omega)]
          obtain ⟨b1, b2, b3, b4, b5, b6, b7, b8⟩ := hM4
          refine m_remembers hp3 hm ⟨hgT, hT1⟩ (b2 p hp3) b7 (fun σ5 hF5 hH5 => ?_)
          have hF5' : yFr (fun k j => (k = 122 ∧ j = 14) ∨ (129 ≤ k ∧ k ≤ 131)) σ4 σ5 := hF5
          rw [zr_240_98 (by omega)]
          have hn20 : o.1.1.1 ≤ 20 := hrg.1.1
          refine m_rolls (by show K.length + 1 + 1 ≤ 60; omega) hp3 hn20 (mRw_fr hR4 hF5' (fun k j x => by omega)) (fun σ6 hF6 hmT => ?_)
          have hF6' : yFr (fun k j => (k = 124 ∧ j = p) ∨ ((k = 125 ∨ k = 126) ∧ 20 * p ≤ j ∧ j < 20 * p + 20)) σ5 σ6 := hF6
          rw [zr_240_103]
          have hF7 : yFr (fun k j => k = 122 ∧ j = 64) σ6 (sI σ6 122 64 (-1)) := yFr.rf.I ⟨rfl, rfl⟩
          have e64 : gI (sI σ6 122 64 (-1)) 122 64 = -1 := yGI_hit
          generalize sI σ6 122 64 (-1) = σ7 at hF7 e64 ⊢
          have hF47 : yFr (fun k j => ((k = 122 ∧ (j = 14 ∨ j = 64)) ∨ (129 ≤ k ∧ k ≤ 131)) ∨ ((k = 124 ∧ j = p) ∨ ((k = 125 ∨ k = 126) ∧ 20 * p ≤ j ∧ j < 20 * p + 20))) σ4 σ7 := ((hF5'.mono (fun k j x => by omega)).trans (hF6'.mono (fun k j x => by omega))).trans (hF7.mono (fun k j x => by omega))
          have hF57 : yFr (fun k j => (k = 122 ∧ j = 64) ∨ (k = 124 ∧ j = p) ∨ ((k = 125 ∨ k = 126) ∧ 20 * p ≤ j ∧ j < 20 * p + 20)) σ5 σ7 := (hF6'.mono (fun k j x => by omega)).trans (hF7.mono (fun k j x => by omega))
          refine k σ7 (m + 1) _ (hF04.trans (hF47.mono (fun k j x => by omega))) ⟨mT_fr b1 hF47 (fun k j x => by omega), fun q hq => ?_, kMp_fr b3 hF47 (fun k j x => by omega), kMs_fr b4 hF47 (fun k j x => by omega), ⟨(hF47.i (by omega)).trans b5.1, (hF47.i (by omega)).trans b5.2⟩, mO_fr b6 hF47 (fun k j x => by omega), mHi_fr hH5 hF57 (fun k j w x => by
            have w' : (k = 122 ∧ j = 14) ∨ (129 ≤ k ∧ k ≤ 131) := w
            omega), ⟨Or.inl e64, Or.inr (Or.inl e64)⟩⟩ (Nat.le_refl _) ((hF47.i (by omega)).trans h88) (fun _ => rfl)
          show mTr q (fup (qT S) p (o.1.1.1, o.1.1.2.1, o.1.1.2.2.1) q) σ7
          by_cases e : q = p
          · rw [e, fup_eq]
            exact mTr_fr hmT hF7 (fun k j x => by omega)
          · rw [fup_ne e]
            have hn := (hg.1 q hq).1.1
            obtain ⟨d1, d2⟩ := b2 q hq
            exact ⟨(hF47.i (by omega)).trans d1, fun i hi => ⟨(hF47.l (by omega)).trans (d2 i hi).1, (hF47.i (by omega)).trans (d2 i hi).2⟩⟩
  · rw [if_neg hp] at k
    obtain ⟨a, b, c, d⟩ := n_go (x := 1) hM
    rw [plcn hp, if_pos (show (0 : Int) = 0 from rfl), if_neg (show ¬ (1 : Int) = 0 by decide), if_pos rfl]
    exact k _ m _ a b (Nat.le_succ m) c (fun (x : (1 : Nat) = 0) => absurd x (by decide))
