/-! the calls of the model about matches -/
theorem lMt_no {S : STA} {p : Nat} (hg : SG S) (h : qP S = none ∨ (qT S p).1 = 0) : lMt S p = [] := by
  unfold lMt
  rw [lst_skip (m := 0) _ (Nat.zero_le _) (fun c _ _ => mPs_no hg h c)]
  rfl
theorem kMp_34 {S : STA} {σ : zW} (h : kMp (qP S) σ) : gI σ 122 34 = (nPs (qP S) : Int) := by
  cases hps : qP S with
  | none => exact (h.1 hps).2
  | some x =>
    obtain ⟨st, pd⟩ := x
    exact (h.2 st pd hps).1.2.2.1
theorem MS_cnt {S : STA} {m p : Nat} {st : PST} {pd : Nat → Nat} {σ σ' : zW} (hM : MS S m σ) (hps : qP S = some (st, pd)) (hF : yFr Xmf σ σ') (hO : mOn p (qT S p) st σ') (hf : mFd (qT S p) st σ') : MS S m σ' := by
  have hF' : yFr (fun k j => (k = 122 ∧ (j = 64 ∨ j = 65 ∨ j = 73 ∨ j = 75)) ∨ (170 ≤ k ∧ k ≤ 177)) σ σ' := hF.mono (fun k j x => by
    have x' : ((k = 122 ∧ (j = 64 ∨ j = 65 ∨ j = 75)) ∨ (170 ≤ k ∧ k ≤ 173)) ∨ ((174 ≤ k ∧ k ≤ 177) ∨ (k = 122 ∧ j = 73)) := x
    omega)
  obtain ⟨b1, b2, b3, b4, b5, b6, b7, b8⟩ := hM
  obtain ⟨o1, o2, o3, o4, o5⟩ := hO
  exact ⟨mT_fr b1 hF' (fun k j x => by omega), fun p hp => mTr_fr (b2 p hp) hF' (fun k j x => by omega), kMp_fr b3 hF' (fun k j x => by omega), kMs_fr b4 hF' (fun k j x => by omega), ⟨(hF'.i (by omega)).trans b5.1, (hF'.i (by omega)).trans b5.2⟩, mO_fr b6 hF' (fun k j x => by omega), mHi_fr b7 hF' (fun k j w x => by
    have w' : (k = 122 ∧ j = 14) ∨ (129 ≤ k ∧ k ≤ 131) := w
    omega), ⟨Or.inr ⟨p, o1, o4, o3⟩, Or.inr (Or.inr ⟨p, st, by rw [hps]; rfl, o1, o4, hf⟩)⟩⟩
theorem m_count {K : List zF} (hK : K.length + 10 ≤ 60) {S : STA} {m p : Nat} {σ : zW} (hp : p < 3) (hg : SG S) (hM : MS S m σ)
    (k : ∀ σ' : zW, yFr (fun k j => (k = 122 ∧ (j = 64 ∨ j = 65 ∨ j = 73 ∨ j = 75)) ∨ (170 ≤ k ∧ k ≤ 177)) σ σ' → MS S m σ' → (∀ st pd, qP S = some (st, pd) → (qT S p).1 ≠ 0 → mOn p (qT S p) st σ' ∧ mFd (qT S p) st σ') → zRet true K (some (.inl ((lMt S p).length : Int))) σ') : zEv true (zent 207 [.inr (.inr 122), .inl (p : Int)] :: K) σ := by
  cases hps : qP S with
  | none =>
    rw [ze_207 (by omega), if_pos (hM.2.2.1.1 hps).1]
    have h := k σ yFr.rf hM (fun st pd x => by rw [hps] at x; cases x)
    rw [lMt_no hg (Or.inl hps)] at h
    exact h
  | some x =>
    obtain ⟨st, pd⟩ := x
    obtain ⟨g1, g2, g3, g4, g5⟩ := hg.2.1 st pd hps
    have hCa : mCa (qT S) (some st) σ := by
      have := hM.2.2.2.2.2.2.2
      rw [hps] at this
      exact this
    refine m_matchesIn hK hp (fun q hq => ⟨hg.1 q hq, hM.2.1 q hq⟩) (hM.2.2.1.2 st pd hps).1 hCa g1 g2 g3 g4 g5 rfl (fun h0 => ?_) (fun h0 σ' hF hO hf => ?_)
    · have h := k σ yFr.rf hM (fun st pd _ x => absurd h0 x)
      rw [lMt_no hg (Or.inr h0)] at h
      exact h
    · have hF' : yFr (fun k j => (k = 122 ∧ (j = 64 ∨ j = 65 ∨ j = 73 ∨ j = 75)) ∨ (170 ≤ k ∧ k ≤ 177)) σ σ' := hF.mono (fun k j x => by
        have x' : ((k = 122 ∧ (j = 64 ∨ j = 65 ∨ j = 75)) ∨ (170 ≤ k ∧ k ≤ 173)) ∨ ((174 ≤ k ∧ k ≤ 177) ∨ (k = 122 ∧ j = 73)) := x
        omega)
      have h := k σ' hF' (MS_cnt hM hps hF hO hf) (fun st' pd' x _ => by
        rw [hps] at x
        have e1 := congrArg Prod.fst (Option.some.inj x)
        simp only at e1
        rw [← e1]; exact ⟨hO, hf⟩)
      have e : lMt S p = mts (qT S p) st := by unfold lMt; rw [hps]; rfl
      rw [e] at h
      exact h
theorem n_matches {K : List zF} (hK : K.length + 12 ≤ 60) {S : STA} {m : Nat} {z : Int} {σ : zW} (hg : SG S) (hM : MS S m σ) (k : nOp S m σ K (oMatches S z)) : zEv true (zent 208 [.inr (.inr 122), .inl z] :: K) σ := by
  unfold oMatches at k
  rw [ze_208 (by omega), m_isPlace (by show K.length + 1 < 60; omega), zr_208_5 (by omega), m_goes, zr_208_16 (by omega)]
  by_cases hp : 0 ≤ z ∧ z < 3
  · rw [if_pos hp] at k
    obtain ⟨p, rfl⟩ : ∃ p : Nat, z = p := ⟨z.toNat, by omega⟩
    have hp3 : p < 3 := by omega
    rw [Int.toNat_natCast] at k
    obtain ⟨a1, a2, a3, a4⟩ := n_go (x := 0) hM
    rw [plc hp, if_neg (show ¬ (1 : Int) = 0 by decide), if_pos (show (0 : Int) = 0 from rfl), if_neg (show ¬ (1 : Int) = 0 by decide)]
    refine m_count (by show K.length + 1 + 10 ≤ 60; omega) hp3 hg a2 (fun σ' hF hM' _ => ?_)
    rw [zr_208_24]
    exact k σ' m _ (a1.trans (hF.mono (fun k j x => by omega))) hM' (Nat.le_succ m) ((hF.i (by omega)).trans a3) (fun _ => rfl)
  · rw [if_neg hp] at k
    obtain ⟨a, b, c, d⟩ := n_go (x := 1) hM
    rw [plcn hp, if_pos (show (0 : Int) = 0 from rfl), if_neg (show ¬ (1 : Int) = 0 by decide), if_pos rfl]
    exact k _ m _ a b (Nat.le_succ m) c (fun (x : (1 : Nat) = 0) => absurd x (by decide))
theorem n_byTrying {K : List zF} (hK : K.length + 12 ≤ 60) {S : STA} {m : Nat} {z : Int} {σ : zW} (hg : SG S) (hM : MS S m σ) (k : nOp S m σ K (oMatches S z)) : zEv true (zent 209 [.inr (.inr 122), .inl z] :: K) σ := by
  unfold oMatches at k
  rw [ze_209 (by omega), m_isPlace (by show K.length + 1 < 60; omega), zr_209_5 (by omega), m_goes, zr_209_16 (by omega)]
  by_cases hp : 0 ≤ z ∧ z < 3
  · rw [if_pos hp] at k
    obtain ⟨p, rfl⟩ : ∃ p : Nat, z = p := ⟨z.toNat, by omega⟩
    have hp3 : p < 3 := by omega
    rw [Int.toNat_natCast] at k
    obtain ⟨a1, a2, a3, a4⟩ := n_go (x := 0) hM
    rw [plc hp, if_neg (show ¬ (1 : Int) = 0 by decide), if_pos (show (0 : Int) = 0 from rfl), if_neg (show ¬ (1 : Int) = 0 by decide)]
    refine m_count (by show K.length + 1 + 10 ≤ 60; omega) hp3 hg a2 (fun σ' hF hM' _ => ?_)
    rw [zr_209_24]
    exact k σ' m _ (a1.trans (hF.mono (fun k j x => by omega))) hM' (Nat.le_succ m) ((hF.i (by omega)).trans a3) (fun _ => rfl)
  · rw [if_neg hp] at k
    obtain ⟨a, b, c, d⟩ := n_go (x := 1) hM
    rw [plcn hp, if_pos (show (0 : Int) = 0 from rfl), if_neg (show ¬ (1 : Int) = 0 by decide), if_pos rfl]
    exact k _ m _ a b (Nat.le_succ m) c (fun (x : (1 : Nat) = 0) => absurd x (by decide))
/-- a match given -/
theorem m_give {K : List zF} (hK : K.length + 10 ≤ 60) {S : STA} {m p i c : Nat} {st : PST} {pd : Nat → Nat} {z : Int} {σ : zW} (hp : p < 3) (hg : SG S) (hM : MS S m σ) (hps : qP S = some (st, pd)) (hO : mOn p (qT S p) st σ) (hf : mFd (qT S p) st σ) (hi : (lMt S p)[i]? = some c) (hz : z = (i : Int))
    (k : ∀ σ' : zW, yFr (fun k j => (k = 122 ∧ (j = 73 ∨ j = 75)) ∨ (174 ≤ k ∧ k ≤ 177)) σ σ' → MS S m σ' → mVm st (wdc ((qT S p).1 + 1) (nPs (qP S)) c) st.2.2.1 σ' → zRet true K none σ') : zEv true (zent 210 [.inr (.inr 122), .inl z] :: K) σ := by
  obtain ⟨g1, g2, g3, g4, g5⟩ := hg.2.1 st pd hps
  have hN : nPs (qP S) = st.2.2.1 := by rw [hps]; rfl
  have e : lMt S p = mts (qT S p) st := by unfold lMt; rw [hps]; rfl
  rw [e] at hi
  refine m_gives hK (hg.1 p hp) hO g1 g2 g3 g4 g5 hf hi hz (fun σ' hF hV h75 => ?_)
  have hF' : yFr (fun k j => (k = 122 ∧ (j = 73 ∨ j = 75)) ∨ (174 ≤ k ∧ k ≤ 177)) σ σ' := hF.mono (fun k j x => by
    have x' : ((174 ≤ k ∧ k ≤ 177) ∨ (k = 122 ∧ j = 73)) ∨ (k = 122 ∧ j = 75) := x
    omega)
  have h64 : gI σ' 122 64 = (p : Int) := (hF'.i (by omega)).trans hO.2.2.2.1
  obtain ⟨b1, b2, b3, b4, b5, b6, b7, b8⟩ := hM
  refine k σ' hF' ⟨mT_fr b1 hF' (fun k j x => by omega), fun p hp => mTr_fr (b2 p hp) hF' (fun k j x => by omega), kMp_fr b3 hF' (fun k j x => by omega), kMs_fr b4 hF' (fun k j x => by omega), ⟨(hF'.i (by omega)).trans b5.1, (hF'.i (by omega)).trans b5.2⟩, mO_fr b6 hF' (fun k j x => by omega), mHi_fr b7 hF' (fun k j w x => by
    have w' : (k = 122 ∧ j = 14) ∨ (129 ≤ k ∧ k ≤ 131) := w
    omega), ⟨Or.inr ⟨p, hp, h64, mLd_fr hO.2.2.1 hF' (fun k j x => by omega)⟩, ?_⟩⟩ (by rw [hN]; exact hV)
  rcases h75 with h | ⟨-, h⟩
  · exact Or.inl h
  · exact Or.inr (Or.inr ⟨p, st, by rw [hps]; rfl, hp, h64, h⟩)
theorem n_given {K : List zF} (hK : K.length + 12 ≤ 60) {S : STA} {m : Nat} {z i j : Int} {σ : zW} (hg : SG S) (hM : MS S m σ) (k : nOp S m σ K (oMatchAt S z i j)) : zEv true (zent 211 [.inr (.inr 122), .inl z, .inl i, .inl j] :: K) σ := by
  unfold oMatchAt at k
  rw [ze_211 (by omega), m_isPlace (by show K.length + 1 < 60; omega), zr_211_4 (by omega)]
  have bad : ∀ (σ1 : zW) (o4 o5 : Option zV), ¬ isM S z i j → yFr (fun k j => (k = 122 ∧ (j = 64 ∨ j = 65 ∨ j = 73 ∨ j = 75)) ∨ (170 ≤ k ∧ k ≤ 177)) σ σ1 → MS S m σ1 → zRet true ((211, 68, [some (.inr (.inr 122)), some (.inl z), some (.inl i), some (.inl j), o4, o5], []) :: K) (some (.inl 0)) (sI σ1 122 88 1) := fun σ1 o4 o5 h hF hM1 => by
    rw [if_neg h] at k
    obtain ⟨a1, a2, a3, a4⟩ := n_go (x := 1) hM1
    rw [zr_211_68 (by omega), if_neg (fun h => h rfl)]
    exact k _ m _ ((hF.mono (fun k j x => by omega)).trans a1) a2 (Nat.le_succ m) a3 (fun (x : (1 : Nat) = 0) => absurd x (by decide))
  have j29 : ¬ isM S z i j → zEv true ((211, 29, [some (.inr (.inr 122)), some (.inl z), some (.inl i), some (.inl j), none, none], []) :: K) σ := fun h => by
    rw [zj_211_29 (by omega), if_pos rfl, if_pos rfl, m_goes, if_neg (by decide)]
    exact bad σ _ _ h yFr.rf hM
  have hN4 := nPs_le hg
  have h34 := kMp_34 (S := S) hM.2.2.1
  have hw : w32 ((nPs (qP S) : Int) - 1) = (nPs (qP S) : Int) - 1 := zw_id (by omega) (by omega)
  by_cases hp : 0 ≤ z ∧ z < 3
  · rw [plc hp, if_neg (show ¬ (1 : Int) = 0 by decide), h34, hw, m_isIn, zr_211_18 (by omega)]
    clear hw
    by_cases hj : 0 ≤ j ∧ j ≤ (nPs (qP S) : Int) - 1
    · rw [if_pos hj, if_neg (show ¬ (1 : Int) = 0 by decide)]
      by_cases hi : i < 0
      · rw [if_pos hi]
        exact j29 (fun x => by have := x.2.1.1; omega)
      · obtain ⟨p, rfl⟩ : ∃ p : Nat, z = p := ⟨z.toNat, by omega⟩
        have hp3 : p < 3 := by omega
        rw [if_neg hi, if_neg (show ¬ (1 : Int) = 0 by decide)]
        refine m_count (by show K.length + 1 + 10 ≤ 60; omega) hp3 hg hM (fun σ1 hF1 hM1 hof => ?_)
        rw [zr_211_42 (by omega), if_neg (show ¬ (1 : Int) = 0 by decide)]
        by_cases hi2 : ((lMt S p).length : Int) ≤ i
        · rw [if_pos hi2, m_goes, if_neg (by decide)]
          exact bad σ1 _ _ (fun x => by have := x.2.1.2; rw [Int.toNat_natCast] at this; omega) hF1 hM1
        · have hm : isM S (p : Int) i j := ⟨hp, ⟨by omega, by rw [Int.toNat_natCast]; omega⟩, hj.1, by omega⟩
          rw [if_pos hm, Int.toNat_natCast] at k
          rw [if_neg hi2, m_goes, if_pos rfl, zr_211_68 (by omega), if_pos (by decide)]
          have hil : i.toNat < (lMt S p).length := by omega
          have hic := getD_some hil
          have hMc : mPs (qT S p) (qP S) ((lMt S p).getD i.toNat 0) := ((lst_mem _).mp (List.mem_of_getElem? hic)).2
          obtain ⟨st, pd, hps⟩ : ∃ st pd, qP S = some (st, pd) := by
            cases h : qP S with
            | none => rw [h] at hMc; exact hMc.elim
            | some x => exact ⟨x.1, x.2, rfl⟩
          obtain ⟨g1, g2, g3, g4, g5⟩ := hg.2.1 st pd hps
          have hN : nPs (qP S) = st.2.2.1 := by rw [hps]; rfl
          have hT0 : (qT S p).1 ≠ 0 := fun x => by rw [hps] at hMc; exact absurd hMc (MT_0 g1 g4 x)
          obtain ⟨hO1, hf1⟩ := hof st pd hps hT0
          obtain ⟨a1, a2, a3, a4⟩ := n_go (x := 0) hM1
          have hO2 := mOn_fr hO1 a4 (fun k j x => by omega)
          have hf2 : mFd (qT S p) st (sI σ1 122 88 0) := fST_fr hf1 a4 (fun k j x => by omega)
          generalize sI σ1 122 88 0 = σ2 at a1 a2 a3 a4 hO2 hf2 ⊢
          refine m_give (i := i.toNat) (by show K.length + 1 + 10 ≤ 60; omega) hp3 hg a2 hps hO2 hf2 hic (by omega) (fun σ3 hF3 hM3 hV => ?_)
          have hjN : j.toNat < st.2.2.1 := by omega
          obtain ⟨n1, n2, -⟩ := np_ok g1 hjN
          have h8 := g2.1
          have e145 : gI σ3 145 j.toNat = (np st j.toNat : Int) := ((hM3.2.2.1.2 st pd hps).1.2.2.2.2.2 _ hjN).trans n2
          have hcn : 0 ≤ (np st j.toNat : Int) ∧ (np st j.toNat : Int) < 8 := by clear e145 n2; omega
          rw [zr_211_78, yAnd (by omega), e145, yAnd hcn, Int.toNat_natCast, hV _ hjN]
          exact k σ3 m _ (((hF1.mono (fun k j x => by omega)).trans a1).trans (hF3.mono (fun k j x => by omega))) hM3 (Nat.le_succ m) ((hF3.i (by omega)).trans a3) (fun _ => rfl)
    · rw [if_neg hj, if_pos rfl]
      exact j29 (fun x => hj ⟨x.2.2.1, by have := x.2.2.2; omega⟩)
  · rw [plcn hp, if_pos rfl]
    exact j29 (fun x => hp x.1)
theorem n_matchAt {K : List zF} (hK : K.length + 13 ≤ 60) {S : STA} {m : Nat} {z i j : Int} {σ : zW} (hg : SG S) (hM : MS S m σ) (k : nOp S m σ K (oMatchAt S z i j)) : zEv true (zent 212 [.inr (.inr 122), .inl z, .inl i, .inl j] :: K) σ := by
  rw [ze_212 (by omega)]
  refine n_given (by show K.length + 1 + 12 ≤ 60; omega) hg hM (fun σ' m' v a b c d e => ?_)
  rw [zr_212_7]
  exact k σ' m' v a b c d e
theorem n_matchTry {K : List zF} (hK : K.length + 13 ≤ 60) {S : STA} {m : Nat} {z i j : Int} {σ : zW} (hg : SG S) (hM : MS S m σ) (k : nOp S m σ K (oMatchAt S z i j)) : zEv true (zent 213 [.inr (.inr 122), .inl z, .inl i, .inl j] :: K) σ := by
  rw [ze_213 (by omega)]
  refine n_given (by show K.length + 1 + 12 ≤ 60; omega) hg hM (fun σ' m' v a b c d e => ?_)
  rw [zr_213_7]
  exact k σ' m' v a b c d e
theorem n_planAt {K : List zF} (hK : K.length + 13 ≤ 60) {S : STA} {m : Nat} {z i : Int} {σ : zW} (hg : SG S) (hM : MS S m σ) (k : nOp S m σ K (oPlanAt S z i)) : zEv true (zent 220 [.inr (.inr 122), .inl z, .inl i] :: K) σ := by
  unfold oPlanAt at k
  rw [ze_220 (by omega), m_isPlace (by show K.length + 1 < 60; omega), zr_220_4 (by omega)]
  have bad : ∀ (o1 o3 : Option zV), ¬ isL S z i → zRet true ((220, 46, [some (.inr (.inr 122)), some (.inl z), some (.inl i), o3], []) :: K) (some (.inl 0)) (sI σ 122 88 1) := fun o1 o3 h => by
    rw [if_neg h] at k
    obtain ⟨a1, a2, a3, a4⟩ := n_go (x := 1) hM
    rw [zr_220_46 (by omega), if_neg (fun h => h rfl)]
    exact k _ m _ a1 a2 (Nat.le_succ m) a3 (fun (x : (1 : Nat) = 0) => absurd x (by decide))
  have j22 : ¬ isL S z i → zEv true ((220, 22, [some (.inr (.inr 122)), some (.inl z), some (.inl i), none], []) :: K) σ := fun h => by
    rw [zj_220_22 (by omega), yAnd (fun h => absurd rfl h), if_pos rfl, m_goes, if_neg (by decide)]
    exact bad none _ h
  by_cases hp : 0 ≤ z ∧ z < 3
  · rw [plc hp, if_neg (show ¬ (1 : Int) = 0 by decide)]
    by_cases hi : i < 0
    · rw [if_pos hi]
      exact j22 (fun x => by obtain ⟨-, -, st, pd, -, x1, -⟩ := x; omega)
    · rw [if_neg hi]
      cases hps : qP S with
      | none =>
        rw [(hM.2.2.1.1 hps).1, if_pos (Int.le_refl _)]
        exact j22 (fun x => by obtain ⟨-, -, st, pd, x1, -⟩ := x; rw [hps] at x1; cases x1)
      | some x =>
        obtain ⟨st, pd⟩ := x
        obtain ⟨g1, g2, g3, g4, g5⟩ := hg.2.1 st pd hps
        obtain ⟨hG, hnw⟩ := hM.2.2.1.2 st pd hps
        have h18 : gI σ 122 18 = (st.1 : Int) := hG.1
        have hpo : pOf S = st := by unfold pOf; rw [hps]
        rw [hpo] at k
        obtain ⟨p, rfl⟩ : ∃ p : Nat, z = p := ⟨z.toNat, by omega⟩
        have hp3 : p < 3 := by omega
        have hL : isL S (p : Int) i ↔ (qT S p).1 ≠ 0 ∧ i < (pLn (qT S p) st : Int) := by
          unfold isL
          rw [Int.toNat_natCast]
          constructor
          · rintro ⟨-, x0, st', pd', x3, x4, x5⟩
            rw [hps] at x3
            have e1 := congrArg Prod.fst (Option.some.inj x3)
            simp only at e1
            rw [e1]; exact ⟨x0, x5⟩
          · exact fun x => ⟨hp, x.1, st, pd, hps, by omega, x.2⟩
        rw [h18, if_neg (by omega), yAnd (fun _ => hp), if_neg (show ¬ (1 : Int) = 0 by decide), Int.toNat_natCast, (hM.2.1 p hp3).1, m_goes]
        by_cases c0 : ((qT S p).1 : Int) ≤ 0
        · rw [if_pos c0, if_neg (show ¬ (1 : Int) = 0 by decide)]
          exact bad none _ (fun x => (hL.mp x).1 (by omega))
        · rw [if_neg c0, if_pos (show (0 : Int) = 0 from rfl), zr_220_46 (by omega), if_pos (show ¬ (1 : Int) = 0 by decide)]
          obtain ⟨a1, a2, a3, a4⟩ := n_go (x := 0) hM
          refine m_laid (by show K.length + 1 + 2 ≤ 60; omega) hp3 hg a2 (fun σ1 hF1 hM1 hL1 h64 => ?_)
          have hF1' : yFr (fun k j => (k = 122 ∧ (j = 64 ∨ j = 65 ∨ j = 75)) ∨ (170 ≤ k ∧ k ≤ 173)) (sI σ 122 88 0) σ1 := hF1
          rw [zr_220_56 (by omega)]
          obtain ⟨m1, m2, m3⟩ := pLn_k (qT S p) st
          have hO : mOn p (qT S p) st σ1 := ⟨hp3, hM1.2.1 p hp3, hL1, h64, (hM1.2.2.1.2 st pd hps).1⟩
          refine m_plans (by show K.length + 1 + 3 ≤ 60; omega) (hg.1 p hp3) hO g1 g2 g3 g4 g5 m1 m2 m3 (fun σ2 hF2 h178 => ?_)
          have hM2 := MS_fr hM1 hF2 (fun k j x => by
            show k < 122 ∨ 186 ≤ k ∨ (k = 122 ∧ ((2 ≤ j ∧ j ≤ 5) ∨ j = 13 ∨ j = 35 ∨ j = 49 ∨ j = 50 ∨ j = 58 ∨ j = 77 ∨ j = 81 ∨ j = 85 ∨ j = 88)) ∨ k = 127 ∨ k = 128 ∨ (146 ≤ k ∧ k ≤ 159) ∨ (165 ≤ k ∧ k ≤ 169) ∨ (174 ≤ k ∧ k ≤ 176) ∨ (178 ≤ k ∧ k ≤ 184)
            omega)
          have hF02 : yFr (fun k _ => 122 ≤ k ∧ k ≤ 185) σ σ2 := (a1.trans (hF1'.mono (fun k j x => by omega))).trans (hF2.mono (fun k j x => by omega))
          rw [zr_220_62 (by omega), m_goes]
          by_cases hi2 : (pLn (qT S p) st : Int) ≤ i
          · rw [if_neg (fun x => by have := (hL.mp x).2; omega)] at k
            obtain ⟨d1, d2, d3, d4⟩ := n_go (x := 1) hM2
            rw [if_pos hi2, if_neg (show ¬ (1 : Int) = 0 by decide), zr_220_73, yAnd (fun h => absurd rfl h)]
            exact k _ m _ (hF02.trans d1) d2 (Nat.le_succ m) d3 (fun (x : (1 : Nat) = 0) => absurd x (by decide))
          · rw [if_pos (hL.mpr ⟨by omega, by omega⟩), Int.toNat_natCast] at k
            obtain ⟨d1, d2, d3, d4⟩ := n_go (x := 0) hM2
            have hil : i.toNat < pLn (qT S p) st := by omega
            have hplok := plan_ok g1 g2 g3 m1 m2 m3
            obtain ⟨l1, l2⟩ := hplok.2.1 _ hil
            obtain ⟨n1, n2, n3, -⟩ := np_ok g1 l1
            have h8 := g2.1
            have h4 := hplok.1
            have e178 : gI (sI σ2 122 88 0) 178 i.toNat = (np st (pl (qT S p) st i.toNat) : Int) := (d4.i (by omega)).trans (h178 _ hil)
            have e136 : gI (sI σ2 122 88 0) 136 (np st (pl (qT S p) st i.toNat)) = st.2.2.2.1 8 (np st (pl (qT S p) st i.toNat)) := mG_k (d2.2.2.1.2 st pd hps).1 (q := 4) (by omega) (by omega) n1
            have hcn : 0 ≤ (np st (pl (qT S p) st i.toNat) : Int) ∧ (np st (pl (qT S p) st i.toNat) : Int) < 8 := by clear e178 e136 n3; omega
            have hci : 0 ≤ i ∧ i < 4 := by clear e178 e136 n3; omega
            rw [if_neg hi2, if_pos (show (0 : Int) = 0 from rfl)]
            generalize sI σ2 122 88 0 = σ3 at d1 d2 d3 d4 e178 e136 ⊢
            rw [zr_220_73, e178, yAnd (fun _ => ⟨hci, hcn⟩), if_neg (show ¬ (1 : Int) = 0 by decide), Int.toNat_natCast, e136, n3]
            exact k σ3 m _ (hF02.trans d1) d2 (Nat.le_succ m) d3 (fun _ => rfl)
  · rw [plcn hp, if_pos rfl]
    exact j22 (fun x => hp x.1)
