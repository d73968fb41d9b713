/-! the model keeps a tree, and gives it back -/
theorem m_remembers {K : List zF} {p m : Nat} {T : TRE} {H : Nat → List TRE} {σ : zW} (hp : p < 3) (hm : m < 512) (hg : tgd T ∧ 1 ≤ T.1) (hT : mTr p T σ) (h : mHi m H σ)
    (k : ∀ σ' : zW, yFr Xmh σ σ' → mHi (m + 1) (fup H p (T :: H p)) σ' → zRet true K none σ') : zEv true (zent 241 [.inr (.inr 122), .inl (p : Int)] :: K) σ := by
  obtain ⟨pl, Ts, ⟨h1, h2⟩, h3⟩ := h
  have hn := hg.1.1.1
  have hcp : 0 ≤ (p : Int) ∧ (p : Int) < 3 := by omega
  have hcm : 0 ≤ (m : Int) ∧ (m : Int) < 513 := by omega
  rw [ze_241, h1, yAnd hcm, yAnd hcp, yAnd hcm, Int.toNat_natCast, Int.toNat_natCast, hT.1]
  have hF0 : yFr (fun k j => (k = 129 ∨ k = 130) ∧ j = m) σ (sI (sI σ 129 m (p : Int)) 130 m (T.1 : Int)) := (yFr.rf.I (by omega)).I (by omega)
  have q129 : gI (sI (sI σ 129 m (p : Int)) 130 m (T.1 : Int)) 129 m = (p : Int) := by rw [gI_sI, if_neg (by omega), yGI_hit]
  have q130 : gI (sI (sI σ 129 m (p : Int)) 130 m (T.1 : Int)) 130 m = (T.1 : Int) := yGI_hit
  generalize sI (sI σ 129 m (p : Int)) 130 m (T.1 : Int) = σ1 at hF0 q129 q130 ⊢
  have hT1 : mTr p T σ1 := mTr_fr hT hF0 (fun k j w => by omega)
  have e14 : gI σ1 122 14 = (m : Int) := (hF0.i (by omega)).trans h1
  have loop : ∀ (n i : Nat) (σ2 : zW), T.1 - i = n → i ≤ T.1 → yFr (fun k j => k = 131 ∧ 20 * m ≤ j ∧ j < 20 * m + 20) σ1 σ2 → (∀ j, j < i → gL σ2 131 (20 * m + j) = pkm T j) → zEv true ((241, 27, [some (.inr (.inr 122)), some (.inl (p : Int)), some (.inl (i : Int))], []) :: K) σ2 := by
    intro n
    induction n with
    | zero =>
      intro i σ2 hn hi hF hE
      have hT2 : mTr p T σ2 := mTr_fr hT1 hF (fun k j w => by omega)
      have b4 : w32 ((m : Int) + 1) = ((m + 1 : Nat) : Int) := by rw [zw_id (by omega) (by omega)]; omega
      rw [zj_241_27, yAnd hcp, Int.toNat_natCast, hT2.1, if_pos (by clear b4; omega), (hF.i (k := 122) (j := 14) (by clear b4; omega)).trans e14, b4]
      clear b4
      have hF3 : yFr (fun k j => k = 122 ∧ j = 14) σ2 (sI σ2 122 14 ((m + 1 : Nat) : Int)) := yFr.rf.I ⟨rfl, rfl⟩
      have hFF : yFr Xmh σ (sI σ2 122 14 ((m + 1 : Nat) : Int)) := ((hF0.mono (fun k j h => by omega)).trans (hF.mono (fun k j h => by omega))).trans (hF3.mono (fun k j h => by omega))
      have hF9 : yFr (fun k j => (k = 122 ∧ j = 14) ∨ ((k = 129 ∨ k = 130) ∧ j = m) ∨ (k = 131 ∧ 20 * m ≤ j ∧ j < 20 * m + 20)) σ (sI σ2 122 14 ((m + 1 : Nat) : Int)) := ((hF0.mono (fun k j h => by omega)).trans (hF.mono (fun k j h => by omega))).trans (hF3.mono (fun k j h => by omega))
      refine k _ hFF ⟨fup pl m p, fup Ts m T, ⟨yGI_hit, fun j hj => ?_⟩, fun q hq => ?_⟩
      · by_cases e : j = m
        · rw [e, fup_eq, fup_eq]
          refine ⟨⟨hp, hg⟩, ?_, ?_, fun b hb => ?_⟩
          · rw [hF3.i (by omega), hF.i (by omega)]; exact q129
          · rw [hF3.i (by omega), hF.i (by omega)]; exact q130
          · rw [hF3.l (by omega)]; exact hE b (by omega)
        · rw [fup_ne e, fup_ne e]
          exact ⟨(h2 j (by omega)).1, mHe_fr (h2 j (by omega)).2 ((h2 j (by omega)).1.2.1.1.1) hF9 (by omega) (by omega) (fun b hb => by omega)⟩
      · have hc : hl (fup pl m p) (fup Ts m T) q m = hl pl Ts q m := hl_congr m (fun j hj => ⟨fup_ne (by omega), fup_ne (by omega)⟩)
        rw [hl, hc, fup_eq, fup_eq, h3 q hq]
        by_cases e : q = p
        · rw [if_pos e.symm, e, fup_eq]
        · rw [if_neg (fun w => e w.symm), fup_ne e]
    | succ n ih =>
      intro i σ2 hn hi hF hE
      have hi' : i < T.1 := by omega
      have hT2 : mTr p T σ2 := mTr_fr hT1 hF (fun k j w => by omega)
      have hcx : 0 ≤ ((20 * p + i : Nat) : Int) ∧ ((20 * p + i : Nat) : Int) < 60 := by omega
      have hcy : 0 ≤ ((20 * m + i : Nat) : Int) ∧ ((20 * m + i : Nat) : Int) < 10260 := by omega
      have hn1 : ¬ (T.1 : Int) ≤ (i : Int) := by omega
      have hpl := par_lt T.2.2 i
      have b5 : w32 (par T.2.2 i + 1) = par T.2.2 i + 1 := zw_id (by omega) (by omega)
      have b6 : w32 ((i : Int) + 1) = ((i + 1 : Nat) : Int) := by clear b5; rw [zw_id (by omega) (by omega)]; omega
      have eq14 : gI σ2 122 14 = (m : Int) := (hF.i (by clear b5 b6; omega)).trans e14
      rw [zj_241_27, yAnd hcp, Int.toNat_natCast, hT2.1, if_neg hn1, eq14, idx20l (e := p) (i := i) (by clear b5 b6; omega), idx20l (e := m) (i := i) (by clear b5 b6; omega), yAnd hcx, yAnd hcx, yAnd hcy, Int.toNat_natCast, Int.toNat_natCast, (hT2.2 i hi').1, (hT2.2 i hi').2, b5, b6]
      clear b5 b6
      refine ih (i + 1) _ (by omega) (by omega) (hF.L (by omega)) (fun j hj => ?_)
      rw [gL_sL]
      by_cases e : j = i
      · subst e; rw [if_pos ⟨rfl, rfl⟩]; rfl
      · rw [if_neg (by omega)]; exact hE j (by omega)
  exact loop T.1 0 σ1 (Nat.sub_zero _) (Nat.zero_le _) yFr.rf (fun j hj => by omega)
abbrev Xpl (p : Nat) : Nat → Nat → Prop := fun k j => (k = 124 ∧ j = p) ∨ ((k = 125 ∨ k = 126) ∧ 20 * p ≤ j ∧ j < 20 * p + 20)
/-- the model's undo -/
theorem m_undo {K : List zF} (hK : K.length + 2 ≤ 60) {m : Nat} {z : Int} {H : Nat → List TRE} {σ : zW} (hm : m ≤ 512) (h : mHi m H σ)
    (k1 : ¬ (0 ≤ z ∧ z ≤ 2) → zRet true K (some (.inl 0)) (sI σ 122 88 1))
    (k2 : ∀ p : Nat, z = (p : Int) → p < 3 → H p = [] → zRet true K (some (.inl 0)) (sI (sI σ 122 88 0) 122 88 2))
    (k : ∀ (p : Nat) (T : TRE) (l : List TRE) (σ' : zW), z = (p : Int) → p < 3 → H p = T :: l → (tgd T ∧ 1 ≤ T.1) → yFr (fun k j => Xmh k j ∨ Xpl p k j ∨ (k = 122 ∧ (j = 64 ∨ j = 88))) σ σ' → mTr p T σ' → mHi (m - 1) (fup H p l) σ' → gI σ' 122 64 = -1 → gI σ' 122 88 = 0 → zRet true K (some (.inl (T.1 : Int))) σ') :
    zEv true (zent 245 [.inr (.inr 122), .inl z] :: K) σ := by
  rw [ze_245 (by omega), m_isPlace (yL (by omega)), zr_245_5 (by omega), m_goes, zr_245_16 (by omega)]
  by_cases hp : 0 ≤ z ∧ z ≤ 2
  · obtain ⟨p, rfl⟩ : ∃ p : Nat, z = (p : Int) := ⟨z.toNat, by omega⟩
    have hp3 : p < 3 := by omega
    have hcp : 0 ≤ (p : Int) ∧ (p : Int) < 3 := by omega
    have e : (if (if 0 ≤ (p : Int) ∧ (p : Int) ≤ 2 then (1 : Int) else 0) = 0 then (1 : Int) else 0) = 0 := by rw [if_pos hp]; exact if_neg (by decide)
    rw [e, if_pos (show (0 : Int) = 0 from rfl), if_pos (show ¬ (1 : Int) = 0 by decide)]
    clear e
    have hF1 : yFr (fun k j => k = 122 ∧ j = 88) σ (sI σ 122 88 0) := yFr.rf.I ⟨rfl, rfl⟩
    have q88 : gI (sI σ 122 88 0) 122 88 = 0 := yGI_hit
    have h' := mHi_fr h hF1 (fun k j w => by omega)
    have k2 := k2 p rfl hp3
    generalize sI σ 122 88 0 = σ1 at hF1 q88 h' k2 ⊢
    obtain ⟨pl, Ts, h1, h2⟩ := h'
    obtain ⟨y, hy⟩ := laI_ex m pl p
    rw [m_latest (by omega) h1.1 (fun k hk => (h1.2 k hk).2.1) hy, zr_245_26 (by omega), m_goes, zr_245_41]
    rcases hy with ⟨j, j1, j2, j3, j4⟩ | ⟨j1, j2⟩
    · have hcj : 0 ≤ (j : Int) ∧ (j : Int) < 513 := by omega
      have e2 : (if ¬ y = -1 then (0 : Int) else 2) = 0 := if_pos (by omega)
      have hg : hgd (pl j) (Ts j) := (h1.2 j j1).1
      have hn := hg.2.1.1.1
      have he : mHe σ1 j (pl j) (Ts j) := (h1.2 j j1).2
      rw [e2, if_pos (show (0 : Int) = 0 from rfl), if_pos (show ¬ (1 : Int) = 0 by decide), j4, yAnd hcj, yAnd hcp, Int.toNat_natCast, Int.toNat_natCast, sI_id q88, he.2.1]
      clear e2
      have hF2 : yFr (fun k j => k = 124 ∧ j = p) σ1 (sI σ1 124 p ((Ts j).1 : Int)) := yFr.rf.I ⟨rfl, rfl⟩
      have loop : ∀ (n i : Nat) (o4 o5 : Option zV) (σ2 : zW), (Ts j).1 - i = n → i ≤ (Ts j).1 → yFr (Xpl p) σ1 σ2 → gI σ2 124 p = ((Ts j).1 : Int) → (∀ b, b < i → gL σ2 125 (20 * p + b) = (Ts j).2.1 b ∧ gI σ2 126 (20 * p + b) = par (Ts j).2.2 b) → zEv true ((245, 60, [some (.inr (.inr 122)), some (.inl (p : Int)), some (.inl (j : Int)), some (.inl (i : Int)), o4, o5], []) :: K) σ2 := by
        intro n
        induction n with
        | zero =>
          intro i o4 o5 σ2 hn hi hF e124 hE
          have h1' : mH m pl Ts σ2 := ⟨(hF.i (by omega)).trans h1.1, fun b hb => ⟨(h1.2 b hb).1, mHe_fr (h1.2 b hb).2 ((h1.2 b hb).1.2.1.1.1) hF (by omega) (by omega) (fun c hc => by omega)⟩⟩
          rw [zj_245_60 (by omega), yAnd hcp, Int.toNat_natCast, e124, if_pos (by omega)]
          refine m_drops (by omega) j1 h1' rfl (fun σ3 hF3 h3 => ?_)
          obtain ⟨l, l1, l2⟩ := mHi_drop j1 hp3 j2 j3 h2 h3
          have e124' : gI σ3 124 p = ((Ts j).1 : Int) := (hF3.i (by omega)).trans e124
          rw [zr_245_130, yAnd hcp, Int.toNat_natCast, e124']
          have hF4 : yFr (fun k j => k = 122 ∧ j = 64) σ3 (sI σ3 122 64 (-1)) := yFr.rf.I ⟨rfl, rfl⟩
          refine k p (Ts j) l _ rfl hp3 l1 hg.2 ((hF1.mono (fun k j h => by omega)).trans ((hF.mono (fun k j h => Or.inr (Or.inl h))).trans ((hF3.mono (fun k j h => Or.inl h)).trans (hF4.mono (fun k j h => by omega))))) ⟨(hF4.i (by omega)).trans e124', fun b hb => ?_⟩ (mHi_fr l2 hF4 (fun k j w => by omega)) yGI_hit ?_
          · rw [hF4.l (by omega), hF4.i (by omega), hF3.l (by omega), hF3.i (by omega)]; exact hE b (by omega)
          · rw [hF4.i (by omega), hF3.i (by omega), hF.i (by omega)]; exact q88
        | succ n ih =>
          intro i o4 o5 σ2 hn hi hF e124 hE
          have hi' : i < (Ts j).1 := by omega
          have hcx : 0 ≤ ((20 * p + i : Nat) : Int) ∧ ((20 * p + i : Nat) : Int) < 60 := by omega
          have hcy : 0 ≤ ((20 * j + i : Nat) : Int) ∧ ((20 * j + i : Nat) : Int) < 10260 := by omega
          have hn1 : ¬ ((Ts j).1 : Int) ≤ (i : Int) := by omega
          have ec : gL σ2 131 (20 * j + i) = pkm (Ts j) i := (hF.l (by omega)).trans (he.2.2 i hi')
          have b6 : w32 ((i : Int) + 1) = ((i + 1 : Nat) : Int) := by rw [zw_id (by omega) (by omega)]; omega
          rw [zj_245_60 (by omega), yAnd hcp, Int.toNat_natCast, e124, if_neg hn1, idx20l (e := j) (i := i) (by clear b6; omega), idx20l (e := p) (i := i) (by clear b6; omega), yAnd hcy, yAnd hcx, yAnd hcx, Int.toNat_natCast, Int.toNat_natCast, ec, pkm_lab hg.2.1 hi', pkm_par hg.2.1 hi', b6]
          clear b6
          refine ih (i + 1) _ _ _ (by omega) (by omega) ((hF.L (by omega)).I (by omega)) ?_ (fun b hb => ?_)
          · rw [gI_sI, if_neg (by omega), gI_sL]; exact e124
          · by_cases eb : b = i
            · subst eb
              exact ⟨by rw [gL_sI, gL_sL, if_pos ⟨rfl, rfl⟩], yGI_hit⟩
            · exact ⟨by rw [gL_sI, gL_sL, if_neg (by omega)]; exact (hE b (by omega)).1, by rw [gI_sI, if_neg (by omega), gI_sL]; exact (hE b (by omega)).2⟩
      exact loop _ 0 _ _ _ (Nat.sub_zero _) (Nat.zero_le _) (hF2.mono (fun k j h => Or.inl h)) yGI_hit (fun b hb => by omega)
    · have e2 : (if ¬ y = -1 then (0 : Int) else 2) = 2 := if_neg (fun w => w j2)
      have hnil : H p = [] := by rw [← h2 p hp3]; exact hl_none m j1
      rw [e2, if_neg (show ¬ (2 : Int) = 0 by decide), if_neg (show ¬ ¬ (0 : Int) = 0 from fun w => w rfl)]
      exact k2 hnil
  · have e : (if (if 0 ≤ z ∧ z ≤ 2 then (1 : Int) else 0) = 0 then (1 : Int) else 0) = 1 := by rw [if_neg hp]; exact if_pos rfl
    rw [e, if_neg (show ¬ (1 : Int) = 0 by decide), if_neg (show ¬ ¬ (0 : Int) = 0 from fun w => w rfl)]
    exact k1 hp
/-- the row becomes the tree -/
theorem m_rolls {K : List zF} (hK : K.length + 1 ≤ 60) {p : Nat} {r : ROW} {σ : zW} (hp : p < 3) (hn : r.1 ≤ 20) (hR : mRw r σ)
    (k : ∀ σ' : zW, yFr (Xpl p) σ σ' → mTr p (r.1, r.2.1, r.2.2.1) σ' → zRet true K none σ') : zEv true (zent 239 [.inr (.inr 122), .inl (p : Int)] :: K) σ := by
  have hcp : 0 ≤ (p : Int) ∧ (p : Int) < 3 := by omega
  rw [ze_239, yAnd hcp, Int.toNat_natCast, hR.1]
  have loop : ∀ (n i : Nat) (σ2 : zW), r.1 - i = n → i ≤ r.1 → yFr (Xpl p) σ σ2 → gI σ2 124 p = (r.1 : Int) → (∀ b, b < i → gL σ2 125 (20 * p + b) = r.2.1 b ∧ gI σ2 126 (20 * p + b) = par r.2.2.1 b) → zEv true ((239, 12, [some (.inr (.inr 122)), some (.inl (p : Int)), some (.inl (i : Int))], []) :: K) σ2 := by
    intro n
    induction n with
    | zero =>
      intro i σ2 hm hi hF e124 hE
      rw [zj_239_12 (by omega), (hF.i (by omega)).trans hR.1, if_pos (by omega)]
      exact k σ2 hF ⟨e124, fun b hb => hE b (by have : b < r.1 := hb; omega)⟩
    | succ n ih =>
      intro i σ2 hm hi hF e124 hE
      have hi' : i < r.1 := by omega
      have hcc : 0 ≤ (i : Int) ∧ (i : Int) < 24 := by omega
      have hcx : 0 ≤ ((20 * p + i : Nat) : Int) ∧ ((20 * p + i : Nat) : Int) < 60 := by omega
      have hn1 : ¬ (r.1 : Int) ≤ (i : Int) := by omega
      have hR2 : mRw r σ2 := mRw_fr hR hF (fun k j w => by omega)
      rw [zj_239_12 (by omega), hR2.1, if_neg hn1, idx20l (e := p) (i := i) (by omega), yAnd hcc, yAnd hcx, Int.toNat_natCast, Int.toNat_natCast, (hR2.2 i hi').1]
      have hF3 : yFr (fun k j => k = 125 ∧ j = 20 * p + i) σ2 (sL σ2 125 (20 * p + i) (r.2.1 i)) := yFr.rf.L ⟨rfl, rfl⟩
      have hR3 : mRw r (sL σ2 125 (20 * p + i) (r.2.1 i)) := mRw_fr hR2 hF3 (fun k j w => by omega)
      have q125 : gL (sL σ2 125 (20 * p + i) (r.2.1 i)) 125 (20 * p + i) = r.2.1 i := by rw [gL_sL, if_pos ⟨rfl, rfl⟩]
      generalize sL σ2 125 (20 * p + i) (r.2.1 i) = σ3 at hF3 hR3 q125 ⊢
      have b6 : w32 ((i : Int) + 1) = ((i + 1 : Nat) : Int) := by rw [zw_id (by omega) (by omega)]; omega
      rw [m_upOf hR3 hn hi' rfl, zr_239_52, yAnd hcx, Int.toNat_natCast, b6]
      clear b6
      refine ih (i + 1) _ (by omega) (by omega) ((hF.trans (hF3.mono (fun k j h => by omega))).I (by omega)) ?_ (fun b hb => ?_)
      · rw [gI_sI, if_neg (by omega), hF3.i (by omega)]; exact e124
      · by_cases eb : b = i
        · subst eb
          exact ⟨by rw [gL_sI]; exact q125, yGI_hit⟩
        · exact ⟨by rw [gL_sI, hF3.l (by omega)]; exact (hE b (by omega)).1, by rw [gI_sI, if_neg (by omega), hF3.i (by omega)]; exact (hE b (by omega)).2⟩
  exact loop r.1 0 _ (Nat.sub_zero _) (Nat.zero_le _) (yFr.rf.I (by omega)) yGI_hit (fun b hb => by omega)
