/-! the calls of the model -/
theorem n_go {S : STA} {m : Nat} {x : Int} {σ : zW} (hM : MS S m σ) : yFr (fun k _ => 122 ≤ k ∧ k ≤ 185) σ (sI σ 122 88 x) ∧ MS S m (sI σ 122 88 x) ∧ gI (sI σ 122 88 x) 122 88 = x ∧ yFr (fun k j => k = 122 ∧ j = 88) σ (sI σ 122 88 x) := by
  have hF : yFr (fun k j => k = 122 ∧ j = 88) σ (sI σ 122 88 x) := yFr.rf.I ⟨rfl, rfl⟩
  exact ⟨hF.mono (fun k j x => by omega), MS_fr hM hF (fun k j x => Or.inr (Or.inr (Or.inl (by omega)))), yGI_hit, hF⟩
theorem plc {z : Int} (h : 0 ≤ z ∧ z < 3) : (if 0 ≤ z ∧ z ≤ 2 then (1 : Int) else 0) = 1 := if_pos (by omega)
theorem plcn {z : Int} (h : ¬ (0 ≤ z ∧ z < 3)) : (if 0 ≤ z ∧ z ≤ 2 then (1 : Int) else 0) = 0 := if_neg (by omega)
theorem n_feed {K : List zF} (hK : K.length + 6 ≤ 60) {S : STA} {m : Nat} {x : Int64} {z : Int} {σ : zW} (hM : MS S m σ) (k : nOp S m σ K (oFeed S x z)) : zEv true (zent 170 [.inr (.inr 122), .inr (.inl x), .inl z] :: K) σ := by
  unfold oFeed at k
  refine m_feed (by omega) hM.1 (fun h => ?_) (fun h1 h2 h3 => ?_) (fun n σ' hz h1 h8 hL hF h88 hT => ?_)
  · rw [if_pos h] at k
    obtain ⟨a, b, c, d⟩ := n_go (x := 1) hM
    exact k _ m 0 a b (Nat.le_succ m) c (fun (x : (1 : Nat) = 0) => absurd x (by decide))
  · rw [if_neg (by omega), if_pos h3] at k
    obtain ⟨a, b, c, d⟩ := n_go (x := 2) hM
    exact k _ m 0 a b (Nat.le_succ m) c (fun (x : (2 : Nat) = 0) => absurd x (by decide))
  · rw [if_neg (by omega), if_neg (by omega)] at k
    obtain ⟨b1, b2, b3, b4, b5, b6, b7, b8⟩ := hM
    refine k σ' m _ (hF.mono (fun k j x => by omega)) ⟨by rw [hz, Int.toNat_natCast]; exact hT, fun p hp => mTr_fr (b2 p hp) hF (fun k j x => by omega), kMp_fr b3 hF (fun k j x => by omega), kMs_fr b4 hF (fun k j x => by omega), ⟨(hF.i (by omega)).trans b5.1, (hF.i (by omega)).trans b5.2⟩, mO_fr b6 hF (fun k j x => by omega), mHi_fr b7 hF (fun k j w x => by omega), mCa_fr b8 hF (fun k j x => by omega)⟩ (Nat.le_succ m) h88 (fun _ => by rw [hz]; show ((qL S + n : Nat) : Int) = (qL S : Int) + (n : Int); omega)
theorem n_nodes {K : List zF} (hK : K.length + 6 ≤ 60) {S : STA} {m : Nat} {z : Int} {σ : zW} (hM : MS S m σ) (k : nOp S m σ K (oNodes S z)) : zEv true (zent 177 [.inr (.inr 122), .inl z] :: K) σ := by
  unfold oNodes at k
  rw [ze_177 (by omega), m_isPlace (by show K.length + 1 < 60; omega), zr_177_5 (by omega), m_goes, zr_177_16]
  by_cases hp : 0 ≤ z ∧ z < 3
  · rw [if_pos hp] at k
    obtain ⟨a, b, c, d⟩ := n_go (x := 0) hM
    rw [plc hp, if_neg (show ¬ (1 : Int) = 0 by decide), if_pos rfl, if_neg (show ¬ (1 : Int) = 0 by decide), yAnd (fun _ => hp)]
    refine k _ m _ a b (Nat.le_succ m) c (fun _ => ?_)
    rw [d.i (by omega)]
    obtain ⟨p, rfl⟩ : ∃ p : Nat, z = p := ⟨z.toNat, by omega⟩
    rw [Int.toNat_natCast]
    exact (hM.2.1 p (by omega)).1
  · rw [if_neg hp] at k
    obtain ⟨a, b, c, d⟩ := n_go (x := 1) hM
    rw [plcn hp, if_pos rfl, if_neg (show ¬ (1 : Int) = 0 by decide), if_pos rfl, yAnd (fun h => absurd rfl h)]
    exact k _ m _ a b (Nat.le_succ m) c (fun (x : (1 : Nat) = 0) => absurd x (by decide))
theorem m_asks {K : List zF} (hK : K.length + 3 ≤ 60) {S : STA} {m : Nat} {z y : Int} {σ : zW} (hM : MS S m σ) (k1 : isN S z y → zRet true K (some (.inl 1)) (sI σ 122 88 0)) (k2 : ¬ isN S z y → zRet true K (some (.inl 0)) (sI σ 122 88 1)) : zEv true (zent 178 [.inr (.inr 122), .inl z, .inl y] :: K) σ := by
  rw [ze_178 (by omega), m_isPlace (by show K.length + 1 < 60; omega), zr_178_4 (by omega)]
  have bad : ¬ isN S z y → zEv true ((178, 15, [some (.inr (.inr 122)), some (.inl z), some (.inl y), none], []) :: K) σ := fun h => by
    rw [zj_178_15 (by omega), yAnd (fun h => absurd rfl h), if_pos rfl, m_goes, if_neg (by decide), zr_178_40, yAnd (Or.inl rfl)]
    exact k2 h
  by_cases hp : 0 ≤ z ∧ z < 3
  · rw [plc hp, if_neg (show ¬ (1 : Int) = 0 by decide)]
    by_cases y1 : y < 0
    · rw [if_pos y1]; exact bad (fun x => by have := x.2.1; omega)
    · rw [if_neg y1, yAnd (fun _ => hp), if_neg (show ¬ (1 : Int) = 0 by decide)]
      obtain ⟨p, rfl⟩ : ∃ p : Nat, z = p := ⟨z.toNat, by omega⟩
      rw [Int.toNat_natCast, (hM.2.1 p (by omega)).1]
      by_cases y2 : ((qT S p).1 : Int) ≤ y
      · rw [if_pos y2, m_goes, if_neg (by decide), zr_178_40, yAnd (Or.inl rfl)]
        exact k2 (fun x => by have := x.2.2; rw [Int.toNat_natCast] at this; omega)
      · rw [if_neg y2, m_goes, if_pos rfl, zr_178_40, yAnd (Or.inr rfl)]
        exact k1 ⟨hp, by omega, by rw [Int.toNat_natCast]; omega⟩
  · rw [plcn hp, if_pos rfl]
    exact bad (fun x => hp x.1)
theorem ix20 {p b : Nat} (hp : p < 3) (hb : b < 20) : w32 (w32 (20 * (p : Int)) + (b : Int)) = ((20 * p + b : Nat) : Int) := by rw [zw_id (z := 20 * (p : Int)) (by omega) (by omega), zw_id (by omega) (by omega)]; omega
theorem n_parent {K : List zF} (hK : K.length + 6 ≤ 60) {S : STA} {m : Nat} {z y : Int} {σ : zW} (hg : SG S) (hM : MS S m σ) (k : nOp S m σ K (oParent S z y)) : zEv true (zent 179 [.inr (.inr 122), .inl z, .inl y] :: K) σ := by
  unfold oParent at k
  rw [ze_179 (by omega)]
  refine m_asks (by show K.length + 1 + 3 ≤ 60; omega) hM (fun hn => ?_) (fun hn => ?_)
  · rw [oNode_t hn] at k
    obtain ⟨hp, hy0, hy1⟩ := hn
    obtain ⟨p, rfl⟩ : ∃ p : Nat, z = p := ⟨z.toNat, by omega⟩
    obtain ⟨b, rfl⟩ : ∃ b : Nat, y = b := ⟨y.toNat, by omega⟩
    have hp3 : p < 3 := by omega
    rw [Int.toNat_natCast] at hy1
    have hb : b < (qT S p).1 := by omega
    have hn := (hg.1 p hp3).1.1
    obtain ⟨a1, a2, a3, a4⟩ := n_go (x := 0) hM
    rw [zr_179_6, ix20 hp3 (by omega), yAnd (fun _ => by omega), if_neg (show ¬ (1 : Int) = 0 by decide), Int.toNat_natCast]
    refine k _ m _ a1 a2 (Nat.le_succ m) a3 (fun _ => ?_)
    rw [Int.toNat_natCast, Int.toNat_natCast, a4.i (by omega)]
    exact ((hM.2.1 p hp3).2 b hb).2
  · rw [oNode_f hn] at k
    obtain ⟨a1, a2, a3, a4⟩ := n_go (x := 1) hM
    rw [zr_179_6, yAnd (fun h => absurd rfl h)]
    exact k _ m _ a1 a2 (Nat.le_succ m) a3 (fun (x : (1 : Nat) = 0) => absurd x (by decide))
theorem m_laid {K : List zF} (hK : K.length + 2 ≤ 60) {S : STA} {m p : Nat} {σ : zW} (hp : p < 3) (hg : SG S) (hM : MS S m σ)
    (k : ∀ σ' : zW, yFr Xly σ σ' → MS S m σ' → mLd (qT S p) σ' → gI σ' 122 64 = (p : Int) → zRet true K none σ') : zEv true (zent 180 [.inr (.inr 122), .inl (p : Int)] :: K) σ := by
  by_cases c : gI σ 122 64 = (p : Int)
  · rw [ze_180, if_neg (fun w => w c)]
    have hLd : mLd (qT S p) σ := by
      rcases hM.2.2.2.2.2.2.2.1 with h | ⟨q, a1, a2, a3⟩
      · omega
      · rw [show p = q by omega]; exact a3
    exact k σ yFr.rf hM hLd c
  · obtain ⟨b1, b2, b3, b4, b5, b6, b7, b8⟩ := hM
    refine m_lays hK hp (hg.1 p hp) (b2 p hp) c (fun σ' hF h1 h2 h3 => ?_)
    have hF' : yFr (fun k j => (k = 122 ∧ (j = 64 ∨ j = 65 ∨ j = 75)) ∨ (170 ≤ k ∧ k ≤ 173)) σ σ' := hF
    exact k σ' hF ⟨mT_fr b1 hF' (fun k j x => by omega), fun p hp => mTr_fr (b2 p hp) hF' (fun k j x => by omega), kMp_fr b3 hF' (fun k j x => by omega), kMs_fr b4 hF' (fun k j x => by omega), ⟨(hF'.i (by omega)).trans b5.1, (hF'.i (by omega)).trans b5.2⟩, mO_fr b6 hF' (fun k j x => by omega), mHi_fr b7 hF' (fun k j w x => by
      have w' : (k = 122 ∧ j = 14) ∨ (129 ≤ k ∧ k ≤ 131) := w
      omega), ⟨Or.inr ⟨p, hp, h2, h1⟩, Or.inl h3⟩⟩ h1 h2
theorem n_kids {K : List zF} (hK : K.length + 6 ≤ 60) {S : STA} {m : Nat} {z y : Int} {σ : zW} (hg : SG S) (hM : MS S m σ) (k : nOp S m σ K (oKids S z y)) : zEv true (zent 184 [.inr (.inr 122), .inl z, .inl y] :: K) σ := by
  unfold oKids at k
  rw [ze_184 (by omega)]
  refine m_asks (by show K.length + 1 + 3 ≤ 60; omega) hM (fun hn => ?_) (fun hn => ?_)
  · rw [oNode_t hn] at k
    obtain ⟨hp, hy0, hy1⟩ := hn
    obtain ⟨p, rfl⟩ : ∃ p : Nat, z = p := ⟨z.toNat, by omega⟩
    obtain ⟨b, rfl⟩ : ∃ b : Nat, y = b := ⟨y.toNat, by omega⟩
    have hp3 : p < 3 := by omega
    rw [Int.toNat_natCast] at hy1
    have hb : b < (qT S p).1 := by omega
    have hn := (hg.1 p hp3).1.1
    obtain ⟨a1, a2, a3, a4⟩ := n_go (x := 0) hM
    rw [zr_184_6 (by omega), if_pos (by decide)]
    refine m_laid (by show K.length + 1 + 2 ≤ 60; omega) hp3 hg a2 (fun σ' hF hM' hL h64 => ?_)
    have hF' : yFr (fun k j => (k = 122 ∧ (j = 64 ∨ j = 65 ∨ j = 75)) ∨ (170 ≤ k ∧ k ≤ 173)) (sI σ 122 88 0) σ' := hF
    rw [zr_184_16, yAnd (by omega), Int.toNat_natCast, (hL.2 b hb).1]
    exact k σ' m _ (a1.trans (hF'.mono (fun k j x => by omega))) hM' (Nat.le_succ m) ((hF'.i (by omega)).trans a3) (fun _ => by rw [Int.toNat_natCast, Int.toNat_natCast])
  · rw [oNode_f hn] at k
    obtain ⟨a1, a2, a3, a4⟩ := n_go (x := 1) hM
    rw [zr_184_6 (by omega), if_neg (fun h => h rfl)]
    exact k _ m _ a1 a2 (Nat.le_succ m) a3 (fun (x : (1 : Nat) = 0) => absurd x (by decide))
theorem n_wordOf {K : List zF} (hK : K.length + 6 ≤ 60) {S : STA} {m : Nat} {z y b0 : Int} {σ : zW} (hg : SG S) (hM : MS S m σ) (k : nOp S m σ K (oWordOf S z y b0)) : zEv true (zent 185 [.inr (.inr 122), .inl z, .inl y, .inl b0] :: K) σ := by
  unfold oWordOf at k
  rw [ze_185 (by omega)]
  refine m_asks (by show K.length + 1 + 3 ≤ 60; omega) hM (fun hn => ?_) (fun hn => ?_)
  · rw [oNode_t hn] at k
    obtain ⟨hp, hy0, hy1⟩ := hn
    obtain ⟨p, rfl⟩ : ∃ p : Nat, z = p := ⟨z.toNat, by omega⟩
    obtain ⟨b, rfl⟩ : ∃ b : Nat, y = b := ⟨y.toNat, by omega⟩
    have hp3 : p < 3 := by omega
    rw [Int.toNat_natCast] at hy1
    have hb : b < (qT S p).1 := by omega
    have hn := (hg.1 p hp3).1.1
    have hcb : 0 ≤ (b : Int) ∧ (b : Int) < 20 := by omega
    obtain ⟨a1, a2, a3, a4⟩ := n_go (x := 0) hM
    rw [zr_185_6 (by omega), if_pos (by decide)]
    refine m_laid (by show K.length + 1 + 2 ≤ 60; omega) hp3 hg a2 (fun σ' hF hM' hL h64 => ?_)
    have hF' : yFr (fun k j => (k = 122 ∧ (j = 64 ∨ j = 65 ∨ j = 75)) ∨ (170 ≤ k ∧ k ≤ 173)) (sI σ 122 88 0) σ' := hF
    rw [zr_185_16, yAnd (fun _ => hcb), yAnd (fun _ => hcb), Int.toNat_natCast, (hL.2 b hb).2.1, (hL.2 b hb).2.2.1]
    exact k σ' m _ (a1.trans (hF'.mono (fun k j x => by omega))) hM' (Nat.le_succ m) ((hF'.i (by omega)).trans a3) (fun _ => by rw [Int.toNat_natCast, Int.toNat_natCast])
  · rw [oNode_f hn] at k
    obtain ⟨a1, a2, a3, a4⟩ := n_go (x := 1) hM
    rw [zr_185_6 (by omega), if_neg (fun h => h rfl)]
    exact k _ m _ a1 a2 (Nat.le_succ m) a3 (fun (x : (1 : Nat) = 0) => absurd x (by decide))
theorem MS_drop {S : STA} {m : Nat} {σ σ' : zW} (hM : MS S m σ) (hF : yFr (fun k j => k = 122 ∧ (j = 1 ∨ j = 88)) σ σ') (h1 : gI σ' 122 1 = 0) : MS (qDr S) m σ' := by
  obtain ⟨b1, b2, b3, b4, b5, b6, b7, b8⟩ := hM
  exact ⟨⟨fun i => (hF.i (by omega)).trans (b1.1 i), h1, Nat.zero_le _, fun i hi => absurd hi (Nat.not_lt_zero i)⟩, fun p hp => mTr_fr (b2 p hp) hF (fun k j x => by omega), kMp_fr b3 hF (fun k j x => by omega), kMs_fr b4 hF (fun k j x => by omega), ⟨(hF.i (by omega)).trans b5.1, (hF.i (by omega)).trans b5.2⟩, mO_fr b6 hF (fun k j x => by omega), mHi_fr b7 hF (fun k j w x => by omega), mCa_fr b8 hF (fun k j x => by omega)⟩
theorem n_lab {K : List zF} (hK : K.length + 6 ≤ 60) {S : STA} {m : Nat} {z : Int} {σ : zW} (hg : SG S) (hM : MS S m σ) (k : nOp S m σ K (oWith S z)) : zEv true (zent 186 [.inr (.inr 122), .inl z] :: K) σ := by
  unfold oWith at k
  refine m_labelled (by omega) hM.1 (fun σ' hz hF h1 h88 => ?_) (fun σ' hz hF h1 h88 p T hzp hgT hmT => ?_) (fun p hz hp => ⟨qT S p, hg.1 p hp, hM.2.1 p hp⟩)
  · rw [if_neg (by omega)] at k
    exact k σ' m _ (hF.mono (fun k j x => by omega)) (MS_drop hM hF h1) (Nat.le_succ m) h88 (fun (x : (1 : Nat) = 0) => absurd x (by decide))
  · rw [if_pos (by omega)] at k
    have hp3 : p < 3 := by omega
    refine k σ' m _ (hF.mono (fun k j x => by omega)) (MS_drop hM hF h1) (Nat.le_succ m) h88 (fun _ => ?_)
    show ((cns (qF S) (qL S) T.2.1 T.1 : Nat) : Int) = ((cns (qF S) (qL S) (qT S z.toNat).2.1 (qT S z.toNat).1 : Nat) : Int)
    rw [hzp, Int.toNat_natCast]
    have hT := hM.2.1 p hp3
    have e1 : T.1 = (qT S p).1 := by
      have := hmT.1.symm.trans hT.1
      omega
    have e2 : ∀ i, i < T.1 → T.2.1 i = (qT S p).2.1 i := fun i hi => (hmT.2 i hi).1.symm.trans (hT.2 i (by omega)).1
    have e3 : ∀ c, c ≤ T.1 → cns (qF S) (qL S) T.2.1 c = cns (qF S) (qL S) (qT S p).2.1 c := by
      intro c
      induction c with
      | zero => intro _; rfl
      | succ c ih =>
        intro hc
        rw [cns, cns, ih (by omega), e2 c (by omega)]
    rw [e3 T.1 (Nat.le_refl _), e1]
theorem n_with {K : List zF} (hK : K.length + 8 ≤ 60) {S : STA} {m : Nat} {z : Int} {σ : zW} (hg : SG S) (hM : MS S m σ) (k : nOp S m σ K (oWith S z)) : zEv true (zent 187 [.inr (.inr 122), .inl z] :: K) σ := by
  rw [ze_187 (by omega)]
  refine n_lab (by show K.length + 1 + 6 ≤ 60; omega) hg hM (fun σ' m' v a b c d e => ?_)
  rw [zr_187_5]
  exact k σ' m' v a b c d e
theorem n_walk {K : List zF} (hK : K.length + 8 ≤ 60) {S : STA} {m : Nat} {z : Int} {σ : zW} (hg : SG S) (hM : MS S m σ) (k : nOp S m σ K (oWith S z)) : zEv true (zent 188 [.inr (.inr 122), .inl z] :: K) σ := by
  rw [ze_188 (by omega)]
  refine n_lab (by show K.length + 1 + 6 ≤ 60; omega) hg hM (fun σ' m' v a b c d e => ?_)
  rw [zr_188_5]
  exact k σ' m' v a b c d e
theorem MS_out {S : STA} {m : Nat} {x : TX} {σ σ' : zW} {X : Nat → Nat → Prop} (hM : MS S m σ) (hF : yFr X σ σ') (hX : ∀ k j, X k j → Xmq k j ∨ k = 185 ∨ (k = 122 ∧ j = 87)) (hO : mO x σ') : MS (qsO S x) m σ' := by
  have hX' : ∀ k j, X k j → (k < 122 ∨ 186 ≤ k ∨ (k = 122 ∧ ((2 ≤ j ∧ j ≤ 5) ∨ j = 13 ∨ j = 35 ∨ j = 49 ∨ j = 50 ∨ j = 58 ∨ j = 77 ∨ j = 81 ∨ j = 85 ∨ j = 88)) ∨ k = 127 ∨ k = 128 ∨ (146 ≤ k ∧ k ≤ 159) ∨ (165 ≤ k ∧ k ≤ 169) ∨ (174 ≤ k ∧ k ≤ 176) ∨ (178 ≤ k ∧ k ≤ 184)) ∨ k = 185 ∨ (k = 122 ∧ j = 87) := hX
  obtain ⟨h1, h2, h3, h4, h5, h6, h7, h8⟩ := hM
  exact ⟨mT_fr h1 hF (fun k j x => by have := hX' k j x; omega), fun p hp => mTr_fr (h2 p hp) hF (fun k j x => by have := hX' k j x; omega), kMp_fr h3 hF (fun k j x => by have := hX' k j x; omega), kMs_fr h4 hF (fun k j x => by have := hX' k j x; omega), ⟨(hF.i (fun x => by have := hX' _ _ x; omega)).trans h5.1, (hF.i (fun x => by have := hX' _ _ x; omega)).trans h5.2⟩, hO, mHi_fr h7 hF (fun k j w x => by have := hX' k j x; omega), mCa_fr h8 hF (fun k j x => by have := hX' k j x; omega)⟩
theorem n_show {K : List zF} (hK : K.length + 8 ≤ 60) {S : STA} {m : Nat} {z : Int} {σ : zW} (hg : SG S) (hM : MS S m σ) (k : nOp S m σ K (oShow S z)) : zEv true (zent 248 [.inr (.inr 122), .inl z] :: K) σ := by
  unfold oShow at k
  rw [ze_248 (by omega), m_isPlace (by show K.length + 1 < 60; omega), zr_248_5 (by omega), m_goes, zr_248_16 (by omega)]
  by_cases hp : 0 ≤ z ∧ z < 3
  · rw [if_pos hp] at k
    obtain ⟨p, rfl⟩ : ∃ p : Nat, z = p := ⟨z.toNat, by omega⟩
    have hp3 : p < 3 := by omega
    rw [Int.toNat_natCast] at k
    rw [plc hp, if_neg (show ¬ (1 : Int) = 0 by decide), if_pos (show (0 : Int) = 0 from rfl), if_pos (show ¬ (1 : Int) = 0 by decide)]
    have hF1 : yFr (fun k j => k = 122 ∧ (j = 87 ∨ j = 88)) σ (sI (sI σ 122 88 0) 122 87 0) := (yFr.rf.I (by omega)).I (by omega)
    have e87 : gI (sI (sI σ 122 88 0) 122 87 0) 122 87 = 0 := yGI_hit
    have e88 : gI (sI (sI σ 122 88 0) 122 87 0) 122 88 = 0 := by rw [gI_sI, if_neg (by omega)]; exact yGI_hit
    generalize sI (sI σ 122 88 0) 122 87 0 = σ1 at hF1 e87 e88 ⊢
    refine m_unrolls hp3 (hg.1 p hp3) (mTr_fr (hM.2.1 p hp3) hF1 (fun k j x => by omega)) (fun σ2 hF2 h85 hR => ?_)
    have hF2' : yFr (fun k j => (k = 122 ∧ (j = 77 ∨ j = 85)) ∨ (179 ≤ k ∧ k ≤ 181)) σ1 σ2 := hF2
    rw [zr_248_31]
    refine m_showRow (by omega) (hg.1 p hp3) hR ((hF2'.i (by omega)).trans e87) (fun σ3 hF3 hO => ?_)
    have hF3' : yFr (fun k j => k = 185 ∨ (k = 122 ∧ j = 87)) σ2 σ3 := hF3
    have hF : yFr (fun k j => (k = 122 ∧ (j = 77 ∨ j = 85 ∨ j = 87 ∨ j = 88)) ∨ (179 ≤ k ∧ k ≤ 181) ∨ k = 185) σ σ3 := (hF1.mono (fun k j x => by omega)).trans ((hF2'.mono (fun k j x => by omega)).trans (hF3'.mono (fun k j x => by omega)))
    refine k σ3 m _ (hF.mono (fun k j x => by omega)) (MS_out hM hF (fun k j x => ?_) hO) (Nat.le_succ m) ((hF3'.i (by omega)).trans ((hF2'.i (by omega)).trans e88)) (fun _ => rfl)
    show (k < 122 ∨ 186 ≤ k ∨ (k = 122 ∧ ((2 ≤ j ∧ j ≤ 5) ∨ j = 13 ∨ j = 35 ∨ j = 49 ∨ j = 50 ∨ j = 58 ∨ j = 77 ∨ j = 81 ∨ j = 85 ∨ j = 88)) ∨ k = 127 ∨ k = 128 ∨ (146 ≤ k ∧ k ≤ 159) ∨ (165 ≤ k ∧ k ≤ 169) ∨ (174 ≤ k ∧ k ≤ 176) ∨ (178 ≤ k ∧ k ≤ 184)) ∨ k = 185 ∨ (k = 122 ∧ j = 87)
    omega
  · rw [if_neg hp] at k
    obtain ⟨a, b, c, d⟩ := n_go (x := 1) hM
    rw [plcn hp, if_pos (show (0 : Int) = 0 from rfl), if_neg (show ¬ (1 : Int) = 0 by decide), if_neg (fun h => h rfl)]
    exact k _ m _ a b (Nat.le_succ m) c (fun (x : (1 : Nat) = 0) => absurd x (by decide))
theorem lgs_lgood {v : Int64} (h : lgs v) : lgood v := by
  obtain ⟨g, n, h1, h2, h3, h4, h5⟩ := h
  refine ⟨g, n, h1, h2, fun i hi => ?_, h5⟩
  rcases h4 i hi with x | x
  · unfold zlet at x; omega
  · unfold zdig at x; omega
theorem n_label {K : List zF} (hK : K.length + 8 ≤ 60) {S : STA} {m : Nat} {z y : Int} {σ : zW} (hg : SG S) (hM : MS S m σ) (k : nOp S m σ K (oLabel S z y)) : zEv true (zent 249 [.inr (.inr 122), .inl z, .inl y] :: K) σ := by
  unfold oLabel at k
  rw [ze_249 (by omega)]
  refine m_asks (by show K.length + 1 + 3 ≤ 60; omega) hM (fun hn => ?_) (fun hn => ?_)
  · rw [if_pos hn] at k
    obtain ⟨hp, hy0, hy1⟩ := hn
    obtain ⟨p, rfl⟩ : ∃ p : Nat, z = p := ⟨z.toNat, by omega⟩
    obtain ⟨b, rfl⟩ : ∃ b : Nat, y = b := ⟨y.toNat, by omega⟩
    have hp3 : p < 3 := by omega
    rw [Int.toNat_natCast] at hy1
    have hb : b < (qT S p).1 := by omega
    have hn := (hg.1 p hp3).1.1
    rw [Int.toNat_natCast, Int.toNat_natCast] at k
    have hl : gL (sI σ 122 88 0) 125 (20 * p + b) = (qT S p).2.1 b := ((hM.2.1 p hp3).2 b hb).1
    rw [zr_249_6 (by omega), if_pos (by decide), ix20 hp3 (by omega), yAnd (by omega), Int.toNat_natCast, hl]
    have hF1 : yFr (fun k j => k = 122 ∧ (j = 87 ∨ j = 88)) σ (sI (sI σ 122 88 0) 122 87 0) := (yFr.rf.I (by omega)).I (by omega)
    have e87 : mO (0, fun _ => 0) (sI (sI σ 122 88 0) 122 87 0) := ⟨yGI_hit, fun j hj => absurd hj (Nat.not_lt_zero j)⟩
    have e88 : gI (sI (sI σ 122 88 0) 122 87 0) 122 88 = 0 := by rw [gI_sI, if_neg (by omega)]; exact yGI_hit
    generalize sI (sI σ 122 88 0) 122 87 0 = σ1 at hF1 e87 e88 ⊢
    refine m_printsLabel (by show K.length + 1 + 1 ≤ 60; omega) (lgs_lgood ((hg.1 p hp3).2 b hb)) e87 (by show 0 + 6 ≤ 512; omega) (fun σ3 hF3 hO => ?_)
    have hF3' : yFr (fun k j => k = 185 ∨ (k = 122 ∧ j = 87)) σ1 σ3 := hF3
    have hF : yFr (fun k j => (k = 122 ∧ (j = 87 ∨ j = 88)) ∨ k = 185) σ σ3 := (hF1.mono (fun k j x => by omega)).trans (hF3'.mono (fun k j x => by omega))
    rw [zr_249_31, hO.1]
    refine k σ3 m _ (hF.mono (fun k j x => by omega)) (MS_out hM hF (fun k j x => ?_) hO) (Nat.le_succ m) ((hF3'.i (by omega)).trans e88) (fun _ => rfl)
    show (k < 122 ∨ 186 ≤ k ∨ (k = 122 ∧ ((2 ≤ j ∧ j ≤ 5) ∨ j = 13 ∨ j = 35 ∨ j = 49 ∨ j = 50 ∨ j = 58 ∨ j = 77 ∨ j = 81 ∨ j = 85 ∨ j = 88)) ∨ k = 127 ∨ k = 128 ∨ (146 ≤ k ∧ k ≤ 159) ∨ (165 ≤ k ∧ k ≤ 169) ∨ (174 ≤ k ∧ k ≤ 176) ∨ (178 ≤ k ∧ k ≤ 184)) ∨ k = 185 ∨ (k = 122 ∧ j = 87)
    omega
  · rw [if_neg hn] at k
    obtain ⟨a1, a2, a3, a4⟩ := n_go (x := 1) hM
    rw [zr_249_6 (by omega), if_neg (fun h => h rfl)]
    exact k _ m _ a1 a2 (Nat.le_succ m) a3 (fun (x : (1 : Nat) = 0) => absurd x (by decide))
theorem n_undo {K : List zF} (hK : K.length + 8 ≤ 60) {S : STA} {m : Nat} {z : Int} {σ : zW} (hg : SG S) (hM : MS S m σ) (hm : m ≤ 512) (k : nOp S m σ K (oUndo S z)) : zEv true (zent 245 [.inr (.inr 122), .inl z] :: K) σ := by
  unfold oUndo at k
  refine m_undo (by omega) hm hM.2.2.2.2.2.2.1 (fun hz => ?_) (fun p hz hp he => ?_) (fun p T l σ' hz hp he hT hF hmT hH h64 h88 => ?_)
  · rw [if_neg (by omega)] at k
    obtain ⟨a, b, c, d⟩ := n_go (x := 1) hM
    exact k _ m _ a b (Nat.le_succ m) c (fun (x : (1 : Nat) = 0) => absurd x (by decide))
  · rw [if_pos (by omega), hz, Int.toNat_natCast, he] at k
    simp only at k
    obtain ⟨a, b, c, d⟩ := n_go (x := 0) hM
    obtain ⟨a', b', c', d'⟩ := n_go (x := 2) b
    exact k _ m _ (a.trans a') b' (Nat.le_succ m) c' (fun (x : (2 : Nat) = 0) => absurd x (by decide))
  · rw [if_pos (by omega), hz, Int.toNat_natCast, he] at k
    simp only at k
    have hF' : yFr (fun k j => ((k = 122 ∧ j = 14) ∨ (129 ≤ k ∧ k ≤ 131)) ∨ ((k = 124 ∧ j = p) ∨ ((k = 125 ∨ k = 126) ∧ 20 * p ≤ j ∧ j < 20 * p + 20)) ∨ (k = 122 ∧ (j = 64 ∨ j = 88))) σ σ' := hF
    obtain ⟨b1, b2, b3, b4, b5, b6, b7, b8⟩ := hM
    refine k σ' (m - 1) _ (hF'.mono (fun k j x => by omega)) ⟨mT_fr b1 hF' (fun k j x => by omega), fun q hq => ?_, kMp_fr b3 hF' (fun k j x => by omega), kMs_fr b4 hF' (fun k j x => by omega), ⟨(hF'.i (by omega)).trans b5.1, (hF'.i (by omega)).trans b5.2⟩, mO_fr b6 hF' (fun k j x => by omega), hH, ⟨Or.inl h64, Or.inr (Or.inl h64)⟩⟩ (by omega) h88 (fun _ => rfl)
    show mTr q (fup (qT S) p T q) σ'
    by_cases e : q = p
    · rw [e, fup_eq]; exact hmT
    · rw [fup_ne e]
      have hn := (hg.1 q hq).1.1
      obtain ⟨c1, c2⟩ := b2 q hq
      refine ⟨(hF'.i (by omega)).trans c1, fun i hi => ?_⟩
      exact ⟨(hF'.l (by omega)).trans (c2 i hi).1, (hF'.i (by omega)).trans (c2 i hi).2⟩
