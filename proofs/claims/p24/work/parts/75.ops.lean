/-! what a call comes to: a code, an answer, the state behind it -/
abbrev OUT : Type := Nat × Int × STA
def κF (c : Nat) : Nat := c - 1
def κP (c : Nat) : Nat := 3 - c
def κR (c : Nat) : Nat := c
/-- what a call comes to: an answer, or a throw of a kind -/
def kOp (κ : Nat → Nat) (S : STA) (u : Nat) (σ : zW) (K : List zF) (o : OUT) : Prop := (o.1 = 0 → ∀ (σ' : zW) (u' : Nat), yFr (fun k _ => k < 122) σ σ' → CS o.2.2 u' σ' → u' ≤ u → zRet true K (some (.inl o.2.1)) σ') ∧ (o.1 ≠ 0 → ∀ (σ' : zW) (u' : Nat), yFr (fun k _ => k < 122) σ σ' → CS o.2.2 u' σ' → u' ≤ u → zThr true K (κ o.1) (zex σ'))
theorem k_ok {κ : Nat → Nat} {S : STA} {u u' : Nat} {σ σ1 : zW} {K : List zF} {o : OUT} {v : Int} (k : kOp κ S u σ K o) (h0 : o.1 = 0) (hv : v = o.2.1) (hF : yFr (fun k _ => k < 122) σ σ1) (hC : CS o.2.2 u' σ1) (hu : u' ≤ u) : zRet true K (some (.inl v)) σ1 := by
  rw [hv]; exact k.1 h0 σ1 u' hF hC hu
theorem k_ex {κ : Nat → Nat} {S : STA} {u u' e : Nat} {σ σ1 : zW} {K : List zF} {o : OUT} (k : kOp κ S u σ K o) (h0 : o.1 = e) (h1 : e ≠ 0) (hF : yFr (fun k _ => k < 122) σ σ1) (hC : CS o.2.2 u' σ1) (hu : u' ≤ u) : zThr true K (κ e) (zex σ1) := by
  rw [← h0]; exact k.2 (by rw [h0]; exact h1) σ1 u' hF hC hu
theorem c_requirePlace {K : List zF} (hK : K.length < 60) {z : Int} {σ : zW} : zEv true (zent 126 [.inl z] :: K) σ = if 0 ≤ z ∧ z < 3 then zRet true K none σ else zThr true K 2 (zex σ) := by
  rw [ze_126 hK, ze_125]
  by_cases h1 : z < 0
  · rw [if_pos h1, zr_126_4, if_neg (by decide), if_neg (by omega)]
  · rw [if_neg h1]
    by_cases h2 : z < 3
    · rw [if_pos h2, zr_126_4, if_pos rfl, if_pos ⟨by omega, h2⟩]
    · rw [if_neg h2, zr_126_4, if_neg (by decide), if_neg (fun x => h2 x.2)]
def isN (S : STA) (z y : Int) : Prop := (0 ≤ z ∧ z < 3) ∧ 0 ≤ y ∧ y < ((qT S z.toNat).1 : Int)
theorem c_requireNode {K : List zF} (hK : K.length + 1 < 60) {S : STA} {z y : Int} {σ : zW} (hT : kTr (qT S) σ) (k1 : isN S z y → zRet true K none σ) (k2 : ¬ isN S z y → zThr true K 2 (zex σ)) : zEv true (zent 127 [.inr (.inr 1), .inl z, .inl y] :: K) σ := by
  rw [ze_127 (by omega), c_requirePlace (by show K.length + 1 < 60; exact hK)]
  by_cases hp : 0 ≤ z ∧ z < 3
  · rw [if_pos hp]
    obtain ⟨p, rfl⟩ : ∃ p : Nat, z = p := ⟨z.toNat, by omega⟩
    have hp3 : p < 3 := by omega
    obtain ⟨t1, t2, t3⟩ := hT.1 p hp3
    rw [zr_127_4 (by rw [Int.toNat_natCast]; exact t1), yAnd hp, Int.toNat_natCast, t2.1.1]
    by_cases y1 : y < 0
    · rw [if_pos y1, zj_127_21]
      exact k2 (fun x => by have := x.2.1; omega)
    · rw [if_neg y1]
      by_cases y2 : y < ((qT S p).1 : Int)
      · rw [if_pos y2]
        exact k1 ⟨hp, by omega, by rw [Int.toNat_natCast]; exact y2⟩
      · rw [if_neg y2, zj_127_21]
        exact k2 (fun x => y2 (by have := x.2.2; rw [Int.toNat_natCast] at this; exact this))
  · rw [if_neg hp, zThr_no (m := 127) rfl]
    exact k2 (fun x => hp x.1)
noncomputable def oFeed (S : STA) (x : Int64) (z : Int) : OUT := if z < 1 ∨ 8 < z then (1, 0, S) else if 600 < (qL S : Int) + z then (2, 0, S) else (0, (qL S : Int) + z, ((fdf (qF S) (qL S) x z.toNat, qL S + z.toNat), S.2))
noncomputable def oNodes (S : STA) (z : Int) : OUT := if 0 ≤ z ∧ z < 3 then (0, ((qT S z.toNat).1 : Int), S) else (1, 0, S)
noncomputable def oNode (S : STA) (z y a : Int) : OUT := @ite OUT (isN S z y) (Classical.propDecidable _) (0, a, S) (1, 0, S)
theorem oNode_t {S : STA} {z y a : Int} (h : isN S z y) : oNode S z y a = (0, a, S) := if_pos h
theorem oNode_f {S : STA} {z y a : Int} (h : ¬ isN S z y) : oNode S z y a = (1, 0, S) := if_neg h
noncomputable def oParent (S : STA) (z y : Int) : OUT := oNode S z y (par (qT S z.toNat).2.2 y.toNat)
noncomputable def oKids (S : STA) (z y : Int) : OUT := oNode S z y (kidc (qT S z.toNat).2.2 y.toNat (qT S z.toNat).1 : Nat)
noncomputable def oWordOf (S : STA) (z y b : Int) : OUT := oNode S z y (if b = 0 then (wrd (qT S z.toNat).2.2 (qT S z.toNat).1 y.toNat : Nat) else ((wrd (qT S z.toNat).2.2 (qT S z.toNat).1 (ed (qT S z.toNat).2.2 (qT S z.toNat).1 y.toNat) : Nat) : Int) - 1)
def qDr (S : STA) : STA := ((qF S, 0), S.2)
noncomputable def oWith (S : STA) (z : Int) : OUT := if 0 ≤ z ∧ z < 3 then (0, ((cns (qF S) (qL S) (qT S z.toNat).2.1 (qT S z.toNat).1 : Nat) : Int), qDr S) else (1, 0, qDr S)
def qsO (S : STA) (x : TX) : STA := (S.1, S.2.1, S.2.2.1, S.2.2.2.1, S.2.2.2.2.1, x, S.2.2.2.2.2.2)
noncomputable def oShow (S : STA) (z : Int) : OUT := if 0 ≤ z ∧ z < 3 then (0, ((shw (qT S z.toNat) (qT S z.toNat).1).1 : Int), qsO S (shw (qT S z.toNat) (qT S z.toNat).1)) else (1, 0, S)
noncomputable def oLabel (S : STA) (z y : Int) : OUT := @ite OUT (isN S z y) (Classical.propDecidable _) (0, ((lbt ((qT S z.toNat).2.1 y.toNat) 6 0 (0, fun _ => 0)).1 : Int), qsO S (lbt ((qT S z.toNat).2.1 y.toNat) 6 0 (0, fun _ => 0))) (1, 0, S)
theorem l_feed {K : List zF} (hK : K.length + 6 ≤ 60) {S : STA} {u : Nat} {x : Int64} {z : Int} {σ : zW} (hC : CS S u σ) (k : kOp κF S u σ K (oFeed S x z)) : zEv true (zent 104 [.inr (.inr 1), .inr (.inl x), .inl z] :: K) σ := by
  unfold oFeed at k
  refine c_feed (by show K.length + 2 ≤ 60; omega) hC.1 (fun h => ?_) (fun h1 h2 h3 => ?_) (fun n σ' hz h1 h8 hL hF hT => ?_)
  · rw [if_pos h] at k
    exact k_ex (e := 1) k rfl (by decide) yFr.rf hC (Nat.le_refl u)
  · rw [if_neg (by omega), if_pos h3] at k
    exact k_ex (e := 2) k rfl (by decide) yFr.rf hC (Nat.le_refl u)
  · rw [if_neg (by omega), if_neg (by omega)] at k
    refine k_ok k rfl (by rw [hz]; show ((qL S + n : Nat) : Int) = (qL S : Int) + (n : Int); omega) (hF.mono (fun k j x => by omega)) (u' := u) ?_ (Nat.le_refl u)
    obtain ⟨h1, h2, h3, h4, h5, h6, h7, h8, h9, h10⟩ := hC
    refine ⟨by rw [hz, Int.toNat_natCast]; exact hT, kTr_fr h2 hF (fun k j x => by omega), kPt_fr h3 hF (fun k j x => by omega), kSc_fr h4 hF (fun k j x => by omega), kFl_fr h5 hF (fun k j x => by omega), cO_fr h6 hF (fun k j x => by omega), cH_fr h7 hF (fun k j w x => by omega), kPr_fr h8 hF (fun k j x => by omega), kFd_fr h9 hF (fun k j x => by omega), kFd_fr h10 hF (fun k j x => by omega)⟩
theorem l_nodes {K : List zF} (hK : K.length + 6 ≤ 60) {S : STA} {u : Nat} {z : Int} {σ : zW} (hC : CS S u σ) (k : kOp κP S u σ K (oNodes S z)) : zEv true (zent 109 [.inr (.inr 1), .inl z] :: K) σ := by
  rw [ze_109 (by show K.length < 60; omega), c_requirePlace (by show K.length + 1 < 60; omega)]
  unfold oNodes at k
  by_cases hp : 0 ≤ z ∧ z < 3
  · rw [if_pos hp] at k ⊢
    obtain ⟨p, rfl⟩ : ∃ p : Nat, z = p := ⟨z.toNat, by omega⟩
    have hp3 : p < 3 := by omega
    obtain ⟨t1, t2, t3⟩ := hC.2.1.1 p hp3
    rw [zr_109_4 (by rw [Int.toNat_natCast]; exact t1), yAnd hp, Int.toNat_natCast, t2.1.1]
    exact k_ok k rfl (by rw [Int.toNat_natCast]) yFr.rf hC (Nat.le_refl u)
  · rw [if_neg hp] at k ⊢
    rw [zThr_no (m := 109) rfl]
    exact k_ex (e := 1) k rfl (by decide) yFr.rf hC (Nat.le_refl u)
theorem l_parent {K : List zF} (hK : K.length + 6 ≤ 60) {S : STA} {u : Nat} {z y : Int} {σ : zW} (hg : SG S) (hC : CS S u σ) (k : kOp κP S u σ K (oParent S z y)) : zEv true (zent 110 [.inr (.inr 1), .inl z, .inl y] :: K) σ := by
  rw [ze_110 (by show K.length < 60; omega)]
  unfold oParent at k
  refine c_requireNode (by show K.length + 1 + 1 < 60; omega) hC.2.1 (fun hn => ?_) (fun hn => ?_)
  · rw [oNode_t hn] at k
    obtain ⟨hp, hy0, hy1⟩ := hn
    obtain ⟨p, rfl⟩ : ∃ p : Nat, z = p := ⟨z.toNat, by omega⟩
    obtain ⟨b, rfl⟩ : ∃ b : Nat, y = b := ⟨y.toNat, by omega⟩
    have hp3 : p < 3 := by omega
    rw [Int.toNat_natCast] at hy1
    have hb : b < (qT S p).1 := by omega
    have hn := (hg.1 p hp3).1.1
    obtain ⟨t1, t2, t3⟩ := hC.2.1.1 p hp3
    rw [zr_110_6 (by rw [Int.toNat_natCast]; exact t1), yAnd hp, yAnd (by omega), Int.toNat_natCast, Int.toNat_natCast, (t2.2.1 b hb).1]
    exact k_ok k rfl (by rw [Int.toNat_natCast, Int.toNat_natCast]) yFr.rf hC (Nat.le_refl u)
  · rw [oNode_f hn] at k
    rw [zThr_no (m := 110) rfl]
    exact k_ex (e := 1) k rfl (by decide) yFr.rf hC (Nat.le_refl u)
theorem l_kids {K : List zF} (hK : K.length + 6 ≤ 60) {S : STA} {u : Nat} {z y : Int} {σ : zW} (hg : SG S) (hC : CS S u σ) (k : kOp κP S u σ K (oKids S z y)) : zEv true (zent 111 [.inr (.inr 1), .inl z, .inl y] :: K) σ := by
  rw [ze_111 (by show K.length < 60; omega)]
  unfold oKids at k
  refine c_requireNode (by show K.length + 1 + 1 < 60; omega) hC.2.1 (fun hn => ?_) (fun hn => ?_)
  · rw [oNode_t hn] at k
    obtain ⟨hp, hy0, hy1⟩ := hn
    obtain ⟨p, rfl⟩ : ∃ p : Nat, z = p := ⟨z.toNat, by omega⟩
    obtain ⟨b, rfl⟩ : ∃ b : Nat, y = b := ⟨y.toNat, by omega⟩
    have hp3 : p < 3 := by omega
    rw [Int.toNat_natCast] at hy1
    have hb : b < (qT S p).1 := by omega
    have hn := (hg.1 p hp3).1.1
    obtain ⟨t1, t2, t3⟩ := hC.2.1.1 p hp3
    rw [zr_111_6 (by rw [Int.toNat_natCast]; exact t1), yAnd hp, yAnd (by omega), Int.toNat_natCast, Int.toNat_natCast, (t2.2.1 b hb).2.2.1]
    exact k_ok k rfl (by rw [Int.toNat_natCast, Int.toNat_natCast]) yFr.rf hC (Nat.le_refl u)
  · rw [oNode_f hn] at k
    rw [zThr_no (m := 111) rfl]
    exact k_ex (e := 1) k rfl (by decide) yFr.rf hC (Nat.le_refl u)
theorem l_wordOf {K : List zF} (hK : K.length + 6 ≤ 60) {S : STA} {u : Nat} {z y b0 : Int} {σ : zW} (hg : SG S) (hC : CS S u σ) (k : kOp κP S u σ K (oWordOf S z y b0)) : zEv true (zent 112 [.inr (.inr 1), .inl z, .inl y, .inl b0] :: K) σ := by
  rw [ze_112 (by show K.length < 60; omega)]
  unfold oWordOf at k
  refine c_requireNode (by show K.length + 1 + 1 < 60; omega) hC.2.1 (fun hn => ?_) (fun hn => ?_)
  · rw [oNode_t hn] at k
    obtain ⟨hp, hy0, hy1⟩ := hn
    obtain ⟨p, rfl⟩ : ∃ p : Nat, z = p := ⟨z.toNat, by omega⟩
    obtain ⟨b, rfl⟩ : ∃ b : Nat, y = b := ⟨y.toNat, by omega⟩
    have hp3 : p < 3 := by omega
    rw [Int.toNat_natCast] at hy1
    have hb : b < (qT S p).1 := by omega
    have hn := (hg.1 p hp3).1.1
    have hcb : 0 ≤ (b : Int) ∧ (b : Int) < 20 := by omega
    obtain ⟨t1, t2, t3⟩ := hC.2.1.1 p hp3
    rw [zr_112_6 (by rw [Int.toNat_natCast]; exact t1), yAnd (fun _ => ⟨hp, hcb⟩), yAnd (fun _ => ⟨hp, hcb⟩), Int.toNat_natCast, Int.toNat_natCast, (t2.2.1 b hb).2.2.2.1, (t2.2.1 b hb).2.2.2.2]
    exact k_ok k rfl (by rw [Int.toNat_natCast, Int.toNat_natCast]) yFr.rf hC (Nat.le_refl u)
  · rw [oNode_f hn] at k
    rw [zThr_no (m := 112) rfl]
    exact k_ex (e := 1) k rfl (by decide) yFr.rf hC (Nat.le_refl u)
theorem CS_drop {S : STA} {u : Nat} {σ : zW} (hC : CS S u σ) : yFr (fun k j => k = 2 ∧ j = 1) σ (sI σ 2 1 0) ∧ CS (qDr S) u (sI σ 2 1 0) := by
  have hF : yFr (fun k j => k = 2 ∧ j = 1) σ (sI σ 2 1 0) := yFr.rf.I ⟨rfl, rfl⟩
  have e : gI (sI σ 2 1 0) 2 1 = 0 := yGI_hit
  generalize sI σ 2 1 0 = σ1 at hF e ⊢
  obtain ⟨h1, h2, h3, h4, h5, h6, h7, h8, h9, h10⟩ := hC
  refine ⟨hF, ⟨fun i => (hF.i (by omega)).trans (h1.1 i), e, Nat.zero_le _, fun i hi => absurd hi (Nat.not_lt_zero i)⟩, kTr_fr h2 hF (fun k j x => by omega), kPt_fr h3 hF (fun k j x => by omega), kSc_fr h4 hF (fun k j x => by omega), kFl_fr h5 hF (fun k j x => by omega), cO_fr h6 hF (fun k j x => by omega), cH_fr h7 hF (fun k j w x => by omega), kPr_fr h8 hF (fun k j x => by omega), kFd_fr h9 hF (fun k j x => by omega), kFd_fr h10 hF (fun k j x => by omega)⟩
theorem CS_out {S : STA} {u : Nat} {x : TX} {σ σ' : zW} (hC : CS S u σ) (hF : yFr (fun k j => k = 67 ∨ (k = 66 ∧ j = 1)) σ σ') (hO : cO x σ') : CS (qsO S x) u σ' := by
  obtain ⟨h1, h2, h3, h4, h5, h6, h7, h8, h9, h10⟩ := hC
  exact ⟨cT_fr h1 hF (fun k j x => by omega), kTr_fr h2 hF (fun k j x => by omega), kPt_fr h3 hF (fun k j x => by omega), kSc_fr h4 hF (fun k j x => by omega), kFl_fr h5 hF (fun k j x => by omega), hO, cH_fr h7 hF (fun k j w x => by omega), kPr_fr h8 hF (fun k j x => by omega), kFd_fr h9 hF (fun k j x => by omega), kFd_fr h10 hF (fun k j x => by omega)⟩
theorem l_show {K : List zF} (hK : K.length + 8 ≤ 60) {S : STA} {u : Nat} {z : Int} {σ : zW} (hg : SG S) (hC : CS S u σ) (k : kOp κP S u σ K (oShow S z)) : zEv true (zent 122 [.inr (.inr 1), .inl z] :: K) σ := by
  rw [ze_122 (by show K.length < 60; omega), c_requirePlace (by show K.length + 1 < 60; omega)]
  unfold oShow at k
  by_cases hp : 0 ≤ z ∧ z < 3
  · rw [if_pos hp] at k ⊢
    obtain ⟨p, rfl⟩ : ∃ p : Nat, z = p := ⟨z.toNat, by omega⟩
    have hp3 : p < 3 := by omega
    obtain ⟨t1, t2, t3⟩ := hC.2.1.1 p hp3
    rw [Int.toNat_natCast] at k
    rw [zr_122_4 (by show K.length < 60; omega), yAnd hp, Int.toNat_natCast]
    refine c_putTree (by show K.length + 1 + 2 ≤ 60; omega) t1 (hg.1 p hp3) t2 (fun σ' hF hO => ?_)
    rw [zr_122_17, hO.1]
    exact k_ok k rfl rfl (hF.mono (fun k j x => by omega)) (CS_out hC hF hO) (Nat.le_refl u)
  · rw [if_neg hp] at k ⊢
    rw [zThr_no (m := 122) rfl]
    exact k_ex (e := 1) k rfl (by decide) yFr.rf hC (Nat.le_refl u)
theorem l_label {K : List zF} (hK : K.length + 8 ≤ 60) {S : STA} {u : Nat} {z y : Int} {σ : zW} (hg : SG S) (hC : CS S u σ) (k : kOp κP S u σ K (oLabel S z y)) : zEv true (zent 123 [.inr (.inr 1), .inl z, .inl y] :: K) σ := by
  rw [ze_123 (by show K.length < 60; omega)]
  unfold oLabel at k
  refine c_requireNode (by show K.length + 1 + 1 < 60; omega) hC.2.1 (fun hn => ?_) (fun hn => ?_)
  · rw [if_pos hn] at k
    obtain ⟨hp, hy0, hy1⟩ := hn
    obtain ⟨p, rfl⟩ : ∃ p : Nat, z = p := ⟨z.toNat, by omega⟩
    obtain ⟨b, rfl⟩ : ∃ b : Nat, y = b := ⟨y.toNat, by omega⟩
    have hp3 : p < 3 := by omega
    rw [Int.toNat_natCast] at hy1
    have hb : b < (qT S p).1 := by omega
    have hn := (hg.1 p hp3).1.1
    obtain ⟨t1, t2, t3⟩ := hC.2.1.1 p hp3
    rw [Int.toNat_natCast, Int.toNat_natCast] at k
    rw [zr_123_6 (by show K.length < 60; omega) (by rw [Int.toNat_natCast]; exact t1), yAnd hp, yAnd (by omega), Int.toNat_natCast, Int.toNat_natCast, (t2.1.2 b hb).1]
    have hF1 : yFr (fun k j => k = 66 ∧ j = 1) σ (sI σ 66 1 0) := yFr.rf.I ⟨rfl, rfl⟩
    have hO1 : cO (0, fun _ => 0) (sI σ 66 1 0) := ⟨yGI_hit, fun j hj => absurd hj (Nat.not_lt_zero j)⟩
    generalize sI σ 66 1 0 = σ1 at hF1 hO1 ⊢
    refine c_putLabel (by show K.length + 1 + 1 ≤ 60; omega) hO1 (by show 0 + 6 ≤ 184; omega) (fun σ' hF hO => ?_)
    rw [zr_123_32, hO.1]
    have hF' : yFr (fun k j => k = 67 ∨ (k = 66 ∧ j = 1)) σ σ' := (hF1.mono (fun k j x => Or.inr x)).trans hF
    exact k_ok k rfl rfl (hF'.mono (fun k j x => by omega)) (CS_out hC hF' hO) (Nat.le_refl u)
  · rw [if_neg hn] at k
    rw [zThr_no (m := 123) rfl]
    exact k_ex (e := 1) k rfl (by decide) yFr.rf hC (Nat.le_refl u)
theorem l_with {K : List zF} (hK : K.length + 8 ≤ 60) {S : STA} {u : Nat} {z : Int} {σ : zW} (hg : SG S) (hC : CS S u σ) (k : kOp κP S u σ K (oWith S z)) : zEv true (zent 113 [.inr (.inr 1), .inl z] :: K) σ := by
  rw [ze_113 (by show K.length < 60; omega)]
  unfold oWith at k
  refine c_wholeLabel (by show K.length + 1 + 2 ≤ 60; omega) hC.1 (fun σ0 hF0 => ?_)
  have hC0 : CS S u σ0 := CS_fr hC hF0 (fun k j x => Or.inr (Or.inl (by omega)))
  rw [zr_113_7 (by show K.length < 60; omega), c_drop, zr_113_15 (by show K.length < 60; omega), c_requirePlace (by show K.length + 1 < 60; omega)]
  obtain ⟨hF1, hC1⟩ := CS_drop hC0
  generalize sI σ0 2 1 0 = σ1 at hF1 hC1 ⊢
  have hF2 : yFr (fun k _ => k < 122) σ σ1 := (hF0.mono (fun k j x => by omega)).trans (hF1.mono (fun k j x => by omega))
  by_cases hp : 0 ≤ z ∧ z < 3
  · rw [if_pos hp] at k ⊢
    obtain ⟨p, rfl⟩ : ∃ p : Nat, z = p := ⟨z.toNat, by omega⟩
    have hp3 : p < 3 := by omega
    obtain ⟨t1, t2, t3⟩ := hC1.2.1.1 p hp3
    have hgT := hg.1 p hp3
    have hcn := cns_cnl (f := qF S) (L := qL S) (lab := (qT S p).2.1) hC.1.2.2.2 (qT S p).1 hgT.2
    rw [Int.toNat_natCast] at k
    rw [zr_113_19 (by show K.length < 60; omega) (by rw [Int.toNat_natCast]; exact t1)]
    by_cases cz : wlb (qF S) (qL S) = 0
    · rw [if_neg (fun x => x (zlc_eq.mpr cz))]
      rw [if_pos cz] at hcn
      exact k_ok k rfl (by show (0 : Int) = ((cns (qF S) (qL S) (qT S p).2.1 (qT S p).1 : Nat) : Int); rw [hcn]; rfl) hF2 hC1 (Nat.le_refl u)
    · rw [if_pos (fun x => cz (zlc_eq.mp x)), yAnd hp, Int.toNat_natCast]
      rw [if_neg cz] at hcn
      refine c_byIndex (by show K.length + 1 + 1 ≤ 60; omega) t1 hgT t2 ?_
      rw [zr_113_39]
      exact k_ok k rfl (by show _ = ((cns (qF S) (qL S) (qT S p).2.1 (qT S p).1 : Nat) : Int); rw [hcn]) hF2 hC1 (Nat.le_refl u)
  · rw [if_neg hp] at k ⊢
    rw [zThr_no (m := 113) rfl]
    exact k_ex (e := 1) k rfl (by decide) hF2 hC1 (Nat.le_refl u)
theorem l_walk {K : List zF} (hK : K.length + 8 ≤ 60) {S : STA} {u : Nat} {z : Int} {σ : zW} (hg : SG S) (hC : CS S u σ) (k : kOp κP S u σ K (oWith S z)) : zEv true (zent 114 [.inr (.inr 1), .inl z] :: K) σ := by
  have h21 := hC.1.2.1
  rw [ze_114 (by show K.length < 60; omega), h21]
  unfold oWith at k
  rw [c_drop, zr_114_15 (by show K.length < 60; omega), c_requirePlace (by show K.length + 1 < 60; omega)]
  obtain ⟨hF1, hC1⟩ := CS_drop hC
  generalize sI σ 2 1 0 = σ1 at hF1 hC1 ⊢
  have hF2 : yFr (fun k _ => k < 122) σ σ1 := hF1.mono (fun k j x => by omega)
  by_cases hp : 0 ≤ z ∧ z < 3
  · rw [if_pos hp] at k ⊢
    obtain ⟨p, rfl⟩ : ∃ p : Nat, z = p := ⟨z.toNat, by omega⟩
    have hp3 : p < 3 := by omega
    obtain ⟨t1, t2, t3⟩ := hC1.2.1.1 p hp3
    have hgT := hg.1 p hp3
    rw [Int.toNat_natCast] at k
    rw [zr_114_19 (by show K.length < 60; omega) (by rw [Int.toNat_natCast]; exact t1), yAnd hp, Int.toNat_natCast, c_byWalk (f := qF S) (by show K.length + 1 + 1 ≤ 60; omega) t1 hgT t2 ⟨fun i => (hF1.i (by omega)).trans (hC.1.1 i), hC.1.2.2.1, hC.1.2.2.2⟩, zr_114_36]
    exact k_ok k rfl rfl hF2 hC1 (Nat.le_refl u)
  · rw [if_neg hp] at k ⊢
    rw [zThr_no (m := 114) rfl]
    exact k_ex (e := 1) k rfl (by decide) hF2 hC1 (Nat.le_refl u)
