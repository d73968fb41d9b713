/-! bytes of longs; the tape fed -/
theorem sshr_low {x : BitVec 64} {k : Nat} (hk : k ≤ 56) : (x.sshiftRight k).toNat % 256 = x.toNat / 2 ^ k % 256 := by
  have h : (x.sshiftRight k).setWidth 8 = (x >>> k).setWidth 8 := by
    apply BitVec.eq_of_getLsbD_eq
    intro i hi
    rw [BitVec.getLsbD_setWidth, BitVec.getLsbD_setWidth, BitVec.getLsbD_sshiftRight, BitVec.getLsbD_ushiftRight]
    rw [if_pos (show k + i < 64 by omega), decide_eq_false (show ¬ 64 ≤ i by omega)]
    rfl
  have h2 := congrArg BitVec.toNat h
  rw [BitVec.toNat_setWidth, BitVec.toNat_setWidth, BitVec.toNat_ushiftRight, Nat.shiftRight_eq_div_pow] at h2
  exact h2
theorem nv_shr_low {x : Int64} {k : Nat} (hk : k ≤ 56) : nv (zlshr x (k : Int)) % 256 = nv x / 2 ^ k % 256 := by
  unfold nv zlshr
  rw [Int64.toBitVec_shiftRight, ysh_all k (by omega), BitVec.sshiftRight_eq', BitVec.toNat_ofNat, Nat.mod_eq_of_lt (show k < 2 ^ 64 by omega)]
  exact sshr_low hk
theorem nv_255 (x : Int64) : nv (x &&& 255) = nv x % 256 := by
  rw [nv_and]
  exact Nat.and_two_pow_sub_one_eq_mod (nv x) 8
theorem zand_255 (y : Int64) : zand (zl2i y) 255 = ((nv y % 256 : Nat) : Int) := by
  have h : ∀ z : Int32, (z &&& Int32.ofInt 255).toInt = ((z.toBitVec.toNat % 256 : Nat) : Int) := fun z => by
    have h1 : (z &&& Int32.ofInt 255).toBitVec.toNat = z.toBitVec.toNat % 256 := by
      rw [Int32.toBitVec_and, BitVec.toNat_and]
      exact Nat.and_two_pow_sub_one_eq_mod z.toBitVec.toNat 8
    have h2 : (z &&& Int32.ofInt 255).toInt = (z &&& Int32.ofInt 255).toBitVec.toInt := rfl
    rw [h2, BitVec.toInt_eq_toNat_cond, h1, if_pos (by omega)]
  unfold zand zl2i
  rw [Int32.ofInt_toInt, h, Int64.toBitVec_toInt32, BitVec.signExtend_eq_setWidth_of_le _ (by omega), BitVec.toNat_setWidth]
  unfold nv
  omega
/-- byte k of a long -/
def byt (x : Int64) (k : Nat) : Int := ((nv x / 2 ^ (8 * k) % 256 : Nat) : Int)
theorem byt_b (x : Int64) (k : Nat) : 0 ≤ byt x k ∧ byt x k < 256 := by unfold byt; omega
theorem c_byte {x : Int64} {k : Nat} (hk : k < 8) {z : Int} (hz : z = ((8 * k : Nat) : Int)) : zand (zl2i (zlushr x z)) 255 = byt x k := by
  subst hz
  rw [zand_255, nv_ushr (by omega)]
  rfl
theorem m_byte {x : Int64} {k : Nat} (hk : k < 8) {z : Int} (hz : z = ((8 * k : Nat) : Int)) : zl2i ((zlshr x z) &&& 255) = byt x k := by
  subst hz
  rw [zl2i_nv (n := nv x / 2 ^ (8 * k) % 256) (by omega)]
  · rfl
  · rw [nv_255, nv_shr_low (by omega)]
/-- the tape fed -/
def fdf (f : Nat → Int) (L : Nat) (x : Int64) (n : Nat) : Nat → Int := fun i => if L ≤ i ∧ i < L + n then byt x (i - L) else f i
theorem fdf_0 {f : Nat → Int} {L : Nat} {x : Int64} : fdf f L x 0 = f := by
  funext i
  unfold fdf
  rw [if_neg (by omega)]
theorem fdf_s {f : Nat → Int} {L n : Nat} {x : Int64} : fup (fdf f L x n) (L + n) (byt x n) = fdf f L x (n + 1) := by
  funext i
  unfold fup fdf
  by_cases e : i = L + n
  · subst e; rw [if_pos rfl, if_pos (by omega), show L + n - L = n by omega]
  · rw [if_neg e]
    by_cases e2 : L ≤ i ∧ i < L + n
    · rw [if_pos e2, if_pos (by omega)]
    · rw [if_neg e2, if_neg (by omega)]
theorem c_append {K : List zF} {f : Nat → Int} {L n : Nat} {x : Int64} {σ : zW} (hT : cT f L σ) (hn : n ≤ 8) (hL : L + n ≤ 600) (k : ∀ σ' : zW, yFr (fun k j => k = 3 ∨ (k = 2 ∧ j = 1)) σ σ' → cT (fdf f L x n) (L + n) σ' → zRet true K none σ') :
    zEv true (zent 81 [.inr (.inr 2), .inr (.inl x), .inl (n : Int)] :: K) σ := by
  have loop : ∀ (m i : Nat) (σ2 : zW), n - i = m → i ≤ n → yFr (fun k j => k = 3 ∨ (k = 2 ∧ j = 1)) σ σ2 → cT (fdf f L x i) (L + i) σ2 → zEv true ((81, 3, [some (.inr (.inr 2)), some (.inr (.inl x)), none, some (.inl (n : Int)), some (.inl (i : Int))], []) :: K) σ2 := by
    intro m
    induction m with
    | zero =>
      intro i σ2 hm hi hF hT2
      rw [zj_81_3, if_pos (by omega)]
      rw [show i = n by omega] at hT2
      exact k σ2 hF hT2
    | succ m ih =>
      intro i σ2 hm hi hF hT2
      have hcc : 0 ≤ ((L + i : Nat) : Int) ∧ ((L + i : Nat) : Int) < 600 := by omega
      obtain ⟨q1, q2, q3, q4⟩ := hT2
      rw [zj_81_3, if_neg (by omega), q2, if_neg (by omega), yAnd hcc, Int.toNat_natCast, c_byte (k := i) (by omega) (by rw [zw_id (by omega) (by omega)]; omega), zw_id (by omega) (by omega), zw_id (by omega) (by omega), show (i : Int) + 1 = ((i + 1 : Nat) : Int) by omega, show ((L + i : Nat) : Int) + 1 = ((L + (i + 1) : Nat) : Int) by omega]
      refine ih (i + 1) _ (by omega) (by omega) ((hF.I (by omega)).I (by omega)) ⟨fun j => ?_, yGI_hit, by omega, fun j hj => ?_⟩
      · rw [gI_sI, if_neg (by omega), gI_sI, ← fdf_s]
        unfold fup
        by_cases e : j = L + i
        · rw [if_pos ⟨rfl, e⟩, if_pos e]
        · rw [if_neg (fun w => e w.2), if_neg e]; exact q1 j
      · rw [← fdf_s]
        unfold fup
        have hb := byt_b x i
        split
        · exact hb
        · exact q4 j (by omega)
  rw [ze_81]
  refine loop n 0 σ rfl (Nat.zero_le _) yFr.rf ?_
  rw [fdf_0]; exact hT
/-- Treegrab.feed -/
theorem c_feed {K : List zF} (hK : K.length + 2 ≤ 60) {f : Nat → Int} {L : Nat} {x : Int64} {z : Int} {σ : zW} (hT : cT f L σ)
    (k1 : (z < 1 ∨ 8 < z) → zThr true K 0 (zex σ)) (k2 : 1 ≤ z → z ≤ 8 → 600 < L + z → zThr true K 1 (zex σ))
    (k : ∀ (n : Nat) (σ' : zW), z = (n : Int) → 1 ≤ n → n ≤ 8 → L + n ≤ 600 → yFr (fun k j => k = 3 ∨ (k = 2 ∧ j = 1)) σ σ' → cT (fdf f L x n) (L + n) σ' → zRet true K (some (.inl ((L + n : Nat) : Int))) σ') :
    zEv true (zent 104 [.inr (.inr 1), .inr (.inl x), .inl z] :: K) σ := by
  have h6 := hT.2.2.1
  rw [ze_104 (by omega)]
  by_cases h1 : z < 1
  · rw [if_pos h1, zj_104_11]; exact k1 (Or.inl h1)
  · rw [if_neg h1]
    by_cases h2 : z ≤ 8
    · rw [if_pos h2, hT.2.1, zw_id (by omega) (by omega)]
      by_cases h3 : (L : Int) + z ≤ 600
      · obtain ⟨n, rfl⟩ : ∃ n : Nat, z = (n : Int) := ⟨z.toNat, by omega⟩
        rw [if_pos h3]
        refine c_append hT (by omega) (by omega) (fun σ' hF hT' => ?_)
        rw [zr_104_55, hT'.2.1]
        exact k n σ' rfl (by omega) (by omega) (by omega) hF hT'
      · rw [if_neg h3]; exact k2 (by omega) h2 (by omega)
    · rw [if_neg h2, zj_104_11]; exact k1 (Or.inr (by omega))
