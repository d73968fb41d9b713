/-! the out: texts -/
abbrev TX : Type := Nat × (Nat → Int)
def apt (t : TX) (x : Int) : TX := (t.1 + 1, fup t.2 t.1 x)
def cO (t : TX) (σ : zW) : Prop := gI σ 66 1 = (t.1 : Int) ∧ ∀ j, j < t.1 → gI σ 67 j = t.2 j
abbrev Xco : Nat → Nat → Prop := fun k j => k = 67 ∨ (k = 66 ∧ j = 1)
abbrev Xmo : Nat → Nat → Prop := fun k j => k = 185 ∨ (k = 122 ∧ j = 87)
theorem c_put {K : List zF} {t : TX} {x : Int} {σ : zW} (h : cO t σ) (hl : t.1 < 184) (k : ∀ σ' : zW, yFr Xco σ σ' → cO (apt t x) σ' → zRet true K none σ') : zEv true (zent 32 [.inr (.inr 66), .inl x] :: K) σ := by
  obtain ⟨h1, h2⟩ := h
  have hcc : 0 ≤ (t.1 : Int) ∧ (t.1 : Int) < 184 := by omega
  rw [ze_32, h1, if_neg (by omega), yAnd hcc, Int.toNat_natCast, zw_id (by omega) (by omega)]
  refine k _ ((yFr.rf.I (by omega)).I (by omega)) ⟨?_, fun j hj => ?_⟩
  · rw [yGI_hit]; show _ = ((t.1 + 1 : Nat) : Int); omega
  · have hj2 : j < t.1 + 1 := hj
    show _ = fup t.2 t.1 x j
    rw [gI_sI, if_neg (by omega)]
    by_cases e : j = t.1
    · subst e; rw [yGI_hit, fup_eq]
    · rw [gI_sI, if_neg (by omega), fup_ne e]; exact h2 j (by omega)
/-- a label's bytes behind a text, from byte i on -/
def lbt (v : Int64) : Nat → Nat → TX → TX
  | 0, _, t => t
  | k + 1, i, t => if byt v i = 0 then lbt v k (i + 1) t else lbt v k (i + 1) (apt t (byt v i))
theorem lbt_len (v : Int64) : ∀ (k i : Nat) (t : TX), (lbt v k i t).1 ≤ t.1 + k := by
  intro k
  induction k with
  | zero => intro i t; exact Nat.le_refl _
  | succ k ih =>
    intro i t
    rw [lbt]
    split
    · have := ih (i + 1) t; omega
    · have := ih (i + 1) (apt t (byt v i)); have : (apt t (byt v i)).1 = t.1 + 1 := rfl; omega
theorem c_putLabel {K : List zF} (hK : K.length + 1 ≤ 60) {v : Int64} {t : TX} {σ : zW} (h : cO t σ) (hl : t.1 + 6 ≤ 184) (k : ∀ σ' : zW, yFr Xco σ σ' → cO (lbt v 6 0 t) σ' → zRet true K none σ') : zEv true (zent 33 [.inr (.inr 66), .inr (.inl v)] :: K) σ := by
  have loop : ∀ (m i : Nat) (t2 : TX) (o4 : Option zV) (σ2 : zW), i + m = 6 → t2.1 + m ≤ 184 → yFr Xco σ σ2 → cO t2 σ2 → lbt v m i t2 = lbt v 6 0 t → zEv true ((33, 2, [some (.inr (.inr 66)), some (.inr (.inl v)), none, some (.inl (i : Int)), o4], []) :: K) σ2 := by
    intro m
    induction m with
    | zero =>
      intro i t2 o4 σ2 hi ht hF hO hE
      rw [zj_33_2 (by omega), if_pos (by omega)]
      exact k σ2 hF (hE ▸ hO)
    | succ m ih =>
      intro i t2 o4 σ2 hi ht hF hO hE
      rw [zj_33_2 (by omega), if_neg (by omega), c_byte (k := i) (by omega) (by rw [zw_id (by omega) (by omega)]; omega), zw_id (by omega) (by omega), show (i : Int) + 1 = ((i + 1 : Nat) : Int) by omega]
      rw [lbt] at hE
      by_cases e : byt v i = 0
      · rw [if_pos e] at hE ⊢
        exact ih (i + 1) t2 _ σ2 (by omega) (by omega) hF hO hE
      · rw [if_neg e] at hE ⊢
        refine c_put hO (by omega) (fun σ' hF2 hO2 => ?_)
        rw [zr_33_32, zw_id (by omega) (by omega), show (i : Int) + 1 = ((i + 1 : Nat) : Int) by omega]
        exact ih (i + 1) _ _ σ' (by omega) (by show t2.1 + 1 + m ≤ 184; omega) (hF.trans hF2) hO2 hE
  rw [ze_33]
  exact loop 6 0 t none σ rfl (by omega) yFr.rf h rfl
theorem lgood_bytes {v : Int64} (h : lgood v) : ∃ m : Nat, 1 ≤ m ∧ m ≤ 6 ∧ nv v < 256 ^ m ∧ (∀ i, i < m → 48 ≤ byt v i) ∧ ∀ i, m ≤ i → byt v i = 0 := by
  obtain ⟨g, n, h1, h2, h3, rfl⟩ := h
  have hb : ∀ i, i < n → 0 ≤ g i ∧ g i < 256 := fun i hi => ⟨by have := h3 i hi; omega, by have := h3 i hi; omega⟩
  have hv := nv_pkf n (by omega) hb
  refine ⟨n, h1, h2, by rw [hv]; exact pkn_lt n hb, fun i hi => ?_, fun i hi => ?_⟩
  · unfold byt
    rw [hv, ← pow256, pkn_digit n i hb, if_pos hi]
    have := h3 i hi; omega
  · unfold byt
    rw [hv, ← pow256, pkn_digit n i hb, if_neg (by omega)]; rfl
theorem lbt_end {v : Int64} : ∀ (k i : Nat) (t : TX), (∀ j, i ≤ j → byt v j = 0) → lbt v k i t = t := by
  intro k
  induction k with
  | zero => intro i t _; rfl
  | succ k ih =>
    intro i t h
    rw [lbt, if_pos (h i (Nat.le_refl _))]
    exact ih (i + 1) t (fun j hj => h j (by omega))
theorem nv_shr8 {x : Int64} (h : nv x < 2 ^ 63) : nv (zlshr x 8) = nv x / 256 := by
  unfold nv at h ⊢
  unfold zlshr
  have e8 : ((Int32.ofInt (8 : Int)).toInt64 &&& 63).toBitVec.smod 64 = BitVec.ofNat 64 8 := ysh_all 8 (by omega)
  rw [Int64.toBitVec_shiftRight, e8, BitVec.sshiftRight_eq', BitVec.toNat_ofNat, Nat.mod_eq_of_lt (show 8 < 2 ^ 64 by omega)]
  rw [BitVec.sshiftRight_eq_of_msb_false (by rw [BitVec.msb_eq_false_iff_two_mul_lt]; omega), BitVec.toNat_ushiftRight, Nat.shiftRight_eq_div_pow]
