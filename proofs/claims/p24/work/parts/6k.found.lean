/-! the sets of matches in the class -/
theorem zrem_nat {x y : Nat} (hx : x < 2 ^ 31) (hy : y < 2 ^ 31) : zrem (x : Int) (y : Int) = ((x % y : Nat) : Int) := by
  have hX : (Int32.ofInt (x : Int)).toInt = (x : Int) := i32 (n32 (by omega)) hx
  have hY : (Int32.ofInt (y : Int)).toInt = (y : Int) := i32 (n32 (by omega)) hy
  have hd : (Int32.ofInt (x : Int) / Int32.ofInt (y : Int)).toInt = ((x / y : Nat) : Int) := zdiv_pos hx hy
  unfold zrem
  have hm := Nat.div_add_mod x y
  have hle : y * (x / y) ≤ x := by omega
  have hc : ((x / y : Nat) : Int) * (y : Int) = ((y * (x / y) : Nat) : Int) := by rw [Nat.mul_comm y]; exact (Int.natCast_mul _ _).symm
  rw [Int32.toInt_sub, Int32.toInt_mul, hX, hY, hd, zw_bmod, zw_bmod, hc, zw_id (z := ((y * (x / y) : Nat) : Int)) (by omega) (by omega)]
  generalize y * (x / y) = q at hm hle
  have hr : (x : Int) - (q : Int) = ((x % y : Nat) : Int) := by omega
  rw [hr, zw_id (by omega) (by omega)]
theorem zshl_nat {x k : Nat} (hx : x * 2 ^ k < 2 ^ 31) (hk : k < 31) : zshl (x : Int) (k : Int) = ((x * 2 ^ k : Nat) : Int) := by
  unfold zshl
  refine i32 ?_ hx
  have hp : 0 < 2 ^ k := Nat.pow_pos (by decide)
  have hx2 : x < 2 ^ 32 := Nat.lt_of_le_of_lt (Nat.le_mul_of_pos_right x hp) (Nat.lt_trans hx (by decide))
  rw [Int32.toBitVec_shiftLeft, ysr_all k (by omega), BitVec.shiftLeft_eq', BitVec.toNat_shiftLeft, BitVec.toNat_ofNat, Nat.mod_eq_of_lt (show k < 2 ^ 32 by omega), n32 hx2, Nat.shiftLeft_eq, Nat.mod_eq_of_lt (Nat.lt_trans hx (by decide))]
/-- a set of matches: radix r, N digits, the numbers c of P -/
def fdS (t r N : Nat) (P : Nat → Prop) (σ : zW) : Prop := gI σ t 2 = (r : Int) ∧ gI σ t 3 = (N : Int) ∧ gI σ t 4 = ((r ^ N / 64 + 1 : Nat) : Int) ∧ (∀ j, j < r ^ N / 64 + 1 → ∀ i, i < 64 → ((nv (gL σ (t + 1) j)).testBit i = true ↔ P (64 * j + i))) ∧ gI σ t 5 = ((lst P (r ^ N)).length : Int) ∧ ∀ c, P c → c < r ^ N
theorem fdS_fr {t r N : Nat} {P : Nat → Prop} {σ σ' : zW} {X : Nat → Nat → Prop} (h : fdS t r N P σ) (hF : yFr X σ σ') (hX : ∀ k j, X k j → ¬ (k = t ∧ 2 ≤ j) ∧ k ≠ t + 1) : fdS t r N P σ' := by
  obtain ⟨h1, h2, h3, h4, h5, h6⟩ := h
  refine ⟨(hF.i (fun w => (hX _ _ w).1 (by omega))).trans h1, (hF.i (fun w => (hX _ _ w).1 (by omega))).trans h2, (hF.i (fun w => (hX _ _ w).1 (by omega))).trans h3, fun j hj i hi => ?_, (hF.i (fun w => (hX _ _ w).1 (by omega))).trans h5, h6⟩
  rw [hF.l (fun w => (hX _ _ w).2 rfl)]
  exact h4 j hj i hi
theorem fdS_c {t r N : Nat} {P Q : Nat → Prop} {σ : zW} (h : fdS t r N P σ) (hPQ : ∀ c, P c ↔ Q c) : fdS t r N Q σ := by
  have e : P = Q := funext (fun c => propext (hPQ c))
  rw [← e]; exact h
theorem c_foundClear {K : List zF} {t n N : Nat} {x1 x2 x3 : Int} {σ : zW} (ht : zFo t) (hn : n ≤ 20) (hN : N ≤ 4) (h2 : x2 = (n : Int)) (h3 : x3 = (N : Int))
    (k : ∀ σ' : zW, yFr (fun k j => (k = t ∧ 1 ≤ j) ∨ k = t + 1) σ σ' → fdS t (n + 1) N (fun _ => False) σ' → gI σ' t 1 = x1 → zRet true K none σ') : zEv true (zent 23 [.inr (.inr t), .inl x1, .inl x2, .inl x3] :: K) σ := by
  subst h2
  subst h3
  have hbig := pow_21 hn hN
  have er : w32 ((n : Int) + 1) = ((n + 1 : Nat) : Int) := by clear hbig; rw [zw_id (by omega) (by omega)]; omega
  have hF0 : yFr (fun k j => (k = t ∧ 1 ≤ j) ∨ k = t + 1) σ (sI (sI (sI (sI σ t 1 x1) t 2 ((n + 1 : Nat) : Int)) t 3 (N : Int)) t 5 0) := by
    clear hbig
    exact (((yFr.rf.I (by omega)).I (by omega)).I (by omega)).I (by omega)
  rw [ze_23 ht, er]
  have e1 : gI (sI (sI (sI (sI σ t 1 x1) t 2 ((n + 1 : Nat) : Int)) t 3 (N : Int)) t 5 0) t 1 = x1 := by clear hbig hF0; simp (disch := omega) only [if_pos, if_neg, yAnd, Int.toNat_natCast, zw_id, gI_sI, gI_sL, gI_sR, gL_sI, gL_sL, gL_sR, gR_sI, gR_sL, gR_sR, true_and, and_true, and_self, ite_true, ite_false, ite_self, not_true_eq_false, not_false_eq_true, or_true, true_or, or_false, false_or, yB0, yB1, Decidable.not_not]
  have e2 : gI (sI (sI (sI (sI σ t 1 x1) t 2 ((n + 1 : Nat) : Int)) t 3 (N : Int)) t 5 0) t 2 = ((n + 1 : Nat) : Int) := by clear hbig hF0 e1; simp (disch := omega) only [if_pos, if_neg, yAnd, Int.toNat_natCast, zw_id, gI_sI, gI_sL, gI_sR, gL_sI, gL_sL, gL_sR, gR_sI, gR_sL, gR_sR, true_and, and_true, and_self, ite_true, ite_false, ite_self, not_true_eq_false, not_false_eq_true, or_true, true_or, or_false, false_or, yB0, yB1, Decidable.not_not]
  have e3 : gI (sI (sI (sI (sI σ t 1 x1) t 2 ((n + 1 : Nat) : Int)) t 3 (N : Int)) t 5 0) t 3 = (N : Int) := by clear hbig hF0 e1 e2; simp (disch := omega) only [if_pos, if_neg, yAnd, Int.toNat_natCast, zw_id, gI_sI, gI_sL, gI_sR, gL_sI, gL_sL, gL_sR, gR_sI, gR_sL, gR_sR, true_and, and_true, and_self, ite_true, ite_false, ite_self, not_true_eq_false, not_false_eq_true, or_true, true_or, or_false, false_or, yB0, yB1, Decidable.not_not]
  have e5 : gI (sI (sI (sI (sI σ t 1 x1) t 2 ((n + 1 : Nat) : Int)) t 3 (N : Int)) t 5 0) t 5 = 0 := yGI_hit
  generalize sI (sI (sI (sI σ t 1 x1) t 2 ((n + 1 : Nat) : Int)) t 3 (N : Int)) t 5 0 = σ1 at hF0 e1 e2 e3 e5 ⊢
  clear er
  have hW : (n + 1) ^ N / 64 + 1 ≤ 3039 := by generalize (n + 1) ^ N = r at hbig; omega
  -- the cells
  have loop2 : ∀ (d i : Nat) (o1 o2 o3 o4 : Option zV) (σ2 : zW), (n + 1) ^ N / 64 + 1 - i = d → i ≤ (n + 1) ^ N / 64 + 1 → yFr (fun k _ => k = t + 1) (sI σ1 t 4 (((n + 1) ^ N / 64 + 1 : Nat) : Int)) σ2 → (∀ j, j < i → gL σ2 (t + 1) j = 0) → zEv true ((23, 72, [some (.inr (.inr t)), o1, o2, o3, o4, some (.inl (i : Int))], []) :: K) σ2 := by
    have hF4 : yFr (fun k j => k = t ∧ j = 4) σ1 (sI σ1 t 4 (((n + 1) ^ N / 64 + 1 : Nat) : Int)) := yFr.rf.I ⟨rfl, rfl⟩
    have e4 : gI (sI σ1 t 4 (((n + 1) ^ N / 64 + 1 : Nat) : Int)) t 4 = (((n + 1) ^ N / 64 + 1 : Nat) : Int) := yGI_hit
    generalize sI σ1 t 4 (((n + 1) ^ N / 64 + 1 : Nat) : Int) = σ4 at hF4 e4
    have hg : ∃ W : Nat, W = (n + 1) ^ N / 64 + 1 := ⟨_, rfl⟩
    obtain ⟨W, hWe⟩ := hg
    rw [← hWe] at e4 hW ⊢
    intro d
    induction d with
    | zero =>
      intro i o1 o2 o3 o4 σ2 hd hi hF hE
      have ei : W ≤ i := by clear e4 hWe; omega
      rw [zj_23_72 ht, hF.i (by clear e4 hWe; omega), e4, if_pos (by clear e4 hWe; omega)]
      have hq : ∀ j, j ≠ 4 → gI σ2 t j = gI σ1 t j := fun j hj => (hF.i (by clear e4 hWe; omega)).trans (hF4.i (by clear e4 hWe; omega))
      refine k σ2 ((hF0.trans (hF4.mono (fun k j h => Or.inl (by omega)))).trans (hF.mono (fun k j h => Or.inr h))) ⟨(hq 2 (by decide)).trans e2, (hq 3 (by decide)).trans e3, ?_, fun j hj i' hi' => ?_, ?_, fun c hc => absurd hc (fun w => w)⟩ ((hq 1 (by decide)).trans e1)
      · rw [hF.i (by clear e4 hWe; omega), e4, hWe]
      · rw [← hWe] at hj
        rw [hE j (Nat.lt_of_lt_of_le hj ei), nv_zero, Nat.zero_testBit]
        exact ⟨fun w => absurd w (by decide), fun w => absurd w (fun w => w)⟩
      · have h0 : lst (fun _ => False) ((n + 1) ^ N) = [] := by
          have := lst_skip (P := fun _ => False) (m := 0) ((n + 1) ^ N) (Nat.zero_le _) (fun _ _ _ w => w)
          rw [this]; rfl
        rw [h0]
        exact (hq 5 (by decide)).trans e5
    | succ d ih =>
      intro i o1 o2 o3 o4 σ2 hd hi hF hE
      have hi' : i < W := by clear e4 hWe; omega
      have hci : 0 ≤ (i : Int) ∧ (i : Int) < 3039 := by clear e4 hWe; omega
      have e7 : w32 ((i : Int) + 1) = ((i + 1 : Nat) : Int) := by clear e4 hWe; rw [zw_id (by omega) (by omega)]; omega
      rw [zj_23_72 ht, hF.i (by clear e4 hWe e7; omega), e4, if_neg (by clear e4 hWe e7; omega), yAnd hci, Int.toNat_natCast, e7]
      clear e7
      refine ih (i + 1) _ _ _ _ _ (by clear e4 hWe; omega) hi' (hF.L rfl) (fun j hj => ?_)
      by_cases e : j = i
      · rw [e]; exact yGL_hit
      · rw [gL_sL, if_neg (fun w => e w.2)]
        exact hE j (by clear e4 hWe; omega)
  have loop1 : ∀ (d i : Nat), N - i = d → i ≤ N → zEv true ((23, 28, [some (.inr (.inr t)), some (.inl x1), some (.inl (n : Int)), some (.inl (N : Int)), some (.inl (((n + 1) ^ i : Nat) : Int)), some (.inl (i : Int))], []) :: K) σ1 := by
    intro d
    induction d with
    | zero =>
      intro i hd hi
      have ei : i = N := by clear hbig hW; omega
      subst ei
      rw [zj_23_28 ht, e3, if_pos (Int.le_refl _), show (64 : Int) = ((64 : Nat) : Int) from rfl]
      have hdv : zdiv (((n + 1) ^ i : Nat) : Int) ((64 : Nat) : Int) = (((n + 1) ^ i / 64 : Nat) : Int) := zdiv_pos (Nat.lt_of_le_of_lt hbig (by decide)) (by decide)
      rw [hdv]
      have hmn : (if 3039 < w32 ((((n + 1) ^ i / 64 : Nat) : Int) + 1) then 3039 else w32 ((((n + 1) ^ i / 64 : Nat) : Int) + 1) : Int) = (((n + 1) ^ i / 64 + 1 : Nat) : Int) := by
        clear hdv hbig loop2
        generalize (n + 1) ^ i / 64 = q at hW
        rw [zw_id (by omega) (by omega), if_neg (by omega)]
        omega
      rw [hmn]
      exact loop2 _ 0 _ _ _ _ _ rfl (Nat.zero_le _) yFr.rf (fun j hj => absurd hj (Nat.not_lt_zero j))
    | succ d ih =>
      intro i hd hi
      have hi' : i < N := by clear hbig hW; omega
      have hp : (n + 1) ^ i * (n + 1) ≤ 194481 := by
        rw [← Nat.pow_succ]
        exact Nat.le_trans (Nat.pow_le_pow_right (Nat.succ_pos n) hi') hbig
      have e8 : w32 ((((n + 1) ^ i : Nat) : Int) * ((n + 1 : Nat) : Int)) = (((n + 1) ^ (i + 1) : Nat) : Int) := by
        rw [← Int.natCast_mul, ← Nat.pow_succ] at *
        generalize (n + 1) ^ (i + 1) = q at hp
        clear hbig hW
        exact zw_id (by omega) (by omega)
      have e7 : w32 ((i : Int) + 1) = ((i + 1 : Nat) : Int) := by clear hbig hW hp e8; rw [zw_id (by omega) (by omega)]; omega
      have hni : ¬ (N : Int) ≤ (i : Int) := by clear hbig hW hp e8 e7; omega
      rw [zj_23_28 ht, e3, if_neg hni, e2, e8, e7]
      exact ih (i + 1) (by clear hbig hW hp e8 e7; omega) hi'
  have := loop1 N 0 (Nat.sub_zero _) (Nat.zero_le _)
  rw [Nat.pow_zero] at this
  exact this
theorem pcn_up {r N : Nat} {w : Nat → Int} (hr : 1 ≤ r) (hr2 : r ≤ 21) (hN : N ≤ 4) (hd : dgt r w N) {i : Nat} (hi : i < N) : w32 (w32 (w32 (((pcn r w i : Nat) : Int) * (r : Int)) + w i) + 1) = ((pcn r w (i + 1) : Nat) : Int) := by
  have h1 := pcn_lt (r := r) (w := w) i (fun k hk => hd k (by omega))
  have h2 : r ^ i ≤ 21 ^ 3 := Nat.le_trans (Nat.pow_le_pow_left hr2 i) (Nat.pow_le_pow_right (by decide) (by omega))
  have h3 : (21 : Nat) ^ 3 = 9261 := by decide
  have h4 := hd i hi
  have h5 : pcn r w i * r ≤ 9261 * 21 := Nat.mul_le_mul (by omega) hr2
  rw [pcn, ← Int.natCast_mul]
  generalize pcn r w i * r = q at h5
  clear h1 h2 h3
  rw [zw_id (z := (q : Int)) (by omega) (by omega), zw_id (z := (q : Int) + w i) (by omega) (by omega), zw_id (by omega) (by omega)]
  omega
theorem lst_or {P : Nat → Prop} {c : Nat} : ∀ n, (lst (fun d => P d ∨ d = c) n).length = (lst P n).length + @ite Nat (c < n ∧ ¬ P c) (Classical.propDecidable _) 1 0 := by
  intro n
  induction n with
  | zero => rw [if_neg (fun w => Nat.not_lt_zero _ w.1)]; rfl
  | succ n ih =>
    rcases Classical.em (P n) with h | h
    · rw [lst_y h, lst_y (P := fun d => P d ∨ d = c) (Or.inl h), List.length_append, List.length_append, ih]
      by_cases e : c < n ∧ ¬ P c
      · rw [if_pos e, if_pos ⟨by omega, e.2⟩]; omega
      · rw [if_neg e, if_neg (fun w => e ⟨by
          by_cases q : c = n
          · rw [q] at w; exact absurd h w.2
          · omega, w.2⟩)]; omega
    · by_cases q : n = c
      · rw [lst_n h, lst_y (P := fun d => P d ∨ d = c) (Or.inr q), List.length_append, ih, if_neg (fun w => by omega), if_pos ⟨by omega, by rw [← q]; exact h⟩]
        rfl
      · rw [lst_n h, lst_n (P := fun d => P d ∨ d = c) (fun w => by rcases w with w | w; exact h w; exact q w), ih]
        by_cases e : c < n ∧ ¬ P c
        · rw [if_pos e, if_pos ⟨by omega, e.2⟩]
        · rw [if_neg e, if_neg (fun w => e ⟨by omega, w.2⟩)]
theorem bit_one {k : Nat} (hk : k < 64) : nv (zlshl 1 (k : Int)) = 2 ^ k := by
  rw [nv_shl hk, show nv 1 = 1 from rfl, Nat.one_mul]
  exact Nat.mod_eq_of_lt (Nat.pow_lt_pow_right (by decide) hk)
theorem bit_test {x : Int64} {k : Nat} (hk : k < 64) : zlc (x &&& zlshl 1 (k : Int)) 0 = 0 ↔ (nv x).testBit k = false := by
  rw [zlc_eq]
  constructor
  · intro h
    have h1 := congrArg nv h
    rw [nv_and, bit_one hk, nv_zero] at h1
    have h2 := congrArg (fun n => Nat.testBit n k) h1
    simp only [Nat.testBit_and, Nat.testBit_two_pow_self, Bool.and_true, Nat.zero_testBit] at h2
    exact h2
  · intro h
    refine nv_inj ?_
    rw [nv_and, bit_one hk, nv_zero]
    refine Nat.eq_of_testBit_eq (fun i => ?_)
    rw [Nat.testBit_and, Nat.testBit_two_pow, Nat.zero_testBit]
    by_cases e : k = i
    · rw [← e, h]; rfl
    · rw [decide_eq_false e, Bool.and_false]
theorem c_foundEnter {K : List zF} {t r N : Nat} {P : Nat → Prop} {w : Nat → Int} {σ : zW} (ht : zFo t) (hr : 1 ≤ r) (hr2 : r ≤ 21) (hN : N ≤ 4) (hd : dgt r w N) (h48 : ∀ j, j < N → gI σ 48 j = w j) (hS : fdS t r N P σ)
    (k : ∀ σ' : zW, yFr (fun k j => (k = t ∧ j = 5) ∨ k = t + 1) σ σ' → fdS t r N (fun c => P c ∨ c = pcn r w N) σ' → zRet true K none σ') : zEv true (zent 24 [.inr (.inr t), .inr (.inr 48)] :: K) σ := by
  have ht48 : t ≠ 48 := by rcases ht with rfl | rfl <;> decide
  obtain ⟨s2, s3, s4, sb, s5, sl⟩ := hS
  have hlt := pcn_lt (r := r) (w := w) N hd
  have hbig : r ^ N ≤ 194481 := by
    have := pow_21 (n := r - 1) (N := N) (by omega) hN
    rw [show r - 1 + 1 = r by omega] at this; exact this
  have fin : ∀ c : Nat, c = pcn r w N → ∀ o1 o3 o4 o5 : Option zV, zEv true ((24, 37, [some (.inr (.inr t)), o1, some (.inl (c : Int)), o3, o4, o5], []) :: K) σ := fun c hc o1 o3 o4 o5 => by
    rw [← hc] at hlt
    have k' : ∀ σ' : zW, yFr (fun k j => (k = t ∧ j = 5) ∨ k = t + 1) σ σ' → fdS t r N (fun d => P d ∨ d = c) σ' → zRet true K none σ' := fun σ' a b => k σ' a (by rw [← hc]; exact b)
    clear k hc
    have hcW : c / 64 < r ^ N / 64 + 1 := by
      have : c / 64 ≤ r ^ N / 64 := Nat.div_le_div_right (Nat.le_of_lt hlt)
      omega
    have hW : r ^ N / 64 + 1 ≤ 3039 := by generalize r ^ N = R at hbig; omega
    have hc31 : c < 2 ^ 31 := Nat.lt_trans (Nat.lt_of_lt_of_le hlt hbig) (by decide)
    have hlen := lst_or (P := P) (c := c) (r ^ N)
    have hl1 := lst_len (P := P) (r ^ N)
    have ec : c = 64 * (c / 64) + c % 64 := by clear hlen; omega
    have h63 : c % 64 < 64 := Nat.mod_lt _ (by decide)
    have hb := sb (c / 64) hcW (c % 64) h63
    rw [← ec] at hb
    have hand : zand (c : Int) 63 = ((c % 64 : Nat) : Int) := by
      rw [show (63 : Int) = ((63 : Nat) : Int) from rfl, zand_nat hc31 (by decide), show (63 : Nat) = 2 ^ 6 - 1 from rfl, Nat.and_two_pow_sub_one_eq_mod]
    have hshr : zshr (c : Int) 6 = ((c / 64 : Nat) : Int) := zshr_nat (k := 6) hc31 (by decide)
    have c1 : ¬ ((c / 64 : Nat) : Int) < 0 := by clear hlen hb; omega
    have c2 : ((c / 64 : Nat) : Int) < ((r ^ N / 64 + 1 : Nat) : Int) := Int.ofNat_lt.mpr hcW
    have c3 : 0 ≤ ((c / 64 : Nat) : Int) ∧ ((c / 64 : Nat) : Int) < 3039 := ⟨Int.not_lt.mp c1, Int.lt_of_lt_of_le c2 (Int.ofNat_le.mpr hW)⟩
    rw [zj_24_37 ht, hshr, s4, if_neg c1, if_pos c2, yAnd c3, yAnd c3, yAnd c3, Int.toNat_natCast, hand, s5]
    have hcnt : w32 (((lst P (r ^ N)).length : Int) + (if ¬ zlc (gL σ (t + 1) (c / 64) &&& zlshl 1 ((c % 64 : Nat) : Int)) 0 = 0 then 0 else 1 : Int)) = ((lst (fun d => P d ∨ d = c) (r ^ N)).length : Int) := by
      rw [hlen]
      rcases Classical.em (P c) with q | q
      · rw [if_pos (fun w => by rw [(bit_test h63).mp w] at hb; exact absurd (hb.mpr q) (by decide)), if_neg (fun w => w.2 q)]
        clear hlen hb hcW hW ec h63 hand hshr c1 c2 c3 hlt s4 s5
        generalize (lst P (r ^ N)).length = l at hl1
        generalize r ^ N = R at hl1 hbig
        rw [zw_id (by omega) (by omega)]; omega
      · rw [if_neg (fun w => w ((bit_test h63).mpr (by
          cases hbb : (nv (gL σ (t + 1) (c / 64))).testBit (c % 64) with
          | false => rfl
          | true => exact absurd (hb.mp hbb) q))), if_pos ⟨hlt, q⟩]
        clear hlen hb hcW hW ec h63 hand hshr c1 c2 c3 hlt s4 s5
        generalize (lst P (r ^ N)).length = l at hl1
        generalize r ^ N = R at hl1 hbig
        rw [zw_id (by omega) (by omega)]; omega
    rw [hcnt]
    have hbt := bit_one h63
    have hF : yFr (fun k j => (k = t ∧ j = 5) ∨ k = t + 1) σ (sL (sI σ t 5 ((lst (fun d => P d ∨ d = c) (r ^ N)).length : Int)) (t + 1) (c / 64) (gL σ (t + 1) (c / 64) ||| zlshl 1 ((c % 64 : Nat) : Int))) := (yFr.rf.I (Or.inl ⟨rfl, rfl⟩)).L (Or.inr rfl)
    clear hlen hl1
    refine k' _ hF ⟨(hF.i (by clear hb hcnt ec; omega)).trans s2, (hF.i (by clear hb hcnt ec; omega)).trans s3, (hF.i (by clear hb hcnt ec; omega)).trans s4, fun j hj i hi => ?_, ?_, fun d hd2 => ?_⟩
    · rw [gL_sL]
      by_cases e : j = c / 64
      · rw [if_pos ⟨rfl, e⟩, nv_or, hbt, Nat.testBit_or, Nat.testBit_two_pow, Bool.or_eq_true, ← e, sb j hj i hi]
        constructor
        · rintro (w | w)
          · exact Or.inl w
          · refine Or.inr ?_
            have := of_decide_eq_true w
            clear hb hcnt
            omega
        · rintro (w | w)
          · exact Or.inl w
          · refine Or.inr (decide_eq_true ?_)
            clear hb hcnt
            omega
      · rw [if_neg (fun w => e w.2), gL_sI, sb j hj i hi]
        refine ⟨fun w => Or.inl w, fun w => ?_⟩
        rcases w with w | w
        · exact w
        · exact absurd (show j = c / 64 by clear hb hcnt; omega) e
    · rw [gI_sL, yGI_hit]
    · rcases hd2 with w | w
      · exact sl d w
      · rw [w]; exact hlt
  have loop : ∀ (d i : Nat), N - i = d → i ≤ N → zEv true ((24, 4, [some (.inr (.inr t)), some (.inr (.inr 48)), some (.inl ((pcn r w i : Nat) : Int)), some (.inl (i : Int)), none, none], []) :: K) σ := by
    intro d
    induction d with
    | zero =>
      intro i hd2 hi
      have ei : i = N := by clear hlt hbig; omega
      rw [zj_24_4 ht, s3, if_pos (by clear hlt hbig; omega), ei]
      exact fin _ rfl _ _ _ _
    | succ d ih =>
      intro i hd2 hi
      have hi' : i < N := by clear hlt hbig; omega
      have hci : 0 ≤ (i : Int) ∧ (i : Int) < 4 := by clear hlt hbig; omega
      have e7 : w32 ((i : Int) + 1) = ((i + 1 : Nat) : Int) := by clear hlt hbig; rw [zw_id (by omega) (by omega)]; omega
      have hni : ¬ (N : Int) ≤ (i : Int) := by clear hlt hbig e7; omega
      have hn4 : ¬ (4 : Int) ≤ (i : Int) := by clear hlt hbig e7; omega
      have e48 := h48 i hi'
      rw [zj_24_4 ht, s3, if_neg hni, if_neg hn4, yAnd hci, Int.toNat_natCast, s2, e48, pcn_up hr hr2 hN hd hi', e7]
      exact ih (i + 1) (by clear hlt hbig e7 e48; omega) hi'
  rw [ze_24]
  exact loop N 0 (Nat.sub_zero _) (Nat.zero_le _)
