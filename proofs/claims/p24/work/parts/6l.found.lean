/-! the sets of matches: which number a match has -/
theorem lst_app {P : Nat → Prop} {m : Nat} : ∀ n, lst P (m + n) = lst P m ++ (lst (fun i => P (m + i)) n).map (fun i => m + i) := by
  intro n
  induction n with
  | zero => exact (List.append_nil _).symm
  | succ n ih =>
    rw [← Nat.add_assoc]
    rcases Classical.em (P (m + n)) with h | h
    · rw [lst_y h, lst_y (P := fun i => P (m + i)) h, ih, List.map_append, List.append_assoc]; rfl
    · rw [lst_n h, lst_n (P := fun i => P (m + i)) h, ih]
theorem lst_last {P : Nat → Prop} {M n : Nat} (hP : ∀ c, P c → c < M) (h : M ≤ n) : lst P n = lst P M := lst_skip n h (fun c c1 _ hc => by have := hP c hc; omega)
noncomputable abbrev lbs (x : Int64) : List Nat := lst (fun i => (nv x).testBit i = true) 64
theorem lbs_cons {x : Int64} (h : lbs x ≠ []) : ∃ k, k < 64 ∧ low (nv x) k ∧ lbs x = k :: lbs (x &&& (x - 1)) := by
  have hex : ∃ i, i < 64 ∧ (nv x).testBit i = true := by
    refine Classical.byContradiction (fun q => h ?_)
    have := lst_skip (P := fun i => (nv x).testBit i = true) (m := 0) 64 (Nat.zero_le _) (fun c _ hc w => q ⟨c, hc, w⟩)
    exact this
  obtain ⟨k, k1, k2⟩ := low_ex 64 hex
  refine ⟨k, k1, k2, ?_⟩
  have h1 := lst_low (P := fun i => (nv x).testBit i = true) k2.1 (fun i hi w => by rw [k2.2 i hi] at w; exact absurd w (by decide)) 64 k1
  show lst _ 64 = _
  rw [h1]
  congr 1
  exact cnt_c 64 (fun i _ => (nv_drop k2 i).symm)
theorem c_inWord {K : List zF} (hK : K.length + 1 < 60) {t : Nat} {o1 : Option zV} {w : Int64} {left j e : Nat} {σ : zW} (hj : j < 3039) (he : (lbs w)[left]? = some e) : ∀ (d x7 : Nat) (y : Int64) (o4 : Option zV), left - x7 = d → x7 ≤ left → lbs y = (lbs w).drop x7 →
    zEv true ((25, 40, [some (.inr (.inr t)), o1, some (.inl (left : Int)), some (.inl (j : Int)), o4, some (.inr (.inl y)), none, some (.inl (x7 : Int))], []) :: K) σ = zRet true K (some (.inl ((64 * j + e : Nat) : Int))) σ := by
  have hll : left < 64 := Nat.lt_of_lt_of_le (List.getElem?_eq_some_iff.mp he).1 (lst_len 64)
  have hne : ∀ (x7 : Nat) (y : Int64), x7 ≤ left → lbs y = (lbs w).drop x7 → lbs y ≠ [] := fun x7 y hx h q => by
    rw [q] at h
    have h1 := congrArg List.length h
    rw [List.length_drop] at h1
    have h2 := (List.getElem?_eq_some_iff.mp he).1
    simp only [List.length_nil] at h1
    omega
  intro d
  induction d with
  | zero =>
    intro x7 y o4 hd hx hy
    have ex : x7 = left := by omega
    subst ex
    obtain ⟨k, k1, k2, k3⟩ := lbs_cons (hne _ y hx hy)
    have hk : k = e := by
      have h1 : ((lbs w).drop x7)[0]? = some e := by rw [List.getElem?_drop, Nat.add_zero]; exact he
      rw [← hy, k3] at h1
      exact Option.some.inj h1
    have hs : zshl (j : Int) 6 = ((64 * j : Nat) : Int) := by
      have := zshl_nat (x := j) (k := 6) (by rw [pow31]; omega) (by decide)
      rw [Nat.mul_comm] at this
      exact this
    rw [zj_25_40 (by omega), if_pos (Int.le_refl _), c_ntzL (yL (by omega)) k1 k2, zr_25_70, hs, hk, zw_id (by omega) (by omega)]
    rfl
  | succ d ih =>
    intro x7 y o4 hd hx hy
    obtain ⟨k, k1, k2, k3⟩ := lbs_cons (hne _ y hx hy)
    have e7 : w32 ((x7 : Int) + 1) = ((x7 + 1 : Nat) : Int) := by rw [zw_id (by omega) (by omega)]; omega
    rw [zj_25_40 (by omega), if_neg (by omega), e7]
    refine ih (x7 + 1) _ _ (by omega) (by omega) ?_
    rw [← List.drop_drop, ← hy, k3]
    rfl
theorem c_numLoop {K : List zF} (hK : K.length + 1 < 60) {t W i c : Nat} {P : Nat → Prop} {σ : zW} (ht : zFo t) (s4 : gI σ t 4 = (W : Int)) (hW : W ≤ 3039) (hw : ∀ j, j < W → lbs (gL σ (t + 1) j) = lst (fun i => P (64 * j + i)) 64) (hi : (lst P (64 * W))[i]? = some c) : ∀ (d j left : Nat) (o1 o4 : Option zV), W - j = d → j ≤ W → (lst P (64 * j)).length + left = i → zEv true ((25, 4, [some (.inr (.inr t)), o1, some (.inl (left : Int)), some (.inl (j : Int)), o4, none, none, none], []) :: K) σ = zRet true K (some (.inl (c : Int))) σ := by
  have hil := (List.getElem?_eq_some_iff.mp hi).1
  have hl1 := lst_len (P := P) (64 * W)
  intro d
  induction d with
  | zero =>
    intro j left o1 o4 hd hj he
    have ej : j = W := by clear he hil hl1; omega
    rw [ej] at he
    exact absurd hil (Nat.not_lt_of_le (by rw [← he]; exact Nat.le_add_right _ _))
  | succ d ih =>
    intro j left o1 o4 hd hj he
    have hj' : j < W := by clear he hil hl1; omega
    have hd1 : W - (j + 1) = d := by clear he hil hl1; omega
    have hj3 : j < 3039 := Nat.lt_of_lt_of_le hj' hW
    have hcj : 0 ≤ (j : Int) ∧ (j : Int) < 3039 := ⟨Int.natCast_nonneg j, Int.ofNat_lt.mpr hj3⟩
    have hnj : ¬ (W : Int) ≤ (j : Int) := fun w => absurd (Int.ofNat_le.mp w) (Nat.not_le_of_lt hj')
    have hk1 : K.length < 60 := by clear he hil hl1; omega
    have hx : 64 * j + 64 ≤ 64 * W := by clear he hil hl1; omega
    have hleft : left < 16777216 := by
      have h2 : 64 * W ≤ 194496 := by clear he hil hl1; omega
      have h3 : left ≤ i := by rw [← he]; exact Nat.le_add_left _ _
      exact Nat.lt_of_le_of_lt h3 (Nat.lt_of_lt_of_le hil (Nat.le_trans hl1 (Nat.le_trans h2 (by decide))))
    have hcnt := cnt_add P (64 * j) 64
    have hwj := hw j hj'
    have hpj : pop 8 (nv (gL σ (t + 1) j)) = (lst (fun i => P (64 * j + i)) 64).length := by rw [pop_cnt, ← hwj]
    have happ := lst_app (P := P) (m := 64 * j) 64
    rw [zj_25_4 hk1 ht, s4, if_neg hnj, yAnd hcj, Int.toNat_natCast, c_bitCountL, zr_25_21 ht, hpj]
    by_cases cl : ((lst (fun i => P (64 * j + i)) 64).length : Int) ≤ (left : Int)
    · rw [if_pos cl]
      have hlt : (lst (fun i => P (64 * j + i)) 64).length ≤ left := Int.ofNat_le.mp cl
      rw [w_sub hleft hlt, show w32 ((j : Int) + 1) = ((j + 1 : Nat) : Int) from w_add2 (y := 1) (Nat.lt_trans hj3 (by decide)) (by decide)]
      refine ih (j + 1) _ _ _ hd1 hj' ?_
      rw [Nat.mul_add, Nat.mul_one, hcnt, Nat.add_assoc, Nat.add_sub_cancel' hlt]
      exact he
    · rw [if_neg cl, yAnd hcj, Int.toNat_natCast]
      have hlt : left < (lst (fun i => P (64 * j + i)) 64).length := Nat.lt_of_not_le (fun w => cl (Int.ofNat_le.mpr w))
      obtain ⟨e, hee⟩ : ∃ e, (lst (fun i => P (64 * j + i)) 64)[left]? = some e := ⟨_, List.getElem?_eq_getElem hlt⟩
      have hc : c = 64 * j + e := by
        have h1 : (lst P (64 * j + 64))[i]? = some (64 * j + e) := by
          rw [happ, ← he, List.getElem?_append_right (Nat.le_add_right _ _), Nat.add_sub_cancel_left, List.getElem?_map, hee]
          rfl
        have h2 := lst_pre (P := P) (m := 64 * j + 64) _ hx i (List.getElem?_eq_some_iff.mp h1).1
        rw [hi, h1] at h2
        exact Option.some.inj h2
      rw [hc]
      refine c_inWord (w := gL σ (t + 1) j) (left := left) (e := e) hK hj3 (by rw [hwj]; exact hee) left 0 _ _ (Nat.sub_zero _) (Nat.zero_le _) ?_
      rw [List.drop_zero]
theorem pow_r {r N : Nat} (hr : 1 ≤ r) (hr2 : r ≤ 21) (hN : N ≤ 4) : r ^ N ≤ 194481 := by
  have := pow_21 (n := r - 1) (N := N) (by omega) hN
  rw [show r - 1 + 1 = r by omega] at this
  exact this
theorem c_numberOf {K : List zF} (hK : K.length + 1 < 60) {t r N i c : Nat} {P : Nat → Prop} {z : Int} {σ : zW} (ht : zFo t) (hr2 : r ≤ 21) (hr : 1 ≤ r) (hN : N ≤ 4) (hS : fdS t r N P σ) (hi : (lst P (r ^ N))[i]? = some c) (hz : z = (i : Int)) : zEv true (zent 25 [.inr (.inr t), .inl z] :: K) σ = zRet true K (some (.inl (c : Int))) σ := by
  subst hz
  obtain ⟨s2, s3, s4, sb, s5, sl⟩ := hS
  have hbig := pow_r hr hr2 hN
  have hle : r ^ N ≤ 64 * (r ^ N / 64 + 1) := by generalize r ^ N = R; omega
  have hfull : lst P (64 * (r ^ N / 64 + 1)) = lst P (r ^ N) := lst_last sl hle
  have hW : r ^ N / 64 + 1 ≤ 3039 := by clear hfull hle; generalize r ^ N = R at hbig; omega
  rw [ze_25]
  refine c_numLoop (i := i) (P := P) (W := r ^ N / 64 + 1) hK ht s4 hW (fun j hj => cnt_c 64 (fun i hi => sb j hj i hi)) (by rw [hfull]; exact hi) _ 0 i _ _ rfl (Nat.zero_le _) ?_
  exact Nat.zero_add i
theorem c_nodeIn {K : List zF} (hK : K.length + 2 < 60) {t r N i c j : Nat} {P : Nat → Prop} {z x : Int} {σ : zW} (ht : zFo t) (hr2 : r ≤ 21) (hr : 1 ≤ r) (hN : N ≤ 4) (hS : fdS t r N P σ) (hi : (lst P (r ^ N))[i]? = some c) (hj : j < N) (hz : z = (i : Int)) (hx : x = (j : Int)) : zEv true (zent 26 [.inr (.inr t), .inl z, .inl x] :: K) σ = zRet true K (some (.inl (wdc r N c j))) σ := by
  subst hx
  have s2 := hS.1
  have s3 := hS.2.1
  have hbig := pow_r hr hr2 hN
  have hcl : c < r ^ N := hS.2.2.2.2.2 c (((lst_mem _).mp (List.mem_of_getElem? hi)).2)
  have hr0 : ¬ (r : Int) = 0 := by clear hbig hcl; omega
  have loop : ∀ (d v m : Nat), m - j = d → j ≤ m → m < N → v < 194481 → v / r ^ d % r = c / r ^ (N - 1 - j) % r → zEv true ((26, 24, [some (.inr (.inr t)), some (.inl z), some (.inl (j : Int)), some (.inl (v : Int)), some (.inl (m : Int))], []) :: K) σ = zRet true K (some (.inl (wdc r N c j))) σ := by
    intro d
    induction d with
    | zero =>
      intro v m hd hm hmN hv he
      rw [Nat.pow_zero, Nat.div_one] at he
      have hml : v % r < r := Nat.mod_lt _ hr
      rw [zj_26_24 ht, if_pos (by clear he hbig hcl; omega), s2, yAnd hr0, zrem_nat (by rw [pow31]; clear he hbig hcl; omega) (by rw [pow31]; clear he hbig hcl; omega)]
      unfold wdc
      rw [if_pos hj, ← he]
      clear he hbig hcl
      rw [zw_id (by omega) (by omega)]
    | succ d ih =>
      intro v m hd hm hmN hv he
      have hvr := Nat.div_le_self v r
      have e7 : w32 ((m : Int) + (-1)) = ((m - 1 : Nat) : Int) := by clear he hbig hcl hvr; rw [zw_id (by omega) (by omega)]; omega
      rw [zj_26_24 ht, if_neg (by clear he hbig hcl hvr e7; omega), s2, yAnd hr0, zdiv_pos (by clear he hbig hcl hvr e7; omega) (by clear he hbig hcl hvr e7; omega), e7]
      refine ih _ (m - 1) (by clear he hbig hcl hvr e7; omega) (by clear he hbig hcl hvr e7; omega) (by clear he hbig hcl hvr e7; omega) (Nat.lt_of_le_of_lt hvr hv) ?_
      rw [Nat.div_div_eq_div_mul, ← Nat.pow_succ']
      exact he
  have hk2 : K.length + 1 + 1 < 60 := by clear hbig hcl; omega
  rw [ze_26 (by clear hbig hcl; omega) ht, c_numberOf (K := _ :: K) hk2 ht hr2 hr hN hS hi hz, zr_26_5 ht, s2, if_pos (by clear hbig hcl; omega), s3, zw_id (by clear hbig hcl; omega) (by clear hbig hcl; omega), show (N : Int) - 1 = ((N - 1 : Nat) : Int) by clear hbig hcl; omega]
  exact loop (N - 1 - j) c (N - 1) rfl (by clear hbig hcl; omega) (by clear hbig hcl; omega) (Nat.lt_of_lt_of_le hcl hbig) rfl
