/-! a round of the law -/
theorem ttx_pos {T : TRE} {lb : Nat → Int} : ∀ k, 1 ≤ k → 1 ≤ (ttx T lb k).length := by
  intro k hk
  obtain ⟨j, rfl⟩ : ∃ j, k = j + 1 := ⟨k - 1, by omega⟩
  rw [ttx, List.length_append, ndx, List.length_append, List.length_append, List.length_cons]
  omega
theorem v_planted {K : List zF} (hK : K.length + 14 ≤ 60) {l : List Int} {R : STR} {u : Nat} {w : Int64} {T : TRE} {σ : zW} (h : LO l R u σ) (hr : tread (lfn l) l.length = .inr T) (k : ∀ σ', lFr 1 σ σ' → LO [] (fup R.1 0 T, R.2.1, R.2.2.1, (0, 0), R.2.2.2.2.1, fup R.2.2.2.2.2 0 []) u σ' → zRet true K (some (.inl (T.1 : Int))) σ') : zEv true (zent 140 [.inr (.inr 1), .inl 1, .inr (.inl w), .inl 0] :: K) σ := by
  obtain ⟨y, f, hW, he⟩ := h
  rw [← tread_cg he] at hr
  have e : oPlant ((f, l.length), rO R y) 0 = (0, (T.1 : Int), ((f, 0), rO (fup R.1 0 T, R.2.1, R.2.2.1, (0, 0), R.2.2.2.2.1, fup R.2.2.2.2.2 0 []) y)) := by
    unfold oPlant
    rw [if_pos (by decide)]
    show (match tread f l.length with | .inl e => _ | .inr T => _) = _
    rw [hr]
    rfl
  refine v_act1 hK hW (fun σ' hF hW' => ?_)
  rw [e] at hW' ⊢
  exact k σ' hF ⟨y, f, hW', fun i hi => absurd hi (Nat.not_lt_zero i)⟩
theorem lFr.c {n : Nat} {σ σ' : zW} (h : lFr n σ σ') : gC σ' ≤ gC σ + n ∧ gS σ' ≤ gS σ + 6 * n := h.2
theorem k1_ok {j : Nat} (hj : j ≤ 40) (F : zF) : [F].length + j ≤ 60 := by show 1 + j ≤ 60; omega
theorem room_c {a b c n x p q : Nat} (hq : q ≤ p) (h1 : a ≤ x + p * n) (h2 : b = a) (h3 : c ≤ b + q) : c ≤ x + p * (n + 1) := by
  rw [Nat.mul_succ]
  generalize p * n = y at *
  omega
def LI (L n : Nat) (σ : zW) : Prop := ∃ (Ts : Nat → TRE) (H : Nat → List TRE) (u : Nat), LT Ts H u σ ∧ (Ts 1).1 = 0 ∧ u ≤ 8 + 6 * n ∧ scr L σ ∧ gC σ ≤ 300 + 4000 * n ∧ gS σ ≤ 41000 + 24000 * n
theorem wfd_cg {n n' : Nat} {dep dep' : Nat → Nat} (h : wfd n dep) (hn : n' = n) (hd : ∀ i, i < n → dep' i = dep i) : wfd n' dep' := by
  subst hn
  refine ⟨h.1, fun q => by rw [hd 0 q]; exact h.2.1 q, fun i hi => ?_⟩
  rw [hd i (by omega), hd (i + 1) hi]
  exact h.2.2 i hi
/-- what follows when the tree is told -/
theorem law_in {L n m u v : Nat} {R : STR} {σ : zW} {tt lb : Nat → Int} {o8 o9 o10 : Option zV} (hn : n < 8) (hv : v < 2147483648) (hu : u + 6 ≤ 500) (h9 : (R.1 1).1 = 0) (hH : R.2.2.2.2.2 0 = []) (hV : LO [] R u σ) (hT : tmT (R.1 0) tt lb) (hl : lbT (R.1 0) lb) (hA : tmA (R.1 0).1 tt lb σ) (hQ : ∀ i, i < (R.1 0).1 → lb i ≠ 81) (hs : scr L σ)
    (kk : ∀ (σ' : zW) (u' : Nat) (o6 o7 o8 o9 o10 : Option zV), lFr 3600 σ σ' → u' ≤ u + 6 → LT R.1 R.2.2.2.2.2 u' σ' → zEv true [(165, 58, [some (.inr (.inr 99999)), some (.inr (.inr 1)), some (.inr (.inr 122)), some (.inr (.inr 123)), some (.inl 1), some (.inl ((n + 1 : Nat) : Int)), o6, o7, o8, o9, o10], [])] σ') :
    zEv true [zent 151 [.inr (.inr 1), .inr (.inr 122), .inr (.inr 123)], (165, 218, [some (.inr (.inr 99999)), some (.inr (.inr 1)), some (.inr (.inr 122)), some (.inr (.inr 123)), some (.inl 1), some (.inl (n : Int)), some (.inl (v : Int)), some (.inl (m : Int)), o8, o9, o10], [])] σ := by
  have hK0 : ([] : List zF).length < 60 := by decide
  have h16 : ∀ j : Nat, j < 16 → ∀ _ : Unit, w32 (w32 (16 * (n : Int)) + (j : Int)) = 16 * (n : Int) + (j : Int) := fun j hj _ => by
    rw [zw_id (z := 16 * (n : Int)) (by omega) (by omega), zw_id (by omega) (by omega)]
  have c10 : w32 (w32 (16 * (n : Int)) + 10) = 16 * (n : Int) + 10 := h16 10 (by decide) ()
  have c11 : w32 (w32 (16 * (n : Int)) + 11) = 16 * (n : Int) + 11 := h16 11 (by decide) ()
  have c12 : w32 (w32 (16 * (n : Int)) + 12) = 16 * (n : Int) + 12 := h16 12 (by decide) ()
  have c13 : w32 (w32 (16 * (n : Int)) + 13) = 16 * (n : Int) + 13 := h16 13 (by decide) ()
  have c14 : w32 (w32 (16 * (n : Int)) + 14) = 16 * (n : Int) + 14 := h16 14 (by decide) ()
  have c15 : w32 (w32 (16 * (n : Int)) + 15) = 16 * (n : Int) + 15 := h16 15 (by decide) ()
  have hq9 : w32 (65 + zrem (zdiv (v : Int) 9) 4) = ((65 + v / 9 % 4 : Nat) : Int) := by
    have g9 : zdiv (v : Int) 9 = ((v / 9 : Nat) : Int) := zdiv_pos (a := v) (b := 9) hv (by decide)
    have g4 : zrem ((v / 9 : Nat) : Int) 4 = ((v / 9 % 4 : Nat) : Int) := zrem_nat (x := v / 9) (y := 4) (by omega) (by decide)
    rw [g9, g4, zw_id (by omega) (by omega)]
    omega
  have q36 : zdiv (v : Int) 36 = ((v / 36 : Nat) : Int) := zdiv_pos (a := v) (b := 36) hv (by decide)
  have q5 : zdiv (v : Int) 5 = ((v / 5 : Nat) : Int) := zdiv_pos (a := v) (b := 5) hv (by decide)
  have n3 : zrem (n : Int) 3 = ((n % 3 : Nat) : Int) := zrem_nat (x := n) (y := 3) (by omega) (by decide)
  have p10 : (0 : Int) ≤ 16 * (n : Int) + 10 := by clear c10 c11 c12 c13 c14 c15 hq9 q36 q5 n3; omega
  have p11 : (0 : Int) ≤ 16 * (n : Int) + 11 := by clear c10 c11 c12 c13 c14 c15 hq9 q36 q5 n3; omega
  have p12 : (0 : Int) ≤ 16 * (n : Int) + 12 := by clear c10 c11 c12 c13 c14 c15 hq9 q36 q5 n3; omega
  have p13 : (0 : Int) ≤ 16 * (n : Int) + 13 := by clear c10 c11 c12 c13 c14 c15 hq9 q36 q5 n3; omega
  have p14 : (0 : Int) ≤ 16 * (n : Int) + 14 := by clear c10 c11 c12 c13 c14 c15 hq9 q36 q5 n3; omega
  have p15 : (0 : Int) ≤ 16 * (n : Int) + 15 := by clear c10 c11 c12 c13 c14 c15 hq9 q36 q5 n3; omega
  have b9 : (0 : Int) < ((65 + v / 9 % 4 : Nat) : Int) ∧ ((65 + v / 9 % 4 : Nat) : Int) < 256 := by clear c10 c11 c12 c13 c14 c15 hq9 q36 q5 n3; omega
  have v36 : v / 36 < 2147483648 := by clear c10 c11 c12 c13 c14 c15 hq9 q36 q5 n3; omega
  have v5 : v / 5 < 2147483648 := by clear c10 c11 c12 c13 c14 c15 hq9 q36 q5 n3; omega
  have u1 : u + 1 ≤ 512 := by clear c10 c11 c12 c13 c14 c15 hq9 q36 q5 n3; omega
  have u2 : u + 1 + 1 ≤ 512 := by clear c10 c11 c12 c13 c14 c15 hq9 q36 q5 n3; omega
  have u3 : u + 1 + 1 + 3 < 512 := by clear c10 c11 c12 c13 c14 c15 hq9 q36 q5 n3; omega
  have w1 : w32 ((n : Int) + 1) = ((n + 1 : Nat) : Int) := ws1 (by clear c10 c11 c12 c13 c14 c15 hq9 q36 q5 n3; omega)
  have k1 : ∀ j, j ≤ 40 → ∀ F : zF, [F].length + j ≤ 60 := fun j hj F => by show 1 + j ≤ 60; clear c10 c11 c12 c13 c14 c15 hq9 q36 q5 n3 w1; omega
  refine v_isTree (k1 _ (by decide) _) hV hT hl hA (fun σ1 hF1 hV1 => ?_)
  rw [zr_165_218 hK0, if_neg (by decide), hq9]
  refine v_areLabelled (k1 _ (by decide) _) hV1 hT hl b9 (fun σ2 hF2 hV2 => ?_)
  have hF02 := hF1.trans hF2
  have hs2 := scr_fr hs hF02
  rw [zr_165_235 hK0, if_neg (by decide), if_neg (by decide), c10]
  refine v_dice hs2 p10 (fun w10 hw10 => ?_)
  rw [zr_165_263 hK0, c11]
  refine v_dice hs2 p11 (fun w11 hw11 => ?_)
  rw [zr_165_275 hK0]
  refine v_areMatches (k1 _ (by decide) _) hV2 hT hl h9 hw10 hw11 rfl rfl (fun σ3 hF3 hV3 => ?_)
  have hF03 := hF02.trans hF3
  have hs3 := scr_fr hs hF03
  rw [zr_165_278 hK0, if_neg (by decide), c12]
  refine v_dice hs3 p12 (fun w12 hw12 => ?_)
  rw [zr_165_294 hK0]
  obtain ⟨R3, r31, r32, hV3⟩ := hV3.lo
  refine v_areParts (k1 _ (by decide) _) hV3 (by rw [r31]; exact hT) (by rw [r31]; exact hl) hw12 rfl (fun σ4 hF4 hV4 => ?_)
  rw [r31, r32] at hV4
  have hF04 := hF03.trans hF4
  have hs4 := scr_fr hs hF04
  rw [zr_165_297 hK0, if_neg (by decide), c13]
  refine v_dice hs4 p13 (fun w13 hw13 => ?_)
  rw [zr_165_315 hK0, c14]
  refine v_dice hs4 p14 (fun w14 hw14 => ?_)
  rw [zr_165_327 hK0]
  refine v_isEdited (k1 _ (by decide) _) hV4 hT hl (tmA_fr hA hF04) hQ hH u1 hw13 hw14 rfl rfl (fun σ5 hF5 hV5 => ?_)
  have hF05 := hF04.trans hF5
  have hs5 := scr_fr hs hF05
  rw [zr_165_330 hK0, if_neg (by decide), c15]
  refine v_dice hs5 p15 (fun w15 hw15 => ?_)
  rw [zr_165_348 hK0, q36]
  refine v_isEdited (k1 _ (by decide) _) hV5 hT hl (tmA_fr hA hF05) hQ hH u2 hw15 v36 rfl rfl (fun σ6 hF6 hV6 => ?_)
  have hF06 := hF05.trans hF6
  have hs6 := scr_fr hs hF06
  have hA6 := tmA_fr hA hF06
  rw [zr_165_356 hK0, if_neg (by decide), n3, w1, q5]
  by_cases c : (0 : Int) < ((n % 3 : Nat) : Int)
  · rw [if_pos c]
    exact kk σ6 _ _ _ _ _ _ (hF06.le (by decide)) (by clear c10 c11 c12 c13 c14 c15 hq9 q36 q5 n3 w1; omega) hV6
  · rw [if_neg c]
    refine v_isRefused (k1 _ (by decide) _) hV6 hA6.2.1 hT.2.2.1 u3 v5 rfl (fun σ7 hF7 hV7 => ?_)
    rw [zr_165_375, if_neg (by decide), w1]
    exact kk σ7 _ _ _ _ _ _ ((hF06.trans hF7).le (by decide)) (by clear c10 c11 c12 c13 c14 c15 hq9 q36 q5 n3 w1; omega) hV7
theorem law_round {L n : Nat} {σ : zW} {o6 o7 o8 o9 o10 : Option zV} (hn : n < 8) (h : LI L n σ)
    (kk : ∀ (σ' : zW) (o6 o7 o8 o9 o10 : Option zV), LI L (n + 1) σ' → zEv true [(165, 58, [some (.inr (.inr 99999)), some (.inr (.inr 1)), some (.inr (.inr 122)), some (.inr (.inr 123)), some (.inl 1), some (.inl ((n + 1 : Nat) : Int)), o6, o7, o8, o9, o10], [])] σ') :
    zEv true [(165, 58, [some (.inr (.inr 99999)), some (.inr (.inr 1)), some (.inr (.inr 122)), some (.inr (.inr 123)), some (.inl 1), some (.inl (n : Int)), o6, o7, o8, o9, o10], [])] σ := by
  obtain ⟨Ts, H, u, hLT, h1, hu, hs, hC, hS⟩ := h
  have hK0 : ([] : List zF).length < 60 := by decide
  have h16 : ∀ _ : Unit, w32 (16 * (n : Int)) = 16 * (n : Int) := fun _ => zw_id (by omega) (by omega)
  rw [zj_165_58 hK0, if_neg (by omega), if_neg (by decide), h16 ()]
  refine v_dice hs (by omega) (fun v hv => ?_)
  have hm : ∀ _ : Unit, w32 (1 + zrem (v : Int) 9) = ((1 + v % 9 : Nat) : Int) := fun _ => by
    have g9 : zrem (v : Int) 9 = ((v % 9 : Nat) : Int) := zrem_nat (x := v) (y := 9) hv (by decide)
    rw [g9, zw_id (by omega) (by omega)]
    omega
  rw [zr_165_79, hm ()]
  have hm9 : 1 + v % 9 ≤ 9 := by omega
  have hm1 : 1 ≤ 1 + v % 9 := by omega
  generalize 1 + v % 9 = m at hm9 hm1
  have hF0 : yFr (fun k _ => k = 122 ∨ k = 123) σ (sI σ 123 0 (m : Int)) := yFr.rf.I (Or.inr rfl)
  have h123 : gI (sI σ 123 0 (m : Int)) 123 0 = (m : Int) := by rw [gI_sI, if_pos ⟨rfl, rfl⟩]
  generalize sI σ 123 0 (m : Int) = σ0 at hF0 h123
  have hs0 : scr L σ0 := ⟨hs.1, (hF0.i (k := 99998) (j := 0) (by omega)).trans hs.2⟩
  refine v_build hK0 hn hm9 (fun σ1 dep o8 o9 o10 hF1 h1m hb => ?_) hs0 m 0 (fun _ => 0) σ0 _ _ _ (Nat.sub_zero m) (Nat.zero_le _) yFr.rf h123 ⟨⟨by decide, fun q => absurd q (Nat.lt_irrefl 0), fun i hi => absurd hi (Nat.not_lt_zero _)⟩, fun i hi => absurd hi (Nat.not_lt_zero i)⟩
  have hF01 := hF0.trans hF1
  have hs1 : scr L σ1 := ⟨hs.1, (hF01.i (k := 99998) (j := 0) (by omega)).trans hs.2⟩
  have hC1 : gC σ1 = gC σ := hF01.2.2.1
  have hS1 : gS σ1 = gS σ := hF01.2.2.2
  obtain ⟨tt, htt⟩ : ∃ tt : Nat → Int, ∀ i, gI σ1 122 i = tt i := ⟨_, fun _ => rfl⟩
  obtain ⟨lb, hlbe⟩ : ∃ lb : Nat → Int, ∀ i, gI σ1 122 (20 + i) = lb i := ⟨_, fun _ => rfl⟩
  have hT0 : tmT (m, fun i => zi2l (lb i), dep) tt lb := ⟨hb.1, hm1, hm9, fun k hk => ⟨by rw [← htt]; exact (hb.2 k hk).1.symm, by
    have := hb.2 k hk
    rw [hlbe] at this
    unfold lb1
    omega⟩⟩
  have hA1 : tmA m tt lb σ1 := ⟨hm9, h1m, fun k hk => ⟨htt k, hlbe k⟩⟩
  have hlb : ∀ i, i < m → lb1 (lb i) := fun i hi => (hT0.2.2.2 i hi).2
  have hq81 : ∀ i, i < m → lb i ≠ 81 := fun i hi => by have := hb.2 i hi; rw [hlbe] at this; omega
  obtain ⟨T', t1, t2, t3⟩ := tread_ttx hT0.1 hm1 hlb
  have hpos := ttx_pos (T := (m, fun i => zi2l (lb i), dep)) (lb := lb) m hm1
  have hlen : (ttx (m, fun i => zi2l (lb i), dep) lb m).length ≤ 81 := ttx_len hT0.1 hm9 hlb
  have hby := ttx_b (T := (m, fun i => zi2l (lb i), dep)) hlb m (Nat.le_refl _)
  have t1' : tread (lfn (ttx (m, fun i => zi2l (lb i), dep) lb m)) (ttx (m, fun i => zi2l (lb i), dep) lb m).length = .inr T' := t1
  obtain ⟨full, hfull⟩ : ∃ full, full = ttx (m, fun i => zi2l (lb i), dep) lb m := ⟨_, rfl⟩
  rw [← hfull] at hpos hlen hby t1'
  obtain ⟨R, r1, r2, y, hLV⟩ := (hLT.fr hF01).lo
  have t2' : T'.1 = m := t2
  have hT' : tmT T' tt lb := ⟨wfd_cg hb.1 t2' (fun i hi => (t3 i hi).2), by omega, by omega, fun k hk => by
    have hk' : k < m := by omega
    refine ⟨?_, hlb k hk'⟩
    rw [← (hT0.2.2.2 k hk').1]
    unfold par
    show pa T'.2.2 (T'.2.2 k) k = pa dep (dep k) k
    have e9 : T'.2.2 k = dep k := (t3 k hk').2
    rw [e9]
    exact pa_congr (fun i hi => (t3 i (by omega)).2)⟩
  have hlT' : lbT T' lb := fun i hi => (t3 i (by omega)).1
  refine v_tells (J := fun l σ => LV l (rO R y) u σ) (full := full) (k1_ok (j := 3) (by decide) _) hT0 hA1 hfull (p_said (k1_ok (by decide) _) hby (by omega)) (by omega) hLV (fun σ2 hF2 hV2 => ?_)
  rw [zr_165_188 hK0, if_neg (by omega)]
  have hV2' : LO full R u σ2 := ⟨y, hV2⟩
  refine v_planted (k1_ok (by decide) _) hV2' t1' (fun σ3 hF3 hV3 => ?_)
  have hF13 := hF2.trans hF3
  have hA3 := tmA_fr hA1 hF13
  have hs3 := scr_fr hs1 hF13
  have e0 : fup R.1 0 T' 0 = T' := fup_eq
  have e1 : fup R.1 0 T' 1 = R.1 1 := fup_ne (by decide)
  rw [zr_165_198 hK0, hA3.2.1, t2', if_neg (fun w => w rfl), e_fault hV3, zr_165_209 hK0, if_neg (fun w => w rfl)]
  refine law_in hn hv (by omega) (by show (fup R.1 0 T' 1).1 = 0; rw [e1, r1]; exact h1) (by show fup R.2.2.2.2.2 0 [] 0 = []; exact fup_eq) hV3 (by show tmT (fup R.1 0 T' 0) _ _; rw [e0]; exact hT') (by show lbT (fup R.1 0 T' 0) _; rw [e0]; exact hlT') (by show tmA (fup R.1 0 T' 0).1 _ _ _; rw [e0, t2']; exact hA3) (by show ∀ i, i < (fup R.1 0 T' 0).1 → _; rw [e0, t2']; exact hq81) hs3 (fun σ4 u4 o6 o7 o8 o9 o10 hF4 hu4 hV4 => ?_)
  have hF14 := hF13.trans hF4
  have hF14' : lFr 3700 σ1 σ4 := hF14.le (by omega)
  obtain ⟨g1, g2⟩ := hF14'.c
  have hs4 := scr_fr hs1 hF14'
  have z1 : (fup R.1 0 T' 1).1 = 0 := by rw [e1, r1]; exact h1
  have z2 : u4 ≤ 8 + 6 * (n + 1) := by omega
  have z3 : gC σ4 ≤ 300 + 4000 * (n + 1) := room_c (by decide) hC hC1 g1
  have z4 : gS σ4 ≤ 41000 + 24000 * (n + 1) := room_c (by decide) hS hS1 g2
  exact kk σ4 _ _ _ _ _ ⟨_, _, u4, hV4, z1, z2, hs4, z3, z4⟩
