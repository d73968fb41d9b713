/-! what is asked: the law's state, whatever is in the out -/
def rO (R : STR) (x : TX) : STR := (R.1, R.2.1, R.2.2.1, R.2.2.2.1, x, R.2.2.2.2.2)
def LO (l : List Int) (R : STR) (u : Nat) (σ : zW) : Prop := ∃ x, LV l (rO R x) u σ
theorem rO_rO {R : STR} {x y : TX} : rO (rO R x) y = rO R y := rfl
theorem LV.lo {l : List Int} {R : STR} {u : Nat} {σ : zW} (h : LV l R u σ) : LO l R u σ := ⟨R.2.2.2.2.1, h⟩
theorem LO.rO {l : List Int} {R : STR} {u : Nat} {σ : zW} {x : TX} (h : LV l (rO R x) u σ) : LO l R u σ := ⟨x, h⟩
theorem LO.le {l : List Int} {R : STR} {u u2 : Nat} {σ : zW} (h : LO l R u σ) (hu : u ≤ u2) : LO l R u2 σ := by
  obtain ⟨x, h⟩ := h
  exact ⟨x, h.le hu⟩
theorem e_nodes {K : List zF} (hK : K.length + 4 ≤ 60) {l : List Int} {R : STR} {u p : Nat} {z : Int} {σ : zW} (h : LO l R u σ) (hp : p < 3) (hz : z = (p : Int)) : zEv true (zent 109 [.inr (.inr 1), .inl z] :: K) σ = zRet true K (some (.inl ((R.1 p).1 : Int))) σ := by
  obtain ⟨x, f, ⟨hg, u', hu, hC⟩, he⟩ := h
  subst hz
  obtain ⟨t1, t2, t3⟩ := hC.2.1.1 p hp
  rw [ze_109 (by omega), c_requirePlace (by show K.length + 1 < 60; omega), if_pos (by omega), zr_109_4 (by rw [Int.toNat_natCast]; exact t1), yAnd (by omega), Int.toNat_natCast, t2.1.1]
  rfl
theorem e_parent {K : List zF} (hK : K.length + 4 ≤ 60) {l : List Int} {R : STR} {u b : Nat} {y : Int} {σ : zW} (h : LO l R u σ) (hb : b < (R.1 0).1) (hy : y = (b : Int)) (k : zRet true K (some (.inl (par (R.1 0).2.2 b))) σ) : zEv true (zent 110 [.inr (.inr 1), .inl 0, .inl y] :: K) σ := by
  obtain ⟨x, f, ⟨hg, u', hu, hC⟩, he⟩ := h
  subst hy
  have hn := (hg.1 0 (by decide)).1.1
  have hn' : (R.1 0).1 ≤ 20 := hn
  obtain ⟨t1, t2, t3⟩ := hC.2.1.1 0 (by decide)
  rw [ze_110 (by omega)]
  refine c_requireNode (by show K.length + 1 + 1 < 60; omega) hC.2.1 (fun _ => ?_) (fun hx => absurd ⟨by decide, by omega, by show (b : Int) < ((R.1 0).1 : Int); omega⟩ hx)
  rw [zr_110_6 t1, yAnd (by decide), yAnd (by omega), Int.toNat_natCast]
  have e : gI σ (gR σ 4 0 + 3) b = par (R.1 0).2.2 b := (t2.2.1 b hb).1
  show zRet true K (some (.inl (gI σ (gR σ 4 0 + 3) b))) σ
  rw [e]; exact k
theorem e_kids {K : List zF} (hK : K.length + 4 ≤ 60) {l : List Int} {R : STR} {u b : Nat} {y : Int} {σ : zW} (h : LO l R u σ) (hb : b < (R.1 0).1) (hy : y = (b : Int)) (k : zRet true K (some (.inl ((kidc (R.1 0).2.2 b (R.1 0).1 : Nat) : Int))) σ) : zEv true (zent 111 [.inr (.inr 1), .inl 0, .inl y] :: K) σ := by
  obtain ⟨x, f, ⟨hg, u', hu, hC⟩, he⟩ := h
  subst hy
  have hn := (hg.1 0 (by decide)).1.1
  have hn' : (R.1 0).1 ≤ 20 := hn
  obtain ⟨t1, t2, t3⟩ := hC.2.1.1 0 (by decide)
  rw [ze_111 (by omega)]
  refine c_requireNode (by show K.length + 1 + 1 < 60; omega) hC.2.1 (fun _ => ?_) (fun hx => absurd ⟨by decide, by omega, by show (b : Int) < ((R.1 0).1 : Int); omega⟩ hx)
  rw [zr_111_6 t1, yAnd (by decide), yAnd (by omega), Int.toNat_natCast]
  have e : gI σ (gR σ 4 0 + 5) b = (kidc (R.1 0).2.2 b (R.1 0).1 : Nat) := (t2.2.1 b hb).2.2.1
  show zRet true K (some (.inl (gI σ (gR σ 4 0 + 5) b))) σ
  rw [e]; exact k
/-- first or last word -/
def wof (T : TRE) (b : Nat) (w : Int) : Int := if w = 0 then (wrd T.2.2 T.1 b : Nat) else ((wrd T.2.2 T.1 (ed T.2.2 T.1 b) : Nat) : Int) - 1
theorem e_wordOf {K : List zF} (hK : K.length + 4 ≤ 60) {l : List Int} {R : STR} {u b : Nat} {y w : Int} {σ : zW} (h : LO l R u σ) (hb : b < (R.1 0).1) (hy : y = (b : Int)) (k : zRet true K (some (.inl (wof (R.1 0) b w))) σ) : zEv true (zent 112 [.inr (.inr 1), .inl 0, .inl y, .inl w] :: K) σ := by
  obtain ⟨x, f, ⟨hg, u', hu, hC⟩, he⟩ := h
  subst hy
  have hn := (hg.1 0 (by decide)).1.1
  have hn' : (R.1 0).1 ≤ 20 := hn
  obtain ⟨t1, t2, t3⟩ := hC.2.1.1 0 (by decide)
  rw [ze_112 (by omega)]
  refine c_requireNode (by show K.length + 1 + 1 < 60; omega) hC.2.1 (fun _ => ?_) (fun hx => absurd ⟨by decide, by omega, by show (b : Int) < ((R.1 0).1 : Int); omega⟩ hx)
  have hcb : 0 ≤ (b : Int) ∧ (b : Int) < 20 := by omega
  have hc0 : (0 : Int) ≤ 0 ∧ (0 : Int) < 3 := by decide
  rw [zr_112_6 t1, yAnd (fun _ => ⟨hc0, hcb⟩), yAnd (fun _ => ⟨hc0, hcb⟩), Int.toNat_natCast]
  have e1 : gI σ (gR σ 4 0 + 7) b = (wrd (R.1 0).2.2 (R.1 0).1 b : Nat) := (t2.2.1 b hb).2.2.2.1
  have e2 : gI σ (gR σ 4 0 + 8) b = ((wrd (R.1 0).2.2 (R.1 0).1 (ed (R.1 0).2.2 (R.1 0).1 b) : Nat) : Int) - 1 := (t2.2.1 b hb).2.2.2.2
  unfold wof at k
  rw [← e1, ← e2] at k
  exact k
theorem nv_pkf8 {g : Nat → Int} : ∀ (n : Nat), n ≤ 8 → (∀ i, i < n → 0 ≤ g i ∧ g i < 256) → nv (pkf g n) = pkn g n := by
  intro n
  induction n with
  | zero => intro _ _; rfl
  | succ n ih =>
    intro hn h
    have h1 := ih (by omega) (fun i hi => h i (by omega))
    have h2 := h n (by omega)
    have h3 := pkn_lt n (fun i hi => h i (by omega))
    obtain ⟨b, hb⟩ : ∃ b : Nat, g n = (b : Int) := ⟨(g n).toNat, by omega⟩
    rw [pkf, nv_or, h1, nv_shl (by omega), hb, nv_i2l (by omega), pkn, hb, Int.toNat_natCast]
    have h4 : b < 256 := by omega
    have h5 : b * 2 ^ (8 * n) < 2 ^ 64 := by
      have : b * 2 ^ (8 * n) < 2 ^ 8 * 2 ^ (8 * n) := Nat.mul_lt_mul_of_pos_right h4 (Nat.two_pow_pos _)
      rw [← Nat.pow_add] at this
      exact Nat.lt_of_lt_of_le this (Nat.pow_le_pow_right (by omega) (by omega))
    rw [Nat.mod_eq_of_lt h5, Nat.or_comm, Nat.mul_comm b, pow256] at *
    rw [← Nat.two_pow_add_eq_or_of_lt h3, Nat.mul_comm b, Nat.add_comm]
def wbt (t : TX) (i j : Nat) : Int := if 8 * i + j < t.1 then t.2 (8 * i + j) else 0
theorem wdr_pkf {t : TX} {i : Nat} : ∀ k, k ≤ 8 → wdr t i k = pkf (wbt t i) k := by
  intro k
  induction k with
  | zero => intro _; rfl
  | succ k ih =>
    intro hk
    show wdr t i k ||| _ = pkf (wbt t i) k ||| _
    rw [ih (by omega)]
    congr 1
    unfold wbt
    by_cases c : 8 * i + k < t.1
    · rw [if_pos c, if_pos c]
    · rw [if_neg c, if_neg c]
      apply nv_inj
      rw [nv_shl (by omega)]
      show 0 = 0 * 2 ^ (8 * k) % 2 ^ 64
      rw [Nat.zero_mul]
theorem wdv_byt {t : TX} {i j : Nat} (ht : ∀ i, i < t.1 → 0 ≤ t.2 i ∧ t.2 i < 256) (hi : i < 23) (hj : j < 8) : byt (wdv t (i : Int)) j = wbt t i j := by
  have hb : ∀ j, 0 ≤ wbt t i j ∧ wbt t i j < 256 := fun j => by
    unfold wbt
    by_cases c : 8 * i + j < t.1
    · rw [if_pos c]; exact ht _ c
    · rw [if_neg c]; decide
  unfold wdv byt
  rw [if_pos (by omega), Int.toNat_natCast, wdr_pkf 8 (Nat.le_refl _), nv_pkf8 8 (Nat.le_refl _) (fun j _ => hb j), ← pow256, pkn_digit 8 j (fun j _ => hb j), if_pos hj]
  have := hb j
  omega
/-- word -/
theorem e_word {K : List zF} (hK : K.length + 2 ≤ 60) {l : List Int} {R : STR} {u : Nat} {z : Int} {σ : zW} (h : LV l R u σ) : zEv true (zent 124 [.inr (.inr 1), .inl z] :: K) σ = zRet true K (some (.inr (.inl (wdv R.2.2.2.2.1 z)))) σ := by
  obtain ⟨f, ⟨hg, u', hu, hC⟩, he⟩ := h
  rw [ze_124 (by omega), c_word hC.2.2.2.2.2.1, zr_124_8]
theorem zdr8 : ∀ n : Nat, n < 184 → zdiv (n : Int) 8 = ((n / 8 : Nat) : Int) ∧ w32 (8 * zrem (n : Int) 8) = ((8 * (n % 8) : Nat) : Int) := by decide +kernel
/-- out: a byte of what was put out -/
theorem q_out {K : List zF} (hK : K.length + 3 ≤ 60) {l : List Int} {R : STR} {u n : Nat} {z : Int} {σ : zW} (h : LV l R u σ) (ht : ∀ i, i < R.2.2.2.2.1.1 → 0 ≤ R.2.2.2.2.1.2 i ∧ R.2.2.2.2.1.2 i < 256) (hz : z = (n : Int)) (hn : n < 184) : zEv true (zent 146 [.inr (.inr 1), .inl z] :: K) σ = zRet true K (some (.inl (if n < R.2.2.2.2.1.1 then R.2.2.2.2.1.2 n else 0))) σ := by
  subst hz
  obtain ⟨z1, z2⟩ := zdr8 n hn
  rw [ze_146 (by omega), z1, e_word (by show K.length + 1 + 2 ≤ 60; omega) h, zr_146_8, z2, m_byte (Nat.mod_lt n (by decide)) rfl, wdv_byt ht (by omega) (Nat.mod_lt n (by decide))]
  unfold wbt
  rw [show 8 * (n / 8) + n % 8 = n by omega]
theorem rlo {R : STR} : rO R R.2.2.2.2.1 = R := rfl
/-- label: one letter is put out -/
theorem v_lab {K : List zF} (hK : K.length + 9 ≤ 60) {l : List Int} {R : STR} {u b : Nat} {y z : Int} {σ : zW} (h : LO l R u σ) (hb : b < (R.1 0).1) (hy : y = (b : Int)) (hl : (R.1 0).2.1 b = zi2l z) (h1 : lb1 z) (k : ∀ σ', lFr 0 σ σ' → LV l (rO R (1, fup (fun _ => 0) 0 z)) u σ' → zRet true K (some (.inl 1)) σ') : zEv true (zent 123 [.inr (.inr 1), .inl 0, .inl y] :: K) σ := by
  unfold lb1 at h1
  obtain ⟨x, f, ⟨hg, u', hu, hC⟩, he⟩ := h
  subst hy
  have hN : isN ((f, l.length), rO R x) 0 (b : Int) := ⟨by decide, by omega, by show (b : Int) < ((R.1 0).1 : Int); omega⟩
  have e : oLabel ((f, l.length), rO R x) 0 (b : Int) = (0, 1, ((f, l.length), rO R (1, fup (fun _ => 0) 0 z))) := by
    unfold oLabel
    rw [if_pos hN]
    show (0, ((lbt ((R.1 0).2.1 b) 6 0 (0, fun _ => 0)).1 : Int), qsO ((f, l.length), rO R x) (lbt ((R.1 0).2.1 b) 6 0 (0, fun _ => 0))) = _
    rw [hl, lbt_1 (by omega) (by omega)]
    rfl
  have hsg := SG_label (z := 0) (y := (b : Int)) hg
  refine l_label (by omega) hg hC ?_
  rw [e] at hsg ⊢
  refine ⟨fun _ σ' u2 hF hC' hl2 => ?_, fun x => absurd rfl x⟩
  exact k σ' (lFr.of hF) ⟨f, ⟨hsg, u2, by omega, hC'⟩, he⟩
/-- a label: its letter -/
theorem v_label {K : List zF} (hK : K.length + 11 ≤ 60) {l : List Int} {R : STR} {u b : Nat} {y z : Int} {σ : zW} (h : LO l R u σ) (hb : b < (R.1 0).1) (hy : y = (b : Int)) (hl : (R.1 0).2.1 b = zi2l z) (h1 : lb1 z) (k : ∀ σ', lFr 0 σ σ' → LO l R u σ' → zRet true K (some (.inl z)) σ') : zEv true (zent 145 [.inr (.inr 1), .inl y] :: K) σ := by
  rw [ze_145 (by omega)]
  refine v_lab (by show K.length + 1 + 9 ≤ 60; omega) h hb hy hl h1 (fun σ' hF hV => ?_)
  unfold lb1 at h1
  rw [zr_145_6 (by omega), e_word (by show K.length + 1 + 2 ≤ 60; omega) hV]
  have hb0 : zl2i (wdv (1, fup (fun _ => 0) 0 z) 0 &&& 255) = z := by
    have h3 := wdv_byt (t := (1, fup (fun _ => 0) 0 z)) (i := 0) (j := 0) (fun i hi => by
      have hi' : i < 1 := hi
      have : i = 0 := by omega
      subst this
      show 0 ≤ fup (fun _ => 0) 0 z 0 ∧ fup (fun _ => 0) 0 z 0 < 256
      rw [fup_eq]; omega) (by decide) (by decide)
    have h4 : wbt (1, fup (fun _ => 0) 0 z) 0 0 = z := by
      show (if 8 * 0 + 0 < 1 then fup (fun _ => 0) 0 z (8 * 0 + 0) else 0) = z
      rw [if_pos (by decide)]
      exact (fup_eq : fup (fun _ => 0) 0 z 0 = z)
    rw [h4] at h3
    have h5 : byt (wdv (1, fup (fun _ => 0) 0 z) ((0 : Nat) : Int)) 0 = ((nv (wdv (1, fup (fun _ => 0) 0 z) ((0 : Nat) : Int)) % 256 : Nat) : Int) := by
      unfold byt
      rw [Nat.mul_zero, Nat.pow_zero, Nat.div_one]
    rw [h5] at h3
    have h6 := nv_255 (wdv (1, fup (fun _ => 0) 0 z) ((0 : Nat) : Int))
    have h7 := zl2i_nv (n := nv (wdv (1, fup (fun _ => 0) 0 z) ((0 : Nat) : Int)) % 256) (by have := Nat.mod_lt (nv (wdv (1, fup (fun _ => 0) 0 z) ((0 : Nat) : Int))) (show 256 > 0 by decide); omega) h6
    exact h7.trans h3
  show zRet true ((145, 12, [some (.inr (.inr 1)), zcut 0 (some (.inl y)), some (.inl 1)], []) :: K) (some (.inr (.inl (wdv (1, fup (fun _ => 0) 0 z) 0)))) σ'
  rw [zr_145_12, hb0, yAnd (by omega), yAnd (by omega)]
  exact k σ' hF (LO.rO hV)
/-- show -/
theorem v_show {K : List zF} (hK : K.length + 8 ≤ 60) {l : List Int} {R : STR} {u p : Nat} {z : Int} {σ : zW} (h : LO l R u σ) (hp : p < 3) (hz : z = (p : Int)) (k : ∀ σ', lFr 0 σ σ' → LV l (rO R (shw (R.1 p) (R.1 p).1)) u σ' → zRet true K (some (.inl ((shw (R.1 p) (R.1 p).1).1 : Int))) σ') : zEv true (zent 122 [.inr (.inr 1), .inl z] :: K) σ := by
  obtain ⟨x, f, ⟨hg, u', hu, hC⟩, he⟩ := h
  subst hz
  have e : oShow ((f, l.length), rO R x) (p : Int) = (0, ((shw (R.1 p) (R.1 p).1).1 : Int), ((f, l.length), rO R (shw (R.1 p) (R.1 p).1))) := by
    unfold oShow
    rw [if_pos (by omega), Int.toNat_natCast]
    rfl
  have hsg := SG_show (z := (p : Int)) hg
  refine l_show (by omega) hg hC ?_
  rw [e] at hsg ⊢
  refine ⟨fun _ σ' u2 hF hC' hl2 => ?_, fun x => absurd rfl x⟩
  exact k σ' (lFr.of hF) ⟨f, ⟨hsg, u2, by omega, hC'⟩, he⟩
