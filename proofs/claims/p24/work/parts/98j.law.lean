/-! the law: dice, the tree that is built, the rounds -/
theorem zand_pos (z : Int) : ∃ v : Nat, v < 2147483648 ∧ zand z 2147483647 = (v : Int) := by
  have h : zand z 2147483647 = ((Int32.ofInt z).toBitVec &&& (2147483647#32)).toInt := rfl
  rw [h]
  generalize (Int32.ofInt z).toBitVec = b
  have hb : (b &&& 2147483647#32).toNat < 2147483648 := by
    rw [BitVec.toNat_and]
    have := Nat.and_le_right (n := b.toNat) (m := (2147483647#32).toNat)
    have e : (2147483647#32).toNat = 2147483647 := rfl
    omega
  exact ⟨_, hb, BitVec.toInt_eq_toNat_of_lt (by omega)⟩
/-- the script's cells -/
def scr (L : Nat) (σ : zW) : Prop := L ≤ 260 ∧ gI σ 99998 0 = (L : Int)
theorem v_dice {K : List zF} {L : Nat} {x : Int} {σ : zW} (h : scr L σ) (hx : 0 ≤ x) (k : ∀ v : Nat, v < 2147483648 → zRet true K (some (.inl (v : Int))) σ) : zEv true (zent 139 [.inr (.inr 99999), .inl x] :: K) σ := by
  rw [ze_139, h.2]
  refine ⟨fun w => by omega, ?_⟩
  obtain ⟨v, h1, h2⟩ := zand_pos (if (L : Int) ≤ x then w32 ((w32 ((w32 (1779033703 * (w32 (x + 281)))) + (w32 ((w32 (695 * x)) * x)))) + 181) else gI σ 99999 x.toNat : Int)
  rw [h2]
  exact k v h1
theorem LT.fr {Ts : Nat → TRE} {H : Nat → List TRE} {u : Nat} {σ σ' : zW} (h : LT Ts H u σ) (hF : yFr (fun k _ => k = 122 ∨ k = 123) σ σ') : LT Ts H u σ' := by
  obtain ⟨ps, sc, fx, x, f, ⟨hg, u', hu, hC⟩, he⟩ := h
  exact ⟨ps, sc, fx, x, f, ⟨hg, u', hu, CS_fr hC hF (fun k j hk => Or.inl (by omega))⟩, he⟩
theorem LT.lo {Ts : Nat → TRE} {H : Nat → List TRE} {u : Nat} {σ : zW} (h : LT Ts H u σ) : ∃ R : STR, R.1 = Ts ∧ R.2.2.2.2.2 = H ∧ LO [] R u σ := by
  obtain ⟨ps, sc, fx, h⟩ := h
  exact ⟨_, rfl, rfl, h⟩
theorem scr_fr {L n : Nat} {σ σ' : zW} (h : scr L σ) (hF : lFr n σ σ') : scr L σ' := ⟨h.1, (hF.1 99998 0 (by decide)).trans h.2⟩
/-- the first k nodes as they are built -/
def bt (k : Nat) (dep : Nat → Nat) (σ : zW) : Prop := wfd k dep ∧ ∀ i, i < k → gI σ 122 i = par dep i ∧ 65 ≤ gI σ 122 (20 + i) ∧ gI σ 122 (20 + i) ≤ 67
theorem wfd_ad {k d : Nat} {dep : Nat → Nat} (h : wfd k dep) (hk : k < 20) (h0 : k = 0 → d = 0) (h1 : 0 < k → 1 ≤ d ∧ d ≤ dep (k - 1) + 1) : wfd (k + 1) (fup dep k d) := by
  refine ⟨by omega, fun _ => ?_, fun i hi => ?_⟩
  · by_cases c : k = 0
    · rw [c]; rw [fup_eq]; exact h0 c
    · rw [fup_ne (by omega)]; exact h.2.1 (by omega)
  · by_cases c : i + 1 = k
    · subst c
      rw [fup_eq, fup_ne (by omega)]
      have := h1 (by omega)
      rw [show i + 1 - 1 = i by omega] at this
      exact this
    · rw [fup_ne c, fup_ne (by omega)]
      exact h.2.2 i (by omega)
theorem par_ad {k d i : Nat} {dep : Nat → Nat} (hi : i < k) : par (fup dep k d) i = par dep i := by
  unfold par
  rw [fup_ne (by omega)]
  exact pa_congr (fun j hj => fup_ne (by omega))
theorem v_build {K : List zF} (hK : K.length < 60) {L n m : Nat} {o4 : Option zV} {x6 : Int} {σ0 : zW} (hn : n < 8) (hm : m ≤ 9)
    (kk : ∀ (σ' : zW) (dep : Nat → Nat) (o8 o9 o10 : Option zV), yFr (fun k _ => k = 122 ∨ k = 123) σ0 σ' → gI σ' 123 0 = (m : Int) → bt m dep σ' → zEv true (zent 149 [.inr (.inr 1), .inr (.inr 122), .inr (.inr 123), .inl 0] :: (165, 188, [some (.inr (.inr 99999)), some (.inr (.inr 1)), some (.inr (.inr 122)), some (.inr (.inr 123)), o4, some (.inl (n : Int)), some (.inl x6), some (.inl (m : Int)), o8, o9, o10], []) :: K) σ')
    (hs : scr L σ0) : ∀ (d k : Nat) (dep : Nat → Nat) (σ : zW) (o8 o9 o10 : Option zV), m - k = d → k ≤ m → yFr (fun k _ => k = 122 ∨ k = 123) σ0 σ → gI σ 123 0 = (m : Int) → bt k dep σ → zEv true ((165, 94, [some (.inr (.inr 99999)), some (.inr (.inr 1)), some (.inr (.inr 122)), some (.inr (.inr 123)), o4, some (.inl (n : Int)), some (.inl x6), some (.inl (k : Int)), o8, o9, o10], []) :: K) σ := by
  intro d
  induction d with
  | zero =>
    intro k dep σ o8 o9 o10 hd hk hF h123 hb
    have e : k = m := by omega
    subst e
    rw [zj_165_94 hK, h123, if_pos (Int.le_refl _)]
    exact kk σ dep _ _ _ hF h123 hb
  | succ d ih =>
    intro k dep σ o8 o9 o10 hd hk hF h123 hb
    have hkm : k < m := by omega
    have hd2 : m - (k + 1) = d := by omega
    have hsk : scr L σ := ⟨hs.1, (hF.i (k := 99998) (j := 0) (by omega)).trans hs.2⟩
    have hw16 : ∀ _ : Unit, w32 (w32 (w32 (16 * (n : Int)) + 1) + (k : Int)) = 16 * (n : Int) + 1 + (k : Int) := fun _ => by
      rw [zw_id (z := 16 * (n : Int)) (by omega) (by omega), zw_id (z := 16 * (n : Int) + 1) (by omega) (by omega), zw_id (by omega) (by omega)]
    rw [zj_165_94 hK, h123, if_neg (by omega), hw16 ()]
    refine v_dice hsk (by omega) (fun v hv => ?_)
    have hr4 : ∀ _ : Unit, zrem (v : Int) 4 = ((v % 4 : Nat) : Int) := fun _ => zrem_nat (x := v) (y := 4) (by omega) (by decide)
    have hd4 : ∀ _ : Unit, zrem (zdiv (v : Int) 4) 3 = ((v / 4 % 3 : Nat) : Int) := fun _ => by
      have g9 : zdiv (v : Int) 4 = ((v / 4 : Nat) : Int) := zdiv_pos (a := v) (b := 4) hv (by decide)
      rw [g9]
      exact zrem_nat (x := v / 4) (y := 3) (by omega) (by decide)
    rw [zr_165_116]
    -- what is stored
    have store : ∀ (up : Int) (dd : Nat) (o10 : Option zV), (k = 0 → dd = 0 ∧ up = -1) → (0 < k → ∃ p : Nat, up = (p : Int) ∧ p < k ∧ dd = dep p + 1 ∧ dep p ≤ dep (k - 1) ∧ ∀ i, p < i → i < k → dep p < dep i) → zEv true ((165, 153, [some (.inr (.inr 99999)), some (.inr (.inr 1)), some (.inr (.inr 122)), some (.inr (.inr 123)), o4, some (.inl (n : Int)), some (.inl x6), some (.inl (k : Int)), some (.inl (v : Int)), some (.inl up), o10], []) :: K) σ := by
      intro up dd o10 h0 h1
      have h20 : ∀ _ : Unit, w32 (20 + (k : Int)) = ((20 + k : Nat) : Int) := fun _ => by rw [zw_id (by omega) (by omega)]; omega
      have hlb : ∀ _ : Unit, w32 (65 + ((v / 4 % 3 : Nat) : Int)) = 65 + ((v / 4 % 3 : Nat) : Int) := fun _ => by rw [zw_id (by omega) (by omega)]
      rw [zj_165_153, h20 (), hd4 (), hlb (), yAnd (by omega), yAnd (by omega), Int.toNat_natCast, Int.toNat_natCast, ws1 (by omega)]
      have hpu : par (fup dep k dd) k = up := by
        unfold par
        rw [fup_eq]
        by_cases c : k = 0
        · subst c
          exact (h0 rfl).2.symm
        · obtain ⟨p, p1, p2, p3, p4, p5⟩ := h1 (by omega)
          rw [p1]
          refine pa_of p2 (by rw [fup_ne (by omega), p3]; omega) (fun i i1 i2 => ?_)
          rw [fup_ne (by omega), p3]
          exact p5 i i1 i2
      have hF2 : yFr (fun k _ => k = 122 ∨ k = 123) σ0 (sI (sI σ 122 k up) 122 (20 + k) (65 + ((v / 4 % 3 : Nat) : Int))) := (hF.I (Or.inl rfl)).I (Or.inl rfl)
      have hg : ∀ kk j, gI (sI (sI σ 122 k up) 122 (20 + k) (65 + ((v / 4 % 3 : Nat) : Int))) kk j = if kk = 122 ∧ j = 20 + k then 65 + ((v / 4 % 3 : Nat) : Int) else if kk = 122 ∧ j = k then up else gI σ kk j := fun kk j => by rw [gI_sI, gI_sI]
      generalize sI (sI σ 122 k up) 122 (20 + k) (65 + ((v / 4 % 3 : Nat) : Int)) = σ9 at hF2 hg ⊢
      refine ih (k + 1) (fup dep k dd) _ _ _ _ hd2 hkm hF2 ?_ ⟨wfd_ad hb.1 (by omega) (fun c => (h0 c).1) (fun c => ?_), fun i hi => ?_⟩
      · rw [hg, if_neg (by omega), if_neg (by omega)]
        exact h123
      · obtain ⟨p, p1, p2, p3, p4, p5⟩ := h1 c
        omega
      · rw [hg, hg]
        by_cases c : i = k
        · subst c
          rw [hpu, if_neg (by omega), if_pos ⟨rfl, rfl⟩, if_pos ⟨rfl, rfl⟩]
          refine ⟨rfl, ?_, ?_⟩ <;> omega
        · obtain ⟨q1, q2, q3⟩ := hb.2 i (by omega)
          rw [par_ad (by omega), if_neg (by omega), if_neg (by omega), if_neg (by omega), if_neg (by omega)]
          exact ⟨q1, q2, q3⟩
    by_cases k0 : k = 0
    · subst k0
      rw [show w32 (((0 : Nat) : Int) - 1) = -1 by decide, zj_165_127]
      have := store (-1) 0 (some (.inl 0)) (fun _ => ⟨rfl, rfl⟩) (fun c => absurd c (Nat.lt_irrefl 0))
      by_cases c : zrem (v : Int) 4 ≤ 0
      · rw [if_pos c]; exact this
      · rw [if_neg c, if_pos (by decide)]; exact this
    · have hw1 : ∀ _ : Unit, w32 ((k : Int) - 1) = ((k - 1 : Nat) : Int) := fun _ => by rw [zw_id (by omega) (by omega)]; omega
      rw [hw1 ()]
      have up : ∀ (g s p : Nat), v % 4 - s = g → p < k → dep p ≤ dep (k - 1) → (∀ i, p < i → i < k → dep p < dep i) → s ≤ 3 → zEv true ((165, 127, [some (.inr (.inr 99999)), some (.inr (.inr 1)), some (.inr (.inr 122)), some (.inr (.inr 123)), o4, some (.inl (n : Int)), some (.inl x6), some (.inl (k : Int)), some (.inl (v : Int)), some (.inl (p : Int)), some (.inl (s : Int))], []) :: K) σ := by
        intro g
        induction g with
        | zero =>
          intro s p hg hp h1 h2 hs3
          rw [zj_165_127, hr4 (), if_pos (by omega)]
          exact store _ _ _ (fun c => absurd c k0) (fun _ => ⟨p, rfl, hp, rfl, h1, h2⟩)
        | succ g ihg =>
          intro s p hg hp h1 h2 hs3
          rw [zj_165_127, hr4 (), if_neg (by omega)]
          by_cases c : p = 0
          · subst c
            rw [if_pos (by omega)]
            exact store _ _ _ (fun c => absurd c k0) (fun _ => ⟨0, rfl, hp, rfl, h1, h2⟩)
          · obtain ⟨p', hp', hpl, hpd⟩ := par_some hb.1 hp (by omega)
            obtain ⟨q1, q2, q3⟩ := pa_spec hp'
            rw [if_neg (by omega), yAnd (by omega), Int.toNat_natCast, (hb.2 p hp).1, hp', ws1 (by omega)]
            refine ihg (s + 1) p' (by omega) (by omega) (by omega) (fun i i1 i2 => ?_) (by omega)
            by_cases c2 : i < p
            · have := q3 i i1 c2; omega
            · by_cases c3 : i = p
              · rw [c3]; exact q2
              · have := h2 i (by omega) i2; omega
      exact up _ 0 (k - 1) rfl (by omega) (Nat.le_refl _) (fun i i1 i2 => by omega) (by omega)
