/-! the plan of the model: in order -/
theorem m_isTold {K : List zF} {x : Nat} {i : Nat} {f : Nat → Nat} {z z' : Int} {σ : zW} (hi : i ≤ 4) (h : ∀ j, j < i → gI σ 178 j = (f j : Int)) (hz : z = (x : Int)) (hz' : z' = (i : Int)) : zEv true (zent 217 [.inr (.inr 122), .inl z, .inl z'] :: K) σ = zRet true K (some (.inl (zb (∃ j, j < i ∧ f j = x)))) σ := by
  subst hz
  subst hz'
  rw [ze_217]
  have L : ∀ (d j : Nat) (x3 : Int), i - j = d → j ≤ i → x3 = zb (∃ j', j' < j ∧ f j' = x) → zEv true ((217, 5, [some (.inr (.inr 122)), some (.inl (x : Int)), some (.inl (i : Int)), some (.inl x3), some (.inl (j : Int))], []) :: K) σ = zRet true K (some (.inl (zb (∃ j, j < i ∧ f j = x)))) σ := by
    intro d
    induction d with
    | zero =>
      intro j x3 hd hj hx
      have e : j = i := by omega
      rw [zj_217_5, e, if_pos (Int.le_refl _), hx, yAnd (zb01 _), e]
    | succ d ih =>
      intro j x3 hd hj hx
      have hj' : j < i := by omega
      have hni : ¬ (i : Int) ≤ (j : Int) := by omega
      have hcj : 0 ≤ (j : Int) ∧ (j : Int) < 4 := by omega
      have hd1 : i - (j + 1) = d := by omega
      have ej : ∀ _ : Unit, w32 ((j : Int) + 1) = ((j + 1 : Nat) : Int) := fun _ => w_s (by clear hx; omega)
      rw [zj_217_5, if_neg hni, yAnd (fun _ => hcj), Int.toNat_natCast, h j hj', (ej ())]
      refine ih (j + 1) _ hd1 hj' ?_
      have hs : (∃ j', j' < j + 1 ∧ f j' = x) ↔ ((∃ j', j' < j ∧ f j' = x) ∨ f j = x) := by
        constructor
        · rintro ⟨j', a, b⟩
          rcases Nat.lt_succ_iff_lt_or_eq.mp a with y | y
          · exact Or.inl ⟨j', y, b⟩
          · rw [y] at b; exact Or.inr b
        · rintro (⟨j', a, b⟩ | b)
          · exact ⟨j', Nat.lt_succ_of_lt a, b⟩
          · exact ⟨j, Nat.lt_succ_self j, b⟩
      by_cases c : x3 = 0
      · have hn : ¬ ∃ j', j' < j ∧ f j' = x := zb0.mp (by rw [← hx]; exact c)
        rw [if_neg (fun y => y c)]
        by_cases c2 : f j = x
        · rw [if_neg (fun y => y (by rw [c2])), zb_t (hs.mpr (Or.inr c2))]
        · rw [if_pos (ne_i c2), zb_f (fun y => by rcases hs.mp y with y | y; exact hn y; exact c2 y)]
      · have ht : ∃ j', j' < j ∧ f j' = x := Classical.byContradiction (fun y => c (by rw [hx]; exact zb_f y))
        rw [if_pos c, zb_t (hs.mpr (Or.inl ht))]
  exact L i 0 0 (Nat.sub_zero _) (Nat.zero_le _) (zb_f (fun ⟨j, j1, _⟩ => absurd j1 (Nat.not_lt_zero j))).symm
theorem m_isBound {K : List zF} (hK : K.length + 1 < 60) {k i q : Nat} {f : Nat → Nat} {T : TRE} {st : PST} {pd : Nat → Nat} {z z' : Int} {σ : zW} (hO : mOn q T st σ) (hg : pgd st pd) (hw8 : pw st) (hu : pup st) (h1c : 1 ≤ st.1) (hk : k < st.2.2.1) (hi : i ≤ 4) (hf : ∀ j, j < i → f j < st.2.2.1) (h : ∀ j, j < i → gI σ 178 j = (np st (f j) : Int)) (hz : z = (np st k : Int)) (hz' : z' = (i : Int)) : zEv true (zent 218 [.inr (.inr 122), .inl z, .inl z'] :: K) σ = zRet true K (some (.inl (zb (i = 0 ∨ ∃ j, j < i ∧ told st (f j) k st.1)))) σ := by
  subst hz
  subst hz'
  rw [ze_218]
  have L : ∀ (d j : Nat) (x3 : Int), i - j = d → j ≤ i → x3 = zb (i = 0 ∨ ∃ j', j' < j ∧ told st (f j') k st.1) → zEv true ((218, 13, [some (.inr (.inr 122)), some (.inl (np st k : Int)), some (.inl (i : Int)), some (.inl x3), some (.inl (j : Int))], []) :: K) σ = zRet true K (some (.inl (zb (i = 0 ∨ ∃ j, j < i ∧ told st (f j) k st.1)))) σ := by
    intro d
    induction d with
    | zero =>
      intro j x3 hd hj hx
      have e : j = i := by omega
      rw [zj_218_13 (by omega), e, if_pos (Int.le_refl _), hx, yAnd (zb01 _), e]
    | succ d ih =>
      intro j x3 hd hj hx
      have hj' : j < i := by omega
      have hni : ¬ (i : Int) ≤ (j : Int) := by omega
      have hcj : 0 ≤ (j : Int) ∧ (j : Int) < 4 := by omega
      have hd1 : i - (j + 1) = d := by omega
      have ej : ∀ _ : Unit, w32 ((j : Int) + 1) = ((j + 1 : Nat) : Int) := fun _ => w_s (by clear hx; omega)
      have hs : (i = 0 ∨ ∃ j', j' < j + 1 ∧ told st (f j') k st.1) ↔ ((i = 0 ∨ ∃ j', j' < j ∧ told st (f j') k st.1) ∨ told st (f j) k st.1) := by
        constructor
        · rintro (c | ⟨j', a, b⟩)
          · exact Or.inl (Or.inl c)
          · rcases Nat.lt_succ_iff_lt_or_eq.mp a with y | y
            · exact Or.inl (Or.inr ⟨j', y, b⟩)
            · rw [y] at b; exact Or.inr b
        · rintro ((c | ⟨j', a, b⟩) | b)
          · exact Or.inl c
          · exact Or.inr ⟨j', Nat.lt_succ_of_lt a, b⟩
          · exact Or.inr ⟨j, Nat.lt_succ_self j, b⟩
      rw [zj_218_13 (by omega), if_neg hni]
      by_cases c : x3 = 0
      · have hn : ¬ (i = 0 ∨ ∃ j', j' < j ∧ told st (f j') k st.1) := zb0.mp (by rw [← hx]; exact c)
        rw [if_neg (fun y => y c), yAnd hcj, Int.toNat_natCast, m_areTold (by show K.length + 1 < 60; exact hK) hO hg hw8 hu h1c (hf j hj') hk (h j hj') rfl, zr_218_35, (ej ())]
        refine ih (j + 1) _ hd1 hj' ?_
        by_cases c2 : told st (f j) k st.1
        · rw [zb_t c2, if_neg (by decide), zb_t (hs.mpr (Or.inr c2))]
        · rw [zb_f c2, if_pos rfl, zb_f (fun y => by rcases hs.mp y with y | y; exact hn y; exact c2 y)]
      · have ht : i = 0 ∨ ∃ j', j' < j ∧ told st (f j') k st.1 := Classical.byContradiction (fun y => c (by rw [hx]; exact zb_f y))
        rw [if_pos c, (ej ())]
        refine ih (j + 1) _ hd1 hj' ?_
        rw [zb_t (hs.mpr (Or.inl ht))]
  refine L i 0 _ (Nat.sub_zero _) (Nat.zero_le _) ?_
  by_cases c : i = 0
  · rw [if_neg (fun x => x (by omega)), zb_t (Or.inl c)]
  · rw [if_pos (by omega), zb_f (fun x => by rcases x with x | ⟨j, j1, -⟩; exact c x; exact absurd j1 (Nat.not_lt_zero j))]
/-- told to one that is chosen: joined -/
theorem told_jnd {T : TRE} {st : PST} {i k : Nat} (h : ∀ j, j < i → bst T st (chs T st j) st.2.2.1 ≠ -1) : (∃ j, j < i ∧ told st (pl T st j) k st.1) ↔ jnd st (chs T st i) k st.1 := by
  have hM := chs_Ml (T := T) (st := st) i h
  constructor
  · rintro ⟨j, j1, r, r1, r2, r3, r4⟩
    refine ⟨r, r1, r2, r3, ?_⟩
    rcases r4 with ⟨a, b⟩ | ⟨a, b⟩
    · exact Or.inl ⟨b, by rw [a]; exact (hM _).mpr ⟨j, j1, rfl⟩⟩
    · exact Or.inr ⟨a, by rw [b]; exact (hM _).mpr ⟨j, j1, rfl⟩⟩
  · rintro ⟨r, r1, r2, r3, r4⟩
    rcases r4 with ⟨a, b⟩ | ⟨a, b⟩
    · obtain ⟨j, j1, j2⟩ := (hM _).mp b
      exact ⟨j, j1, r, r1, r2, r3, Or.inl ⟨j2.symm, a⟩⟩
    · obtain ⟨j, j1, j2⟩ := (hM _).mp b
      exact ⟨j, j1, r, r1, r2, r3, Or.inr ⟨a, j2.symm⟩⟩
def pbt (st : PST) (b : Int) : Int := if b = -1 then -1 else (np st b.toNat : Int)
theorem m_pick {K : List zF} (hK : K.length + 3 ≤ 60) {i q : Nat} {T : TRE} {st : PST} {pd : Nat → Nat} {σ : zW} (hgT : tgd T) (hO : mOn q T st σ) (hg : pgd st pd) (hw8 : pw st) (hu : pup st) (h1c : 1 ≤ st.1) (hl : st.2.1 ≤ 300) (hi : i ≤ st.2.2.1) (hb : ∀ j, j < i → bst T st (chs T st j) st.2.2.1 ≠ -1) (h178 : ∀ j, j < i → gI σ 178 j = (np st (pl T st j) : Int))
    (kz : ∀ o4, zEv true ((219, 13, [some (.inr (.inr 122)), some (.inl (i : Int)), some (.inl (pbt st (bst T st (chs T st i) st.2.2.1))), some (.inl (st.1 : Int)), o4], []) :: K) σ) :
    ∀ (d E k : Nat) (o4 : Option zV), st.1 - E = d → E ≤ st.1 → k ≤ st.2.2.1 → (∀ k', k' < st.2.2.1 → (np st k' < E ↔ k' < k)) → zEv true ((219, 13, [some (.inr (.inr 122)), some (.inl (i : Int)), some (.inl (pbt st (bst T st (chs T st i) k))), some (.inl (E : Int)), o4], []) :: K) σ := by
  have hc := hw8.1
  have hN := hw8.2.1
  have hKl : K.length < 60 := by omega
  have hpl : ∀ j, j < i → pl T st j < st.2.2.1 := fun j hj => by
    rcases bst_spec (T := T) (st := st) (M := chs T st j) st.2.2.1 with x | ⟨b, b1, b2, b3⟩
    · exact absurd x.1 (hb j hj)
    · have : pl T st j = b := by unfold pl; rw [b2, Int.toNat_natCast]
      rw [this]; exact b1
  have hMl := chs_Ml (T := T) (st := st) i hb
  have hemp : (∀ x, x < 4 → ¬ chs T st i x) ↔ i = 0 := by
    constructor
    · intro h
      refine Classical.byContradiction (fun y => ?_)
      have hp0 := hpl 0 (by omega)
      exact h (pl T st 0) (by omega) ((hMl _).mpr ⟨0, by omega, rfl⟩)
    · intro h x _ hx
      rw [h] at hx
      exact hx
  intro d
  induction d with
  | zero =>
    intro E k o4 hd hE hk hinv
    have e : E = st.1 := by omega
    have ek : k = st.2.2.1 := by
      rcases Nat.lt_or_ge k st.2.2.1 with x | x
      · have := (hinv k x).mp (by rw [e]; exact (np_ok hg x).1); omega
      · omega
    rw [e, ek]
    exact kz o4
  | succ d ih =>
    intro E k o4 hd hE hk hinv
    have hEc : E < st.1 := by omega
    have hni : ¬ (st.1 : Int) ≤ (E : Int) := by omega
    have hcE : 0 ≤ (E : Int) ∧ (E : Int) < 8 := by omega
    have hd1 : st.1 - (E + 1) = d := by omega
    have eE : ∀ _ : Unit, w32 ((E : Int) + 1) = ((E + 1 : Nat) : Int) := fun _ => w_s (by omega)
    have h18 : gI σ 122 18 = (st.1 : Int) := hO.2.2.2.2.1
    have e136 : gI σ 136 E = st.2.2.2.1 8 E := mG_k hO.2.2.2.2 (q := 4) (i := E) (by omega) (by omega) hEc
    have e138 : gI σ 138 E = st.2.2.2.1 9 E + 1 := mG_k hO.2.2.2.2 (q := 6) (i := E) (by omega) (by omega) hEc
    have j62 : ∀ o4, zEv true ((219, 13, [some (.inr (.inr 122)), some (.inl (i : Int)), some (.inl (pbt st (bst T st (chs T st i) k))), some (.inl ((E + 1 : Nat) : Int)), some (.inl 0)], []) :: K) σ → zEv true ((219, 62, [some (.inr (.inr 122)), some (.inl (i : Int)), some (.inl (pbt st (bst T st (chs T st i) k))), some (.inl (E : Int)), o4], []) :: K) σ := fun o4 h => by
      rw [zj_219_62 hKl, if_pos rfl, zj_219_92, (eE ())]
      exact h
    rw [zj_219_13 hKl, h18, if_neg hni, yAnd hcE, Int.toNat_natCast, e136]
    by_cases c8 : st.2.2.2.1 8 E = -1
    · rw [if_pos c8]
      refine j62 _ (ih (E + 1) k _ hd1 hEc hk (fun k' hk' => ?_))
      rw [← hinv k' hk']
      have hne : np st k' ≠ E := fun x => by
        have := (np_ok hg hk').2.2.1
        rw [x, c8] at this; omega
      clear e136 e138 c8 eE; omega
    · obtain ⟨k0, k1, k2, k3⟩ := np_num hg hEc c8
      have ek : k0 = k := by
        have h1 : ¬ k0 < k := fun x => by have := (hinv k0 k1).mpr x; omega
        rcases Nat.lt_trichotomy k k0 with x | x | x
        · have h2 := np_lt hg x k1
          have := (hinv k (by omega)).mp (by omega)
          omega
        · exact x.symm
        · exact absurd x h1
      subst ek
      have hinv' : ∀ k', k' < st.2.2.1 → (np st k' < E + 1 ↔ k' < k0 + 1) := fun k' hk' => by
        have h1 := hinv k' hk'
        constructor
        · intro x
          by_cases e : np st k' = E
          · rcases Nat.lt_trichotomy k' k0 with y | y | y
            · omega
            · omega
            · have := np_lt hg y hk'; omega
          · have := h1.mp (by omega); omega
        · intro x
          by_cases e : k' = k0
          · rw [e, k3]; omega
          · have := h1.mpr (by omega); omega
      have hI := fun o4 => ih (E + 1) (k0 + 1) o4 hd1 hEc k1 hinv'
      have h11 : st.2.2.2.1 11 E = 0 := (num_11 hg hEc c8).1
      have skip : ¬ btr T st (chs T st i) (bst T st (chs T st i) k0) k0 → ∀ o4, zEv true ((219, 13, [some (.inr (.inr 122)), some (.inl (i : Int)), some (.inl (pbt st (bst T st (chs T st i) k0))), some (.inl ((E + 1 : Nat) : Int)), o4], []) :: K) σ := fun h o4 => by
        rw [← bst_n h]; exact hI o4
      rw [if_neg c8, yAnd hcE, e138]
      by_cases c9 : st.2.2.2.1 9 E = -1
      · have cp : pln st.2.2.2.1 (np st k0) := by rw [k3]; exact ⟨h11, c9⟩
        rw [c9, if_neg (by decide)]
        rw [m_isTold (f := fun j => np st (pl T st j)) (by omega) h178 rfl rfl, zr_219_46 hKl]
        have hch : (∃ j, j < i ∧ np st (pl T st j) = E) ↔ chs T st i k0 := by
          rw [hMl]
          constructor
          · rintro ⟨j, j1, j2⟩
            refine ⟨j, j1, ?_⟩
            have hj := hpl j j1
            rw [← k3] at j2
            rcases Nat.lt_trichotomy (pl T st j) k0 with x | x | x
            · have := np_lt hg x k1; omega
            · exact x
            · have := np_lt hg x hj; omega
          · rintro ⟨j, j1, j2⟩
            exact ⟨j, j1, by rw [j2, k3]⟩
        rcases Classical.em (chs T st i k0) with m1 | m1
        · rw [zb_t (hch.mpr m1), if_pos (by decide)]
          exact j62 _ (skip (fun x => x.1.2.1 m1) _)
        · rw [zb_f (fun x => m1 (hch.mp x)), if_neg (fun x => x rfl)]
          rw [m_isBound (f := pl T st) (by show K.length + 1 + 1 < 60; omega) hO hg hw8 hu h1c k1 (by omega) hpl h178 (by rw [k3]) rfl, zr_219_55 hKl]
          have hjj : (i = 0 ∨ ∃ j, j < i ∧ told st (pl T st j) k0 st.1) ↔ ((∀ x, x < 4 → ¬ chs T st i x) ∨ jnd st (chs T st i) k0 st.1) := by rw [hemp, told_jnd hb]
          rcases Classical.em (i = 0 ∨ ∃ j, j < i ∧ told st (pl T st j) k0 st.1) with m2 | m2
          · have he : elg st (chs T st i) k0 := ⟨cp, m1, hjj.mp m2⟩
            have take : btr T st (chs T st i) (bst T st (chs T st i) k0) k0 → ∀ o4, zEv true ((219, 13, [some (.inr (.inr 122)), some (.inl (i : Int)), some (.inl (E : Int)), some (.inl ((E + 1 : Nat) : Int)), o4], []) :: K) σ := fun h o4 => by
              have e : pbt st (bst T st (chs T st i) (k0 + 1)) = (E : Int) := by
                rw [bst_y h]; unfold pbt
                rw [if_neg (by omega), Int.toNat_natCast, k3]
              rw [← e]; exact hI o4
            rw [zb_t m2, if_neg (by decide), if_neg (by decide)]
            rcases bst_spec (T := T) (st := st) (M := chs T st i) k0 with ⟨b1, -⟩ | ⟨b, b1, b2, -⟩
            · have e : pbt st (bst T st (chs T st i) k0) = -1 := by rw [b1]; rfl
              rw [e, if_pos rfl, (eE ())]
              exact take ⟨he, Or.inl b1⟩ _
            · have e : pbt st (bst T st (chs T st i) k0) = (np st b : Int) := by rw [b2]; unfold pbt; rw [if_neg (by omega), Int.toNat_natCast]
              have hbN : b < st.2.2.1 := by omega
              rw [e, if_neg (by omega), m_fitting (by show K.length + 1 + 2 ≤ 60; omega) hgT hO hg hw8 hl k1 (by rw [k3]), zr_219_80 hKl, m_fitting (by show K.length + 1 + 2 ≤ 60; omega) hgT hO hg hw8 hl hbN rfl, zr_219_85]
              by_cases hf : fcN T st b ≤ fcN T st k0
              · rw [if_pos (Int.ofNat_le.mpr hf), zj_219_92, (eE ()), ← e]
                refine skip (fun x => ?_) _
                rcases x.2 with y | y
                · rw [b2] at y; omega
                · rw [b2, Int.toNat_natCast] at y
                  exact absurd hf (Nat.not_le.mpr y)
              · rw [if_neg (fun x => hf (Int.ofNat_le.mp x)), (eE ())]
                refine take ⟨he, Or.inr ?_⟩ _
                rw [b2, Int.toNat_natCast]
                exact Nat.not_le.mp hf
          · rw [zb_f m2, if_pos rfl]
            exact j62 _ (skip (fun x => m2 (hjj.mpr x.1.2.2)) _)
      · rw [if_pos (by omega)]
        exact j62 _ (skip (fun x => c9 (by have := x.1.1.2; rw [k3] at this; exact this)) _)
theorem m_plans {K : List zF} (hK : K.length + 3 ≤ 60) {m q : Nat} {T : TRE} {st : PST} {pd : Nat → Nat} {σ : zW} (hgT : tgd T) (hO : mOn q T st σ) (hg : pgd st pd) (hw8 : pw st) (hu : pup st) (h1c : 1 ≤ st.1) (hl : st.2.1 ≤ 300) (hm : m ≤ st.2.2.1) (h1 : ∀ j, j < m → bst T st (chs T st j) st.2.2.1 ≠ -1) (h2 : bst T st (chs T st m) st.2.2.1 = -1)
    (k : ∀ σ' : zW, yFr (fun k _ => k = 178) σ σ' → (∀ j, j < m → gI σ' 178 j = (np st (pl T st j) : Int)) → zRet true K (some (.inl (m : Int))) σ') : zEv true (zent 219 [.inr (.inr 122)] :: K) σ := by
  have hN := hw8.2.1
  have hc := hw8.1
  rw [ze_219]
  have L : ∀ (d i : Nat) (x2 : Int) (o3 o4 : Option zV) (σ2 : zW), m - i = d → i ≤ m → x2 ≠ -1 → yFr (fun k _ => k = 178) σ σ2 → (∀ j, j < i → gI σ2 178 j = (np st (pl T st j) : Int)) → zEv true ((219, 4, [some (.inr (.inr 122)), some (.inl (i : Int)), some (.inl x2), o3, o4], []) :: K) σ2 := by
    intro d
    induction d with
    | zero =>
      intro i x2 o3 o4 σ2 hd hi hx hF h178
      have e : i = m := by omega
      rw [e] at h178 ⊢
      have hO2 := mOn_fr hO hF (fun k j x => by omega)
      rw [zj_219_4, if_neg hx]
      have goal := m_pick (K := K) (o4 := o4) hK hgT hO2 hg hw8 hu h1c hl hm h1 h178 (fun o4 => by
        have h18 : gI σ2 122 18 = (st.1 : Int) := hO2.2.2.2.2.1
        have e : pbt st (bst T st (chs T st m) st.2.2.1) = -1 := by rw [h2]; rfl
        rw [zj_219_13 (by omega), h18, if_pos (Int.le_refl _), e, if_pos rfl, zj_219_4, if_pos rfl]
        exact k σ2 hF h178) st.1 0 0 (Nat.sub_zero _) (Nat.zero_le _) (Nat.zero_le _) (fun k' _ => ⟨fun x => absurd x (Nat.not_lt_zero _), fun x => absurd x (Nat.not_lt_zero _)⟩)
      exact goal
    | succ d ih =>
      intro i x2 o3 o4 σ2 hd hi hx hF h178
      have him : i < m := by omega
      have hO2 := mOn_fr hO hF (fun k j x => by omega)
      rw [zj_219_4, if_neg hx]
      have goal := m_pick (K := K) (o4 := o4) hK hgT hO2 hg hw8 hu h1c hl (show i ≤ st.2.2.1 by omega) (fun j hj => h1 j (by omega)) h178 (fun o4 => by
        have h18 : gI σ2 122 18 = (st.1 : Int) := hO2.2.2.2.2.1
        rcases bst_spec (T := T) (st := st) (M := chs T st i) st.2.2.1 with x | ⟨b, b1, b2, b3⟩
        · exact absurd x.1 (h1 i him)
        · have hpl : pl T st i = b := by unfold pl; rw [b2, Int.toNat_natCast]
          have e : pbt st (bst T st (chs T st i) st.2.2.1) = (np st b : Int) := by rw [b2]; unfold pbt; rw [if_neg (by omega), Int.toNat_natCast]
          have hci : 0 ≤ (i : Int) ∧ (i : Int) < 4 := by omega
          have ei : ∀ _ : Unit, w32 ((i : Int) + 1) = ((i + 1 : Nat) : Int) := fun _ => w_s (by omega)
          rw [zj_219_13 (by omega), h18, if_pos (Int.le_refl _), e, if_neg (by omega), yAnd hci, Int.toNat_natCast, (ei ())]
          have hF2 : yFr (fun k j => k = 178 ∧ j = i) σ2 (sI σ2 178 i (np st b : Int)) := yFr.rf.I ⟨rfl, rfl⟩
          have e9 : gI (sI σ2 178 i (np st b : Int)) 178 i = (np st b : Int) := yGI_hit
          generalize sI σ2 178 i (np st b : Int) = σ3 at hF2 e9 ⊢
          refine ih (i + 1) _ _ _ σ3 (by omega) him (by omega) (hF.trans (hF2.mono (fun k j x => x.1))) (fun j hj => ?_)
          by_cases ej : j = i
          · rw [ej, e9, hpl]
          · rw [hF2.i (by omega)]; exact h178 j (by omega)) st.1 0 0 (Nat.sub_zero _) (Nat.zero_le _) (Nat.zero_le _) (fun k' _ => ⟨fun x => absurd x (Nat.not_lt_zero _), fun x => absurd x (Nat.not_lt_zero _)⟩)
      exact goal
  exact L m 0 0 _ _ σ (Nat.sub_zero _) (Nat.zero_le _) (by decide) yFr.rf (fun j hj => absurd hj (Nat.not_lt_zero j))
