/-! the law's two arrays: parents and letters, and how many -/
def tmA (n : Nat) (tt lb : Nat → Int) (σ : zW) : Prop := n ≤ 9 ∧ gI σ 123 0 = (n : Int) ∧ ∀ k, k < n → gI σ 122 k = tt k ∧ gI σ 122 (20 + k) = lb k
theorem tmA_fr {n m : Nat} {tt lb : Nat → Int} {σ σ' : zW} (h : tmA n tt lb σ) (hF : lFr m σ σ') : tmA n tt lb σ' := ⟨h.1, (hF.1 123 0 (by decide)).trans h.2.1, fun k hk => ⟨(hF.1 122 k (by decide)).trans (h.2.2 k hk).1, (hF.1 122 _ (by decide)).trans (h.2.2 k hk).2⟩⟩
/-- the tree that the arrays tell -/
def tmT (T : TRE) (tt lb : Nat → Int) : Prop := wfd T.1 T.2.2 ∧ 1 ≤ T.1 ∧ T.1 ≤ 9 ∧ ∀ k, k < T.1 → par T.2.2 k = tt k ∧ lb1 (lb k)
theorem zb_flag {P Q : Prop} : (if ¬ zb P = 0 then 1 else (if ¬ zb Q = 1 then 0 else 1) : Int) = zb (P ∨ Q) := by
  rcases Classical.em P with p | p
  · rw [zb_t p, zb_t (Or.inl p), if_pos (by decide)]
  · rw [zb_f p, if_neg (fun h => h rfl)]
    rcases Classical.em Q with q | q
    · rw [zb_t q, zb_t (Or.inr q), if_neg (fun h => h rfl)]
    · rw [zb_f q, zb_f (fun h => h.elim p q), if_pos (by decide)]
theorem zb_fl {P : Prop} {x y : Int} : (if ¬ zb P = 0 then 1 else (if ¬ x = y then 0 else 1) : Int) = zb (P ∨ x = y) := by
  rcases Classical.em P with p | p
  · rw [zb_t p, zb_t (Or.inl p), if_pos (by decide)]
  · rw [zb_f p, if_neg (fun h => h rfl)]
    by_cases q : x = y
    · rw [if_neg (fun h => h q), zb_t (Or.inr q)]
    · rw [if_pos q, zb_f (fun h => h.elim p q)]
theorem ws1 {i : Nat} (h : i < 1000000) : w32 ((i : Int) + 1) = ((i + 1 : Nat) : Int) := by
  rw [zw_id (by omega) (by omega)]; omega
/-- hasChild -/
theorem q_hasChild {K : List zF} {n : Nat} {tt lb : Nat → Int} {z : Int} {σ : zW} (h : tmA n tt lb σ) : zEv true (zent 147 [.inr (.inr 122), .inr (.inr 123), .inl z] :: K) σ = zRet true K (some (.inl (zb (∃ j, j < n ∧ tt j = z)))) σ := by
  obtain ⟨h9, h1, h2⟩ := h
  have loop : ∀ (m i : Nat), n - i = m → i ≤ n → zEv true ((147, 5, [some (.inr (.inr 122)), some (.inr (.inr 123)), some (.inl z), some (.inl (zb (∃ j, j < i ∧ tt j = z))), some (.inl (i : Int))], []) :: K) σ = zRet true K (some (.inl (zb (∃ j, j < n ∧ tt j = z)))) σ := by
    intro m
    induction m with
    | zero =>
      intro i hm hi
      have e : i = n := by omega
      rw [zj_147_5, h1, if_pos (by omega), yAnd (zb01 _), e]
    | succ m ih =>
      intro i hm hi
      have hi' : i < n := by omega
      rw [zj_147_5, h1, if_neg (by omega), yAnd (fun _ => by omega), Int.toNat_natCast, (h2 i hi').1, zb_fl, ws1 (by omega)]
      have := ih (i + 1) (by omega) hi'
      rw [zb_c (Q := (∃ j, j < i ∧ tt j = z) ∨ tt i = z) ⟨fun ⟨j, a, b⟩ => by
        by_cases e : j = i
        · right; rw [← e]; exact b
        · left; exact ⟨j, by omega, b⟩, fun w => by
        rcases w with ⟨j, a, b⟩ | b
        · exact ⟨j, by omega, b⟩
        · exact ⟨i, by omega, b⟩⟩] at this
      exact this
  rw [ze_147]
  have := loop n 0 rfl (Nat.zero_le _)
  rw [zb_f (P := ∃ j, j < 0 ∧ tt j = z) (fun ⟨j, a, _⟩ => absurd a (Nat.not_lt_zero j))] at this
  exact this
theorem leaf_tt {T : TRE} {tt lb : Nat → Int} (h : tmT T tt lb) {k : Nat} : (∃ j, j < T.1 ∧ tt j = (k : Int)) ↔ ¬ kidc T.2.2 k T.1 = 0 := by
  obtain ⟨hw, h1, h9, h2⟩ := h
  constructor
  · rintro ⟨j, hj, e⟩
    have := kidc_lt ((h2 j hj).1.trans e) hj
    omega
  · intro c
    obtain ⟨i, a, b, e⟩ := kidc_ex (dep := T.2.2) (a := k) (c := 0) (c' := T.1) (by show 0 < _; omega)
    exact ⟨i, b, by rw [← (h2 i b).1]; exact e⟩
/-- b over a, or a itself -/
def und (T : TRE) (b a : Nat) : Prop := b ≤ a ∧ a < ed T.2.2 T.1 b
theorem und_0 {T : TRE} (hw : wfd T.1 T.2.2) (h1 : 1 ≤ T.1) {b : Nat} : und T b 0 ↔ b = 0 := by
  unfold und
  constructor
  · intro h; omega
  · intro h; subst h; exact ⟨Nat.le_refl _, by have := (ed_spec (dep := T.2.2) (n := T.1) (a := 0) h1).1; omega⟩
theorem und_up {T : TRE} (hw : wfd T.1 T.2.2) {a b p : Nat} (ha : a < T.1) (hb : b < T.1) (hp : par T.2.2 a = (p : Int)) : und T b a ↔ (a = b ∨ und T b p) := by
  have hpl := par_lt T.2.2 a
  have hs := ed_spec (dep := T.2.2) hb
  unfold und
  by_cases e : a = b
  · subst e
    exact ⟨fun _ => Or.inl rfl, fun _ => ⟨Nat.le_refl _, hs.1⟩⟩
  · by_cases c : b < p
    · have := below_up hw ha hb hp c
      constructor
      · intro h; right; have := this.mp (by omega); omega
      · intro h
        rcases h with h | h
        · exact absurd h e
        · have := this.mpr (by omega); omega
    · have := below_end hw ha hb (show par T.2.2 a ≤ (b : Int) by omega)
      constructor
      · intro h
        have h3 := this.mp (by omega)
        right
        omega
      · intro h
        rcases h with h | h
        · exact absurd h e
        · have h3 : p = b := by omega
          have := this.mpr (by rw [hp, h3])
          omega
/-- isUnder -/
theorem q_isUnder {K : List zF} {T : TRE} {tt lb : Nat → Int} {a b : Nat} {x y : Int} {σ : zW} (h : tmA T.1 tt lb σ) (hT : tmT T tt lb) (ha : a < T.1) (hb : b < T.1) (hx : x = (a : Int)) (hy : y = (b : Int)) : zEv true (zent 148 [.inr (.inr 122), .inl x, .inl y] :: K) σ = zRet true K (some (.inl (zb (und T b a)))) σ := by
  subst hx
  subst hy
  obtain ⟨h9, h1, h2⟩ := h
  obtain ⟨hw, hT1, -, hT2⟩ := hT
  have loop : ∀ (c : Nat) (P : Prop) (o1 : Option zV), c < T.1 → zEv true ((148, 5, [some (.inr (.inr 122)), o1, some (.inl (b : Int)), some (.inl (zb P)), some (.inl (c : Int))], []) :: K) σ = zRet true K (some (.inl (zb (P ∨ und T b c)))) σ := by
    intro c
    induction c using Nat.strongRecOn with
    | ind c ih =>
      intro P o1 hc
      rw [zj_148_5, if_neg (by omega), yAnd (by omega), Int.toNat_natCast, (h2 c hc).1, ← (hT2 c hc).1, zb_fl]
      by_cases c0 : c = 0
      · subst c0
        rw [par_root hw, zj_148_5, if_pos (by decide), yAnd (zb01 _)]
        rw [zb_c (P := P ∨ und T b 0) (Q := P ∨ ((0 : Nat) : Int) = (b : Int)) (by
          rw [und_0 hw hT1]
          constructor
          · intro w; exact w.imp id (fun w => by omega)
          · intro w; exact w.imp id (fun w => by omega))]
      · obtain ⟨p, hp, hpc, -⟩ := par_some hw hc (by omega)
        rw [hp, ih p hpc _ _ (by omega)]
        rw [zb_c (P := P ∨ und T b c) (Q := (P ∨ (c : Int) = (b : Int)) ∨ und T b p) (by
          rw [und_up hw hc hb hp, or_assoc]
          constructor
          · intro w; exact w.imp id (fun w => w.imp (fun w => by omega) id)
          · intro w; exact w.imp id (fun w => w.imp (fun w => by omega) id))]
  rw [ze_148]
  have := loop a False (some (.inl (a : Int))) ha
  rw [zb_f (P := False) id, zb_c (Q := und T b a) ⟨fun w => w.elim False.elim id, Or.inr⟩] at this
  exact this
/-- children and words, by the arrays -/
theorem q_children {K : List zF} {T : TRE} {tt lb : Nat → Int} {a : Nat} {x : Int} {σ : zW} (h : tmA T.1 tt lb σ) (hT : tmT T tt lb) (hx : x = (a : Int)) : zEv true (zent 162 [.inr (.inr 122), .inr (.inr 123), .inl x] :: K) σ = zRet true K (some (.inl ((kidc T.2.2 a T.1 : Nat) : Int))) σ := by
  subst hx
  obtain ⟨h9, h1, h2⟩ := h
  obtain ⟨hw, hT1, -, hT2⟩ := hT
  have loop : ∀ (m i : Nat), T.1 - i = m → i ≤ T.1 → zEv true ((162, 5, [some (.inr (.inr 122)), some (.inr (.inr 123)), some (.inl (a : Int)), some (.inl ((kidc T.2.2 a i : Nat) : Int)), some (.inl (i : Int))], []) :: K) σ = zRet true K (some (.inl ((kidc T.2.2 a T.1 : Nat) : Int))) σ := by
    intro m
    induction m with
    | zero =>
      intro i hm hi
      have e : i = T.1 := by omega
      rw [zj_162_5, h1, if_pos (by omega), e]
    | succ m ih =>
      intro i hm hi
      have hi' : i < T.1 := by omega
      have hk := kidc_le (dep := T.2.2) (a := a) i
      rw [zj_162_5, h1, if_neg (by omega), yAnd (by omega), Int.toNat_natCast, (h2 i hi').1, ← (hT2 i hi').1, ws1 (by omega)]
      have e : w32 (((kidc T.2.2 a i : Nat) : Int) + (if ¬ par T.2.2 i = (a : Int) then 0 else 1)) = ((kidc T.2.2 a (i + 1) : Nat) : Int) := by
        by_cases c : par T.2.2 i = (a : Int)
        · rw [if_neg (fun w => w c), kidc_eq c, zw_id (by omega) (by omega)]; omega
        · rw [if_pos c, kidc_ne c, zw_id (by omega) (by omega)]; omega
      rw [e]
      exact ih (i + 1) (by omega) hi'
  rw [ze_162]
  exact loop T.1 0 rfl (Nat.zero_le _)
/-- how many words of the first i nodes are under a -/
def wun (T : TRE) (a : Nat) (i : Nat) : Nat := if i ≤ a then 0 else wrd T.2.2 T.1 (if i ≤ ed T.2.2 T.1 a then i else ed T.2.2 T.1 a) - wrd T.2.2 T.1 a
theorem wun_s {T : TRE} {a i : Nat} (ha : a < T.1) (hi : i < T.1) : wun T a (i + 1) = wun T a i + @ite Nat (kidc T.2.2 i T.1 = 0 ∧ und T a i) (Classical.propDecidable _) 1 0 := by
  have hs := ed_spec (dep := T.2.2) ha
  unfold wun und
  by_cases c1 : i + 1 ≤ a
  · rw [if_pos c1, if_pos (by omega), if_neg (fun w => by omega)]
  · rw [if_neg c1]
    by_cases c2 : i + 1 ≤ ed T.2.2 T.1 a
    · rw [if_pos c2]
      by_cases c3 : i ≤ a
      · have e : i = a := by omega
        subst e
        rw [if_pos c3]
        by_cases c4 : kidc T.2.2 i T.1 = 0
        · rw [if_pos ⟨c4, by omega⟩, wrd_leaf c4]; omega
        · rw [if_neg (fun w => c4 w.1), wrd_ne c4]; omega
      · rw [if_neg c3, if_pos (by omega)]
        have hm := wrd_mono (dep := T.2.2) (n := T.1) (show a ≤ i by omega)
        by_cases c4 : kidc T.2.2 i T.1 = 0
        · rw [if_pos ⟨c4, by omega⟩, wrd_leaf c4]; omega
        · rw [if_neg (fun w => c4 w.1), wrd_ne c4]; omega
    · rw [if_neg c2, if_neg (show ¬ i ≤ a by omega), if_neg (show ¬ (kidc T.2.2 i T.1 = 0 ∧ a ≤ i ∧ i < ed T.2.2 T.1 a) from fun w => by omega), Nat.add_zero]
      by_cases c3 : i ≤ ed T.2.2 T.1 a
      · rw [if_pos c3, show i = ed T.2.2 T.1 a by omega]
      · rw [if_neg c3]
theorem wun_n {T : TRE} {a : Nat} (ha : a < T.1) : wun T a T.1 = wrd T.2.2 T.1 (ed T.2.2 T.1 a) - wrd T.2.2 T.1 a := by
  have hs := ed_spec (dep := T.2.2) ha
  unfold wun
  rw [if_neg (by omega)]
  by_cases c : T.1 ≤ ed T.2.2 T.1 a
  · rw [if_pos c, show ed T.2.2 T.1 a = T.1 by omega]
  · rw [if_neg c]
theorem wun_le {T : TRE} {a : Nat} : ∀ i, wun T a i ≤ i := by
  intro i
  have h1 := wrd_le (dep := T.2.2) (n := T.1) i
  unfold wun
  by_cases c1 : i ≤ a
  · rw [if_pos c1]; omega
  · rw [if_neg c1]
    by_cases c2 : i ≤ ed T.2.2 T.1 a
    · rw [if_pos c2]; omega
    · rw [if_neg c2]
      have h2 := wrd_le (dep := T.2.2) (n := T.1) (ed T.2.2 T.1 a)
      omega
theorem zb_n {P : Prop} : (if zb P = 0 then 0 else 1 : Int) = zb P := by
  rcases zb01 P with h | h
  · rw [h, if_pos rfl]
  · rw [h, if_neg (by decide)]
theorem zb_ite {P : Prop} : zb P = ((@ite Nat P (Classical.propDecidable _) 1 0 : Nat) : Int) := by
  rcases Classical.em P with h | h
  · rw [zb_t h, if_pos h]; rfl
  · rw [zb_f h, if_neg h]; rfl
theorem q_words {K : List zF} (hK : K.length < 60) {T : TRE} {tt lb : Nat → Int} {a : Nat} {x : Int} {σ : zW} (h : tmA T.1 tt lb σ) (hT : tmT T tt lb) (ha : a < T.1) (hx : x = (a : Int)) : zEv true (zent 163 [.inr (.inr 122), .inr (.inr 123), .inl x] :: K) σ = zRet true K (some (.inl ((wun T a T.1 : Nat) : Int))) σ := by
  subst hx
  have h9 := h.1
  have loop : ∀ (m i : Nat), T.1 - i = m → i ≤ T.1 → zEv true ((163, 5, [some (.inr (.inr 122)), some (.inr (.inr 123)), some (.inl (a : Int)), some (.inl ((wun T a i : Nat) : Int)), some (.inl (i : Int))], []) :: K) σ = zRet true K (some (.inl ((wun T a T.1 : Nat) : Int))) σ := by
    intro m
    induction m with
    | zero =>
      intro i hm hi
      have e : i = T.1 := by omega
      rw [zj_163_5 hK, h.2.1, if_pos (by omega), e]
    | succ m ih =>
      intro i hm hi
      have hi' : i < T.1 := by omega
      have hl := wun_le (T := T) (a := a) i
      have hr := ih (i + 1) (by omega) hi'
      rw [wun_s ha hi'] at hr
      rw [zj_163_5 hK, h.2.1, if_neg (by omega), q_hasChild h, zr_163_21 hK, zb_c (leaf_tt hT)]
      by_cases c : kidc T.2.2 i T.1 = 0
      · rw [zb_f (fun w => w c), if_neg (fun w => w rfl), q_isUnder h hT hi' ha rfl rfl, zr_163_31, zb_n, ws1 (by omega)]
        rw [show w32 (((wun T a i : Nat) : Int) + zb (und T a i)) = ((wun T a i + @ite Nat (kidc T.2.2 i T.1 = 0 ∧ und T a i) (Classical.propDecidable _) 1 0 : Nat) : Int) by
          rcases Classical.em (und T a i) with q | q
          · rw [zb_t q, if_pos ⟨c, q⟩, zw_id (by omega) (by omega)]; omega
          · rw [zb_f q, if_neg (fun w => q w.2), zw_id (by omega) (by omega)]; omega]
        exact hr
      · rw [zb_t c, if_pos (by decide), ws1 (by omega)]
        rw [if_neg (fun w => c w.1)] at hr
        rw [zw_id (by omega) (by omega), show ((wun T a i : Nat) : Int) + 0 = ((wun T a i + 0 : Nat) : Int) by omega]
        exact hr
  rw [ze_163]
  have := loop T.1 0 rfl (Nat.zero_le _)
  rw [show wun T a 0 = 0 from if_pos (Nat.zero_le a)] at this
  exact this
