/-! the plan: which numbers are bound first -/
noncomputable def fcN (T : TRE) (st : PST) (k : Nat) : Nat := (lst (fun a => ftP st.2.2.2.1 st.2.2.2.2 (np st k) (T.2.1 a)) T.1).length
def jnd (st : PST) (M : Nat → Prop) (k E : Nat) : Prop := ∃ r, 1 ≤ r ∧ r < E ∧ pln st.2.2.2.1 r ∧ ((nm st (fr3 st r) = k ∧ M (nm st r)) ∨ (nm st r = k ∧ M (nm st (fr3 st r))))
def elg (st : PST) (M : Nat → Prop) (k : Nat) : Prop := pln st.2.2.2.1 (np st k) ∧ ¬ M k ∧ ((∀ x, x < 4 → ¬ M x) ∨ jnd st M k st.1)
def btr (T : TRE) (st : PST) (M : Nat → Prop) (b : Int) (k : Nat) : Prop := elg st M k ∧ (b = -1 ∨ fcN T st k < fcN T st b.toNat)
noncomputable def bst (T : TRE) (st : PST) (M : Nat → Prop) : Nat → Int
  | 0 => -1
  | m + 1 => @ite Int (btr T st M (bst T st M m) m) (Classical.propDecidable _) (m : Int) (bst T st M m)
theorem bst_y {T : TRE} {st : PST} {M : Nat → Prop} {m : Nat} (h : btr T st M (bst T st M m) m) : bst T st M (m + 1) = (m : Int) := if_pos h
theorem bst_n {T : TRE} {st : PST} {M : Nat → Prop} {m : Nat} (h : ¬ btr T st M (bst T st M m) m) : bst T st M (m + 1) = bst T st M m := if_neg h
theorem bst_spec {T : TRE} {st : PST} {M : Nat → Prop} : ∀ m, (bst T st M m = -1 ∧ ∀ k, k < m → ¬ elg st M k) ∨ ∃ k : Nat, k < m ∧ bst T st M m = (k : Int) ∧ elg st M k := by
  intro m
  induction m with
  | zero => exact Or.inl ⟨rfl, fun k hk => absurd hk (Nat.not_lt_zero k)⟩
  | succ m ih =>
    rcases Classical.em (btr T st M (bst T st M m) m) with c | c
    · exact Or.inr ⟨m, Nat.lt_succ_self m, bst_y c, c.1⟩
    · rw [bst_n c]
      rcases ih with ⟨h1, h2⟩ | ⟨k, k1, k2, k3⟩
      · refine Or.inl ⟨h1, fun k hk => ?_⟩
        rcases Nat.lt_succ_iff_lt_or_eq.mp hk with x | x
        · exact h2 k x
        · rw [x]; exact fun y => c ⟨y, Or.inl h1⟩
      · exact Or.inr ⟨k, Nat.lt_succ_of_lt k1, k2, k3⟩
/-- what is chosen behind i steps -/
def chs (T : TRE) (st : PST) : Nat → Nat → Prop
  | 0, _ => False
  | i + 1, k => chs T st i k ∨ bst T st (chs T st i) st.2.2.1 = (k : Int)
noncomputable def pl (T : TRE) (st : PST) (i : Nat) : Nat := (bst T st (chs T st i) st.2.2.1).toNat
theorem chs_Ml {T : TRE} {st : PST} : ∀ i, (∀ j, j < i → bst T st (chs T st j) st.2.2.1 ≠ -1) → ∀ k, chs T st i k ↔ Ml (pl T st) i k := by
  intro i
  induction i with
  | zero => exact fun _ k => ⟨fun x => x.elim, fun x => by obtain ⟨j, j1, -⟩ := x; exact absurd j1 (Nat.not_lt_zero j)⟩
  | succ i ih =>
    intro h k
    rw [Ml_s, ← ih (fun j hj => h j (Nat.lt_succ_of_lt hj)) k]
    have hi := h i (Nat.lt_succ_self i)
    have e : bst T st (chs T st i) st.2.2.1 = (pl T st i : Int) := by
      rcases bst_spec (T := T) (st := st) (M := chs T st i) st.2.2.1 with x | ⟨k, k1, k2, k3⟩
      · exact absurd x.1 hi
      · unfold pl; rw [k2, Int.toNat_natCast]
    show (chs T st i k ∨ bst T st (chs T st i) st.2.2.1 = (k : Int)) ↔ _
    rw [e]
    exact ⟨fun x => x.imp id (fun y => (Int.ofNat.inj y).symm), fun x => x.imp id (fun y => by rw [y])⟩
theorem chs_len {T : TRE} {st : PST} : ∀ i, (∀ j, j < i → bst T st (chs T st j) st.2.2.1 ≠ -1) → (lst (chs T st i) st.2.2.1).length = i := by
  intro i
  induction i with
  | zero =>
    intro _
    have : lst (chs T st 0) st.2.2.1 = lst (chs T st 0) 0 := lst_skip _ (Nat.zero_le _) (fun c _ _ x => x)
    rw [this]; rfl
  | succ i ih =>
    intro h
    have h1 := ih (fun j hj => h j (Nat.lt_succ_of_lt hj))
    rcases bst_spec (T := T) (st := st) (M := chs T st i) st.2.2.1 with x | ⟨k, k1, k2, k3⟩
    · exact absurd x.1 (h i (Nat.lt_succ_self i))
    · have e : lst (chs T st (i + 1)) st.2.2.1 = lst (fun d => chs T st i d ∨ d = k) st.2.2.1 := cnt_c _ (fun d _ => by
        show (chs T st i d ∨ bst T st (chs T st i) st.2.2.1 = (d : Int)) ↔ _
        rw [k2]
        exact ⟨fun x => x.imp id (fun y => (Int.ofNat.inj y).symm), fun x => x.imp id (fun y => by rw [y])⟩)
      rw [e, lst_or, h1, if_pos ⟨k1, k3.2.1⟩]
theorem plan_len {T : TRE} {st : PST} : ∃ m, m ≤ st.2.2.1 ∧ (∀ j, j < m → bst T st (chs T st j) st.2.2.1 ≠ -1) ∧ bst T st (chs T st m) st.2.2.1 = -1 := by
  have key : ∀ d i, st.2.2.1 - i = d → i ≤ st.2.2.1 → (∀ j, j < i → bst T st (chs T st j) st.2.2.1 ≠ -1) → ∃ m, m ≤ st.2.2.1 ∧ (∀ j, j < m → bst T st (chs T st j) st.2.2.1 ≠ -1) ∧ bst T st (chs T st m) st.2.2.1 = -1 := by
    intro d
    induction d with
    | zero =>
      intro i hd hi h
      have e : i = st.2.2.1 := by omega
      refine ⟨i, hi, h, Classical.byContradiction (fun x => ?_)⟩
      have h1 := chs_len (T := T) (st := st) (i + 1) (fun j hj => by
        rcases Nat.lt_succ_iff_lt_or_eq.mp hj with y | y
        · exact h j y
        · rw [y]; exact x)
      have h2 := lst_len (P := chs T st (i + 1)) st.2.2.1
      rw [h1] at h2
      omega
    | succ d ih =>
      intro i hd hi h
      by_cases x : bst T st (chs T st i) st.2.2.1 = -1
      · exact ⟨i, hi, h, x⟩
      · refine ih (i + 1) (by omega) (by omega) (fun j hj => ?_)
        rcases Nat.lt_succ_iff_lt_or_eq.mp hj with y | y
        · exact h j y
        · rw [y]; exact x
  exact key _ 0 rfl (Nat.zero_le _) (fun j hj => absurd hj (Nat.not_lt_zero j))
/-- a part of a plain number, behind the first, hangs on one of a smaller -/
theorem num_up {st : PST} {pd : Nat → Nat} (hg : pgd st pd) (hw8 : pw st) (hu : pup st) {k : Nat} (hk : k < st.2.2.1) (hp : pln st.2.2.2.1 (np st k)) (h0 : np st k ≠ 0) : nm st (np st k) = k ∧ nm st (fr3 st (np st k)) < k ∧ nm st (fr3 st (np st k)) < st.2.2.1 ∧ pln st.2.2.2.1 (np st (nm st (fr3 st (np st k)))) := by
  obtain ⟨n1, n2, n3, n4, n5⟩ := np_ok hg hk
  obtain ⟨f1, f2, f3⟩ := fr_pln hg hw8 hu n1 h0 hp
  obtain ⟨m1, m2, m3, m4, m5, m6⟩ := nm_ok hg (Nat.lt_trans f2 n1) f3
  have e : nm st (np st k) = k := by
    unfold nm mt
    rw [if_neg n5, n3, Int.toNat_natCast]
  have hle : mt st.2.2.2.1 (fr3 st (np st k)) ≤ fr3 st (np st k) := by
    unfold mt
    by_cases c : st.2.2.2.1 1 (fr3 st (np st k)) = 4
    · rw [if_pos c]
      exact Nat.le_of_lt (ref_own hg (Nat.lt_trans f2 n1) (Or.inr c))
    · rw [if_neg c]; exact Nat.le_refl _
  refine ⟨e, np_mono hg m2 hk (by rw [m3]; omega), m2, by rw [m3]; exact m4⟩
theorem plan_cov {T : TRE} {st : PST} {pd : Nat → Nat} {M : Nat → Prop} (hg : pgd st pd) (hw8 : pw st) (hu : pup st) (hM : ∀ k, M k → k < st.2.2.1 ∧ pln st.2.2.2.1 (np st k)) (hno : ∀ k, k < st.2.2.1 → ¬ elg st M k) : ∀ k, k < st.2.2.1 → pln st.2.2.2.1 (np st k) → M k := by
  have hne : (∃ k, k < st.2.2.1 ∧ pln st.2.2.2.1 (np st k) ∧ ¬ M k) → ∃ x, M x := fun ⟨k, k1, k2, k3⟩ => Classical.byContradiction (fun y => hno k k1 ⟨k2, k3, Or.inl (fun x _ hx => y ⟨x, hx⟩)⟩)
  have step : ∀ k, k < st.2.2.1 → pln st.2.2.2.1 (np st k) → np st k ≠ 0 → (M k ↔ M (nm st (fr3 st (np st k)))) := fun k k1 k2 k3 => by
    obtain ⟨e1, e2, e3, e4⟩ := num_up hg hw8 hu k1 k2 k3
    have hr := (np_ok hg k1).1
    constructor
    · intro hm
      refine Classical.byContradiction (fun y => hno _ e3 ⟨e4, y, Or.inr ⟨np st k, by omega, hr, k2, Or.inl ⟨rfl, by rw [e1]; exact hm⟩⟩⟩)
    · intro hm
      exact Classical.byContradiction (fun y => hno k k1 ⟨k2, y, Or.inr ⟨np st k, by omega, hr, k2, Or.inr ⟨e1, hm⟩⟩⟩)
  -- all plain numbers are as the first
  have same : ∀ k, k < st.2.2.1 → pln st.2.2.2.1 (np st k) → (M k ↔ M 0) := by
    intro k
    induction k using Nat.strongRecOn with
    | _ k ih =>
      intro k1 k2
      by_cases h0 : np st k = 0
      · have : k = 0 := by
          rcases Nat.eq_zero_or_pos k with x | x
          · exact x
          · have := np_lt hg x k1; omega
        rw [this]
      · obtain ⟨e1, e2, e3, e4⟩ := num_up hg hw8 hu k1 k2 h0
        rw [step k k1 k2 h0]
        exact ih _ e2 e3 e4
  intro k k1 k2
  refine Classical.byContradiction (fun y => ?_)
  obtain ⟨x, hx⟩ := hne ⟨k, k1, k2, y⟩
  obtain ⟨x1, x2⟩ := hM x hx
  exact y ((same k k1 k2).mpr ((same x x1 x2).mp hx))
theorem plan_ok {T : TRE} {st : PST} {pd : Nat → Nat} {m : Nat} (hg : pgd st pd) (hw8 : pw st) (hu : pup st) (hm : m ≤ st.2.2.1) (h1 : ∀ j, j < m → bst T st (chs T st j) st.2.2.1 ≠ -1) (h2 : bst T st (chs T st m) st.2.2.1 = -1) : plOK st (pl T st) m := by
  have hN := hw8.2.1
  have hsp : ∀ j, j < m → pl T st j < st.2.2.1 ∧ elg st (chs T st j) (pl T st j) := fun j hj => by
    rcases bst_spec (T := T) (st := st) (M := chs T st j) st.2.2.1 with x | ⟨k, k1, k2, k3⟩
    · exact absurd x.1 (h1 j hj)
    · have : pl T st j = k := by unfold pl; rw [k2, Int.toNat_natCast]
      rw [this]; exact ⟨k1, k3⟩
  have hMl := chs_Ml (T := T) (st := st) m h1
  refine ⟨by omega, fun j hj => ⟨(hsp j hj).1, (hsp j hj).2.1⟩, fun i j hij hj e => ?_, fun k k1 k2 => ?_⟩
  · have := (hsp j hj).2.2.1
    refine this ((chs_Ml (T := T) (st := st) j (fun j' hj' => h1 j' (by omega)) _).mpr ⟨i, hij, e⟩)
  · have hM : ∀ k, chs T st m k → k < st.2.2.1 ∧ pln st.2.2.2.1 (np st k) := fun k hk => by
      obtain ⟨j, j1, j2⟩ := (hMl k).mp hk
      rw [← j2]
      exact ⟨(hsp j j1).1, (hsp j j1).2.1⟩
    have hno : ∀ k, k < st.2.2.1 → ¬ elg st (chs T st m) k := by
      rcases bst_spec (T := T) (st := st) (M := chs T st m) st.2.2.1 with x | ⟨k, k1, k2, k3⟩
      · exact x.2
      · rw [h2] at k2; omega
    exact (hMl k).mp (plan_cov (T := T) hg hw8 hu hM hno k k1 k2)
