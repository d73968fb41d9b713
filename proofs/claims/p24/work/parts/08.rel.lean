/-! what a world says of a heap -/
def zA (s0 : State) : Nat → Prop := fun q => s0.heap.size ≤ q
def zok (n k : Nat) : Prop := (1 ≤ k ∧ k ≤ n) ∨ k = 99999 ∨ (100000 ≤ k ∧ k < 100010)
def zVr (ad : Nat → Nat) (n : Nat) (a : zV) (v : Value) : Prop := match a with
  | .inl z => ∃ x : Int32, v = .int x ∧ x.toInt = z
  | .inr (.inl x) => v = .long x
  | .inr (.inr k) => (k = 0 ∧ v = .null) ∨ (zok n k ∧ v = .ref (ad k))
def zRf (ad : Nat → Nat) (n r : Nat) (o : Option Nat) : Prop := (r = 0 ∧ o = none) ∨ (1 ≤ r ∧ r ≤ n ∧ o = some (ad r))
def zSr (ad : Nat → Nat) (n : Nat) : List zV → List Value → Prop
  | [], [] => True
  | a :: l, v :: m => zVr ad n a v ∧ zSr ad n l m
  | _, _ => False
def zLr (ad : Nat → Nat) (n : Nat) (als : List (Option zV)) (ls : Array Slot) (nL : Nat) : Prop := als.length = nL ∧ ∃ lv : List (Nat × Value), lv_has ls nL lv ∧ ∀ (i : Nat) (a : zV), zget als i = some a → ∃ v, (i, v) ∈ lv ∧ zVr ad n a v
def zws (ad : Nat → Nat) (E : Nat → va_E) (n : Nat) : va_W := (List.range n).map (fun i => (ad (i + 1), E (i + 1)))
abbrev zC4 : Type := ClassId × ClassId × ClassId × ClassId
def zCo (c4 : zC4) (ad : Nat → Nat) (σ : zW) (k : Nat) (e : va_E) : Prop :=
  (zkd k = 20 → ∃ f : Nat → Int32, e = .inl (c4.1, zln k, .inl f) ∧ ∀ j, (f j).toInt = gI σ k j) ∧
  (zkd k = 21 → ∃ f : Nat → Int64, e = .inl (c4.2.1, zln k, .inr (.inl f)) ∧ ∀ j, f j = gL σ k j) ∧
  (zkd k = 22 → ∃ f : Nat → Int32, e = .inl (c4.2.2.1, zln k, .inl f) ∧ ∀ j, (f j).toInt = gI σ k j) ∧
  (zkd k = 23 → ∃ f : Nat → Option Nat, e = .inl (c4.2.2.2, zln k, .inr (.inr (.inr (.inr f)))) ∧ ∀ j, zRf ad (gN σ) (gR σ k j) (f j)) ∧
  (∀ c, c < 10 → zkd k = c + 1 → ∃ vs : List Value, e = .inr (c, vs) ∧ vs.length = zln k ∧ ∀ j, j < zln k → ∃ v, vs[j]? = some v ∧ zVr ad (gN σ) (zrd (zfk c j) σ k j) v)
def zRel (s0 : State) (D : va_G) (c4 : zC4) (b L : Nat) (xs : Nat → Int32) (adK : Nat → Nat) (ad : Nat → Nat) (E : Nat → va_E) (σ : zW) (H : Heap) : Prop :=
  va_P D zcl (zws ad E (gN σ)) H ∧ va_D (zA s0) (zws ad E (gN σ)) ∧ (∀ k, 1 ≤ k → k ≤ gN σ → zCo c4 ad σ k (E k)) ∧ gN σ ≤ 123 ∧
  (∀ k j, gN σ < k → k < 99990 → gI σ k j = 0 ∧ gL σ k j = 0 ∧ gR σ k j = 0) ∧
  (∀ j, j < L → gI σ 99999 j = (xs j).toInt) ∧ gI σ 99998 0 = (L : Int) ∧ ad 99999 = b ∧ (∀ i, i < 10 → ad (100000 + i) = adK i)
theorem zVr_i {ad : Nat → Nat} {n : Nat} {z : Int} {v : Value} (h : zVr ad n (.inl z) v) : ∃ x : Int32, v = .int x ∧ x.toInt = z := h
theorem zVr_l {ad : Nat → Nat} {n : Nat} {x : Int64} {v : Value} (h : zVr ad n (.inr (.inl x)) v) : v = .long x := h
theorem zVr_int {ad : Nat → Nat} {n : Nat} (x : Int32) {z : Int} (h : x.toInt = z) : zVr ad n (.inl z) (.int x) := ⟨x, rfl, h⟩
theorem zVr_long {ad : Nat → Nat} {n : Nat} (x : Int64) : zVr ad n (.inr (.inl x)) (.long x) := rfl
theorem zSr_i {ad : Nat → Nat} {n : Nat} {z : Int} {l : List zV} {st : List Value} (h : zSr ad n (.inl z :: l) st) : ∃ (x : Int32) (m : List Value), st = .int x :: m ∧ x.toInt = z ∧ zSr ad n l m := by
  cases st with
  | nil => exact h.elim
  | cons v m => obtain ⟨⟨x, hx, hz⟩, h2⟩ := h; exact ⟨x, m, by rw [hx], hz, h2⟩
theorem zSr_l {ad : Nat → Nat} {n : Nat} {x : Int64} {l : List zV} {st : List Value} (h : zSr ad n (.inr (.inl x) :: l) st) : ∃ m : List Value, st = .long x :: m ∧ zSr ad n l m := by
  cases st with
  | nil => exact h.elim
  | cons v m => obtain ⟨h1, h2⟩ := h; exact ⟨m, by rw [show v = .long x from h1], h2⟩
theorem zSr_c {ad : Nat → Nat} {n : Nat} {a : zV} {l : List zV} {st : List Value} (h : zSr ad n (a :: l) st) : ∃ (v : Value) (m : List Value), st = v :: m ∧ zVr ad n a v ∧ zSr ad n l m := by
  cases st with
  | nil => exact h.elim
  | cons v m => exact ⟨v, m, rfl, h.1, h.2⟩
theorem zSr_n {ad : Nat → Nat} {n : Nat} {st : List Value} (h : zSr ad n [] st) : st = [] := by
  cases st with
  | nil => rfl
  | cons v m => exact h.elim
/-- a reference with a kind isn't null -/
theorem zSr_r {ad : Nat → Nat} {n k : Nat} {l : List zV} {st : List Value} (hk : zkd k ≠ 0) (h : zSr ad n (.inr (.inr k) :: l) st) : ∃ m : List Value, st = .ref (ad k) :: m ∧ zok n k ∧ zSr ad n l m := by
  obtain ⟨v, m, rfl, h1, h2⟩ := zSr_c h
  rcases h1 with ⟨rfl, -⟩ | ⟨h3, rfl⟩
  · exact absurd (by decide +kernel) hk
  · exact ⟨m, rfl, h3, h2⟩
theorem zVr_cat {ad : Nat → Nat} {n : Nat} {a : zV} {v : Value} (h : zVr ad n a v) : v.category = zcat [a] := by
  match a, h with
  | .inl z, ⟨x, hx, _⟩ => rw [hx]; rfl
  | .inr (.inl x), h => rw [show v = .long x from h]; rfl
  | .inr (.inr k), h => rcases h with ⟨-, h⟩ | ⟨-, h⟩ <;> rw [h] <;> rfl
theorem zcat_cons (a : zV) (l : List zV) : zcat (a :: l) = zcat [a] + zcat l := by
  match a with
  | .inl z => simp [zcat]; omega
  | .inr (.inl x) => simp [zcat]; omega
  | .inr (.inr k) => simp [zcat]; omega
theorem zSr_cat {ad : Nat → Nat} {n : Nat} : ∀ {l : List zV} {st : List Value}, zSr ad n l st → (st.map fun v => v.category).sum = zcat l
  | [], st, h => by rw [zSr_n h]; rfl
  | a :: l, st, h => by
    obtain ⟨v, m, rfl, h1, h2⟩ := zSr_c h
    rw [zcat_cons, List.map_cons, List.sum_cons, zSr_cat h2, zVr_cat h1]
/-- addresses that agree on what is there -/
def zAg (n : Nat) (ad ad' : Nat → Nat) : Prop := (∀ k, k ≤ n → ad' k = ad k) ∧ ∀ k, 99990 ≤ k → ad' k = ad k
theorem zAg.rf {n : Nat} {ad : Nat → Nat} : zAg n ad ad := ⟨fun _ _ => rfl, fun _ _ => rfl⟩
theorem zAg.trans {n n' : Nat} {ad ad' ad2 : Nat → Nat} (h : zAg n ad ad') (h' : zAg n' ad' ad2) (hn : n ≤ n') : zAg n ad ad2 :=
  ⟨fun k hk => (h'.1 k (by omega)).trans (h.1 k hk), fun k hk => (h'.2 k hk).trans (h.2 k hk)⟩
theorem zok.up {n n' k : Nat} (h : zok n k) (hn : n ≤ n') : zok n' k := by
  rcases h with h | h | h
  · exact Or.inl ⟨h.1, by omega⟩
  · exact Or.inr (Or.inl h)
  · exact Or.inr (Or.inr h)
theorem zok.ag {n k : Nat} {ad ad' : Nat → Nat} (h : zok n k) (hA : zAg n ad ad') : ad' k = ad k := by
  rcases h with h | h | h
  · exact hA.1 k h.2
  · exact hA.2 k (by omega)
  · exact hA.2 k (by omega)
theorem zVr.up {ad ad' : Nat → Nat} {n n' : Nat} {a : zV} {v : Value} (h : zVr ad n a v) (hA : zAg n ad ad') (hn : n ≤ n') : zVr ad' n' a v := by
  match a, h with
  | .inl z, h => exact h
  | .inr (.inl x), h => exact h
  | .inr (.inr k), h =>
    rcases h with h | ⟨h, h2⟩
    · exact Or.inl h
    · exact Or.inr ⟨h.up hn, by rw [h.ag hA]; exact h2⟩
theorem zSr.up {ad ad' : Nat → Nat} {n n' : Nat} (hA : zAg n ad ad') (hn : n ≤ n') : ∀ {l : List zV} {st : List Value}, zSr ad n l st → zSr ad' n' l st
  | [], [], _ => trivial
  | _ :: _, _ :: _, h => ⟨h.1.up hA hn, zSr.up hA hn h.2⟩
  | [], _ :: _, h => h.elim
  | _ :: _, [], h => h.elim
theorem zLr.up {ad ad' : Nat → Nat} {n n' nL : Nat} {als : List (Option zV)} {ls : Array Slot} (h : zLr ad n als ls nL) (hA : zAg n ad ad') (hn : n ≤ n') : zLr ad' n' als ls nL := by
  obtain ⟨h1, lv, h2, h3⟩ := h
  refine ⟨h1, lv, h2, fun i a hi => ?_⟩
  obtain ⟨v, h4, h5⟩ := h3 i a hi
  exact ⟨v, h4, h5.up hA hn⟩
theorem zRf.up {ad ad' : Nat → Nat} {n n' r : Nat} {o : Option Nat} (h : zRf ad n r o) (hA : zAg n ad ad') (hn : n ≤ n') : zRf ad' n' r o := by
  rcases h with h | ⟨h1, h2, h3⟩
  · exact Or.inl h
  · exact Or.inr ⟨h1, by omega, by rw [hA.1 r h2]; exact h3⟩
theorem zLr.at {ad : Nat → Nat} {n nL i : Nat} {als : List (Option zV)} {ls : Array Slot} {a : zV} (h : zLr ad n als ls nL) (hi : zget als i = some a) : ∃ v, ls[i]? = some (.val v) ∧ zVr ad n a v := by
  obtain ⟨h1, lv, h2, h3⟩ := h
  obtain ⟨v, h4, h5⟩ := h3 i a hi
  exact ⟨v, h2.2.2 _ h4, h5⟩
theorem zcut_some {n : Nat} {q : Option zV} {a : zV} (h : zcut n q = some a) : q = some a ∧ (n = 0 → ∀ x, a ≠ .inr (.inl x)) := by
  match n, q, h with
  | 0, some (.inl z), h => cases h; exact ⟨rfl, fun _ x q => by cases q⟩
  | 0, some (.inr (.inr z)), h => cases h; exact ⟨rfl, fun _ x q => by cases q⟩
  | 0, some (.inr (.inl z)), h => cases h
  | 0, none, h => cases h
  | n + 1, q, h => exact ⟨h, fun q => by omega⟩
theorem zget_st1 : ∀ (ls : List (Option zV)) (k : Nat) (v : Option zV) (i : Nat) (a : zV), zget (zst1 ls k v) i = some a → (i = k ∧ v = some a) ∨ (i ≠ k ∧ zget ls i = some a ∧ (i + 1 = k → ∀ x, a ≠ .inr (.inl x)))
  | [], k, v, i, a, h => by cases k <;> simp [zst1, zget] at h
  | q :: l, 0, v, i, a, h => by
    cases i with
    | zero => exact Or.inl ⟨rfl, h⟩
    | succ i => exact Or.inr ⟨by omega, h, by omega⟩
  | q :: l, k + 1, v, i, a, h => by
    cases i with
    | zero =>
      obtain ⟨h1, h2⟩ := zcut_some (show zcut k q = some a from h)
      exact Or.inr ⟨by omega, h1, fun hk => h2 (by omega)⟩
    | succ i =>
      have h : zget (zst1 l k v) i = some a := h
      rcases zget_st1 l k v i a h with ⟨h1, h2⟩ | ⟨h1, h2, h3⟩
      · exact Or.inl ⟨by omega, h2⟩
      · exact Or.inr ⟨by omega, h2, fun hk => h3 (by omega)⟩
theorem zst1_len : ∀ (ls : List (Option zV)) (k : Nat) (v : Option zV), (zst1 ls k v).length = ls.length
  | [], k, v => by cases k <;> rfl
  | q :: l, 0, v => rfl
  | q :: l, k + 1, v => by simp [zst1, zst1_len l k v]
theorem zget_st2 : ∀ (ls : List (Option zV)) (k : Nat) (v : Option zV) (i : Nat) (a : zV), zget (zst2 ls k v) i = some a → (i = k ∧ v = some a) ∨ (i ≠ k ∧ i ≠ k + 1 ∧ zget ls i = some a ∧ (i + 1 = k → ∀ x, a ≠ .inr (.inl x)))
  | [], k, v, i, a, h => by cases k <;> simp [zst2, zget] at h
  | q :: l, 0, v, i, a, h => by
    cases i with
    | zero => exact Or.inl ⟨rfl, h⟩
    | succ i =>
      have h : zget (zst1 l 0 none) i = some a := h
      rcases zget_st1 l 0 none i a h with ⟨h1, h2⟩ | ⟨h1, h2, h3⟩
      · cases h2
      · exact Or.inr ⟨by omega, by omega, h2, by omega⟩
  | q :: l, k + 1, v, i, a, h => by
    cases i with
    | zero =>
      obtain ⟨h1, h2⟩ := zcut_some (show zcut k q = some a from h)
      exact Or.inr ⟨by omega, by omega, h1, fun hk => h2 (by omega)⟩
    | succ i =>
      have h : zget (zst2 l k v) i = some a := h
      rcases zget_st2 l k v i a h with ⟨h1, h2⟩ | ⟨h1, h2, h3, h4⟩
      · exact Or.inl ⟨by omega, h2⟩
      · exact Or.inr ⟨by omega, by omega, h3, fun hk => h4 (by omega)⟩
theorem zst2_len : ∀ (ls : List (Option zV)) (k : Nat) (v : Option zV), (zst2 ls k v).length = ls.length
  | [], k, v => by cases k <;> rfl
  | q :: l, 0, v => by simp [zst2, zst1_len]
  | q :: l, k + 1, v => by simp [zst2, zst2_len l k v]
/-- the locals behind a store of one slot, of two -/
theorem zLr.st1 {ad : Nat → Nat} {n nL k : Nat} {als : List (Option zV)} {ls1 : Array Slot} {lv : List (Nat × Value)} {w : Value} {o : Option zV} (hlen : als.length = nL) (h3 : ∀ (i : Nat) (a : zV), zget als i = some a → ∃ v, (i, v) ∈ lv ∧ zVr ad n a v) (hw : ∀ a, o = some a → zVr ad n a w)
    (h : lv_has ls1 nL ((k, w) :: lv.filter (fun q => !(q.1 == k) && !(q.1 + 1 == k && q.2.category == 2)))) : zLr ad n (zst1 als k o) ls1 nL := by
  refine ⟨by rw [zst1_len]; exact hlen, _, h, fun i a hi => ?_⟩
  rcases zget_st1 als k o i a hi with ⟨rfl, h2⟩ | ⟨h1, h2, h4⟩
  · exact ⟨w, List.mem_cons_self, hw a h2⟩
  · obtain ⟨v, h5, h6⟩ := h3 i a h2
    refine ⟨v, List.mem_cons_of_mem _ (List.mem_filter.mpr ⟨h5, ?_⟩), h6⟩
    have hb : (i == k) = false := by simp [h1]
    have hc : (i + 1 == k && v.category == 2) = false := by
      by_cases q : i + 1 = k
      · have h7 := h4 q
        have hcat : v.category = 1 := by
          rw [zVr_cat h6]
          match a, h7 with
          | .inl z, _ => rfl
          | .inr (.inl x), h7 => exact absurd rfl (h7 x)
          | .inr (.inr r), _ => rfl
        simp [hcat]
      · simp [q]
    simp only [hb, hc]; rfl
theorem zLr.st2 {ad : Nat → Nat} {n nL k : Nat} {als : List (Option zV)} {ls1 : Array Slot} {lv : List (Nat × Value)} {w : Value} {a0 : zV} (hlen : als.length = nL) (h3 : ∀ (i : Nat) (a : zV), zget als i = some a → ∃ v, (i, v) ∈ lv ∧ zVr ad n a v) (hw : zVr ad n a0 w)
    (h : lv_has ls1 nL ((k, w) :: lv.filter (fun q => !(q.1 == k) && (!(q.1 == k + 1) && !(q.1 + 1 == k && q.2.category == 2))))) : zLr ad n (zst2 als k (some a0)) ls1 nL := by
  refine ⟨by rw [zst2_len]; exact hlen, _, h, fun i a hi => ?_⟩
  rcases zget_st2 als k _ i a hi with ⟨rfl, h2⟩ | ⟨h1, h8, h2, h4⟩
  · cases h2; exact ⟨w, List.mem_cons_self, hw⟩
  · obtain ⟨v, h5, h6⟩ := h3 i a h2
    refine ⟨v, List.mem_cons_of_mem _ (List.mem_filter.mpr ⟨h5, ?_⟩), h6⟩
    have hb : (i == k) = false := by simp [h1]
    have hd : (i == k + 1) = false := by simp [h8]
    have hc : (i + 1 == k && v.category == 2) = false := by
      by_cases q : i + 1 = k
      · have h7 := h4 q
        have hcat : v.category = 1 := by
          rw [zVr_cat h6]
          match a, h7 with
          | .inl z, _ => rfl
          | .inr (.inl x), h7 => exact absurd rfl (h7 x)
          | .inr (.inr r), _ => rfl
        simp [hcat]
      · simp [q]
    simp only [hb, hc, hd]; rfl
-- numbers
theorem zw_bmod (z : Int) : z.bmod (2 ^ 32) = w32 z := by
  unfold Int.bmod w32
  simp only [show ((2 ^ 32 : Nat) : Int) = 4294967296 by decide]
  split <;> omega
theorem zw_id {z : Int} (h1 : -2147483648 ≤ z) (h2 : z < 2147483648) : w32 z = z := by
  unfold w32; omega
theorem z_of (x : Int32) : Int32.ofInt x.toInt = x := Int32.ofInt_toInt x
theorem z_add (x y : Int32) : (x + y).toInt = w32 (x.toInt + y.toInt) := by rw [Int32.toInt_add, zw_bmod]
theorem z_sub (x y : Int32) : (x - y).toInt = w32 (x.toInt - y.toInt) := by rw [Int32.toInt_sub, zw_bmod]
theorem z_mul (x y : Int32) : (x * y).toInt = w32 (x.toInt * y.toInt) := by rw [Int32.toInt_mul, zw_bmod]
theorem z_neg (x : Int32) : (-x).toInt = w32 (-x.toInt) := by rw [Int32.toInt_neg, zw_bmod]
theorem z_ofInt (z : Int) : (Int32.ofInt z).toInt = w32 z := by rw [Int32.toInt_ofInt, zw_bmod]
theorem z_i2l (x : Int32) : x.toInt64 = zi2l x.toInt := by
  unfold zi2l
  apply Int64.toInt_inj.mp
  have h1 := Int32.toInt_lt x
  have h2 := Int32.le_toInt x
  simp only [Int64.toInt_ofInt, Int32.toInt_toInt64]
  unfold Int.bmod
  simp only [show ((2 ^ 64 : Nat) : Int) = 18446744073709551616 by decide]
  split <;> omega
theorem z_lcmp (x y : Int64) : (lg_cmp x y).toInt = zlc x y := by
  unfold lg_cmp zlc
  by_cases h : x < y
  · have h2 : ¬ x > y := by
      simp only [gt_iff_lt, Int64.lt_iff_toInt_lt] at *
      omega
    have h3 : ¬ x = y := by
      intro e; subst e; simp only [Int64.lt_iff_toInt_lt] at h; omega
    rw [if_neg h2, if_neg h3, if_pos h]; rfl
  · by_cases h3 : x = y
    · have h2 : ¬ x > y := by
        subst h3
        exact h
      rw [if_neg h2, if_pos h3, if_neg h, if_pos h3]; rfl
    · have h2 : x > y := by
        simp only [gt_iff_lt, Int64.lt_iff_toInt_lt, ← Int64.toInt_inj] at *
        omega
      rw [if_pos h2, if_neg h, if_neg h3]; rfl
theorem zin_b {b : Nat} {z : Int} (h : zin b z = true) : -(b : Int) ≤ z ∧ z < b := by
  cases z with
  | ofNat n =>
    have : n < b := by simpa [zin, Nat.blt_eq] using h
    constructor <;> simp <;> omega
  | negSucc n =>
    have : n < b := by simpa [zin, Nat.blt_eq] using h
    constructor <;> omega
-- kinds
theorem zkd_in {k : Nat} (h0 : zkd k ≠ 0) (h1 : zkd k ≠ 25) (h2 : zkd k ≠ 31) : 1 ≤ k ∧ k ≤ 123 := by
  constructor
  · rcases Nat.eq_zero_or_pos k with rfl | h
    · exact absurd (by decide +kernel) h0
    · exact h
  · rcases Nat.lt_or_ge 123 k with h | h
    · exfalso
      unfold zkd at h0 h1 h2
      have hb : Nat.ble 124 k = true := Nat.ble_eq.mpr h
      rw [hb] at h0 h1 h2
      simp only [cond_true] at h0 h1 h2
      cases h3 : Nat.beq k 99999 with
      | true => rw [h3] at h1; exact h1 rfl
      | false =>
        rw [h3] at h0 h1 h2
        simp only [cond_false] at h0 h1 h2
        cases h4 : (Nat.ble 100000 k && Nat.blt k 100010) with
        | true => rw [h4] at h2; exact h2 rfl
        | false => rw [h4] at h0; exact h0 rfl
    · exact h
theorem zok_in {n k : Nat} (h : zok n k) (h0 : 1 ≤ k ∧ k ≤ 123) : 1 ≤ k ∧ k ≤ n := by
  rcases h with h | h | h
  · exact h
  · omega
  · omega
theorem zws_at {ad : Nat → Nat} {E : Nat → va_E} {n k : Nat} (h1 : 1 ≤ k) (h2 : k ≤ n) : (zws ad E n)[k - 1]? = some (ad k, E k) := by
  unfold zws
  rw [List.getElem?_map, List.getElem?_range (by omega)]
  simp only [Option.map_some]
  rw [show k - 1 + 1 = k by omega]
theorem zws_set {ad : Nat → Nat} {E : Nat → va_E} {n k : Nat} (e : va_E) (h1 : 1 ≤ k) (h2 : k ≤ n) : (zws ad E n).set (k - 1) (ad k, e) = zws ad (fun i => if i = k then e else E i) n := by
  apply List.ext_getElem?
  intro i
  unfold zws
  rw [List.getElem?_set, List.getElem?_map, List.getElem?_map]
  by_cases hi : i < n
  · rw [List.getElem?_range hi]
    by_cases hk : k - 1 = i
    · subst hk
      simp [show k - 1 + 1 = k by omega, hi]
    · rw [if_neg hk]
      simp [show ¬ i + 1 = k by omega]
  · have : (List.range n)[i]? = none := by simp; omega
    rw [this]
    have hk : ¬ k - 1 = i := by omega
    rw [if_neg hk]
    rfl
theorem zws_push {ad : Nat → Nat} {E : Nat → va_E} {n : Nat} (q : Nat) (e : va_E) : zws ad E n ++ [(q, e)] = zws (fun i => if i = n + 1 then q else ad i) (fun i => if i = n + 1 then e else E i) (n + 1) := by
  unfold zws
  rw [List.range_succ, List.map_append]
  congr 1
  · apply List.map_congr_left
    intro i hi
    have := List.mem_range.mp hi
    show (ad (i + 1), E (i + 1)) = (if i + 1 = n + 1 then q else ad (i + 1), if i + 1 = n + 1 then e else E (i + 1))
    rw [if_neg (by omega), if_neg (by omega)]
  · simp
