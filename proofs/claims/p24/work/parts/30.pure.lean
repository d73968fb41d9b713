/-! texts on the tape, as functions of its bytes -/
theorem yAnd {c A : Prop} (h : c) : (c ∧ A) = A := by rw [eq_true h, true_and]
theorem yB0 {P : Prop} [Decidable P] : ((if P then (1 : Int) else 0) = 0) = ¬ P := by by_cases h : P <;> simp [h]
theorem yB1 {P : Prop} [Decidable P] : ((if P then (0 : Int) else 1) = 0) = P := by by_cases h : P <;> simp [h]
theorem yL {f : zF} {K : List zF} {n : Nat} (h : K.length + 1 < n) : (f :: K).length < n := by rw [List.length_cons]; exact h
theorem yKK {f : zF} {K : List zF} {n : Nat} (h : K.length + 1 + n ≤ 60) : (f :: K).length + n ≤ 60 := by rw [List.length_cons]; exact h
theorem sI_sI (σ : zW) (k j : Nat) (x y : Int) : sI (sI σ k j x) k j y = sI σ k j y := by
  unfold sI
  congr 1
  funext k' j'
  unfold zup
  by_cases h : k' = k ∧ j' = j
  · rw [if_pos h, if_pos h]
  · rw [if_neg h, if_neg h]; exact if_neg h
theorem sI_id {σ : zW} {k j : Nat} {x : Int} (h : gI σ k j = x) : sI σ k j x = σ := by
  unfold sI
  refine Prod.ext ?_ rfl
  funext k' j'
  show zup σ.1 k j x k' j' = σ.1 k' j'
  unfold zup
  by_cases q : k' = k ∧ j' = j
  · rw [if_pos q, ← h, q.1, q.2]; rfl
  · rw [if_neg q]
/-- the byte at a place, -1 at the end -/
def tb (f : Nat → Int) (L a : Nat) : Int := if a < L then f a else -1
abbrev zlet (z : Int) : Prop := (97 ≤ z ∧ z ≤ 122) ∨ (65 ≤ z ∧ z ≤ 90)
abbrev zsml (z : Int) : Prop := 97 ≤ z ∧ z ≤ 122
abbrev zdig (z : Int) : Prop := 48 ≤ z ∧ z ≤ 57
abbrev zbl (z : Int) : Prop := z = 9 ∨ z = 32 ∨ z = 10
/-- behind the blanks -/
def skr (f : Nat → Int) (L : Nat) : Nat → Nat → Nat
  | 0, a => a
  | n + 1, a => if a < L ∧ zbl (f a) then skr f L n (a + 1) else a
def sk (f : Nat → Int) (L a : Nat) : Nat := skr f L (L - a) a
theorem sk_go {f : Nat → Int} {L a : Nat} (h : a < L) (hb : zbl (f a)) : sk f L a = sk f L (a + 1) := by
  unfold sk
  rw [show L - a = L - (a + 1) + 1 by omega, skr, if_pos ⟨h, hb⟩]
theorem sk_no {f : Nat → Int} {L a : Nat} (h : ¬ (a < L ∧ zbl (f a))) : sk f L a = a := by
  unfold sk
  cases L - a with
  | zero => rfl
  | succ n => rw [skr, if_neg h]
theorem skr_ge (f : Nat → Int) (L : Nat) : ∀ n a, a ≤ skr f L n a := by
  intro n
  induction n with
  | zero => intro a; exact Nat.le_refl _
  | succ n ih =>
    intro a
    rw [skr]
    split
    · have := ih (a + 1); omega
    · exact Nat.le_refl _
theorem sk_ge (f : Nat → Int) (L a : Nat) : a ≤ sk f L a := skr_ge f L _ a
theorem skr_le (f : Nat → Int) (L : Nat) : ∀ n a, a ≤ L → skr f L n a ≤ L := by
  intro n
  induction n with
  | zero => intro a h; exact h
  | succ n ih =>
    intro a h
    rw [skr]
    split
    · rename_i q; exact ih (a + 1) q.1
    · exact h
theorem sk_le {f : Nat → Int} {L a : Nat} (h : a ≤ L) : sk f L a ≤ L := skr_le f L _ a h
theorem sk_stop (f : Nat → Int) (L : Nat) : ∀ (n a : Nat), L - a = n → ¬ (sk f L a < L ∧ zbl (f (sk f L a))) := by
  intro n
  induction n with
  | zero => intro a h q; have := sk_ge f L a; omega
  | succ n ih =>
    intro a h
    by_cases hb : a < L ∧ zbl (f a)
    · rw [sk_go hb.1 hb.2]; exact ih (a + 1) (by omega)
    · rw [sk_no hb]; exact hb
theorem sk_sk (f : Nat → Int) (L a : Nat) : sk f L (sk f L a) = sk f L a := sk_no (sk_stop f L _ a rfl)
/-- letters and digits from a place on: where they end -/
def wrun (f : Nat → Int) (L : Nat) : Nat → Nat → Nat
  | 0, a => a
  | n + 1, a => if a < L ∧ (zlet (f a) ∨ zdig (f a)) then wrun f L n (a + 1) else a
def wend (f : Nat → Int) (L a : Nat) : Nat := wrun f L (L - a) a
theorem wend_go {f : Nat → Int} {L a : Nat} (h : a < L) (hb : zlet (f a) ∨ zdig (f a)) : wend f L a = wend f L (a + 1) := by
  unfold wend
  rw [show L - a = L - (a + 1) + 1 by omega, wrun, if_pos ⟨h, hb⟩]
theorem wend_no {f : Nat → Int} {L a : Nat} (h : ¬ (a < L ∧ (zlet (f a) ∨ zdig (f a)))) : wend f L a = a := by
  unfold wend
  cases L - a with
  | zero => rfl
  | succ n => rw [wrun, if_neg h]
theorem wrun_ge (f : Nat → Int) (L : Nat) : ∀ n a, a ≤ wrun f L n a := by
  intro n
  induction n with
  | zero => intro a; exact Nat.le_refl _
  | succ n ih =>
    intro a
    rw [wrun]
    split
    · have := ih (a + 1); omega
    · exact Nat.le_refl _
theorem wend_ge (f : Nat → Int) (L a : Nat) : a ≤ wend f L a := wrun_ge f L _ a
theorem wrun_le (f : Nat → Int) (L : Nat) : ∀ n a, a ≤ L → wrun f L n a ≤ L := by
  intro n
  induction n with
  | zero => intro a h; exact h
  | succ n ih =>
    intro a h
    rw [wrun]
    split
    · rename_i q; exact ih (a + 1) q.1
    · exact h
theorem wend_le {f : Nat → Int} {L a : Nat} (h : a ≤ L) : wend f L a ≤ L := wrun_le f L _ a h
/-- the length of the label at a place, 0 if none begins there -/
def wl (f : Nat → Int) (L a : Nat) : Nat := if zlet (tb f L a) then wend f L (a + 1) - a else 0
theorem tb_lt {f : Nat → Int} {L a : Nat} (h : a < L) : tb f L a = f a := if_pos h
theorem tb_ge {f : Nat → Int} {L a : Nat} (h : L ≤ a) : tb f L a = -1 := if_neg (by omega)
theorem wl_pos {f : Nat → Int} {L a : Nat} (h : zlet (tb f L a)) : 1 ≤ wl f L a ∧ a + wl f L a ≤ L ∧ a < L := by
  unfold wl
  rw [if_pos h]
  have ha : a < L := by
    rcases Nat.lt_or_ge a L with q | q
    · exact q
    · rw [tb_ge q] at h; omega
  have h1 := wend_ge f L (a + 1)
  have h2 := wend_le (f := f) (L := L) (a := a + 1) ha
  omega
theorem wl_zero {f : Nat → Int} {L a : Nat} (h : ¬ zlet (tb f L a)) : wl f L a = 0 := if_neg h
theorem wl_eq0 {f : Nat → Int} {L a : Nat} : wl f L a = 0 ↔ ¬ zlet (tb f L a) := by
  constructor
  · intro h q; have := wl_pos q; omega
  · exact wl_zero
/-- bytes in one number, the first one lowest -/
def pkf (g : Nat → Int) : Nat → Int64
  | 0 => 0
  | n + 1 => pkf g n ||| zlshl (zi2l (g n)) ((8 * n : Nat) : Int)
def pk (f : Nat → Int) (a n : Nat) : Int64 := pkf (fun i => f (a + i)) (min n 6)
theorem pkf_congr {g g' : Nat → Int} : ∀ (n : Nat), (∀ i, i < n → g i = g' i) → pkf g n = pkf g' n := by
  intro n
  induction n with
  | zero => intro _; rfl
  | succ n ih => intro h; rw [pkf, pkf, ih (fun i hi => h i (by omega)), h n (by omega)]
