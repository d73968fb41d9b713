/-! counting what is there, what is not -/
theorem len_y {P : Nat → Prop} {m : Nat} (h : P m) : (lst P (m + 1)).length = (lst P m).length + 1 := by
  rw [lst_y h, List.length_append]; rfl
theorem len_n {P : Nat → Prop} {m : Nat} (h : ¬ P m) : (lst P (m + 1)).length = (lst P m).length := by
  rw [lst_n h]
theorem lst_split {P Q : Nat → Prop} : ∀ m, (lst P m).length = (lst (fun k => P k ∧ Q k) m).length + (lst (fun k => P k ∧ ¬ Q k) m).length := by
  intro m
  induction m with
  | zero => rfl
  | succ m ih =>
    by_cases p : P m
    · by_cases q : Q m
      · rw [len_y p, len_y (P := fun k => P k ∧ Q k) ⟨p, q⟩, len_n (P := fun k => P k ∧ ¬ Q k) (fun w => w.2 q)]
        omega
      · rw [len_y p, len_n (P := fun k => P k ∧ Q k) (fun w => q w.2), len_y (P := fun k => P k ∧ ¬ Q k) ⟨p, q⟩]
        omega
    · rw [len_n p, len_n (P := fun k => P k ∧ Q k) (fun w => p w.1), len_n (P := fun k => P k ∧ ¬ Q k) (fun w => p w.1), ih]
section YCT
variable {T : TRE} {lb : Nat → Int} {w : Nat}
def nwF (T : TRE) (lb : Nat → Int) (w i : Nat) : Prop := F2 T lb w i ∧ ∀ i', i' < i → F2 T lb w i' → i' / T.1 < i / T.1
def Gn (T : TRE) (lb : Nat → Int) (w a : Nat) : Prop := fitP lb w a ∧ ¬ smP T lb w a
def Fn (T : TRE) (lb : Nat → Int) (w a : Nat) : Prop := fitP lb w a ∧ smP T lb w a
theorem F2_at {a b : Nat} (hb : b < T.1) : F2 T lb w (a * T.1 + b) ↔ fitP lb w a ∧ fitP lb (w / 52) b ∧ relP T (opm (w / 4 % 13)) 0 a b := by
  obtain ⟨h1, h2⟩ := div_dig (a := a) hb
  unfold F2
  rw [h1, h2]
theorem nw_at {a b : Nat} (hb : b < T.1) : nwF T lb w (a * T.1 + b) ↔ F2 T lb w (a * T.1 + b) ∧ ¬ ∃ b', b' < b ∧ F2 T lb w (a * T.1 + b') := by
  unfold nwF
  constructor
  · rintro ⟨h1, h2⟩
    refine ⟨h1, ?_⟩
    rintro ⟨b', b1, b2⟩
    have := h2 _ (by omega) b2
    rw [(div_dig (a := a) hb).1, (div_dig (a := a) (show b' < T.1 by omega)).1] at this
    omega
  · rintro ⟨h1, h2⟩
    refine ⟨h1, fun i' hi hF => ?_⟩
    rw [(div_dig (a := a) hb).1]
    by_cases c : i' < a * T.1
    · exact div_lt c
    · exfalso
      refine h2 ⟨i' - a * T.1, by omega, ?_⟩
      rw [show a * T.1 + (i' - a * T.1) = i' by omega]
      exact hF
theorem nw_row {a : Nat} : ∀ b, b ≤ T.1 → ((∃ b', b' < b ∧ F2 T lb w (a * T.1 + b')) ∧ (lst (nwF T lb w) (a * T.1 + b)).length = (lst (nwF T lb w) (a * T.1)).length + 1) ∨ ((¬ ∃ b', b' < b ∧ F2 T lb w (a * T.1 + b')) ∧ (lst (nwF T lb w) (a * T.1 + b)).length = (lst (nwF T lb w) (a * T.1)).length) := by
  intro b
  induction b with
  | zero => intro _; right; exact ⟨fun ⟨b', w, _⟩ => absurd w (Nat.not_lt_zero _), rfl⟩
  | succ b ih =>
    intro hb
    have hb' : b < T.1 := by omega
    have hn := nw_at (lb := lb) (w := w) (a := a) hb'
    rw [← Nat.add_assoc]
    rcases ih (by omega) with ⟨⟨b', b1, b2⟩, e⟩ | ⟨h, e⟩
    · left
      refine ⟨⟨b', by omega, b2⟩, ?_⟩
      rw [len_n (fun x => (hn.mp x).2 ⟨b', b1, b2⟩), e]
    · by_cases c : F2 T lb w (a * T.1 + b)
      · left
        refine ⟨⟨b, by omega, c⟩, ?_⟩
        rw [len_y (hn.mpr ⟨c, h⟩), e]
      · right
        refine ⟨?_, ?_⟩
        · rintro ⟨b', b1, b2⟩
          by_cases q : b' = b
          · rw [q] at b2; exact c b2
          · exact h ⟨b', by omega, b2⟩
        · rw [len_n (fun x => c (hn.mp x).1), e]
theorem nw_len : ∀ a, (lst (nwF T lb w) (a * T.1)).length = (lst (Fn T lb w) a).length := by
  intro a
  induction a with
  | zero => rw [Nat.zero_mul]; rfl
  | succ a ih =>
    rw [Nat.add_mul, Nat.one_mul]
    have hF : Fn T lb w a ↔ ∃ b', b' < T.1 ∧ F2 T lb w (a * T.1 + b') := by
      unfold Fn smP
      constructor
      · rintro ⟨h1, b, b1, b2, b3⟩; exact ⟨b, b1, (F2_at b1).mpr ⟨h1, b2, b3⟩⟩
      · rintro ⟨b, b1, b2⟩
        obtain ⟨h1, h2, h3⟩ := (F2_at b1).mp b2
        exact ⟨h1, b, b1, h2, h3⟩
    rcases nw_row (lb := lb) (w := w) (a := a) T.1 (Nat.le_refl _) with ⟨h, e⟩ | ⟨h, e⟩
    · rw [e, ih, len_y (hF.mpr h)]
    · rw [e, ih, len_n (fun x => h (hF.mp x))]
def Fq (T : TRE) (lb : Nat → Int) (w i : Nat) : Prop := fitP lb w (i / (T.1 + 1)) ∧ ((i % (T.1 + 1) = 0 ∧ ¬ smP T lb w (i / (T.1 + 1))) ∨ ∃ b, i % (T.1 + 1) = b + 1 ∧ fitP lb (w / 52) b ∧ relP T (opm (w / 4 % 13)) 0 (i / (T.1 + 1)) b)
def Gq (T : TRE) (lb : Nat → Int) (w i : Nat) : Prop := Fq T lb w i ∧ i % (T.1 + 1) = 0
theorem Fq_0 {a : Nat} : Fq T lb w (a * (T.1 + 1)) ↔ Gn T lb w a := by
  obtain ⟨h1, h2⟩ := div_dig (a := a) (b := 0) (n := T.1 + 1) (by omega)
  rw [Nat.add_zero] at h1 h2
  unfold Fq Gn
  rw [h1, h2]
  constructor
  · rintro ⟨h, ⟨-, h'⟩ | ⟨b, h', -⟩⟩
    · exact ⟨h, h'⟩
    · omega
  · rintro ⟨h, h'⟩; exact ⟨h, Or.inl ⟨rfl, h'⟩⟩
theorem Fq_1 {a b : Nat} (hb : b < T.1) : Fq T lb w (a * (T.1 + 1) + 1 + b) ↔ F2 T lb w (a * T.1 + b) := by
  obtain ⟨h1, h2⟩ := div_dig (a := a) (b := b + 1) (n := T.1 + 1) (by omega)
  rw [F2_at hb]
  unfold Fq
  rw [show a * (T.1 + 1) + 1 + b = a * (T.1 + 1) + (b + 1) by omega, h1, h2]
  constructor
  · rintro ⟨h, ⟨h', -⟩ | ⟨b', h', h3, h4⟩⟩
    · omega
    · have : b' = b := by omega
      subst this
      exact ⟨h, h3, h4⟩
  · rintro ⟨h, h3, h4⟩; exact ⟨h, Or.inr ⟨b, rfl, h3, h4⟩⟩
theorem Gq_0 {a : Nat} : Gq T lb w (a * (T.1 + 1)) ↔ Gn T lb w a := by
  have h2 := (div_dig (a := a) (b := 0) (n := T.1 + 1) (by omega)).2
  rw [Nat.add_zero] at h2
  unfold Gq
  rw [Fq_0, h2]
  exact ⟨fun x => x.1, fun x => ⟨x, rfl⟩⟩
theorem Gq_1 {a b : Nat} (hb : b < T.1) : ¬ Gq T lb w (a * (T.1 + 1) + 1 + b) := by
  obtain ⟨h1, h2⟩ := div_dig (a := a) (b := b + 1) (n := T.1 + 1) (by omega)
  rintro ⟨-, h⟩
  rw [show a * (T.1 + 1) + 1 + b = a * (T.1 + 1) + (b + 1) by omega, h2] at h
  omega
theorem Fq_len : ∀ a, (lst (Fq T lb w) (a * (T.1 + 1))).length = (lst (F2 T lb w) (a * T.1)).length + (lst (Gn T lb w) a).length ∧ (lst (Gq T lb w) (a * (T.1 + 1))).length = (lst (Gn T lb w) a).length := by
  intro a
  induction a with
  | zero => rw [Nat.zero_mul, Nat.zero_mul]; exact ⟨rfl, rfl⟩
  | succ a ih =>
    obtain ⟨ih1, ih2⟩ := ih
    have row : ∀ b, b ≤ T.1 → (lst (Fq T lb w) (a * (T.1 + 1) + 1 + b)).length = (lst (F2 T lb w) (a * T.1 + b)).length + (lst (Gn T lb w) (a + 1)).length ∧ (lst (Gq T lb w) (a * (T.1 + 1) + 1 + b)).length = (lst (Gn T lb w) (a + 1)).length := by
      intro b
      induction b with
      | zero =>
        intro _
        simp only [Nat.add_zero]
        by_cases c : Gn T lb w a
        · rw [len_y (Fq_0.mpr c), len_y (Gq_0.mpr c), len_y c]; omega
        · rw [len_n (fun x => c (Fq_0.mp x)), len_n (fun x => c (Gq_0.mp x)), len_n c]; omega
      | succ b ihb =>
        intro hb
        have hb' : b < T.1 := by omega
        obtain ⟨i1, i2⟩ := ihb (by omega)
        rw [← Nat.add_assoc, ← Nat.add_assoc, len_n (Gq_1 hb')]
        by_cases c : F2 T lb w (a * T.1 + b)
        · rw [len_y ((Fq_1 hb').mpr c), len_y c]; omega
        · rw [len_n (fun x => c ((Fq_1 hb').mp x)), len_n c]; omega
    have := row T.1 (Nat.le_refl _)
    rw [show (a + 1) * (T.1 + 1) = a * (T.1 + 1) + 1 + T.1 by rw [Nat.add_mul, Nat.one_mul]; omega, show (a + 1) * T.1 = a * T.1 + T.1 by rw [Nat.add_mul, Nat.one_mul]]
    exact this
theorem cnt_N {q0 q : Nat} {pd : Nat → Nat} (hg : pgd (stN w q0 q) pd) (hl : labT T lb) : (lst (MT T (stN w q0 q)) ((T.1 + 1) ^ 1)).length = (lst (Gn T lb w) T.1).length := by
  refine cnt_len (e := fun a => a + 1) (m := T.1) (fun i j h _ => by show i + 1 < j + 1; omega) (fun c => ?_) T.1 (Nat.le_refl _) _ (fun j hj => by rw [Nat.pow_one]; show j + 1 < T.1 + 1; omega) (fun j j1 j2 => by omega)
  rw [MT_N hg hl]
  exact Iff.rfl
theorem cnt_Q {q0 q : Nat} {pd : Nat → Nat} (hg : pgd (stQ w q0 q) pd) (hl : labT T lb) : (∀ c, MT T (stQ w q0 q) c ↔ ∃ k, k < T.1 * (T.1 + 1) ∧ c = k + (T.1 + 1) ∧ Fq T lb w k) := by
  intro c
  rw [MT_Q hg hl]
  constructor
  · rintro ⟨a, a1, a2, ⟨h1, h2⟩ | ⟨b, b1, b2, b3, b4⟩⟩
    · refine ⟨a * (T.1 + 1), Nat.mul_lt_mul_of_pos_right a1 (by omega), ?_, Fq_0.mpr ⟨a2, h2⟩⟩
      rw [h1, Nat.add_mul, Nat.one_mul]
    · refine ⟨a * (T.1 + 1) + 1 + b, ?_, ?_, (Fq_1 b1).mpr ((F2_at b1).mpr ⟨a2, b3, b4⟩)⟩
      · rw [Nat.add_assoc]
        exact dig_lt a1 (by omega)
      · rw [b2, Nat.add_mul, Nat.one_mul]; omega
  · rintro ⟨k, hk, hc, hF⟩
    have ha := div_lt hk
    have hdm := Nat.div_add_mod k (T.1 + 1)
    have hm := Nat.mod_lt k (show 0 < T.1 + 1 by omega)
    rw [Nat.mul_comm] at hdm
    obtain ⟨h1, ⟨h2, h3⟩ | ⟨b, h2, h3, h4⟩⟩ := hF
    · refine ⟨k / (T.1 + 1), ha, h1, Or.inl ⟨?_, h3⟩⟩
      rw [Nat.add_mul, Nat.one_mul]; omega
    · refine ⟨k / (T.1 + 1), ha, h1, Or.inr ⟨b, by omega, ?_, h3, h4⟩⟩
      rw [Nat.add_mul, Nat.one_mul]; omega
end YCT
