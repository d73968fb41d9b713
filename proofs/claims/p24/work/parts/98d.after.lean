/-! trees after an edit -/
theorem shr_lt {α : Type} {s w i : Nat} {f g : Nat → α} (h : i < s) : shr s w f g i = f i := if_pos h
theorem shr_at {α : Type} {s i : Nat} {f g : Nat → α} (h : i = s) : shr s 1 f g i = g 0 := by
  unfold shr
  rw [if_neg (by omega), if_pos (by omega), h, Nat.sub_self]
theorem shr_gt {α : Type} {s i : Nat} {f g : Nat → α} (h : s < i) : shr s 1 f g i = f (i - 1) := by
  unfold shr
  rw [if_neg (by omega), if_neg (by omega)]
theorem dup_in {s e i : Nat} {dep : Nat → Nat} (h : s ≤ i ∧ i < e) : dup s e dep i = dep i + 1 := if_pos h
theorem dup_out {s e i : Nat} {dep : Nat → Nat} (h : ¬ (s ≤ i ∧ i < e)) : dup s e dep i = dep i := if_neg h
theorem lcn_none {lb : Nat → Int} {z : Int} : ∀ n, (∀ i, i < n → lb i ≠ z) → lcn lb z n = 0 := by
  intro n
  induction n with
  | zero => intro _; rfl
  | succ n ih =>
    intro h
    rw [lcn, ih (fun i hi => h i (by omega)), if_neg (h n (by omega))]
theorem lcn_one {lb : Nat → Int} {z : Int} {j : Nat} (hj : lb j = z) : ∀ n, j < n → (∀ i, i < n → i ≠ j → lb i ≠ z) → lcn lb z n = 1 := by
  intro n
  induction n with
  | zero => intro h; exact absurd h (Nat.not_lt_zero _)
  | succ n ih =>
    intro h1 h2
    rw [lcn]
    by_cases c : j = n
    · rw [lcn_none n (fun i hi => h2 i (by omega) (by omega)), if_pos (by rw [← c]; exact hj)]
    · rw [ih (by omega) (fun i hi hij => h2 i (by omega) hij), if_neg (h2 n (by omega) (fun e => c e.symm))]
/-- one child, wherever it is told -/
theorem kidc_one {dep : Nat → Nat} {a j : Nat} (hj : par dep j = (a : Int)) : ∀ n, j < n → (∀ i, i < n → i ≠ j → par dep i ≠ (a : Int)) → kidc dep a n = 1 := by
  intro n
  induction n with
  | zero => intro h; exact absurd h (Nat.not_lt_zero _)
  | succ n ih =>
    intro h1 h2
    by_cases c : j = n
    · have h0 : ∀ m, m ≤ n → kidc dep a m = 0 := by
        intro m
        induction m with
        | zero => intro _; rfl
        | succ m ihm => intro hm; rw [kidc_ne (h2 m (by omega) (by omega)), ihm (by omega)]
      rw [kidc_eq (by rw [← c]; exact hj), h0 n (Nat.le_refl _)]
    · rw [kidc_ne (h2 n (by omega) (fun e => c e.symm)), ih (by omega) (fun i hi hij => h2 i (by omega) hij)]
section YWR
variable {T : TRE} {b : Nat}
/-- what is wrapped -/
theorem wrp_f (hw : wfd T.1 T.2.2) (hb : b < T.1) : par (shr b 1 (dup b (ed T.2.2 T.1 b) T.2.2) (fun _ => T.2.2 b)) b = par T.2.2 b ∧ par (shr b 1 (dup b (ed T.2.2 T.1 b) T.2.2) (fun _ => T.2.2 b)) (b + 1) = (b : Int) ∧ kidc (shr b 1 (dup b (ed T.2.2 T.1 b) T.2.2) (fun _ => T.2.2 b)) b (T.1 + 1) = 1 := by
  obtain ⟨e1, e2, e3, e4⟩ := ed_spec (dep := T.2.2) hb
  generalize hE : ed T.2.2 T.1 b = e at *
  have hlt : ∀ i, i < b → shr b 1 (dup b e T.2.2) (fun _ => T.2.2 b) i = T.2.2 i := fun i hi => by
    rw [shr_lt hi, dup_out (by omega)]
  have hat : shr b 1 (dup b e T.2.2) (fun _ => T.2.2 b) b = T.2.2 b := shr_at rfl
  have hin : ∀ i, b < i → i < e + 1 → shr b 1 (dup b e T.2.2) (fun _ => T.2.2 b) i = T.2.2 (i - 1) + 1 := fun i h1 h2 => by
    rw [shr_gt h1, dup_in (by omega)]
  have hge : ∀ i, e + 1 ≤ i → shr b 1 (dup b e T.2.2) (fun _ => T.2.2 b) i = T.2.2 (i - 1) := fun i h1 => by
    rw [shr_gt (by omega), dup_out (by omega)]
  generalize shr b 1 (dup b e T.2.2) (fun _ => T.2.2 b) = D at *
  have hb1 : D (b + 1) = T.2.2 b + 1 := by rw [hin (b + 1) (by omega) (by omega)]; rfl
  have hp1 : par D (b + 1) = (b : Int) := pa_of (Nat.lt_succ_self _) (by rw [hat, hb1]; omega) (fun i i1 i2 => by omega)
  refine ⟨?_, hp1, ?_⟩
  · unfold par
    rw [hat]
    exact pa_congr hlt
  · refine kidc_one (j := b + 1) hp1 _ (by omega) (fun i hi hij hp => ?_)
    obtain ⟨g1, g2, g3⟩ := pa_spec hp
    rw [hat] at g2
    have q1 := g3 (b + 1) (by omega) (by omega)
    rw [hb1] at q1
    by_cases c : i < e + 1
    · have := e3 (i - 1) (by omega) (by omega)
      have := hin i (by omega) c
      omega
    · have q2 := hge i (by omega)
      by_cases c2 : i = e + 1
      · subst c2
        have := e4 (by omega)
        rw [show e + 1 - 1 = e by omega] at q2
        omega
      · have q3 := g3 (e + 1) (by omega) (by omega)
        rw [hge (e + 1) (Nat.le_refl _), show e + 1 - 1 = e by omega] at q3
        have := e4 (by omega)
        omega
end YWR
theorem kidc_cg {dep dep' : Nat → Nat} {a : Nat} : ∀ c, (∀ i, i < c → dep i = dep' i) → kidc dep a c = kidc dep' a c := by
  intro c
  induction c with
  | zero => intro _; rfl
  | succ c ih =>
    intro h
    have hp : par dep c = par dep' c := by
      unfold par
      rw [h c (by omega)]
      exact pa_congr (fun i hi => h i (by omega))
    rw [kidc, kidc, hp, ih (fun i hi => h i (by omega))]
theorem kidc_flat {dep : Nat → Nat} {a c : Nat} : ∀ n, c ≤ n → (∀ i, c ≤ i → i < n → par dep i ≠ (a : Int)) → kidc dep a n = kidc dep a c := by
  intro n
  induction n with
  | zero => intro h _; have : c = 0 := by omega
            rw [this]
  | succ n ih =>
    intro h1 h2
    by_cases c0 : c = n + 1
    · rw [c0]
    · rw [kidc_ne (h2 n (by omega) (by omega)), ih (by omega) (fun i i1 i2 => h2 i i1 (by omega))]
theorem wfd_n {n : Nat} {dep : Nat → Nat} (h : wfd n dep) {m : Nat} (hm : m ≤ n) : wfd m dep := ⟨by have := h.1; omega, fun q => h.2.1 (by omega), fun i hi => h.2.2 i (by omega)⟩
/-- a leaf is a node with nothing deeper next -/
theorem leaf_nx {n : Nat} {dep : Nat → Nat} (h : wfd n dep) {i : Nat} (hi : i < n) : kidc dep i n = 0 ↔ (i + 1 = n ∨ dep (i + 1) ≤ dep i) := by
  rw [leaf_iff h hi]
  obtain ⟨e1, e2, e3, e4⟩ := ed_spec (dep := dep) hi
  constructor
  · intro e
    rw [e] at e4
    by_cases c : i + 1 = n
    · exact Or.inl c
    · exact Or.inr (e4 (by omega))
  · rintro (c | c)
    · omega
    · by_cases q : i + 1 < ed dep n i
      · have := e3 (i + 1) (by omega) q
        omega
      · omega
theorem wrd_cg {dep dep' : Nat → Nat} {n n' : Nat} : ∀ c, (∀ i, i < c → (kidc dep i n = 0 ↔ kidc dep' i n' = 0)) → wrd dep n c = wrd dep' n' c := by
  intro c
  induction c with
  | zero => intro _; rfl
  | succ c ih =>
    intro h
    have hc := h c (by omega)
    by_cases q : kidc dep c n = 0
    · rw [wrd_leaf q, wrd_leaf (hc.mp q), ih (fun i hi => h i (by omega))]
    · rw [wrd_ne q, wrd_ne (fun w => q (hc.mpr w)), ih (fun i hi => h i (by omega))]
section YAD
variable {T : TRE} {a : Nat}
/-- what is added last -/
theorem add_f (hw : wfd T.1 T.2.2) (h19 : T.1 < 20) (ha : a < T.1) (hk : ed T.2.2 T.1 a ≠ a + 1) : kidc (shr (ed T.2.2 T.1 a) 1 T.2.2 (fun _ => T.2.2 a + 1)) a (T.1 + 1) = kidc T.2.2 a T.1 + 1 ∧ wrd (shr (ed T.2.2 T.1 a) 1 T.2.2 (fun _ => T.2.2 a + 1)) (T.1 + 1) a ≤ wrd T.2.2 T.1 (ed T.2.2 T.1 a) ∧ wrd (shr (ed T.2.2 T.1 a) 1 T.2.2 (fun _ => T.2.2 a + 1)) (T.1 + 1) (ed (shr (ed T.2.2 T.1 a) 1 T.2.2 (fun _ => T.2.2 a + 1)) (T.1 + 1) a) = wrd T.2.2 T.1 (ed T.2.2 T.1 a) + 1 ∧ wrd (shr (ed T.2.2 T.1 a) 1 T.2.2 (fun _ => T.2.2 a + 1)) (T.1 + 1) a = wrd T.2.2 T.1 a := by
  obtain ⟨e1, e2, e3, e4⟩ := ed_spec (dep := T.2.2) ha
  have hw' : wfd (T.1 + 1) (shr (ed T.2.2 T.1 a) 1 T.2.2 (fun _ => T.2.2 a + 1)) := by
    refine wfd_in hw (by omega) e2 (by omega) (by decide) (by show 1 ≤ T.2.2 a + 1; omega) ?_ (fun i hi => by omega) (fun h => by have := e4 h; show _ ≤ T.2.2 a + 1 + 1; omega)
    by_cases c : ed T.2.2 T.1 a - 1 = a
    · rw [c]; exact Nat.le_refl _
    · have := e3 (ed T.2.2 T.1 a - 1) (by omega) (by omega)
      show T.2.2 a + 1 ≤ _
      omega
  generalize hE : ed T.2.2 T.1 a = e at *
  have hlt : ∀ i, i < e → shr e 1 T.2.2 (fun _ => T.2.2 a + 1) i = T.2.2 i := fun i hi => shr_lt hi
  have hat : shr e 1 T.2.2 (fun _ => T.2.2 a + 1) e = T.2.2 a + 1 := shr_at rfl
  have hgt : ∀ i, e < i → shr e 1 T.2.2 (fun _ => T.2.2 a + 1) i = T.2.2 (i - 1) := fun i h1 => shr_gt h1
  generalize shr e 1 T.2.2 (fun _ => T.2.2 a + 1) = D at *
  have hpe : par D e = (a : Int) := pa_of e1 (by rw [hlt a e1, hat]; omega) (fun i i1 i2 => by
    rw [hat, hlt i i2]
    have := e3 i i1 i2
    omega)
  have hno : ∀ i, e + 1 ≤ i → i < T.1 + 1 → par D i ≠ (a : Int) := fun i h1 h2 hp => by
    obtain ⟨g1, g2, g3⟩ := pa_spec hp
    rw [hlt a e1] at g2
    have q := hgt i (by omega)
    by_cases c : i = e + 1
    · subst c
      have := e4 (by omega)
      rw [show e + 1 - 1 = e by omega] at q
      omega
    · have q3 := g3 (e + 1) (by omega) (by omega)
      rw [hgt (e + 1) (by omega), show e + 1 - 1 = e by omega] at q3
      have := e4 (by omega)
      omega
  have hno0 : ∀ i, e ≤ i → i < T.1 → par T.2.2 i ≠ (a : Int) := fun i h1 h2 hp => by
    obtain ⟨g1, g2, g3⟩ := pa_spec hp
    by_cases c : i = e
    · subst c
      have := e4 h2
      omega
    · have q3 := g3 e (by omega) (by omega)
      have := e4 (by omega)
      omega
  have hlf : ∀ i, i < e → (kidc D i (T.1 + 1) = 0 ↔ kidc T.2.2 i T.1 = 0) := fun i hi => by
    rw [leaf_nx hw' (by omega), leaf_nx hw (by omega), hlt i hi]
    by_cases c : i + 1 = e
    · rw [c, hat]
      have h1 := e3 i (by omega) hi
      constructor
      · intro _
        by_cases q : e = T.1
        · exact Or.inl q
        · right; have := e4 (by omega); omega
      · intro _; right; omega
    · rw [hlt (i + 1) (by omega)]
      constructor
      · rintro (q | q)
        · omega
        · exact Or.inr q
      · rintro (q | q)
        · omega
        · exact Or.inr q
  have hed : ed D (T.1 + 1) a = e + 1 := by
    refine ed_of (by omega) (by omega) (fun j j1 j2 => ?_) (fun h => ?_)
    · rw [hlt a e1]
      by_cases c : j = e
      · rw [c, hat]; omega
      · rw [hlt j (by omega)]; exact e3 j j1 (by omega)
    · rw [hlt a e1, hgt (e + 1) (by omega), show e + 1 - 1 = e by omega]
      exact e4 (by omega)
  have hle : kidc D e (T.1 + 1) = 0 := by
    rw [leaf_nx hw' (by omega), hat]
    by_cases c : e = T.1
    · left; omega
    · right
      rw [hgt (e + 1) (by omega), show e + 1 - 1 = e by omega]
      have := e4 (by omega)
      omega
  have wa : wrd D (T.1 + 1) a = wrd T.2.2 T.1 a := wrd_cg a (fun i hi => hlf i (by omega))
  refine ⟨?_, ?_, ?_, wa⟩
  · rw [kidc_flat (T.1 + 1) (by omega) hno, kidc_eq hpe, kidc_flat (c := e) T.1 e2 hno0, kidc_cg e (fun i hi => (hlt i hi))]
  · rw [wa]; exact wrd_mono (by omega)
  · rw [hed, wrd_leaf hle, wrd_cg e hlf]
end YAD
