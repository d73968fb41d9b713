/-! trees as functions of the depths: parents, children, ends, words -/
abbrev par (dep : Nat → Nat) (i : Nat) : Int := pa dep (dep i) i
theorem wfd_wfo {n : Nat} {dep : Nat → Nat} (h : wfd n dep) {i : Nat} (hi : i < n) : wfo i (dep i) dep := by
  refine ⟨⟨by have := h.1; omega, fun _ => h.2.1 (by omega), fun j hj => h.2.2 j (by omega)⟩, fun q => ?_, fun q => ?_⟩
  · subst q; exact h.2.1 hi
  · have := (h.2.2 (i - 1) (by omega)).2
    rw [show i - 1 + 1 = i by omega] at this
    exact this
theorem wfd_pos {n : Nat} {dep : Nat → Nat} (h : wfd n dep) {i : Nat} (hi : i < n) (h0 : 0 < i) : 1 ≤ dep i := by
  have := (h.2.2 (i - 1) (by omega)).1
  rw [show i - 1 + 1 = i by omega] at this
  exact this
theorem par_lt (dep : Nat → Nat) (i : Nat) : -1 ≤ par dep i ∧ par dep i < (i : Int) := pa_ge dep (dep i) i
theorem par_root {n : Nat} {dep : Nat → Nat} (h : wfd n dep) : par dep 0 = -1 := rfl
theorem par_some {n : Nat} {dep : Nat → Nat} (h : wfd n dep) {i : Nat} (hi : i < n) (h0 : 0 < i) : ∃ a : Nat, par dep i = (a : Int) ∧ a < i ∧ dep a + 1 = dep i := by
  obtain ⟨a, ha⟩ := pa_some (wfd_wfo h hi) (wfd_pos h hi h0)
  exact ⟨a, ha, (pa_spec ha).1, pa_depth (wfd_wfo h hi) ha⟩
theorem par_dep {n : Nat} {dep : Nat → Nat} (h : wfd n dep) {i a : Nat} (hi : i < n) (ha : par dep i = (a : Int)) : a < i ∧ dep a + 1 = dep i ∧ ∀ k, a < k → k < i → dep i ≤ dep k := ⟨(pa_spec ha).1, pa_depth (wfd_wfo h hi) ha, (pa_spec ha).2.2⟩
/-- how many of the first nodes are children of a -/
def kidc (dep : Nat → Nat) (a : Nat) : Nat → Nat
  | 0 => 0
  | c + 1 => kidc dep a c + if par dep c = (a : Int) then 1 else 0
theorem kidc_mono {dep : Nat → Nat} {a : Nat} : ∀ {c c' : Nat}, c ≤ c' → kidc dep a c ≤ kidc dep a c' := by
  intro c c' h
  induction c' with
  | zero => rw [show c = 0 by omega]; exact Nat.le_refl _
  | succ c' ih =>
    by_cases e : c = c' + 1
    · rw [e]; exact Nat.le_refl _
    · have := ih (by omega)
      rw [kidc]; omega
theorem kidc_zero {dep : Nat → Nat} {a : Nat} : ∀ {c : Nat}, c ≤ a + 1 → kidc dep a c = 0 := by
  intro c
  induction c with
  | zero => intro _; rfl
  | succ c ih =>
    intro h
    have := par_lt dep c
    rw [kidc, ih (by omega), if_neg (by omega)]
theorem kidc_le {dep : Nat → Nat} {a : Nat} : ∀ c : Nat, kidc dep a c ≤ c := by
  intro c
  induction c with
  | zero => exact Nat.le_refl _
  | succ c ih => rw [kidc]; split <;> omega
theorem kidc_lt {dep : Nat → Nat} {a i c : Nat} (h : par dep i = (a : Int)) (hi : i < c) : kidc dep a i < kidc dep a c := by
  have h1 : kidc dep a (i + 1) ≤ kidc dep a c := kidc_mono (by omega)
  rw [kidc, if_pos h] at h1
  omega
theorem kidc_ex {dep : Nat → Nat} {a : Nat} : ∀ {c c' : Nat}, kidc dep a c < kidc dep a c' → ∃ i, c ≤ i ∧ i < c' ∧ par dep i = (a : Int) := by
  intro c c'
  induction c' with
  | zero => intro h; exact absurd h (Nat.not_lt_zero _)
  | succ c' ih =>
    intro h
    by_cases e : par dep c' = (a : Int)
    · by_cases hc : c ≤ c'
      · exact ⟨c', hc, by omega, e⟩
      · have := kidc_mono (dep := dep) (a := a) (show c' + 1 ≤ c by omega)
        omega
    · rw [kidc, if_neg e] at h
      obtain ⟨i, h1, h2, h3⟩ := ih h
      exact ⟨i, h1, by omega, h3⟩
/-- where the nodes below a end -/
def edr (dep : Nat → Nat) (d n : Nat) : Nat → Nat → Nat
  | 0, i => i
  | k + 1, i => if i < n ∧ d < dep i then edr dep d n k (i + 1) else i
def ed (dep : Nat → Nat) (n a : Nat) : Nat := edr dep (dep a) n (n - (a + 1)) (a + 1)
theorem edr_spec {dep : Nat → Nat} {d n : Nat} : ∀ (k i : Nat), n - i = k → i ≤ n → i ≤ edr dep d n k i ∧ edr dep d n k i ≤ n ∧ (∀ j, i ≤ j → j < edr dep d n k i → d < dep j) ∧ (edr dep d n k i < n → dep (edr dep d n k i) ≤ d) := by
  intro k
  induction k with
  | zero => intro i hk hi; exact ⟨Nat.le_refl _, hi, fun j h1 h2 => by rw [edr] at h2; omega, fun h => by rw [edr] at h; omega⟩
  | succ k ih =>
    intro i hk hi
    rw [edr]
    by_cases h : i < n ∧ d < dep i
    · rw [if_pos h]
      obtain ⟨h1, h2, h3, h4⟩ := ih (i + 1) (by omega) (by omega)
      refine ⟨by omega, h2, fun j j1 j2 => ?_, h4⟩
      by_cases e : j = i
      · rw [e]; exact h.2
      · exact h3 j (by omega) j2
    · rw [if_neg h]
      exact ⟨Nat.le_refl _, hi, fun j h1 h2 => by omega, fun q => by omega⟩
theorem ed_spec {dep : Nat → Nat} {n a : Nat} (h : a < n) : a < ed dep n a ∧ ed dep n a ≤ n ∧ (∀ j, a < j → j < ed dep n a → dep a < dep j) ∧ (ed dep n a < n → dep (ed dep n a) ≤ dep a) := edr_spec (n - (a + 1)) (a + 1) rfl h
theorem ed_of {dep : Nat → Nat} {n a e : Nat} (h1 : a < e) (h2 : e ≤ n) (h3 : ∀ j, a < j → j < e → dep a < dep j) (h4 : e < n → dep e ≤ dep a) : ed dep n a = e := by
  obtain ⟨s1, s2, s3, s4⟩ := ed_spec (dep := dep) (show a < n by omega)
  rcases Nat.lt_trichotomy (ed dep n a) e with q | q | q
  · have := s4 (by omega)
    have := h3 _ s1 q
    omega
  · exact q
  · have := h4 (by omega)
    have := s3 e h1 q
    omega
theorem ed_child {n : Nat} {dep : Nat → Nat} (h : wfd n dep) {i a : Nat} (hi : i < n) (ha : par dep i = (a : Int)) : i < ed dep n a ∧ ed dep n i ≤ ed dep n a := by
  obtain ⟨p1, p2, p3⟩ := par_dep h hi ha
  obtain ⟨s1, s2, s3, s4⟩ := ed_spec (dep := dep) (show a < n by omega)
  have hlt : i < ed dep n a := by
    rcases Nat.lt_or_ge i (ed dep n a) with q | q
    · exact q
    · have h5 := s4 (by omega)
      by_cases e : ed dep n a = i
      · rw [e] at h5; omega
      · have := p3 _ s1 (by omega); omega
  refine ⟨hlt, ?_⟩
  obtain ⟨t1, t2, t3, t4⟩ := ed_spec (dep := dep) hi
  rcases Nat.lt_or_ge (ed dep n a) (ed dep n i) with q | q
  · have h5 := s4 (by omega)
    have := t3 _ (show i < ed dep n a from hlt) q
    omega
  · exact q
theorem ed_lastchild {n : Nat} {dep : Nat → Nat} (h : wfd n dep) {i a : Nat} (hi : i < n) (ha : par dep i = (a : Int)) (hl : kidc dep a (i + 1) = kidc dep a n) : ed dep n i = ed dep n a := by
  obtain ⟨p1, p2, p3⟩ := par_dep h hi ha
  obtain ⟨c1, c2⟩ := ed_child h hi ha
  obtain ⟨s1, s2, s3, s4⟩ := ed_spec (dep := dep) (show a < n by omega)
  obtain ⟨t1, t2, t3, t4⟩ := ed_spec (dep := dep) hi
  rcases Nat.lt_or_ge (ed dep n i) (ed dep n a) with q | q
  · have h5 := t4 (by omega)
    have h6 := s3 _ (show a < ed dep n i by omega) q
    have h7 : par dep (ed dep n i) = (a : Int) := by
      refine pa_of (by omega) (by omega) (fun k k1 k2 => ?_)
      have := s3 k k1 (by omega)
      omega
    have h8 := kidc_lt h7 (show ed dep n i < n by omega)
    have h9 := kidc_mono (dep := dep) (a := a) (show i + 1 ≤ ed dep n i by omega)
    omega
  · omega
theorem leaf_iff {n : Nat} {dep : Nat → Nat} (h : wfd n dep) {a : Nat} (ha : a < n) : kidc dep a n = 0 ↔ ed dep n a = a + 1 := by
  obtain ⟨s1, s2, s3, s4⟩ := ed_spec (dep := dep) ha
  constructor
  · intro h0
    rcases Nat.lt_or_ge (a + 1) (ed dep n a) with q | q
    · have h1 := s3 (a + 1) (by omega) q
      have h2 := (h.2.2 a (by omega)).2
      have h3 : par dep (a + 1) = (a : Int) := pa_of (by omega) h1 (fun k k1 k2 => by omega)
      have := kidc_lt h3 (show a + 1 < n by omega)
      omega
    · omega
  · intro h0
    rcases Nat.eq_zero_or_pos (kidc dep a n) with q | q
    · exact q
    · obtain ⟨i, i1, i2, i3⟩ := kidc_ex (c := 0) (show kidc dep a 0 < kidc dep a n from q)
      have := ed_child h i2 i3
      have := par_dep h i2 i3
      omega
/-- b is below a: in the model one climbs -/
theorem below_up {n : Nat} {dep : Nat → Nat} (h : wfd n dep) {a b u : Nat} (hb : b < n) (ha : a < n) (hu : par dep b = (u : Int)) (hau : a < u) : (a < b ∧ b < ed dep n a) ↔ (a < u ∧ u < ed dep n a) := by
  obtain ⟨p1, p2, p3⟩ := par_dep h hb hu
  obtain ⟨s1, s2, s3, s4⟩ := ed_spec (dep := dep) ha
  constructor
  · intro q; omega
  · intro q
    refine ⟨by omega, ?_⟩
    rcases Nat.lt_or_ge b (ed dep n a) with w | w
    · exact w
    · have h1 := s4 (by omega)
      have h2 := s3 u q.1 q.2
      by_cases e : ed dep n a = b
      · rw [e] at h1; omega
      · have := p3 _ q.2 (by omega); omega
theorem below_end {n : Nat} {dep : Nat → Nat} (h : wfd n dep) {a b : Nat} (hb : b < n) (ha : a < n) (hu : par dep b ≤ (a : Int)) : (a < b ∧ b < ed dep n a) ↔ par dep b = (a : Int) := by
  obtain ⟨s1, s2, s3, s4⟩ := ed_spec (dep := dep) ha
  constructor
  · intro q
    have h1 := s3 b q.1 q.2
    by_cases e : par dep b = (a : Int)
    · exact e
    · have hg := par_lt dep b
      exfalso
      have hn : ∃ u : Nat, par dep b = (u : Int) := by
        rcases Int.lt_or_le (par dep b) 0 with w | w
        · have := pa_none.mp (show par dep b = -1 by omega) a q.1
          omega
        · exact ⟨(par dep b).toNat, by omega⟩
      obtain ⟨u, hu2⟩ := hn
      have := (par_dep h hb hu2).2.2 a (by omega) q.1
      omega
  · intro q
    have h1 := ed_child h hb q
    have h2 := par_dep h hb q
    omega
/-- words among the first nodes -/
def wrd (dep : Nat → Nat) (n : Nat) : Nat → Nat
  | 0 => 0
  | c + 1 => wrd dep n c + if kidc dep c n = 0 then 1 else 0
theorem wrd_mono {dep : Nat → Nat} {n : Nat} : ∀ {c c' : Nat}, c ≤ c' → wrd dep n c ≤ wrd dep n c' := by
  intro c c' h
  induction c' with
  | zero => rw [show c = 0 by omega]; exact Nat.le_refl _
  | succ c' ih =>
    by_cases e : c = c' + 1
    · rw [e]; exact Nat.le_refl _
    · have := ih (by omega)
      rw [wrd]; omega
theorem wrd_le {dep : Nat → Nat} {n : Nat} : ∀ c : Nat, wrd dep n c ≤ c := by
  intro c
  induction c with
  | zero => exact Nat.le_refl _
  | succ c ih => rw [wrd]; split <;> omega
theorem wrd_end {n : Nat} {dep : Nat → Nat} (h : wfd n dep) {a : Nat} (ha : a < n) : wrd dep n a < wrd dep n (ed dep n a) := by
  obtain ⟨s1, s2, s3, s4⟩ := ed_spec (dep := dep) ha
  have hl : kidc dep (ed dep n a - 1) n = 0 := by
    rw [leaf_iff h (by omega)]
    refine ed_of (by omega) (by omega) (fun j j1 j2 => by omega) (fun q => ?_)
    rw [show ed dep n a - 1 + 1 = ed dep n a by omega] at q ⊢
    have h1 := s4 q
    by_cases e : ed dep n a - 1 = a
    · rw [e]; exact h1
    · have := s3 (ed dep n a - 1) (by omega) (by omega)
      omega
  have h1 : wrd dep n (ed dep n a) = wrd dep n (ed dep n a - 1) + 1 := by
    conv => lhs; rw [show ed dep n a = ed dep n a - 1 + 1 by omega]
    rw [wrd, if_pos hl]
  have h2 := wrd_mono (dep := dep) (n := n) (show a ≤ ed dep n a - 1 by omega)
  omega
/-- how often a label occurs -/
def cnl (lab : Nat → Int64) (v : Int64) : Nat → Nat
  | 0 => 0
  | c + 1 => cnl lab v c + if lab c = v then 1 else 0
theorem cnl_le {lab : Nat → Int64} {v : Int64} : ∀ c : Nat, cnl lab v c ≤ c := by
  intro c
  induction c with
  | zero => exact Nat.le_refl _
  | succ c ih => rw [cnl]; split <;> omega
theorem cnl_zero {lab : Nat → Int64} {v : Int64} : ∀ c : Nat, (∀ i, i < c → lab i ≠ v) → cnl lab v c = 0 := by
  intro c
  induction c with
  | zero => intro _; rfl
  | succ c ih => intro h; rw [cnl, ih (fun i hi => h i (by omega)), if_neg (h c (by omega))]
theorem cnl_congr {lab lab' : Nat → Int64} {v : Int64} : ∀ c : Nat, (∀ i, i < c → lab i = lab' i) → cnl lab v c = cnl lab' v c := by
  intro c
  induction c with
  | zero => intro _; rfl
  | succ c ih => intro h; rw [cnl, cnl, ih (fun i hi => h i (by omega)), h c (by omega)]
theorem zlc_ge {x y : Int64} : 0 ≤ zlc x y ↔ y.toInt ≤ x.toInt := by
  unfold zlc
  have hl : x < y ↔ x.toInt < y.toInt := Int64.lt_iff_toInt_lt
  by_cases h : x < y
  · rw [if_pos h]; have := hl.mp h; omega
  · rw [if_neg h]
    have : ¬ x.toInt < y.toInt := fun w => h (hl.mpr w)
    split <;> omega
theorem zdiv_pos {a b : Nat} (ha : a < 2147483648) (hb : b < 2147483648) : zdiv (a : Int) (b : Int) = ((a / b : Nat) : Int) := by
  unfold zdiv
  rw [Int32.toInt_div, z_ofInt, z_ofInt, zw_id (by omega) (by omega), zw_id (by omega) (by omega)]
  have h1 : (a : Int).tdiv (b : Int) = ((a / b : Nat) : Int) := rfl
  rw [h1]
  have h2 : a / b ≤ a := Nat.div_le_self a b
  generalize a / b = c at h2 ⊢
  exact Int.bmod_eq_of_le (by omega) (by omega)
theorem cnl_ne {lab : Nat → Int64} {v : Int64} {c : Nat} (h : lab c ≠ v) : cnl lab v (c + 1) = cnl lab v c := by
  show cnl lab v c + (if lab c = v then 1 else 0) = cnl lab v c
  rw [if_neg h]; rfl
theorem cnl_eq {lab : Nat → Int64} {v : Int64} {c : Nat} (h : lab c = v) : cnl lab v (c + 1) = cnl lab v c + 1 := by
  show cnl lab v c + (if lab c = v then 1 else 0) = cnl lab v c + 1
  rw [if_pos h]
theorem kidc_ne {dep : Nat → Nat} {a c : Nat} (h : par dep c ≠ (a : Int)) : kidc dep a (c + 1) = kidc dep a c := by
  show kidc dep a c + (if par dep c = (a : Int) then 1 else 0) = kidc dep a c
  rw [if_neg h]; rfl
theorem kidc_eq {dep : Nat → Nat} {a c : Nat} (h : par dep c = (a : Int)) : kidc dep a (c + 1) = kidc dep a c + 1 := by
  show kidc dep a c + (if par dep c = (a : Int) then 1 else 0) = kidc dep a c + 1
  rw [if_pos h]
theorem wrd_leaf {dep : Nat → Nat} {n c : Nat} (h : kidc dep c n = 0) : wrd dep n (c + 1) = wrd dep n c + 1 := by
  show wrd dep n c + (if kidc dep c n = 0 then 1 else 0) = wrd dep n c + 1
  rw [if_pos h]
theorem wrd_ne {dep : Nat → Nat} {n c : Nat} (h : ¬ kidc dep c n = 0) : wrd dep n (c + 1) = wrd dep n c := by
  show wrd dep n c + (if kidc dep c n = 0 then 1 else 0) = wrd dep n c
  rw [if_neg h]; rfl
/-- a label as texts have them -/
def lgs (v : Int64) : Prop := ∃ (g : Nat → Int) (n : Nat), 1 ≤ n ∧ n ≤ 6 ∧ zlet (g 0) ∧ (∀ i, i < n → zlet (g i) ∨ zdig (g i)) ∧ v = pkf g n
theorem lgs_good {v : Int64} (h : lgs v) : lgood v := by
  obtain ⟨g, n, h1, h2, h3, h4, h5⟩ := h
  exact ⟨g, n, h1, h2, fun i hi => by have := h4 i hi; omega, h5⟩
theorem rdl_lgs {f : Nat → Int} {L a : Nat} {v : Int64} {q : Nat} (h : rdl f L a = .inr (v, q)) : lgs v := by
  obtain ⟨h1, h2, h3, h4, h5, h6⟩ := rdl_ok h
  have hz : zlet (tb f L (sk f L a)) := Decidable.not_not.mp (fun q => by have := wl_zero q; omega)
  have hp := wl_pos hz
  have hw : wl f L (sk f L a) = wend f L (sk f L a + 1) - sk f L a := if_pos hz
  rw [tb_lt hp.2.2] at hz
  refine ⟨fun i => f (sk f L a + i), wl f L (sk f L a), h3, h4, hz, fun i hi => ?_, by rw [h5]; unfold pk; rw [show min (wl f L (sk f L a)) 6 = wl f L (sk f L a) by omega]⟩
  show zlet (f (sk f L a + i)) ∨ zdig (f (sk f L a + i))
  rcases Nat.eq_zero_or_pos i with e | e
  · subst e; rw [Nat.add_zero]; exact Or.inl hz
  · exact wrun_all f L _ (sk f L a + 1) (sk f L a + i) (by omega) (show _ < wend f L (sk f L a + 1) by omega)
theorem tpr_lgs {f : Nat → Int} {L : Nat} : ∀ (n a c o : Nat) (lab : Nat → Int64) (dep : Nat → Nat) (r : TRE), (∀ i, i < c → lgs (lab i)) → tpr f L n a c o lab dep = .inr r → ∀ i, i < r.1 → lgs (r.2.1 i) := by
  intro n
  induction n with
  | zero => intro a c o lab dep r _ h; cases h
  | succ n ih =>
    intro a c o lab dep r hl h
    rw [tpr] at h
    split at h
    · split at h
      · cases h; exact hl
      · cases h
    · split at h
      · exact ih _ _ _ _ _ r hl h
      · split at h
        · cases h
        · rename_i w hr9
          obtain ⟨v, q⟩ := w
          obtain ⟨hc, hr⟩ := nodeR_ok hr9
          refine ih _ _ _ _ _ r (fun i hi => ?_) h
          by_cases e : i = c
          · subst e; rw [fup_eq]; exact rdl_lgs hr
          · rw [fup_ne e]; exact hl i (by omega)
/-- a tree as it may be -/
def tgd (T : TRE) : Prop := wfd T.1 T.2.2 ∧ ∀ i, i < T.1 → lgs (T.2.1 i)
theorem tread_gd {f : Nat → Int} {L : Nat} {T : TRE} (h : tread f L = .inr T) : tgd T ∧ 1 ≤ T.1 := by
  have hw0 : wfo 0 0 (fun _ => 0) := ⟨⟨by decide, fun w => absurd w (by decide), fun i hi => absurd hi (Nat.not_lt_zero _)⟩, fun _ => rfl, fun q => absurd q (by decide)⟩
  have h1 := tpr_wf _ _ _ _ _ _ T hw0 (fun i hi => absurd hi (Nat.not_lt_zero _)) h
  exact ⟨⟨h1.2.1, tpr_lgs _ _ _ _ _ _ T (fun i hi => absurd hi (Nat.not_lt_zero _)) h⟩, h1.1⟩
