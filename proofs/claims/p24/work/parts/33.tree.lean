/-! trees read -/
def fup {α : Type} (f : Nat → α) (k : Nat) (x : α) : Nat → α := fun i => if i = k then x else f i
theorem fup_eq {α : Type} {f : Nat → α} {k : Nat} {x : α} : fup f k x k = x := if_pos rfl
theorem fup_ne {α : Type} {f : Nat → α} {k i : Nat} {x : α} (h : i ≠ k) : fup f k x i = f i := if_neg h
/-- how many nodes, their labels, their depths -/
abbrev TRE : Type := Nat × (Nat → Int64) × (Nat → Nat)
/-- a node read at p behind c others: a fault, or its label and where it ends -/
def nodeR (f : Nat → Int) (L p c : Nat) : (Nat × Nat) ⊕ (Int64 × Nat) :=
  if tb f L p = 40 ∧ 20 ≤ c then .inl (3, p) else match rdl f L (if tb f L p = 40 then p + 1 else p) with
    | .inl e => .inl e
    | .inr r => if 20 ≤ c then .inl (3, p) else .inr r
theorem nodeR_ok {f : Nat → Int} {L p c : Nat} {r : Int64 × Nat} (h : nodeR f L p c = .inr r) : c < 20 ∧ rdl f L (if tb f L p = 40 then p + 1 else p) = .inr r := by
  unfold nodeR at h
  split at h
  · cases h
  · split at h
    · cases h
    · rename_i w hr
      split at h
      · cases h
      · cases h; exact ⟨by omega, hr⟩
def tpr (f : Nat → Int) (L : Nat) : Nat → Nat → Nat → Nat → (Nat → Int64) → (Nat → Nat) → (Nat × Nat) ⊕ TRE
  | 0, _, _, _, _, _ => .inl (0, 0)
  | n + 1, a, c, o, lab, dep =>
    if 0 < c ∧ o = 0 then (if tb f L (sk f L a) = -1 then .inr (c, lab, dep) else .inl (1, sk f L a))
    else if tb f L (sk f L a) = 41 ∧ 0 < o then tpr f L n (sk f L a + 1) c (o - 1) lab dep
    else match nodeR f L (sk f L a) c with
      | .inl e => .inl e
      | .inr r => tpr f L n r.2 (c + 1) (if tb f L (sk f L a) = 40 then o + 1 else o) (fup lab c r.1) (fup dep c o)
/-- the tree of a text -/
def tread (f : Nat → Int) (L : Nat) : (Nat × Nat) ⊕ TRE := tpr f L (L + 1) 0 0 0 (fun _ => 0) (fun _ => 0)
def lgood (v : Int64) : Prop := ∃ (g : Nat → Int) (n : Nat), 1 ≤ n ∧ n ≤ 6 ∧ (∀ i, i < n → 48 ≤ g i ∧ g i ≤ 122) ∧ v = pkf g n
/-- depths as a tree has them -/
def wfd (c : Nat) (dep : Nat → Nat) : Prop := c ≤ 20 ∧ (0 < c → dep 0 = 0) ∧ ∀ i, i + 1 < c → 1 ≤ dep (i + 1) ∧ dep (i + 1) ≤ dep i + 1
def wfo (c o : Nat) (dep : Nat → Nat) : Prop := wfd c dep ∧ (c = 0 → o = 0) ∧ (0 < c → o ≤ dep (c - 1) + 1)
theorem wfd_lt {c : Nat} {dep : Nat → Nat} (h : wfd c dep) : ∀ i, i < c → dep i ≤ i := by
  intro i
  induction i with
  | zero => intro hi; rw [h.2.1 hi]; exact Nat.le_refl _
  | succ i ih => intro hi; have := (h.2.2 i hi).2; have := ih (by omega); omega
theorem wfo_o {c o : Nat} {dep : Nat → Nat} (h : wfo c o dep) : o ≤ c := by
  rcases Nat.eq_zero_or_pos c with q | q
  · have := h.2.1 q; omega
  · have := h.2.2 q; have := wfd_lt h.1 (c - 1) (by omega); omega
theorem wfo_pop {c o : Nat} {dep : Nat → Nat} (h : wfo c o dep) : wfo c (o - 1) dep := ⟨h.1, fun q => by have := h.2.1 q; omega, fun q => by have := h.2.2 q; omega⟩
theorem wfo_push {c o o' : Nat} {dep : Nat → Nat} (h : wfo c o dep) (hc : c < 20) (h0 : ¬ (0 < c ∧ o = 0)) (ho : o' ≤ o + 1) : wfo (c + 1) o' (fup dep c o) := by
  refine ⟨⟨by omega, fun _ => ?_, fun i hi => ?_⟩, fun q => by omega, fun _ => ?_⟩
  · rcases Nat.eq_zero_or_pos c with q | q
    · subst q; rw [fup_eq]; exact h.2.1 rfl
    · rw [fup_ne (by omega)]; exact h.1.2.1 q
  · by_cases hic : i + 1 = c
    · subst hic
      rw [fup_eq, fup_ne (by omega)]
      have := h.2.2 (by omega)
      rw [show i + 1 - 1 = i by omega] at this
      omega
    · rw [fup_ne hic, fup_ne (by omega)]; exact h.1.2.2 i (by omega)
  · rw [show c + 1 - 1 = c by omega, fup_eq]; exact ho
theorem wrun_all (f : Nat → Int) (L : Nat) : ∀ n a i, a ≤ i → i < wrun f L n a → zlet (f i) ∨ zdig (f i) := by
  intro n
  induction n with
  | zero => intro a i h1 h2; rw [wrun] at h2; omega
  | succ n ih =>
    intro a i h1 h2
    rw [wrun] at h2
    split at h2
    · rename_i q
      by_cases e : i = a
      · rw [e]; exact q.2
      · exact ih (a + 1) i (by omega) h2
    · omega
theorem rdl_good {f : Nat → Int} {L a : Nat} {v : Int64} {q : Nat} (h : rdl f L a = .inr (v, q)) : lgood v := by
  obtain ⟨h1, h2, h3, h4, h5, h6⟩ := rdl_ok h
  refine ⟨fun i => f (sk f L a + i), wl f L (sk f L a), h3, h4, fun i hi => ?_, by rw [h5]; unfold pk; rw [show min (wl f L (sk f L a)) 6 = wl f L (sk f L a) by omega]⟩
  have hz : zlet (tb f L (sk f L a)) := Decidable.not_not.mp (fun q => by have := wl_zero q; omega)
  have hp := wl_pos hz
  have hw : wl f L (sk f L a) = wend f L (sk f L a + 1) - sk f L a := if_pos hz
  rw [tb_lt hp.2.2] at hz
  show 48 ≤ f (sk f L a + i) ∧ f (sk f L a + i) ≤ 122
  rcases Nat.eq_zero_or_pos i with e | e
  · subst e; rw [Nat.add_zero]; omega
  · have := wrun_all f L _ (sk f L a + 1) (sk f L a + i) (by omega) (show _ < wend f L (sk f L a + 1) by omega)
    omega
theorem tpr_wf {f : Nat → Int} {L : Nat} : ∀ (n a c o : Nat) (lab : Nat → Int64) (dep : Nat → Nat) (r : TRE), wfo c o dep → (∀ i, i < c → lgood (lab i)) → tpr f L n a c o lab dep = .inr r → 1 ≤ r.1 ∧ wfd r.1 r.2.2 ∧ ∀ i, i < r.1 → lgood (r.2.1 i) := by
  intro n
  induction n with
  | zero => intro a c o lab dep r _ _ h; cases h
  | succ n ih =>
    intro a c o lab dep r hw hl h
    rw [tpr] at h
    split at h
    · split at h
      · rename_i h1 h2; cases h; exact ⟨h1.1, hw.1, hl⟩
      · cases h
    · rename_i h0
      split at h
      · exact ih _ _ _ _ _ r (wfo_pop hw) hl h
      · split at h
        · cases h
        · rename_i w hr9
          obtain ⟨v, q⟩ := w
          obtain ⟨hc, hr⟩ := nodeR_ok hr9
          refine ih _ _ _ _ _ r (wfo_push hw hc h0 (by split <;> omega)) (fun i hi => ?_) h
          by_cases e : i = c
          · subst e; rw [fup_eq]; exact rdl_good hr
          · rw [fup_ne e]; exact hl i (by omega)
/-- the parent of a node of depth d behind c nodes: the last one that is less deep, -1 if there is none -/
def pa (dep : Nat → Nat) (d : Nat) : Nat → Int
  | 0 => -1
  | c + 1 => if dep c < d then (c : Nat) else pa dep d c
theorem pa_ge (dep : Nat → Nat) (d : Nat) : ∀ c, -1 ≤ pa dep d c ∧ pa dep d c < c := by
  intro c
  induction c with
  | zero => exact ⟨by unfold pa; omega, by unfold pa; omega⟩
  | succ c ih =>
    rw [pa]
    split
    · omega
    · omega
theorem pa_spec {dep : Nat → Nat} {d : Nat} : ∀ {c j : Nat}, pa dep d c = (j : Int) → j < c ∧ dep j < d ∧ ∀ i, j < i → i < c → d ≤ dep i := by
  intro c
  induction c with
  | zero => intro j h; unfold pa at h; omega
  | succ c ih =>
    intro j h
    rw [pa] at h
    split at h
    · have : c = j := by omega
      subst this
      exact ⟨by omega, by assumption, fun i h1 h2 => by omega⟩
    · rename_i hn
      obtain ⟨h1, h2, h3⟩ := ih h
      refine ⟨by omega, h2, fun i g1 g2 => ?_⟩
      by_cases e : i = c
      · subst e; omega
      · exact h3 i g1 (by omega)
theorem pa_none {dep : Nat → Nat} {d : Nat} : ∀ {c : Nat}, pa dep d c = -1 ↔ ∀ i, i < c → d ≤ dep i := by
  intro c
  induction c with
  | zero => exact ⟨fun _ i h => by omega, fun _ => rfl⟩
  | succ c ih =>
    rw [pa]
    split
    · rename_i h
      exact ⟨fun q => by omega, fun q => by have := q c (by omega); omega⟩
    · rename_i h
      rw [ih]
      refine ⟨fun q i hi => ?_, fun q i hi => q i (by omega)⟩
      by_cases e : i = c
      · subst e; omega
      · exact q i (by omega)
theorem pa_of {dep : Nat → Nat} {d c j : Nat} (h1 : j < c) (h2 : dep j < d) (h3 : ∀ i, j < i → i < c → d ≤ dep i) : pa dep d c = (j : Int) := by
  have hg := pa_ge dep d c
  by_cases hn : pa dep d c = -1
  · have := pa_none.mp hn j h1; omega
  · obtain ⟨k, hk⟩ : ∃ k : Nat, pa dep d c = (k : Int) := ⟨(pa dep d c).toNat, by omega⟩
    obtain ⟨g1, g2, g3⟩ := pa_spec hk
    rw [hk]
    have : k = j := by
      rcases Nat.lt_trichotomy k j with q | q | q
      · have := g3 j q h1; omega
      · exact q
      · have := h3 k q g1; omega
    rw [this]
theorem pa_zero (dep : Nat → Nat) (c : Nat) : pa dep 0 c = -1 := pa_none.mpr (fun i _ => Nat.zero_le _)
theorem pa_congr {dep dep' : Nat → Nat} {d : Nat} : ∀ {c : Nat}, (∀ i, i < c → dep i = dep' i) → pa dep d c = pa dep' d c := by
  intro c
  induction c with
  | zero => intro _; rfl
  | succ c ih => intro h; rw [pa, pa, h c (by omega), ih (fun i hi => h i (by omega))]
/-- in a tree the parent is one less deep -/
theorem pa_depth {c o : Nat} {dep : Nat → Nat} (h : wfo c o dep) {j : Nat} (hj : pa dep o c = (j : Int)) : dep j + 1 = o := by
  obtain ⟨h1, h2, h3⟩ := pa_spec hj
  by_cases e : j + 1 = c
  · have := h.2.2 (by omega)
    rw [show c - 1 = j by omega] at this
    omega
  · have := h3 (j + 1) (by omega) (by omega)
    have := (h.1.2.2 j (by omega)).2
    omega
theorem pa_some {c o : Nat} {dep : Nat → Nat} (h : wfo c o dep) (ho : 0 < o) : ∃ j : Nat, pa dep o c = (j : Int) := by
  have hg := pa_ge dep o c
  have hc : 0 < c := by have := wfo_o h; omega
  have hn : pa dep o c ≠ -1 := fun q => by have := pa_none.mp q 0 hc; have := h.1.2.1 hc; omega
  exact ⟨(pa dep o c).toNat, by omega⟩
theorem pa_up {c o : Nat} {dep : Nat → Nat} (h : wfo c o dep) {j : Nat} (hj : pa dep o c = (j : Int)) : pa dep (dep j) j = pa dep (o - 1) c := by
  have hd := pa_depth h hj
  obtain ⟨h1, h2, h3⟩ := pa_spec hj
  have e : dep j = o - 1 := by omega
  rw [e]
  by_cases hn : pa dep (o - 1) j = -1
  · rw [hn]
    symm
    refine pa_none.mpr (fun i hi => ?_)
    rcases Nat.lt_trichotomy i j with q | q | q
    · exact pa_none.mp hn i q
    · subst q; omega
    · have := h3 i q hi; omega
  · have hg := pa_ge dep (o - 1) j
    obtain ⟨k, hk⟩ : ∃ k : Nat, pa dep (o - 1) j = (k : Int) := ⟨(pa dep (o - 1) j).toNat, by omega⟩
    obtain ⟨g1, g2, g3⟩ := pa_spec hk
    rw [hk]
    symm
    refine pa_of (by omega) g2 (fun i q1 q2 => ?_)
    rcases Nat.lt_trichotomy i j with q | q | q
    · exact g3 i q1 q
    · subst q; omega
    · have := h3 i q q2; omega
