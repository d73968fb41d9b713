/-! runs over a stack of frames, as equations -/
theorem zbig_up {b : Bool} : ∀ (n d : Nat) (f : zF) (σ : zW) (r : zO × zW), zbig b n d f σ = some r → zbig b (n + 1) d f σ = some r := by
  intro n
  induction n with
  | zero => intro d f σ r h; simp [zbig] at h
  | succ n ih =>
    intro d f σ r h
    rw [zbig] at h ⊢
    cases hs : zstep b f σ with
    | none => rw [hs] at h; cases h
    | some w =>
      rw [hs] at h
      match w with
      | .inl (f', σ') => exact ih d f' σ' r h
      | .inr (.inl (g, f', σ')) =>
        cases d with
        | zero => cases h
        | succ d =>
          simp only at h ⊢
          cases hg : zbig b n d g σ' with
          | none => rw [hg] at h; cases h
          | some w2 =>
            rw [hg] at h
            rw [ih d g σ' w2 hg]
            match w2 with
            | (.inl v, σ2) => exact ih _ _ _ _ h
            | (.inr k, σ2) =>
              simp only at h ⊢
              cases hc : zcth f' k with
              | none => rw [hc] at h; exact h
              | some f2 => rw [hc] at h; exact ih _ _ _ _ h
      | .inr (.inr (.inl (v, σ'))) => exact h
      | .inr (.inr (.inr (k, σ'))) => exact h
theorem zbig_le {b : Bool} {n n' d : Nat} {f : zF} {σ : zW} {r : zO × zW} (h : zbig b n d f σ = some r) (hn : n ≤ n') : zbig b n' d f σ = some r := by
  obtain ⟨k, rfl⟩ := Nat.le.dest hn
  clear hn
  induction k with
  | zero => exact h
  | succ k ih => exact zbig_up _ _ _ _ _ ih
/-- how many calls may stand open -/
def zD : Nat := 60
/-- the frames below go on with what came back -/
def zgo (b : Bool) : Nat → List zF → zO × zW → Option (zO × zW)
  | _, [], r => some r
  | n, f :: K, (.inl v, σ) => match zbig b n (zD - K.length) (zpsh f v) σ with
    | none => none
    | some r => zgo b n K r
  | n, f :: K, (.inr k, σ) => match zcth f k with
    | none => zgo b n K (.inr k, σ)
    | some f' => match zbig b n (zD - K.length) f' σ with
      | none => none
      | some r => zgo b n K r
theorem zgo_le {b : Bool} {n n' : Nat} (hn : n ≤ n') : ∀ (K : List zF) (q r : zO × zW), zgo b n K q = some r → zgo b n' K q = some r := by
  intro K
  induction K with
  | nil => intro q r h; exact h
  | cons f K ih =>
    intro q r h
    obtain ⟨o, σ⟩ := q
    cases o with
    | inl v =>
      rw [zgo] at h ⊢
      cases hb : zbig b n (zD - K.length) (zpsh f v) σ with
      | none => rw [hb] at h; cases h
      | some w => rw [hb] at h; rw [zbig_le hb hn]; exact ih _ _ h
    | inr k =>
      rw [zgo] at h ⊢
      cases hc : zcth f k with
      | none => rw [hc] at h; exact ih _ _ h
      | some f' =>
        rw [hc] at h
        simp only at h ⊢
        cases hb : zbig b n (zD - K.length) f' σ with
        | none => rw [hb] at h; cases h
        | some w => rw [hb] at h; rw [zbig_le hb hn]; exact ih _ _ h
/-- the end that is wanted: true, within the room -/
def zFin (r : zO × zW) : Prop := r.1 = .inl (some (.inl 1)) ∧ gC r.2 ≤ 600130 ∧ gS r.2 ≤ 7301080
/-- the frames come to the wanted end -/
def zEv (b : Bool) : List zF → zW → Prop
  | [], _ => False
  | f :: K, σ => ∃ (n : Nat) (q r : zO × zW), zbig b n (zD - K.length) f σ = some q ∧ zgo b n K q = some r ∧ zFin r
def zRet (b : Bool) (K : List zF) (v : Option zV) (σ : zW) : Prop := ∃ (n : Nat) (r : zO × zW), zgo b n K (.inl v, σ) = some r ∧ zFin r
def zThr (b : Bool) (K : List zF) (k : Nat) (σ : zW) : Prop := ∃ (n : Nat) (r : zO × zW), zgo b n K (.inr k, σ) = some r ∧ zFin r
theorem zE_next {b : Bool} {f f' : zF} {K : List zF} {σ σ' : zW} (h : zstep b f σ = some (.inl (f', σ'))) : zEv b (f :: K) σ = zEv b (f' :: K) σ' := by
  apply propext
  constructor
  · rintro ⟨n, q, r, h1, h2, h3⟩
    cases n with
    | zero => simp [zbig] at h1
    | succ n =>
      rw [zbig, h] at h1
      exact ⟨n + 1, q, r, zbig_up _ _ _ _ _ h1, h2, h3⟩
  · rintro ⟨n, q, r, h1, h2, h3⟩
    refine ⟨n + 1, q, r, ?_, zgo_le (Nat.le_succ n) _ _ _ h2, h3⟩
    rw [zbig, h]
    exact h1
theorem zE_call {b : Bool} {f g f' : zF} {K : List zF} {σ σ' : zW} (h : zstep b f σ = some (.inr (.inl (g, f', σ')))) (hd : K.length < zD) : zEv b (f :: K) σ = zEv b (g :: f' :: K) σ' := by
  obtain ⟨d, hd'⟩ : ∃ d, zD - K.length = d + 1 := ⟨zD - K.length - 1, by omega⟩
  have hd2 : zD - (f' :: K).length = d := by simp only [List.length_cons]; omega
  apply propext
  constructor
  · rintro ⟨n, q, r, h1, h2, h3⟩
    cases n with
    | zero => simp [zbig] at h1
    | succ n =>
      rw [zbig, h, hd'] at h1
      simp only at h1
      cases hg : zbig b n d g σ' with
      | none => rw [hg] at h1; cases h1
      | some w =>
        rw [hg] at h1
        obtain ⟨o, σ2⟩ := w
        cases o with
        | inl v =>
          simp only at h1
          refine ⟨n + 1, (.inl v, σ2), r, ?_, ?_, h3⟩
          · rw [hd2]; exact zbig_up _ _ _ _ _ hg
          · rw [zgo, hd', zbig_up _ _ _ _ _ h1]; exact h2
        | inr k =>
          simp only at h1
          refine ⟨n + 1, (.inr k, σ2), r, ?_, ?_, h3⟩
          · rw [hd2]; exact zbig_up _ _ _ _ _ hg
          · rw [zgo]
            cases hc : zcth f' k with
            | none => rw [hc] at h1; cases h1; exact h2
            | some f2 => rw [hc] at h1; simp only at h1 ⊢; rw [hd', zbig_up _ _ _ _ _ h1]; exact h2
  · rintro ⟨n, q, r, h1, h2, h3⟩
    rw [hd2] at h1
    obtain ⟨o, σ2⟩ := q
    cases o with
    | inl v =>
      rw [zgo] at h2
      cases hb : zbig b n (zD - K.length) (zpsh f' v) σ2 with
      | none => rw [hb] at h2; cases h2
      | some w =>
        rw [hb] at h2
        refine ⟨n + 1, w, r, ?_, zgo_le (Nat.le_succ n) _ _ _ h2, h3⟩
        rw [zbig, h, hd']
        simp only
        rw [h1]
        simp only
        rw [← hd']; exact hb
    | inr k =>
      rw [zgo] at h2
      cases hc : zcth f' k with
      | none =>
        rw [hc] at h2
        refine ⟨n + 1, (.inr k, σ2), r, ?_, zgo_le (Nat.le_succ n) _ _ _ h2, h3⟩
        rw [zbig, h, hd']
        simp only
        rw [h1]
        simp only
        rw [hc]
      | some f2 =>
        rw [hc] at h2
        simp only at h2
        cases hb : zbig b n (zD - K.length) f2 σ2 with
        | none => rw [hb] at h2; cases h2
        | some w =>
          rw [hb] at h2
          refine ⟨n + 1, w, r, ?_, zgo_le (Nat.le_succ n) _ _ _ h2, h3⟩
          rw [zbig, h, hd']
          simp only
          rw [h1]
          simp only
          rw [hc]
          simp only
          rw [← hd']; exact hb
theorem zE_ret {b : Bool} {f : zF} {K : List zF} {σ σ' : zW} {v : Option zV} (h : zstep b f σ = some (.inr (.inr (.inl (v, σ'))))) : zEv b (f :: K) σ = zRet b K v σ' := by
  apply propext
  constructor
  · rintro ⟨n, q, r, h1, h2, h3⟩
    cases n with
    | zero => simp [zbig] at h1
    | succ n => rw [zbig, h] at h1; cases h1; exact ⟨n + 1, r, h2, h3⟩
  · rintro ⟨n, r, h2, h3⟩
    refine ⟨n + 1, (.inl v, σ'), r, ?_, zgo_le (Nat.le_succ n) _ _ _ h2, h3⟩
    rw [zbig, h]
theorem zE_thr {b : Bool} {f : zF} {K : List zF} {σ σ' : zW} {k : Nat} (h : zstep b f σ = some (.inr (.inr (.inr (k, σ'))))) : zEv b (f :: K) σ = zThr b K k σ' := by
  apply propext
  constructor
  · rintro ⟨n, q, r, h1, h2, h3⟩
    cases n with
    | zero => simp [zbig] at h1
    | succ n => rw [zbig, h] at h1; cases h1; exact ⟨n + 1, r, h2, h3⟩
  · rintro ⟨n, r, h2, h3⟩
    refine ⟨n + 1, (.inr k, σ'), r, ?_, zgo_le (Nat.le_succ n) _ _ _ h2, h3⟩
    rw [zbig, h]
theorem zRet_cons {b : Bool} (f : zF) (K : List zF) (v : Option zV) (σ : zW) : zRet b (f :: K) v σ = zEv b (zpsh f v :: K) σ := by
  apply propext
  constructor
  · rintro ⟨n, r, h, h3⟩
    rw [zgo] at h
    cases hb : zbig b n (zD - K.length) (zpsh f v) σ with
    | none => rw [hb] at h; cases h
    | some w => rw [hb] at h; exact ⟨n, w, r, hb, h, h3⟩
  · rintro ⟨n, q, r, h1, h2, h3⟩
    refine ⟨n, r, ?_, h3⟩
    rw [zgo, h1]; exact h2
theorem zThr_pass {b : Bool} {f : zF} (K : List zF) {k : Nat} (σ : zW) (h : zcth f k = none) : zThr b (f :: K) k σ = zThr b K k σ := by
  simp only [zThr, zgo, h]
theorem zThr_catch {b : Bool} {f f' : zF} (K : List zF) {k : Nat} (σ : zW) (h : zcth f k = some f') : zThr b (f :: K) k σ = zEv b (f' :: K) σ := by
  apply propext
  constructor
  · rintro ⟨n, r, h0, h3⟩
    rw [zgo, h] at h0
    simp only at h0
    cases hb : zbig b n (zD - K.length) f' σ with
    | none => rw [hb] at h0; cases h0
    | some w => rw [hb] at h0; exact ⟨n, w, r, hb, h0, h3⟩
  · rintro ⟨n, q, r, h1, h2, h3⟩
    refine ⟨n, r, ?_, h3⟩
    rw [zgo, h]
    simp only
    rw [h1]; exact h2
/-- some steps on end that neither call nor return -/
def zsteps (b : Bool) : Nat → zF → zW → Option zR
  | 0, f, σ => zstep b f σ
  | n + 1, f, σ => match zstep b f σ with
    | some (.inl (f', σ')) => zsteps b n f' σ'
    | w => w
theorem zsteps_at {b : Bool} {K : List zF} : ∀ (n : Nat) (f : zF) (σ : zW) (w : zR), zsteps b n f σ = some w → ∃ (f1 : zF) (σ1 : zW), zEv b (f :: K) σ = zEv b (f1 :: K) σ1 ∧ zstep b f1 σ1 = some w := by
  intro n
  induction n with
  | zero => intro f σ w h; exact ⟨f, σ, rfl, h⟩
  | succ n ih =>
    intro f σ w h
    rw [zsteps] at h
    cases hs : zstep b f σ with
    | none => rw [hs] at h; cases h
    | some q =>
      rw [hs] at h
      match q with
      | .inl (f', σ') =>
        obtain ⟨f1, σ1, h1, h2⟩ := ih f' σ' w h
        exact ⟨f1, σ1, (zE_next hs).trans h1, h2⟩
      | .inr q => exact ⟨f, σ, rfl, by rw [hs]; exact h⟩
theorem zS_next {b : Bool} (n : Nat) {f f' : zF} {K : List zF} {σ σ' : zW} (h : zsteps b n f σ = some (.inl (f', σ'))) : zEv b (f :: K) σ = zEv b (f' :: K) σ' := by
  obtain ⟨f1, σ1, h1, h2⟩ := zsteps_at (K := K) n f σ _ h
  exact h1.trans (zE_next h2)
theorem zS_call {b : Bool} (n : Nat) {f g f' : zF} {K : List zF} {σ σ' : zW} (h : zsteps b n f σ = some (.inr (.inl (g, f', σ')))) (hd : K.length < zD) : zEv b (f :: K) σ = zEv b (g :: f' :: K) σ' := by
  obtain ⟨f1, σ1, h1, h2⟩ := zsteps_at (K := K) n f σ _ h
  exact h1.trans (zE_call h2 hd)
theorem zS_ret {b : Bool} (n : Nat) {f : zF} {K : List zF} {σ σ' : zW} {v : Option zV} (h : zsteps b n f σ = some (.inr (.inr (.inl (v, σ'))))) : zEv b (f :: K) σ = zRet b K v σ' := by
  obtain ⟨f1, σ1, h1, h2⟩ := zsteps_at (K := K) n f σ _ h
  exact h1.trans (zE_ret h2)
theorem zS_thr {b : Bool} (n : Nat) {f : zF} {K : List zF} {σ σ' : zW} {k : Nat} (h : zsteps b n f σ = some (.inr (.inr (.inr (k, σ'))))) : zEv b (f :: K) σ = zThr b K k σ' := by
  obtain ⟨f1, σ1, h1, h2⟩ := zsteps_at (K := K) n f σ _ h
  exact h1.trans (zE_thr h2)
theorem zE_none {b : Bool} {f : zF} {K : List zF} {σ : zW} (h : zstep b f σ = none) : ¬ zEv b (f :: K) σ := by
  rintro ⟨n, q, r, h1, h2, h3⟩
  cases n with
  | zero => simp [zbig] at h1
  | succ n => rw [zbig, h] at h1; cases h1
theorem zS_none {b : Bool} {K : List zF} : ∀ (n : Nat) {f : zF} {σ : zW}, zsteps b n f σ = none → ¬ zEv b (f :: K) σ := by
  intro n
  induction n with
  | zero => intro f σ h; exact zE_none h
  | succ n ih =>
    intro f σ h
    rw [zsteps] at h
    cases hs : zstep b f σ with
    | none => exact zE_none hs
    | some q =>
      rw [hs] at h
      match q with
      | .inl (f', σ') => rw [zE_next hs]; exact ih h
      | .inr q => cases h
theorem zS_if (n : Nat) {b : Bool} {f f' : zF} {K : List zF} {σ σ' : zW} {c : Prop} {dc : Decidable c} (h : zsteps b n f σ = @ite _ c dc (some (.inl (f', σ'))) none) : zEv b (f :: K) σ = (c ∧ zEv b (f' :: K) σ') := by
  by_cases hc : c
  · rw [if_pos hc] at h
    rw [zS_next n h, eq_true hc, true_and]
  · rw [if_neg hc] at h
    apply propext
    constructor
    · intro q
      exfalso
      exact zS_none n h q
    · intro q; exact absurd q.1 hc
