/-! patterns as functions of the tape -/
def nmA (f : Nat → Int) (L a : Nat) : Nat ⊕ (Nat × Nat) := if zsml (tb f L (sk f L a)) then .inr ((tb f L (sk f L a) - 97).toNat, sk f L a + 1) else .inl (sk f L a)
theorem nmA_ok {f : Nat → Int} {L a x q : Nat} (h : nmA f L a = .inr (x, q)) : sk f L a < L ∧ q = sk f L a + 1 ∧ x < 26 ∧ tb f L (sk f L a) = (x : Int) + 97 := by
  unfold nmA at h
  split at h
  · rename_i h1
    cases h
    have hlt : sk f L a < L := by
      rcases Nat.lt_or_ge (sk f L a) L with q | q
      · exact q
      · rw [tb_ge q] at h1; omega
    exact ⟨hlt, rfl, by omega, by omega⟩
  · cases h
def dblR (f : Nat → Int) (L m : Nat) (z : Int) (p : Nat) : Nat × Nat × Nat := if tb f L (p + 1) = z then (m + 1, 0, p + 2) else (m, 0, p + 1)
def relR (f : Nat → Int) (L b : Nat) (z : Int) (p : Nat) : (Nat × Nat) ⊕ (Nat × Nat × Nat) :=
  if tb f L (p + 1) = z then .inr (b + 2, 0, p + 2)
  else if tb f L (p + 1) = 58 then .inr (b + 3, 0, p + 2)
  else if tb f L (p + 1) = 45 then (if 49 ≤ tb f L (p + 2) ∧ tb f L (p + 2) ≤ 57 then .inr (b + 5, (tb f L (p + 2) - 48).toNat, p + 3) else .inl (1, p + 2))
  else if 49 ≤ tb f L (p + 1) ∧ tb f L (p + 1) ≤ 57 then .inr (b + 4, (tb f L (p + 1) - 48).toNat, p + 2) else .inr (b + 1, 0, p + 1)
def opS (f : Nat → Int) (L p : Nat) : (Nat × Nat) ⊕ (Nat × Nat × Nat) :=
  if tb f L p = 60 then relR f L 0 60 p
  else if tb f L p = 62 then relR f L 5 62 p
  else if tb f L p = 46 then .inr (dblR f L 11 46 p)
  else if tb f L p = 44 then .inr (dblR f L 13 44 p)
  else if tb f L p = 36 then (if tb f L (p + 1) = 46 then .inr (dblR f L 16 46 (p + 1)) else if tb f L (p + 1) = 44 then .inr (dblR f L 18 44 (p + 1)) else .inr (15, 0, p + 1))
  else .inl (1, p)
def opR (f : Nat → Int) (L a : Nat) : (Nat × Nat) ⊕ (Nat × Nat × Nat) := opS f L (sk f L a)
/-- an operator's number in the class -/
def cop (m n : Nat) : Int := if m = 0 then 0 else if m ≤ 5 then (m : Int) - 1 + 32 * n else if m ≤ 10 then (m : Int) + 10 + 32 * n else if m = 11 then 5 else if m = 12 then 6 else if m = 13 then 21 else if m = 14 then 22 else if m = 15 then 7 else if m = 16 then 8 else if m = 17 then 9 else if m = 18 then 24 else 25
theorem tb_in {f : Nat → Int} {L p : Nat} (h : tb f L p ≠ -1) : p < L := by
  rcases Nat.lt_or_ge p L with q | q
  · exact q
  · exact absurd (tb_ge q) h
theorem dblR_b (f : Nat → Int) (L m : Nat) (z : Int) (p : Nat) (hz : z ≠ -1) (hp : p < L) : p < (dblR f L m z p).2.2 ∧ (dblR f L m z p).2.2 ≤ L ∧ m ≤ (dblR f L m z p).1 ∧ (dblR f L m z p).1 ≤ m + 1 ∧ (dblR f L m z p).2.1 = 0 := by
  unfold dblR
  split
  · rename_i h
    have : p + 1 < L := tb_in (by rw [h]; exact hz)
    refine ⟨?_, ?_, ?_, ?_, rfl⟩ <;> dsimp only <;> omega
  · refine ⟨?_, ?_, ?_, ?_, rfl⟩ <;> dsimp only <;> omega
theorem relR_ok {f : Nat → Int} {L b : Nat} {z : Int} {p : Nat} {o : Nat × Nat × Nat} (hz : z ≠ -1) (hp : p < L) (h : relR f L b z p = .inr o) : p < o.2.2 ∧ o.2.2 ≤ L ∧ b + 1 ≤ o.1 ∧ o.1 ≤ b + 5 ∧ o.2.1 ≤ 9 := by
  unfold relR at h
  split at h
  · rename_i h1
    have := tb_in (f := f) (L := L) (p := p + 1) (by omega)
    cases h; exact ⟨by dsimp only; omega, by dsimp only; omega, by dsimp only; omega, by dsimp only; omega, by dsimp only; omega⟩
  · split at h
    · have := tb_in (f := f) (L := L) (p := p + 1) (by omega)
      cases h; exact ⟨by dsimp only; omega, by dsimp only; omega, by dsimp only; omega, by dsimp only; omega, by dsimp only; omega⟩
    · split at h
      · split at h
        · have := tb_in (f := f) (L := L) (p := p + 2) (by omega)
          cases h; exact ⟨by dsimp only; omega, by dsimp only; omega, by dsimp only; omega, by dsimp only; omega, by dsimp only; omega⟩
        · cases h
      · split at h
        · have := tb_in (f := f) (L := L) (p := p + 1) (by omega)
          cases h; exact ⟨by dsimp only; omega, by dsimp only; omega, by dsimp only; omega, by dsimp only; omega, by dsimp only; omega⟩
        · cases h; exact ⟨by dsimp only; omega, by dsimp only; omega, by dsimp only; omega, by dsimp only; omega, by dsimp only; omega⟩
theorem opS_ok {f : Nat → Int} {L p : Nat} {o : Nat × Nat × Nat} (h : opS f L p = .inr o) : p < o.2.2 ∧ o.2.2 ≤ L ∧ 1 ≤ o.1 ∧ o.1 ≤ 19 ∧ o.2.1 ≤ 9 := by
  have hp : p < L := by
    refine tb_in (f := f) fun w => ?_
    unfold opS at h
    rw [w] at h
    cases h
  unfold opS at h
  split at h
  · have := relR_ok (by decide) hp h; omega
  · split at h
    · have := relR_ok (by decide) hp h; omega
    · split at h
      · cases h; have := dblR_b f L 11 46 p (by decide) hp; omega
      · split at h
        · cases h; have := dblR_b f L 13 44 p (by decide) hp; omega
        · split at h
          · split at h
            · rename_i h1
              have hp2 := tb_in (f := f) (L := L) (p := p + 1) (by omega)
              cases h; have := dblR_b f L 16 46 (p + 1) (by decide) hp2; omega
            · split at h
              · rename_i h1
                have hp2 := tb_in (f := f) (L := L) (p := p + 1) (by omega)
                cases h; have := dblR_b f L 18 44 (p + 1) (by decide) hp2; omega
              · cases h; exact ⟨by dsimp only; omega, by dsimp only; omega, by dsimp only; omega, by dsimp only; omega, by dsimp only; omega⟩
          · cases h
/-- the fields of the parts: 1 kind, 2 other, 3 from, 4 mark, 5 operator, 6 7 labels from and to, 8 number, 9 head, 11 denied, 13 givers by name, 14 parts by number, 15 own name, 16 17 the operator's n and number -/
abbrev PRW : Type := Nat → Nat → Int
abbrev pln (R : PRW) (i : Nat) : Prop := R 11 i = 0 ∧ R 9 i = -1
def tolR (f : Nat → Int) (L : Nat) (R : PRW) (a : Nat) : (Nat × Nat) ⊕ (Int × Nat) := match nmA f L a with
  | .inl p => .inl (1, p)
  | .inr x => if R 13 x.1 = -1 ∨ ¬ pln R (R 13 x.1).toNat then .inl (4, x.2 - 1) else .inr (R 13 x.1, x.2)
def givR (f : Nat → Int) (L : Nat) (R : PRW) (a : Nat) : (Nat × Nat) ⊕ (Int × Nat) := if tb f L (sk f L a) = 61 then (match nmA f L (sk f L a + 1) with
  | .inl p => .inl (1, p)
  | .inr x => if R 13 x.1 = -1 then .inr ((x.1 : Nat) + 97, x.2) else .inl (4, x.2 - 1)) else .inr (0, sk f L a)
def lbR (f : Nat → Int) (L : Nat) : Nat → Nat → Nat → (Nat → Int64) → (Nat × Nat) ⊕ (Nat × (Nat → Int64) × Nat)
  | 0, _, _, _ => .inl (0, 0)
  | k + 1, a, l, B => match rdl f L a with
    | .inl e => .inl e
    | .inr r => if tb f L (sk f L r.2) = 124 then lbR f L k (sk f L r.2 + 1) (l + 1) (fup B l r.1) else .inr (l + 1, fup B l r.1, sk f L r.2)
def bodR (f : Nat → Int) (L : Nat) (R : PRW) (z : Int) (a l : Nat) (B : Nat → Int64) : (Nat × Nat) ⊕ (Int × Nat × (Nat → Int64) × Nat) :=
  if z = 42 then .inr (-1, l, B, a)
  else if z = 61 ∨ z = 126 then (match tolR f L R a with
    | .inl e => .inl e
    | .inr x => .inr (x.1, l, B, x.2))
  else match lbR f L (L + 1) a l B with
    | .inl e => .inl e
    | .inr x => .inr (-1, x)
def namR (f : Nat → Int) (L : Nat) (R : PRW) (z : Int) (a : Nat) : (Nat × Nat) ⊕ (Int × Nat) := if z = 61 then .inr (0, a) else givR f L R a
/-- counts of parts, labels, numbers; the fields; the labels -/
abbrev PST : Type := Nat × Nat × Nat × PRW × (Nat → Int64)
def denR (R : PRW) (here mk : Int) : Int := if mk = 1 ∨ (here ≠ -1 ∧ R 11 here.toNat ≠ 0) then 1 else 0
def nbrR (dn z : Int) : Nat := if dn = 0 ∧ z ≠ 61 then 1 else 0
def hdR (R : PRW) (here mk : Int) (c : Nat) : Int := if here ≠ -1 ∧ R 9 here.toNat ≠ -1 then R 9 here.toNat else if mk = 2 then (c : Nat) else -1
def kndR (z : Int) : Int := if z = 42 then 0 else if z = 61 then 4 else if z = 126 then 3 else if z = 33 then 2 else 1
def begR (f : Nat → Int) (L p c n nb : Nat) : Option (Nat × Nat) :=
  if ¬ (zlet (tb f L p) ∨ tb f L p = 42 ∨ tb f L p = 61 ∨ tb f L p = 126 ∨ tb f L p = 33) then some (1, p) else if 6 < wl f L p then some (2, p) else if 8 ≤ c ∨ (nb = 1 ∧ 4 ≤ n) then some (3, p) else none
def rowR (kd ot hr mk op l l' nu hd dn nm n m : Int) (k : Nat) : Int :=
  if k = 1 then kd else if k = 2 then ot else if k = 3 then hr else if k = 4 then mk else if k = 5 then op else if k = 6 then l else if k = 7 then l' else if k = 8 then nu else if k = 9 then hd else if k = 11 then dn else if k = 15 then nm else if k = 16 then n else m
def entR (R : PRW) (c n nb : Nat) (nm : Int) (row : Nat → Int) : PRW := fun k i => if k = 13 then (if nm = (i : Int) + 97 then (c : Nat) else R 13 i) else if k = 14 then (if nb = 1 ∧ i = n then (c : Nat) else R 14 i) else if i = c then row k else R k i
def nodE (st : PST) (here mk : Int) (m k : Nat) (z : Int) (b : Int × Nat × (Nat → Int64) × Nat) (nm : Int) : PST :=
  (st.1 + 1, b.2.1, st.2.2.1 + nbrR (denR st.2.2.2.1 here mk) z, entR st.2.2.2.1 st.1 st.2.2.1 (nbrR (denR st.2.2.2.1 here mk) z) nm (rowR (kndR z) b.1 here mk (cop m k) (st.2.1 : Nat) (b.2.1 : Nat) (if nbrR (denR st.2.2.2.1 here mk) z = 1 then (st.2.2.1 : Nat) else -1) (hdR st.2.2.2.1 here mk st.1) (denR st.2.2.2.1 here mk) nm (k : Nat) (m : Nat)), b.2.2.1)
def nodP (f : Nat → Int) (L : Nat) (st : PST) (here mk : Int) (m k p : Nat) : (Nat × Nat) ⊕ (PST × Nat) := match begR f L p st.1 st.2.2.1 (nbrR (denR st.2.2.2.1 here mk) (tb f L p)) with
  | some e => .inl e
  | none => match bodR f L st.2.2.2.1 (tb f L p) (if zlet (tb f L p) then p else p + 1) st.2.1 st.2.2.2.2 with
    | .inl e => .inl e
    | .inr b => match namR f L st.2.2.2.1 (tb f L p) b.2.2.2 with
      | .inl e => .inl e
      | .inr w => .inr (nodE st here mk m k (tb f L p) b w.1, w.2)
def mkR (f : Nat → Int) (L : Nat) (R : PRW) (here p : Nat) : (Nat × Nat) ⊕ (Int × Nat) := if tb f L p = 33 then .inr (1, p + 1) else if tb f L p = 63 then (if pln R here then .inr (2, p + 1) else .inl (1, p)) else .inr (0, p)
/-- behind the bracket -/
def brR (f : Nat → Int) (L p : Nat) : Nat := if tb f L p = 40 then p + 1 else p
def ptR (f : Nat → Int) (L : Nat) : Nat → PST → Nat → Nat → Nat → (Nat × Nat) ⊕ PST
  | 0, _, _, _, _ => .inl (0, 0)
  | k + 1, st, here, d, a =>
    if d = 0 ∧ tb f L (sk f L a) = -1 then .inr st
    else if 0 < d ∧ tb f L (sk f L a) = 41 then ptR f L k st (st.2.2.2.1 3 here).toNat (d - 1) (sk f L a + 1)
    else match mkR f L st.2.2.2.1 here (sk f L a) with
      | .inl e => .inl e
      | .inr g => match opR f L g.2 with
        | .inl e => .inl e
        | .inr o => match nodP f L st (here : Nat) g.1 o.1 o.2.1 (sk f L (brR f L (sk f L o.2.2))) with
          | .inl e => .inl e
          | .inr r => ptR f L k r.1 (if tb f L (sk f L o.2.2) = 40 then st.1 else here) (if tb f L (sk f L o.2.2) = 40 then d + 1 else d) r.2
/-- a relation read, from behind the blanks: where its operator ends, the state, where it ends -/
def stR (f : Nat → Int) (L : Nat) (st : PST) (here p : Nat) : (Nat × Nat) ⊕ (Nat × PST × Nat) := match mkR f L st.2.2.2.1 here p with
  | .inl e => .inl e
  | .inr g => match opR f L g.2 with
    | .inl e => .inl e
    | .inr o => match nodP f L st (here : Nat) g.1 o.1 o.2.1 (sk f L (brR f L (sk f L o.2.2))) with
      | .inl e => .inl e
      | .inr r => .inr (o.2.2, r)
theorem ptR_st (f : Nat → Int) (L k : Nat) (st : PST) (here d a : Nat) : ptR f L (k + 1) st here d a = (if d = 0 ∧ tb f L (sk f L a) = -1 then .inr st
    else if 0 < d ∧ tb f L (sk f L a) = 41 then ptR f L k st (st.2.2.2.1 3 here).toNat (d - 1) (sk f L a + 1)
    else match stR f L st here (sk f L a) with
      | .inl e => .inl e
      | .inr x => ptR f L k x.2.1 (if tb f L (sk f L x.1) = 40 then st.1 else here) (if tb f L (sk f L x.1) = 40 then d + 1 else d) x.2.2) := by
  rw [ptR]
  unfold stR
  split
  · rfl
  · split
    · rfl
    · cases mkR f L st.2.2.2.1 here (sk f L a) with
      | inl e => rfl
      | inr g =>
        simp only
        cases opR f L g.2 with
        | inl e => rfl
        | inr o =>
          simp only
          cases nodP f L st (here : Nat) g.1 o.1 o.2.1 (sk f L (brR f L (sk f L o.2.2))) with
          | inl e => rfl
          | inr r => rfl
/-- the pattern of a text -/
def pread (f : Nat → Int) (L : Nat) : (Nat × Nat) ⊕ PST := match nodP f L (0, 0, 0, fun k _ => if k = 13 then -1 else 0, fun _ => 0) (-1) 0 0 0 (sk f L 0) with
  | .inl e => .inl e
  | .inr r => ptR f L (L + 1) r.1 0 0 r.2
