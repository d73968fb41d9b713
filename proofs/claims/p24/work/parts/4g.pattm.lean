/-! a part entered by the model -/
def sgR (m : Int) : Int := if m = 1 then 33 else if m = 2 then 63 else 0
/-- the fields as the model keeps them, cell 146 and on -/
def MR (R : PRW) (q i : Nat) : Int := if q = 0 then R 1 i else if q = 1 then R 6 i else if q = 2 then R 7 i - R 6 i else if q = 3 then R 2 i else if q = 4 then R 8 i else if q = 5 then R 15 i else if q = 6 then R 9 i + 1 else if q = 7 then R 11 i else if q = 8 then R 3 i else if q = 9 then sgR (R 4 i) else if q = 10 then R 17 i else R 16 i
abbrev Xnm (c : Nat) : Nat → Nat → Prop := fun k j => (k = 122 ∧ ((2 ≤ j ∧ j ≤ 7) ∨ j = 35 ∨ j = 49 ∨ j = 50)) ∨ (146 ≤ k ∧ k ≤ 157 ∧ j = c) ∨ k = 158
theorem entR_o {R : PRW} {c n nb : Nat} {nm : Int} {row : Nat → Int} {k i : Nat} (h1 : k ≠ 13) (h2 : k ≠ 14) (hi : i ≠ c) : entR R c n nb nm row k i = R k i := by
  unfold entR
  rw [if_neg h1, if_neg h2, if_neg hi]
theorem entR_n {R : PRW} {c n nb : Nat} {nm : Int} {row : Nat → Int} {k : Nat} (h1 : k ≠ 13) (h2 : k ≠ 14) : entR R c n nb nm row k c = row k := by
  unfold entR
  rw [if_neg h1, if_neg h2, if_pos rfl]
theorem MR_old {R : PRW} {c n nb : Nat} {nm : Int} {row : Nat → Int} {q i : Nat} (hi : i ≠ c) : MR (entR R c n nb nm row) q i = MR R q i := by
  have e : ∀ k, k ≠ 13 → k ≠ 14 → entR R c n nb nm row k i = R k i := by
    intro k h1 h2
    unfold entR
    rw [if_neg h1, if_neg h2, if_neg hi]
  unfold MR
  rw [e 1 (by decide) (by decide), e 6 (by decide) (by decide), e 7 (by decide) (by decide), e 2 (by decide) (by decide), e 8 (by decide) (by decide), e 15 (by decide) (by decide), e 9 (by decide) (by decide), e 11 (by decide) (by decide), e 3 (by decide) (by decide), e 4 (by decide) (by decide), e 17 (by decide) (by decide), e 16 (by decide) (by decide)]
theorem MR_new {R : PRW} {c n nb : Nat} {nm : Int} {row : Nat → Int} {q : Nat} : MR (entR R c n nb nm row) q c = MR (fun k _ => row k) q c := by
  have e : ∀ k, k ≠ 13 → k ≠ 14 → entR R c n nb nm row k c = row k := by
    intro k h1 h2
    unfold entR
    rw [if_neg h1, if_neg h2, if_pos rfl]
  unfold MR
  rw [e 1 (by decide) (by decide), e 6 (by decide) (by decide), e 7 (by decide) (by decide), e 2 (by decide) (by decide), e 8 (by decide) (by decide), e 15 (by decide) (by decide), e 9 (by decide) (by decide), e 11 (by decide) (by decide), e 3 (by decide) (by decide), e 4 (by decide) (by decide), e 17 (by decide) (by decide), e 16 (by decide) (by decide)]
theorem rwc_u {t c : Nat} {l : List Nat} {RW : Nat → Int} {σ : zW} (h : rwc t c l RW σ) {k0 j0 : Nat} {v : Int} (hk : k0 < t) : rwc t c l RW (sI σ k0 j0 v) := by
  intro q hq
  rw [gI_sI, if_neg (fun w => by omega)]
  exact h q hq
def rowM (kd hr sg m k dn hd nu : Int) (q : Nat) : Int := if q = 0 then kd else if q = 2 then 0 else if q = 3 then -1 else if q = 4 then nu else if q = 5 then 0 else if q = 6 then hd else if q = 7 then dn else if q = 8 then hr else if q = 9 then sg else if q = 10 then m else k
