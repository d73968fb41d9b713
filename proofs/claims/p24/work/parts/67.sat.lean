/-! what a node must be for a part, with its own relations -/
def vp (w : Nat → Int) (R : PRW) (p : Nat) : Int := w (R 8 p).toNat
def mt (R : PRW) (p : Nat) : Nat := if R 1 p = 4 then (R 2 p).toNat else p
def vlp (w : Nat → Int) (R : PRW) (p : Nat) : Int := vp w R (mt R p)
def own (T : TRE) (st : PST) (w : Nat → Int) (p a : Nat) : Prop := if st.2.2.2.1 1 p = 3 then T.2.1 a = T.2.1 (vp w st.2.2.2.1 (st.2.2.2.1 2 p).toNat).toNat else if st.2.2.2.1 1 p = 4 then (a : Int) = vp w st.2.2.2.1 (st.2.2.2.1 2 p).toNat else ftP st.2.2.2.1 st.2.2.2.2 p (T.2.1 a)
def satF (T : TRE) (st : PST) (w : Nat → Int) : Nat → Nat → Nat → Prop
  | 0, _, _ => True
  | f + 1, p, a => own T st w p a ∧ ∀ q, p < q → q < st.1 → st.2.2.2.1 3 q = (p : Int) → ((∃ b, b < T.1 ∧ rlp T st.2.2.2.1 q a b ∧ satF T st w f q b) ↔ st.2.2.2.1 4 q ≠ 1)
def sat (T : TRE) (st : PST) (w : Nat → Int) (p a : Nat) : Prop := satF T st w (st.1 - p) p a
theorem satF_fuel {T : TRE} {st : PST} {w : Nat → Int} : ∀ (f f' p a : Nat), st.1 - p ≤ f → st.1 - p ≤ f' → p < st.1 → (satF T st w f p a ↔ satF T st w f' p a) := by
  intro f
  induction f with
  | zero => intro f' p a h _ hp; omega
  | succ f ih =>
    intro f' p a h h' hp
    cases f' with
    | zero => omega
    | succ f' =>
      rw [satF, satF]
      have key : ∀ q, p < q → q < st.1 → ((∃ b, b < T.1 ∧ rlp T st.2.2.2.1 q a b ∧ satF T st w f q b) ↔ (∃ b, b < T.1 ∧ rlp T st.2.2.2.1 q a b ∧ satF T st w f' q b)) := fun q h1 h2 => by
        constructor
        · rintro ⟨b, b1, b2, b3⟩; exact ⟨b, b1, b2, (ih f' q b (by omega) (by omega) h2).mp b3⟩
        · rintro ⟨b, b1, b2, b3⟩; exact ⟨b, b1, b2, (ih f' q b (by omega) (by omega) h2).mpr b3⟩
      constructor
      · rintro ⟨h1, h2⟩; exact ⟨h1, fun q q1 q2 q3 => (key q q1 q2).symm.trans (h2 q q1 q2 q3)⟩
      · rintro ⟨h1, h2⟩; exact ⟨h1, fun q q1 q2 q3 => (key q q1 q2).trans (h2 q q1 q2 q3)⟩
/-- some node would do for part q, told of a -/
def smo (T : TRE) (st : PST) (w : Nat → Int) (q a : Nat) : Prop := ∃ b, b < T.1 ∧ rlp T st.2.2.2.1 q a b ∧ sat T st w q b
theorem sat_iff {T : TRE} {st : PST} {w : Nat → Int} {p a : Nat} (hp : p < st.1) : sat T st w p a ↔ (own T st w p a ∧ ∀ q, p < q → q < st.1 → st.2.2.2.1 3 q = (p : Int) → (smo T st w q a ↔ st.2.2.2.1 4 q ≠ 1)) := by
  unfold sat smo
  rw [show st.1 - p = (st.1 - p - 1) + 1 by omega, satF]
  have key : ∀ q, p < q → q < st.1 → ((∃ b, b < T.1 ∧ rlp T st.2.2.2.1 q a b ∧ satF T st w (st.1 - p - 1) q b) ↔ (∃ b, b < T.1 ∧ rlp T st.2.2.2.1 q a b ∧ sat T st w q b)) := fun q h1 h2 => by
    constructor
    · rintro ⟨b, b1, b2, b3⟩; exact ⟨b, b1, b2, (satF_fuel _ _ q b (by omega) (Nat.le_refl _) h2).mp b3⟩
    · rintro ⟨b, b1, b2, b3⟩; exact ⟨b, b1, b2, (satF_fuel _ _ q b (by omega) (Nat.le_refl _) h2).mpr b3⟩
  constructor
  · rintro ⟨h1, h2⟩; exact ⟨h1, fun q q1 q2 q3 => (key q q1 q2).symm.trans (h2 q q1 q2 q3)⟩
  · rintro ⟨h1, h2⟩; exact ⟨h1, fun q q1 q2 q3 => (key q q1 q2).trans (h2 q q1 q2 q3)⟩
