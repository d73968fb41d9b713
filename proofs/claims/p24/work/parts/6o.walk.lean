/-! what the search walks through, as a relation -/
theorem nonpl_in {st : PST} {pd : Nat → Nat} (hg : pgd st pd) {p : Nat} (hp : p < st.1) (hnp : ¬ pln st.2.2.2.1 p) : ∀ q, p ≤ q → q < ed pd st.1 p → ¬ pln st.2.2.2.1 q := by
  intro q
  induction q using Nat.strongRecOn with
  | _ q ih =>
    intro h1 h2
    by_cases e : q = p
    · rw [e]; exact hnp
    · obtain ⟨u, u1, u2, u3⟩ := fr_in hg.1 hp (show p < q by omega) h2
      have hq : q < st.1 := by have := (ed_spec (dep := pd) hp).2.1; omega
      exact inpart_child hg hq (by omega) ((fr_par hg hq).trans u1) (ih u u3 u2 (by omega))
theorem den_in {st : PST} {pd : Nat → Nat} (hg : pgd st pd) {p : Nat} (hp : p < st.1) (hnp : st.2.2.2.1 11 p ≠ 0) : ∀ q, p ≤ q → q < ed pd st.1 p → st.2.2.2.1 11 q ≠ 0 := by
  intro q
  induction q using Nat.strongRecOn with
  | _ q ih =>
    intro h1 h2
    by_cases e : q = p
    · rw [e]; exact hnp
    · obtain ⟨u, u1, u2, u3⟩ := fr_in hg.1 hp (show p < q by omega) h2
      have hq : q < st.1 := by have := (ed_spec (dep := pd) hp).2.1; omega
      have h11 := ih u u3 u2 (by omega)
      obtain ⟨b1, -⟩ := (hg.2.1 q hq).2.2.2.2.2.2.2.2.2 (by omega)
      rw [(fr_par hg hq).trans u1, Int.toNat_natCast, if_pos (Or.inr h11)] at b1
      omega
/-- a nonplain part's own part refers to what is ahead of it -/
theorem ref_lt {st : PST} {pd : Nat → Nat} (hg : pgd st pd) {p : Nat} (hp : p < st.1) (hnp : ¬ pln st.2.2.2.1 p) {r : Nat} (h1 : p ≤ r) (h2 : r < ed pd st.1 p) (h : st.2.2.2.1 1 r = 3 ∨ st.2.2.2.1 1 r = 4) : (st.2.2.2.1 2 r).toNat < p := by
  have hr : r < st.1 := by have := (ed_spec (dep := pd) hp).2.1; omega
  obtain ⟨o, o1, o2, o3, o4, o5⟩ := again_num hg hr h
  rw [o1, Int.toNat_natCast]
  rcases Nat.lt_or_ge o p with w | w
  · exact w
  · exact absurd o3 (nonpl_in hg hp hnp o w (by omega))
theorem ref_own {st : PST} {pd : Nat → Nat} (hg : pgd st pd) {p : Nat} (hp : p < st.1) (h : st.2.2.2.1 1 p = 3 ∨ st.2.2.2.1 1 p = 4) : (st.2.2.2.1 2 p).toNat < p := by
  obtain ⟨o, o1, o2, o3, o4, o5⟩ := again_num hg hp h
  rw [o1, Int.toNat_natCast]; exact o2
/-- the values of plain parts below m are the same -/
def agr (st : PST) (m : Nat) (w v : Nat → Int) : Prop := ∀ k, k < st.2.2.1 → pln st.2.2.2.1 (np st k) → np st k < m → w k = v k
theorem own_c {T : TRE} {st : PST} {pd : Nat → Nat} {w v : Nat → Int} {p a m : Nat} (hg : pgd st pd) (hp : p < st.1) (h : agr st m w v) (hm : st.2.2.2.1 1 p = 3 ∨ st.2.2.2.1 1 p = 4 → (st.2.2.2.1 2 p).toNat < m) : own T st w p a ↔ own T st v p a := by
  have key : st.2.2.2.1 1 p = 3 ∨ st.2.2.2.1 1 p = 4 → vp w st.2.2.2.1 (st.2.2.2.1 2 p).toNat = vp v st.2.2.2.1 (st.2.2.2.1 2 p).toNat := fun c => by
    obtain ⟨o, o1, o2, o3, o4, o5⟩ := again_num hg hp c
    obtain ⟨k, k1, k2, k3⟩ := np_num hg (show o < st.1 by omega) o5
    have := hm c
    rw [o1, Int.toNat_natCast] at this ⊢
    unfold vp
    rw [k2, Int.toNat_natCast]
    exact h k k1 (by rw [k3]; exact o3) (by rw [k3]; exact this)
  unfold own
  by_cases c3 : st.2.2.2.1 1 p = 3
  · rw [if_pos c3, if_pos c3, key (Or.inl c3)]
  · rw [if_neg c3, if_neg c3]
    by_cases c4 : st.2.2.2.1 1 p = 4
    · rw [if_pos c4, if_pos c4, key (Or.inr c4)]
    · rw [if_neg c4, if_neg c4]
theorem satF_c {T : TRE} {st : PST} {pd : Nat → Nat} {w v : Nat → Int} {m : Nat} (hg : pgd st pd) (h : agr st m w v) : ∀ (f q a : Nat), q < st.1 → (∀ r, q ≤ r → r < ed pd st.1 q → st.2.2.2.1 1 r = 3 ∨ st.2.2.2.1 1 r = 4 → (st.2.2.2.1 2 r).toNat < m) → (satF T st w f q a ↔ satF T st v f q a) := by
  intro f
  induction f with
  | zero => intro q a _ _; exact Iff.rfl
  | succ f ih =>
    intro q a hq hr
    have d1 := (ed_spec (dep := pd) hq).1
    rw [satF, satF, own_c hg hq h (hr q (Nat.le_refl q) d1)]
    have key : ∀ r, q < r → r < st.1 → st.2.2.2.1 3 r = (q : Int) → ((∃ b, b < T.1 ∧ rlp T st.2.2.2.1 r a b ∧ satF T st w f r b) ↔ (∃ b, b < T.1 ∧ rlp T st.2.2.2.1 r a b ∧ satF T st v f r b)) := fun r r1 r2 r3 => by
      have hc := ed_child hg.1 r2 ((fr_par hg r2).symm.trans r3)
      have hsub := fun b => ih r b r2 (fun s s1 s2 => hr s (by omega) (by omega))
      constructor
      · rintro ⟨b, b1, b2, b3⟩; exact ⟨b, b1, b2, (hsub b).mp b3⟩
      · rintro ⟨b, b1, b2, b3⟩; exact ⟨b, b1, b2, (hsub b).mpr b3⟩
    constructor
    · rintro ⟨h1, h2⟩; exact ⟨h1, fun r r1 r2 r3 => (key r r1 r2 r3).symm.trans (h2 r r1 r2 r3)⟩
    · rintro ⟨h1, h2⟩; exact ⟨h1, fun r r1 r2 r3 => (key r r1 r2 r3).trans (h2 r r1 r2 r3)⟩
theorem smo_c {T : TRE} {st : PST} {pd : Nat → Nat} {w v : Nat → Int} {p a : Nat} (hg : pgd st pd) (hp : p < st.1) (hnp : ¬ pln st.2.2.2.1 p) (h : agr st p w v) : smo T st w p a ↔ smo T st v p a := by
  have key := fun b => satF_c (T := T) hg h (st.1 - p) p b hp (fun r r1 r2 c => ref_lt hg hp hnp r1 r2 c)
  constructor
  · rintro ⟨b, b1, b2, b3⟩; exact ⟨b, b1, b2, (key b).mp b3⟩
  · rintro ⟨b, b1, b2, b3⟩; exact ⟨b, b1, b2, (key b).mpr b3⟩
/-- what must hold of part q, with values v and nodes t of the parts (-1: none) -/
def Dq (T : TRE) (st : PST) (v t : Nat → Int) (q : Nat) : Prop :=
  if q ≠ 0 ∧ t (fr3 st q) = -1 then t q = -1 ∧ (st.2.2.2.1 8 q ≠ -1 → vp v st.2.2.2.1 q = -1)
  else if st.2.2.2.1 11 q ≠ 0 then t q = -1 ∧ ¬ smo T st v q (t (fr3 st q)).toNat
  else if st.2.2.2.1 9 q = (q : Int) ∧ t q = -1 then (st.2.2.2.1 8 q ≠ -1 → vp v st.2.2.2.1 q = -1) ∧ ¬ smo T st v q (t (fr3 st q)).toNat
  else (∃ a : Nat, a < T.1 ∧ t q = (a : Int) ∧ own T st v q a ∧ (q ≠ 0 → rlp T st.2.2.2.1 q (t (fr3 st q)).toNat a) ∧ (st.2.2.2.1 8 q ≠ -1 → vp v st.2.2.2.1 q = (a : Int))) ∧ (st.2.2.2.1 9 q = (q : Int) → smo T st v q (t (fr3 st q)).toNat)
/-- what is walked through from part p on -/
def wk (T : TRE) (st : PST) (ah : Prop) (p : Nat) (w τ v : Nat → Int) : Prop := ∃ t : Nat → Int, (∀ q, q < p → t q = τ q) ∧ (∀ k, k < st.2.2.1 → np st k < p → v k = w k) ∧ (ah → agr st st.1 w v) ∧ (∀ k, st.2.2.1 ≤ k → v k = 0) ∧ ∀ q, p ≤ q → q < st.1 → Dq T st v t q
/-- the same with the parts from p to E left out -/
def cutT (τ : Nat → Int) (p E : Nat) : Nat → Int := fun q => if p ≤ q ∧ q < E then -1 else τ q
def cutW (st : PST) (w : Nat → Int) (p E : Nat) : Nat → Int := fun k => if p ≤ np st k ∧ np st k < E then -1 else w k
theorem Dq_skip {T : TRE} {st : PST} {v t : Nat → Int} {q : Nat} (h0 : q ≠ 0) (h : t (fr3 st q) = -1) : Dq T st v t q ↔ (t q = -1 ∧ (st.2.2.2.1 8 q ≠ -1 → vp v st.2.2.2.1 q = -1)) := by
  unfold Dq
  rw [if_pos ⟨h0, h⟩]
theorem Dq_den {T : TRE} {st : PST} {v t : Nat → Int} {q : Nat} (h : t (fr3 st q) ≠ -1) (h11 : st.2.2.2.1 11 q ≠ 0) : Dq T st v t q ↔ (t q = -1 ∧ ¬ smo T st v q (t (fr3 st q)).toNat) := by
  unfold Dq
  rw [if_neg (fun w => h w.2), if_pos h11]
/-- all parts of a subtree that is left out -/
theorem skip_all {T : TRE} {st : PST} {pd : Nat → Nat} (hg : pgd st pd) {v t : Nat → Int} {p : Nat} (hp : p < st.1) (htp : t p = -1) (hD : ∀ q, p < q → q < ed pd st.1 p → Dq T st v t q) : ∀ q, p < q → q < ed pd st.1 p → t q = -1 ∧ (st.2.2.2.1 8 q ≠ -1 → vp v st.2.2.2.1 q = -1) := by
  intro q
  induction q using Nat.strongRecOn with
  | _ q ih =>
    intro h1 h2
    obtain ⟨u, u1, u2, u3⟩ := fr_in hg.1 hp h1 h2
    have hq : q < st.1 := by have := (ed_spec (dep := pd) hp).2.1; omega
    have e3 : fr3 st q = u := by show (st.2.2.2.1 3 q).toNat = u; rw [fr_par hg hq, u1, Int.toNat_natCast]
    have ht : t (fr3 st q) = -1 := by
      rw [e3]
      by_cases e : u = p
      · rw [e]; exact htp
      · exact (ih u u3 (by omega) (by omega)).1
    exact (Dq_skip (by omega) ht).mp (hD q h1 h2)
theorem skip_mk {T : TRE} {st : PST} {pd : Nat → Nat} (hg : pgd st pd) {v t : Nat → Int} {p : Nat} (hp : p < st.1) (ht : ∀ q, p ≤ q → q < ed pd st.1 p → t q = -1) (hv : ∀ q, p < q → q < ed pd st.1 p → st.2.2.2.1 8 q ≠ -1 → vp v st.2.2.2.1 q = -1) : ∀ q, p < q → q < ed pd st.1 p → Dq T st v t q := by
  intro q h1 h2
  obtain ⟨u, u1, u2, u3⟩ := fr_in hg.1 hp h1 h2
  have hq : q < st.1 := by have := (ed_spec (dep := pd) hp).2.1; omega
  have e3 : fr3 st q = u := by show (st.2.2.2.1 3 q).toNat = u; rw [fr_par hg hq, u1, Int.toNat_natCast]
  exact (Dq_skip (by omega) (by rw [e3]; exact ht u u2 (by omega))).mpr ⟨ht q (by omega) h2, hv q h1 h2⟩
