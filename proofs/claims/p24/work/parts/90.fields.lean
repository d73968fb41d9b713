/-! the fields of the told patterns -/
theorem nodE_0 {st : PST} {here : Int} {m k : Nat} {z : Int} {b : Int × Nat × (Nat → Int64) × Nat} {nm : Int} (hz : z ≠ 61) (hd : denR st.2.2.2.1 here 0 = 0) (hh : hdR st.2.2.2.1 here 0 st.1 = -1) : nodE st here 0 m k z b nm = (st.1 + 1, b.2.1, st.2.2.1 + 1, entR st.2.2.2.1 st.1 st.2.2.1 1 nm (rowR (kndR z) b.1 here 0 (cop m k) (st.2.1 : Nat) (b.2.1 : Nat) (st.2.2.1 : Nat) (-1) 0 nm (k : Nat) (m : Nat)), b.2.2.1) := by
  unfold nodE
  rw [hd, hh]
  unfold nbrR
  rw [if_pos ⟨rfl, hz⟩]
  rfl
theorem st1_e (w : Nat) : st1 w = (1, (lbd stZ w 1).2.1, 1, entR stZ.2.2.2.1 0 0 1 120 (rowR (kndR (lbc w)) (lbd stZ w 1).1 (-1) 0 (cop 0 0) ((0 : Nat) : Int) ((lbd stZ w 1).2.1 : Nat) ((0 : Nat) : Int) (-1) 0 120 ((0 : Nat) : Int) ((0 : Nat) : Int)), (lbd stZ w 1).2.2.1) := nodE_0 (lbc_n w).2.1 rfl rfl
theorem st2_e (w q : Nat) : st2 w q = (2, (lbd (st1 w) (w / 52) (q + 1)).2.1, 2, entR (st1 w).2.2.2.1 1 1 1 121 (rowR (kndR (lbc (w / 52))) (lbd (st1 w) (w / 52) (q + 1)).1 0 0 (cop (opm (w / 4 % 13)) 0) ((st1 w).2.1 : Nat) ((lbd (st1 w) (w / 52) (q + 1)).2.1 : Nat) ((1 : Nat) : Int) (-1) 0 121 ((0 : Nat) : Int) ((opm (w / 4 % 13) : Nat) : Int)), (lbd (st1 w) (w / 52) (q + 1)).2.2.1) := by
  have h1 : (st1 w).2.2.1 = 1 := by rw [st1_e]
  have := nodE_0 (st := st1 w) (here := 0) (m := opm (w / 4 % 13)) (k := 0) (b := lbd (st1 w) (w / 52) (q + 1)) (nm := 121) (lbc_n (w / 52)).2.1 (by rw [st1_e]; rfl) (by rw [st1_e]; rfl)
  unfold st2
  rw [this, h1]
  rfl
theorem st3_e (w x q q2 : Nat) : st3 w x q q2 = (3, (lbd (st2 w q) (x / 26) (q2 + 1)).2.1, 3, entR (st2 w q).2.2.2.1 2 2 1 0 (rowR (kndR (lbc (x / 26))) (lbd (st2 w q) (x / 26) (q2 + 1)).1 (if x % 2 = 0 then 1 else 0) 0 (cop (opm (x / 2 % 13)) 0) ((st2 w q).2.1 : Nat) ((lbd (st2 w q) (x / 26) (q2 + 1)).2.1 : Nat) ((2 : Nat) : Int) (-1) 0 0 ((0 : Nat) : Int) ((opm (x / 2 % 13) : Nat) : Int)), (lbd (st2 w q) (x / 26) (q2 + 1)).2.2.1) := by
  have h2 : (st2 w q).2.2.1 = 2 := by rw [st2_e]
  have h1 : (st2 w q).1 = 2 := by rw [st2_e]
  have hd : ∀ h : Int, (h = 1 ∨ h = 0) → denR (st2 w q).2.2.2.1 h 0 = 0 ∧ hdR (st2 w q).2.2.2.1 h 0 (st2 w q).1 = -1 := by
    intro h hh
    rw [st2_e, st1_e]
    rcases hh with rfl | rfl
    · exact ⟨rfl, rfl⟩
    · exact ⟨rfl, rfl⟩
  have hh : (if x % 2 = 0 then 1 else 0 : Int) = 1 ∨ (if x % 2 = 0 then 1 else 0 : Int) = 0 := by split; exact Or.inl rfl; exact Or.inr rfl
  have := nodE_0 (st := st2 w q) (here := if x % 2 = 0 then 1 else 0) (m := opm (x / 2 % 13)) (k := 0) (b := lbd (st2 w q) (x / 26) (q2 + 1)) (nm := 0) (lbc_n (x / 26)).2.1 (hd _ hh).1 (hd _ hh).2
  unfold st3
  rw [this, h2, h1]
/-- a letter fits -/
def fitP (lb : Nat → Int) (a x : Nat) : Prop := a % 4 = 0 ∨ lb x = lbc a
theorem knd_l (a : Nat) : kndR (lbc a) = if a % 4 = 0 then 0 else 1 := by
  unfold kndR
  have hn := lbc_n a
  by_cases c : a % 4 = 0
  · rw [if_pos c, lbc_s c]; rfl
  · rw [if_neg c, if_neg (lbc_l c).2, if_neg hn.2.1, if_neg hn.2.2.1, if_neg hn.2.2.2.1]
theorem fit_ft {R : PRW} {B : Nat → Int64} {p a x l : Nat} {lb : Nat → Int} {v : Int64} (hv : v = zi2l (lb x)) (h1 : lb1 (lb x)) (hk : R 1 p = kndR (lbc a)) (h6 : R 6 p = (l : Int)) (h7 : ¬ a % 4 = 0 → R 7 p = ((l + 1 : Nat) : Int)) (hB : ¬ a % 4 = 0 → B l = zi2l (lbc a)) : ftP R B p v ↔ fitP lb a x := by
  unfold ftP fitP
  rw [hk, knd_l]
  by_cases c : a % 4 = 0
  · rw [if_pos c]
    exact ⟨fun _ => Or.inl c, fun _ => ⟨fun w => absurd w (by decide), fun w => absurd w (by decide)⟩⟩
  · have l1 := (lbc_l c).1
    unfold lb1 at l1 h1
    rw [if_neg c, h6, h7 c, Int.toNat_natCast, Int.toNat_natCast]
    have hi : insP B l (l + 1) v ↔ lb x = lbc a := by
      unfold insP
      constructor
      · rintro ⟨j, j1, j2, j3⟩
        have : j = l := by omega
        rw [this, hB c, hv] at j3
        exact zi2l_inj (by omega) (by omega) (by first | exact j3.symm | exact j3)
      · intro e
        refine ⟨l, Nat.le_refl _, Nat.lt_succ_self _, ?_⟩
        rw [hB c, hv, e]
    constructor
    · intro w; exact Or.inr (hi.mp (w.1 rfl))
    · intro w
      rcases w with w | w
      · exact absurd w c
      · exact ⟨fun _ => hi.mpr w, fun w => absurd w (by decide)⟩
theorem lbd_0 (st : PST) (a q : Nat) : ¬ a % 4 = 0 → (lbd st a q).2.1 = st.2.1 + 1 ∧ (lbd st a q).2.2.1 st.2.1 = zi2l (lbc a) := fun h => by
  unfold lbd
  rw [if_neg h]
  exact ⟨rfl, fup_eq⟩
theorem lbd_keep (st : PST) (a q : Nat) {l : Nat} (hl : l < st.2.1) : (lbd st a q).2.2.1 l = st.2.2.2.2 l := by
  unfold lbd
  split
  · rfl
  · exact fup_ne (by omega)
theorem lbd_le (st : PST) (a q : Nat) : st.2.1 ≤ (lbd st a q).2.1 := by
  unfold lbd
  split
  · exact Nat.le_refl _
  · exact Nat.le_succ _
/-- what all of these patterns have in common in a plain part i: fields and its label -/
def plP (st : PST) (i : Nat) (a : Nat) (h : Int) (m : Nat) : Prop := st.2.2.2.1 11 i = 0 ∧ st.2.2.2.1 9 i = -1 ∧ st.2.2.2.1 4 i = 0 ∧ st.2.2.2.1 8 i = (i : Int) ∧ st.2.2.2.1 14 i = (i : Int) ∧ st.2.2.2.1 3 i = h ∧ st.2.2.2.1 17 i = (m : Int) ∧ st.2.2.2.1 16 i = 0 ∧ st.2.2.2.1 1 i = kndR (lbc a) ∧ ∃ l : Nat, st.2.2.2.1 6 i = (l : Int) ∧ (¬ a % 4 = 0 → st.2.2.2.1 7 i = ((l + 1 : Nat) : Int) ∧ st.2.2.2.2 l = zi2l (lbc a))
theorem pl2 (w q : Nat) : plP (st2 w q) 0 w (-1) 0 ∧ plP (st2 w q) 1 (w / 52) 0 (opm (w / 4 % 13)) := by
  constructor
  · refine ⟨?_, ?_, ?_, ?_, ?_, ?_, ?_, ?_, ?_, 0, ?_, fun c => ⟨?_, ?_⟩⟩
    all_goals first | (rw [st2_e, st1_e]; rfl) | skip
    · have h := (lbd_0 stZ w 1 c).1
      rw [st2_e, st1_e]
      show (((lbd stZ w 1).2.1 : Nat) : Int) = _
      rw [h]; rfl
    · have h := lbd_0 stZ w 1 c
      have h0 : (st1 w).2.1 = (lbd stZ w 1).2.1 := by rw [st1_e]
      have hk := lbd_keep (st1 w) (w / 52) (q + 1) (l := 0) (by rw [h0, h.1]; exact Nat.succ_pos _)
      rw [st2_e]
      show (lbd (st1 w) (w / 52) (q + 1)).2.2.1 0 = _
      rw [hk, st1_e]
      exact h.2
  · refine ⟨?_, ?_, ?_, ?_, ?_, ?_, ?_, ?_, ?_, (st1 w).2.1, ?_, fun c => ⟨?_, ?_⟩⟩
    all_goals first | (rw [st2_e]; rfl) | skip
    · have h := (lbd_0 (st1 w) (w / 52) (q + 1) c).1
      rw [st2_e]
      show (((lbd (st1 w) (w / 52) (q + 1)).2.1 : Nat) : Int) = _
      rw [h]
    · have h := (lbd_0 (st1 w) (w / 52) (q + 1) c).2
      rw [st2_e]
      exact h
theorem pl3 (w x q q2 : Nat) : plP (st3 w x q q2) 0 w (-1) 0 ∧ plP (st3 w x q q2) 1 (w / 52) 0 (opm (w / 4 % 13)) ∧ plP (st3 w x q q2) 2 (x / 26) (if x % 2 = 0 then 1 else 0) (opm (x / 2 % 13)) := by
  have up : ∀ (i a : Nat) (h : Int) (m : Nat), i < 2 → plP (st2 w q) i a h m → (∀ l : Nat, (st2 w q).2.2.2.1 6 i = (l : Int) → ¬ a % 4 = 0 → l < (st2 w q).2.1) → plP (st3 w x q q2) i a h m := by
    intro i a h m hi hp hlt
    have e : ∀ k, k ≠ 13 → k ≠ 14 → (st3 w x q q2).2.2.2.1 k i = (st2 w q).2.2.2.1 k i := by
      intro k k1 k2
      rw [st3_e]
      show entR _ _ _ _ _ _ k i = _
      unfold entR
      rw [if_neg k1, if_neg k2, if_neg (by omega)]
    obtain ⟨a1, a2, a3, a4, a5, a6, a7, a8, a9, l, a10, a11⟩ := hp
    refine ⟨by rw [e 11 (by decide) (by decide)]; exact a1, by rw [e 9 (by decide) (by decide)]; exact a2, by rw [e 4 (by decide) (by decide)]; exact a3, by rw [e 8 (by decide) (by decide)]; exact a4, ?_, by rw [e 3 (by decide) (by decide)]; exact a6, by rw [e 17 (by decide) (by decide)]; exact a7, by rw [e 16 (by decide) (by decide)]; exact a8, by rw [e 1 (by decide) (by decide)]; exact a9, l, by rw [e 6 (by decide) (by decide)]; exact a10, fun c => ⟨by rw [e 7 (by decide) (by decide)]; exact (a11 c).1, ?_⟩⟩
    · rw [st3_e]
      show (if 1 = 1 ∧ i = 2 then ((2 : Nat) : Int) else (st2 w q).2.2.2.1 14 i) = _
      rw [if_neg (by omega)]
      exact a5
    · rw [← (a11 c).2, st3_e]
      exact lbd_keep (st2 w q) (x / 26) (q2 + 1) (hlt l a10 c)
  obtain ⟨p0, p1⟩ := pl2 w q
  have h21 : (st2 w q).2.1 = (lbd (st1 w) (w / 52) (q + 1)).2.1 := by rw [st2_e]
  have h11 : (st1 w).2.1 = (lbd stZ w 1).2.1 := by rw [st1_e]
  refine ⟨up 0 _ _ _ (by decide) p0 (fun l hl c => ?_), up 1 _ _ _ (by decide) p1 (fun l hl c => ?_), ?_⟩
  · have e : (st2 w q).2.2.2.1 6 0 = 0 := by rw [st2_e, st1_e]; rfl
    rw [e] at hl
    have h := (lbd_0 stZ w 1 c).1
    have h2 := lbd_le (st1 w) (w / 52) (q + 1)
    omega
  · have e : (st2 w q).2.2.2.1 6 1 = ((st1 w).2.1 : Int) := by rw [st2_e]; rfl
    rw [e] at hl
    have h := (lbd_0 (st1 w) (w / 52) (q + 1) c).1
    omega
  · refine ⟨?_, ?_, ?_, ?_, ?_, ?_, ?_, ?_, ?_, (st2 w q).2.1, ?_, fun c => ⟨?_, ?_⟩⟩
    all_goals first | (rw [st3_e]; rfl) | skip
    · have h := (lbd_0 (st2 w q) (x / 26) (q2 + 1) c).1
      rw [st3_e]
      show (((lbd (st2 w q) (x / 26) (q2 + 1)).2.1 : Nat) : Int) = _
      rw [h]
    · have h := (lbd_0 (st2 w q) (x / 26) (q2 + 1) c).2
      rw [st3_e]
      exact h
theorem own_pl {T : TRE} {st : PST} {i a x m : Nat} {h : Int} {lb v : Nat → Int} (hp : plP st i a h m) (hl : T.2.1 x = zi2l (lb x)) (h1 : lb1 (lb x)) : own T st v i x ↔ fitP lb a x := by
  obtain ⟨a1, a2, a3, a4, a5, a6, a7, a8, a9, l, a10, a11⟩ := hp
  have hk : st.2.2.2.1 1 i = 0 ∨ st.2.2.2.1 1 i = 1 := by
    rw [a9, knd_l]
    split
    · exact Or.inl rfl
    · exact Or.inr rfl
  unfold own
  rw [if_neg (by omega), if_neg (by omega)]
  exact fit_ft hl h1 a9 a10 (fun c => (a11 c).1) (fun c => (a11 c).2)
theorem rlp_pl {T : TRE} {st : PST} {i a m x y : Nat} {h : Int} (hp : plP st i a h m) : rlp T st.2.2.2.1 i x y ↔ relP T m 0 x y := by
  obtain ⟨a1, a2, a3, a4, a5, a6, a7, a8, -⟩ := hp
  unfold rlp
  rw [a7, a8, Int.toNat_natCast]
  exact Iff.rfl
/-- a plain part's own condition -/
theorem Dq_pl {T : TRE} {st : PST} {i a m : Nat} {h : Int} {lb v t : Nat → Int} (hp : plP st i a h m) (hl : ∀ x, x < T.1 → T.2.1 x = zi2l (lb x) ∧ lb1 (lb x)) (ht : i ≠ 0 → t (fr3 st i) ≠ -1) : Dq T st v t i ↔ ∃ x : Nat, x < T.1 ∧ t i = (x : Int) ∧ v i = (x : Int) ∧ fitP lb a x ∧ (i ≠ 0 → relP T m 0 (t (fr3 st i)).toNat x) := by
  have hp' := hp
  obtain ⟨a1, a2, a3, a4, a5, a6, a7, a8, a9, -⟩ := hp'
  have hvp : vp v st.2.2.2.1 i = v i := by unfold vp; rw [a4, Int.toNat_natCast]
  unfold Dq
  rw [if_neg (fun w => ht w.1 w.2), if_neg (fun w => w a1), if_neg (fun w => by have := w.1; omega)]
  constructor
  · rintro ⟨⟨x, x1, x2, x3, x4, x5⟩, -⟩
    refine ⟨x, x1, x2, ?_, (own_pl hp (hl x x1).1 (hl x x1).2).mp x3, fun c => (rlp_pl hp).mp (x4 c)⟩
    rw [← hvp]; exact x5 (by omega)
  · rintro ⟨x, x1, x2, x3, x4, x5⟩
    refine ⟨⟨x, x1, x2, (own_pl hp (hl x x1).1 (hl x x1).2).mpr x4, fun c => (rlp_pl hp).mpr (x5 c), fun _ => by rw [hvp]; exact x3⟩, fun w => by omega⟩
