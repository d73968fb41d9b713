/-! the law's relations are the class's -/
theorem blw_iff {T : TRE} (hw : wfd T.1 T.2.2) {a b : Nat} (ha : a < T.1) (hb : b < T.1) : (∃ p : Nat, par T.2.2 a = (p : Int) ∧ und T b p) ↔ (b < a ∧ a < ed T.2.2 T.1 b) := by
  have hpl := par_lt T.2.2 a
  constructor
  · rintro ⟨p, hp, hu⟩
    have := (und_up hw ha hb hp).mpr (Or.inr hu)
    unfold und at this hu
    omega
  · rintro ⟨h1, h2⟩
    obtain ⟨p, hp, -, -⟩ := par_some hw ha (by omega)
    refine ⟨p, hp, ?_⟩
    rcases (und_up hw ha hb hp).mp (by unfold und; omega) with h | h
    · omega
    · exact h
theorem q_isBelow {K : List zF} (hK : K.length + 5 ≤ 60) {l : List Int} {R : STR} {u a b : Nat} {x y : Int} {σ : zW} (h : LO l R u σ) (hw : wfd (R.1 0).1 (R.1 0).2.2) (ha : a < (R.1 0).1) (hb : b < (R.1 0).1) (hx : x = (a : Int)) (hy : y = (b : Int)) (k : zRet true K (some (.inl (zb (b < a ∧ a < ed (R.1 0).2.2 (R.1 0).1 b)))) σ) : zEv true (zent 144 [.inr (.inr 1), .inl x, .inl y] :: K) σ := by
  subst hx
  subst hy
  have hKl : K.length < 60 := by omega
  rw [zb_c (blw_iff hw ha hb).symm] at k
  have loop : ∀ (c : Nat) (P : Prop) (o1 : Option zV), c < (R.1 0).1 → zRet true K (some (.inl (zb (P ∨ und (R.1 0) b c)))) σ → zEv true ((144, 10, [some (.inr (.inr 1)), o1, some (.inl (b : Int)), some (.inl (zb P)), some (.inl (c : Int))], []) :: K) σ := by
    intro c
    induction c using Nat.strongRecOn with
    | ind c ih =>
      intro P o1 hc kk
      rw [zj_144_10 hKl, if_neg (by omega), zb_fl]
      refine e_parent (by show K.length + 1 + 4 ≤ 60; omega) h hc rfl ?_
      rw [zr_144_38]
      by_cases c0 : c = 0
      · subst c0
        rw [par_root hw, zj_144_10 hKl, if_pos (by decide), yAnd (zb01 _)]
        rw [zb_c (P := P ∨ ((0 : Nat) : Int) = (b : Int)) (Q := P ∨ und (R.1 0) b 0) (by
          rw [und_0 hw hc]
          constructor
          · intro w; exact w.imp id (fun w => by omega)
          · intro w; exact w.imp id (fun w => by omega))]
        exact kk
      · obtain ⟨p, hp, hpc, -⟩ := par_some hw hc (by omega)
        rw [hp]
        refine ih p hpc _ _ (by omega) ?_
        rw [zb_c (P := (P ∨ (c : Int) = (b : Int)) ∨ und (R.1 0) b p) (Q := P ∨ und (R.1 0) b c) (by
          rw [und_up hw hc hb hp, or_assoc]
          constructor
          · intro w; exact w.imp id (fun w => w.imp (fun w => by omega) id)
          · intro w; exact w.imp id (fun w => w.imp (fun w => by omega) id))]
        exact kk
  rw [ze_144 hKl]
  refine e_parent (by show K.length + 1 + 4 ≤ 60; omega) h ha rfl ?_
  rw [zr_144_8]
  by_cases c0 : a = 0
  · subst c0
    rw [zb_f (fun w => by
      obtain ⟨p, hp, -⟩ := w
      rw [par_root hw] at hp
      omega)] at k
    rw [par_root hw, zj_144_10 hKl, if_pos (by decide), yAnd (by decide)]
    exact k
  · obtain ⟨p, hp, hpc, -⟩ := par_some hw ha (by omega)
    rw [hp]
    have := loop p False (some (.inl (a : Int))) (by omega) (by
      rw [zb_c (Q := ∃ p : Nat, par (R.1 0).2.2 a = (p : Int) ∧ und (R.1 0) b p) ⟨fun w => ⟨p, hp, w.elim False.elim id⟩, fun ⟨p', e, w⟩ => Or.inr (by
        rw [hp] at e
        have : p' = p := by omega
        rw [← this]; exact w)⟩]
      exact k)
    rw [zb_f (P := False) id] at this
    exact this
theorem q_rank {K : List zF} (hK : K.length + 5 ≤ 60) {l : List Int} {R : STR} {u a p : Nat} {x : Int} {σ : zW} (h : LO l R u σ) (ha : a < (R.1 0).1) (h20 : (R.1 0).1 ≤ 20) (hx : x = (a : Int)) (hp : par (R.1 0).2.2 a = (p : Int)) (k : zRet true K (some (.inl ((kidc (R.1 0).2.2 p a : Nat) : Int))) σ) : zEv true (zent 154 [.inr (.inr 1), .inl x] :: K) σ := by
  subst hx
  have hKl : K.length < 60 := by omega
  have loop : ∀ (m i : Nat), a - i = m → i ≤ a → zEv true ((154, 4, [some (.inr (.inr 1)), some (.inl (a : Int)), some (.inl ((kidc (R.1 0).2.2 p i : Nat) : Int)), some (.inl (i : Int))], []) :: K) σ := by
    intro m
    induction m with
    | zero =>
      intro i hm hi
      have e : ∀ _ : Unit, i = a := fun _ => by omega
      rw [zj_154_4 hKl, if_pos (by omega), e ()]
      exact k
    | succ m ih =>
      intro i hm hi
      have hi' : i < a := by omega
      have hkl := kidc_le (dep := (R.1 0).2.2) (a := p) i
      rw [zj_154_4 hKl, if_neg (by omega)]
      refine e_parent (by show K.length + 1 + 4 ≤ 60; omega) h (by omega) rfl ?_
      rw [zr_154_16 hKl]
      refine e_parent (by show K.length + 1 + 4 ≤ 60; omega) h ha rfl ?_
      rw [zr_154_22, hp, ws1 (by omega)]
      have e : w32 (((kidc (R.1 0).2.2 p i : Nat) : Int) + (if ¬ par (R.1 0).2.2 i = (p : Int) then 0 else 1)) = ((kidc (R.1 0).2.2 p (i + 1) : Nat) : Int) := by
        by_cases c : par (R.1 0).2.2 i = (p : Int)
        · rw [if_neg (fun w => w c), kidc_eq c, zw_id (by omega) (by omega)]; omega
        · rw [if_pos c, kidc_ne c, zw_id (by omega) (by omega)]; omega
      rw [e]
      exact ih (i + 1) (by omega) hi'
  rw [ze_154]
  exact loop a 0 rfl (Nat.zero_le _)
theorem opm_k : ∀ i, i < 13 → kdm (opm i) = (if i = 0 ∨ i = 2 then 0 else if i = 1 ∨ i = 3 then 1 else if i = 4 ∨ i = 6 then 5 else if i = 5 ∨ i = 7 then 6 else if i = 8 then 7 else if i = 9 ∨ i = 11 then 8 else 9) ∧ (trmB (opm i) = decide (i = 2 ∨ i = 3 ∨ i = 6 ∨ i = 7 ∨ i = 11 ∨ i = 12)) := by decide +kernel
theorem relP_i {T : TRE} {i a b : Nat} (hi : i < 13) : relP T (opm i) 0 a b ↔ rbP T (if i = 0 ∨ i = 2 then 0 else if i = 1 ∨ i = 3 then 1 else if i = 4 ∨ i = 6 then 5 else if i = 5 ∨ i = 7 then 6 else if i = 8 then 7 else if i = 9 ∨ i = 11 then 8 else 9) 0 (if i = 2 ∨ i = 3 ∨ i = 6 ∨ i = 7 ∨ i = 11 ∨ i = 12 then b else a) (if i = 2 ∨ i = 3 ∨ i = 6 ∨ i = 7 ∨ i = 11 ∨ i = 12 then a else b) := by
  obtain ⟨h1, h2⟩ := opm_k i hi
  unfold relP
  rw [h1, ← trmB_iff, h2]
  by_cases c : i = 2 ∨ i = 3 ∨ i = 6 ∨ i = 7 ∨ i = 11 ∨ i = 12
  · rw [if_pos c, if_pos c]
    have e : ∀ _ : Unit, decide (i = 2 ∨ i = 3 ∨ i = 6 ∨ i = 7 ∨ i = 11 ∨ i = 12) = true := fun _ => decide_eq_true c
    rw [e ()]
    exact ⟨fun w => w.elim (fun w => w.2) (fun w => absurd rfl w.1), fun w => Or.inl ⟨rfl, w⟩⟩
  · rw [if_neg c, if_neg c]
    have e : decide (i = 2 ∨ i = 3 ∨ i = 6 ∨ i = 7 ∨ i = 11 ∨ i = 12) = false := decide_eq_false c
    rw [e]
    exact ⟨fun w => w.elim (fun w => Bool.noConfusion w.1) (fun w => w.2), fun w => Or.inr ⟨(fun x => Bool.noConfusion x), w⟩⟩
theorem zb_if {P : Prop} {x y : Int} (h : P ↔ x = y) : (if ¬ x = y then 0 else 1 : Int) = zb P := by
  by_cases c : x = y
  · rw [if_neg (fun w => w c), zb_t (h.mpr c)]
  · rw [if_pos c, zb_f (fun w => c (h.mp w))]
theorem ret_if {c : Prop} [Decidable c] {P : Prop} {K : List zF} {σ : zW} (h : P ↔ ¬ c) : (if c then zRet true K (some (.inl 0)) σ else zRet true K (some (.inl 1)) σ) = zRet true K (some (.inl (zb P))) σ := by
  by_cases q : c
  · rw [if_pos q, zb_f (fun w => (h.mp w) q)]
  · rw [if_neg q, zb_t (h.mpr q)]
theorem q_holds {K : List zF} (hK : K.length + 6 ≤ 60) {l : List Int} {R : STR} {u i a b : Nat} {z x y : Int} {σ : zW} (h : LO l R u σ) (hw : wfd (R.1 0).1 (R.1 0).2.2) (hi : i < 13) (ha : a < (R.1 0).1) (hb : b < (R.1 0).1) (hz : z = (i : Int)) (hx : x = (a : Int)) (hy : y = (b : Int)) (k : zRet true K (some (.inl (zb (relP (R.1 0) (opm i) 0 a b)))) σ) : zEv true (zent 155 [.inr (.inr 1), .inl z, .inl x, .inl y] :: K) σ := by
  subst hz
  subst hx
  subst hy
  have hKl : K.length < 60 := by omega
  have hn := hw.1
  have hr2 : ∀ _ : Unit, zrem (i : Int) 2 = ((i % 2 : Nat) : Int) := fun _ => zrem_nat (x := i) (y := 2) (by omega) (by decide)
  rw [zb_c (relP_i hi)] at k
  have hwb : ∀ c, wrd (R.1 0).2.2 (R.1 0).1 c ≤ c := fun c => wrd_le c
  have hea := (ed_spec (dep := (R.1 0).2.2) ha).2.1
  have heb := (ed_spec (dep := (R.1 0).2.2) hb).2.1
  have hwa1 := hwb (ed (R.1 0).2.2 (R.1 0).1 a)
  have hwb1 := hwb (ed (R.1 0).2.2 (R.1 0).1 b)
  have hwa0 := hwb a
  have hwb0 := hwb b
  rw [ze_155 hKl, hr2 ()]
  by_cases c4 : i < 4
  · rw [if_neg (by omega)]
    by_cases c2 : 2 ≤ i
    · have e1 : (if (2 : Int) ≤ (i : Int) then (a : Int) else (b : Int)) = (a : Int) := if_pos (by omega)
      have e2 : (if (2 : Int) ≤ (i : Int) then (b : Int) else (a : Int)) = (b : Int) := if_pos (by omega)
      rw [e1, e2]
      by_cases c : i = 2
      · subst c
        rw [if_neg (by decide)]
        refine e_parent (by show K.length + 1 + 4 ≤ 60; omega) h ha rfl ?_
        rw [zr_155_42, ret_if (P := par (R.1 0).2.2 a = (b : Int)) Decidable.not_not.symm]
        exact k
      · have : i = 3 := by omega
        subst this
        rw [if_pos (by decide)]
        refine q_isBelow (by show K.length + 1 + 5 ≤ 60; omega) h hw ha hb rfl rfl ?_
        rw [zr_155_63, yAnd (zb01 _)]
        exact k
    · have e1 : (if (2 : Int) ≤ (i : Int) then (a : Int) else (b : Int)) = (b : Int) := if_neg (by omega)
      have e2 : (if (2 : Int) ≤ (i : Int) then (b : Int) else (a : Int)) = (a : Int) := if_neg (by omega)
      rw [e1, e2]
      by_cases c : i = 0
      · subst c
        rw [if_neg (by decide)]
        refine e_parent (by show K.length + 1 + 4 ≤ 60; omega) h hb rfl ?_
        rw [zr_155_42, ret_if (P := par (R.1 0).2.2 b = (a : Int)) Decidable.not_not.symm]
        exact k
      · have : i = 1 := by omega
        subst this
        rw [if_pos (by decide)]
        refine q_isBelow (by show K.length + 1 + 5 ≤ 60; omega) h hw hb ha rfl rfl ?_
        rw [zr_155_63, yAnd (zb01 _)]
        exact k
  · rw [if_pos (by omega)]
    by_cases c8 : i < 8
    · rw [if_neg (by omega)]
      -- words
      have gap : ∀ (x y : Nat), w32 (wof (R.1 0) y 0 - wof (R.1 0) x 1) = ((wrd (R.1 0).2.2 (R.1 0).1 y : Nat) : Int) - ((wrd (R.1 0).2.2 (R.1 0).1 (ed (R.1 0).2.2 (R.1 0).1 x) : Nat) : Int) + 1 ∨ ¬ (x < (R.1 0).1 ∧ y < (R.1 0).1) := fun x y => by
        by_cases c : x < (R.1 0).1 ∧ y < (R.1 0).1
        · left
          have h1 := hwb y
          have h2 := hwb (ed (R.1 0).2.2 (R.1 0).1 x)
          have h3 := (ed_spec (dep := (R.1 0).2.2) c.1).2.1
          have w0 : wof (R.1 0) y 0 = ((wrd (R.1 0).2.2 (R.1 0).1 y : Nat) : Int) := if_pos rfl
          have w1 : wof (R.1 0) x 1 = ((wrd (R.1 0).2.2 (R.1 0).1 (ed (R.1 0).2.2 (R.1 0).1 x) : Nat) : Int) - 1 := if_neg (by decide)
          rw [w0, w1, zw_id (by omega) (by omega)]
          omega
        · exact Or.inr c
      by_cases c6 : i < 6
      · rw [if_neg (by omega)]
        refine e_wordOf (by show K.length + 1 + 4 ≤ 60; omega) h hb rfl ?_
        rw [zr_155_83 hKl]
        refine e_wordOf (by show K.length + 1 + 4 ≤ 60; omega) h ha rfl ?_
        have g := fun _ : Unit => (gap a b).elim id (fun w => absurd ⟨ha, hb⟩ w)
        rw [zr_155_90, hr2 (), g ()]
        by_cases c : i = 4
        · subst c
          rw [if_neg (by decide), ret_if (P := wrd (R.1 0).2.2 (R.1 0).1 (ed (R.1 0).2.2 (R.1 0).1 a) = wrd (R.1 0).2.2 (R.1 0).1 b) (by omega)]
          exact k
        · have : i = 5 := by omega
          subst this
          rw [if_pos (by decide), ret_if (P := wrd (R.1 0).2.2 (R.1 0).1 (ed (R.1 0).2.2 (R.1 0).1 a) ≤ wrd (R.1 0).2.2 (R.1 0).1 b) (by omega)]
          exact k
      · rw [if_pos (by omega)]
        refine e_wordOf (by show K.length + 1 + 4 ≤ 60; omega) h ha rfl ?_
        rw [zr_155_101 hKl]
        refine e_wordOf (by show K.length + 1 + 4 ≤ 60; omega) h hb rfl ?_
        have g := fun _ : Unit => (gap b a).elim id (fun w => absurd ⟨hb, ha⟩ w)
        rw [zr_155_108, hr2 (), g ()]
        by_cases c : i = 6
        · subst c
          rw [if_neg (by decide), ret_if (P := wrd (R.1 0).2.2 (R.1 0).1 (ed (R.1 0).2.2 (R.1 0).1 b) = wrd (R.1 0).2.2 (R.1 0).1 a) (by omega)]
          exact k
        · have : i = 7 := by omega
          subst this
          rw [if_pos (by decide), ret_if (P := wrd (R.1 0).2.2 (R.1 0).1 (ed (R.1 0).2.2 (R.1 0).1 b) ≤ wrd (R.1 0).2.2 (R.1 0).1 a) (by omega)]
          exact k
    · rw [if_pos (by omega)]
      -- brothers
      have no : ¬ sib (R.1 0) a b → ∀ o4 o5, zEv true ((155, 175, [some (.inr (.inr 1)), some (.inl (i : Int)), some (.inl (a : Int)), some (.inl (b : Int)), o4, o5], []) :: K) σ := by
        intro hs o4 o5
        have hs2 : ¬ sib (R.1 0) b a := fun w => hs ⟨fun e => w.1 e.symm, fun e => w.2.1 (w.2.2.trans e), w.2.2.symm⟩
        rw [zj_155_175 hKl, if_pos rfl, if_pos rfl, zj_155_261]
        have hi' : i = 8 ∨ i = 9 ∨ i = 10 ∨ i = 11 ∨ i = 12 := by omega
        rcases hi' with rfl | rfl | rfl | rfl | rfl
        · have k' : zRet true K (some (.inl (zb (sib (R.1 0) a b)))) σ := k
          rw [zb_f (fun w => hs w)] at k'; exact k'
        · have k' : zRet true K (some (.inl (zb (sib (R.1 0) a b ∧ rnk (R.1 0) b = rnk (R.1 0) a + 1)))) σ := k
          rw [zb_f (fun w => hs w.1)] at k'; exact k'
        · have k' : zRet true K (some (.inl (zb (sib (R.1 0) a b ∧ rnk (R.1 0) a < rnk (R.1 0) b)))) σ := k
          rw [zb_f (fun w => hs w.1)] at k'; exact k'
        · have k' : zRet true K (some (.inl (zb (sib (R.1 0) b a ∧ rnk (R.1 0) a = rnk (R.1 0) b + 1)))) σ := k
          rw [zb_f (fun w => hs2 w.1)] at k'; exact k'
        · have k' : zRet true K (some (.inl (zb (sib (R.1 0) b a ∧ rnk (R.1 0) b < rnk (R.1 0) a)))) σ := k
          rw [zb_f (fun w => hs2 w.1)] at k'; exact k'
      by_cases cab : a = b
      · rw [if_pos (by omega)]
        exact no (fun w => w.1 cab) _ _
      · rw [if_neg (by omega)]
        refine e_parent (by show K.length + 1 + 4 ≤ 60; omega) h ha rfl ?_
        rw [zr_155_153 hKl]
        by_cases c0 : par (R.1 0).2.2 a < 0
        · rw [if_pos c0]
          exact no (fun w => w.2.1 (by have := par_lt (R.1 0).2.2 a; omega)) _ _
        · rw [if_neg c0]
          refine e_parent (by show K.length + 1 + 4 ≤ 60; omega) h ha rfl ?_
          rw [zr_155_162 hKl]
          refine e_parent (by show K.length + 1 + 4 ≤ 60; omega) h hb rfl ?_
          rw [zr_155_168 hKl]
          by_cases cp : par (R.1 0).2.2 a = par (R.1 0).2.2 b
          · rw [if_neg (fun w => w cp), if_neg (by decide)]
            obtain ⟨p, hp⟩ : ∃ p : Nat, par (R.1 0).2.2 a = (p : Int) := ⟨(par (R.1 0).2.2 a).toNat, by omega⟩
            have hp2 : par (R.1 0).2.2 b = (p : Int) := cp ▸ hp
            have hs : sib (R.1 0) a b := ⟨cab, by omega, cp⟩
            have hs2 : sib (R.1 0) b a := ⟨fun e => cab e.symm, by omega, cp.symm⟩
            have ra : rnk (R.1 0) a = kidc (R.1 0).2.2 p a + 1 := by unfold rnk; rw [hp, Int.toNat_natCast, kidc_eq hp]
            have rb : rnk (R.1 0) b = kidc (R.1 0).2.2 p b + 1 := by unfold rnk; rw [hp2, Int.toNat_natCast, kidc_eq hp2]
            have ka := kidc_le (dep := (R.1 0).2.2) (a := p) a
            have kb := kidc_le (dep := (R.1 0).2.2) (a := p) b
            refine q_rank (by show K.length + 1 + 5 ≤ 60; omega) h hb hn rfl hp2 ?_
            rw [zr_155_188 hKl]
            refine q_rank (by show K.length + 1 + 5 ≤ 60; omega) h ha hn rfl hp ?_
            rw [zr_155_193, if_neg (by decide), zw_id (by omega) (by omega)]
            have hi' : i = 8 ∨ i = 9 ∨ i = 10 ∨ i = 11 ∨ i = 12 := by omega
            rcases hi' with rfl | rfl | rfl | rfl | rfl
            · have k' : zRet true K (some (.inl (zb (sib (R.1 0) a b)))) σ := k
              rw [if_pos (by decide)]
              rw [zb_t hs] at k'; exact k'
            · have k' : zRet true K (some (.inl (zb (sib (R.1 0) a b ∧ rnk (R.1 0) b = rnk (R.1 0) a + 1)))) σ := k
              rw [if_neg (by decide), if_neg (by decide)]
              by_cases q : ((kidc (R.1 0).2.2 p b : Nat) : Int) - ((kidc (R.1 0).2.2 p a : Nat) : Int) = 1
              · rw [if_pos q]
                rw [zb_t ⟨hs, by omega⟩] at k'; exact k'
              · rw [if_neg q, zj_155_223, if_pos (by decide), zj_155_234, if_pos (by decide), zj_155_246, if_pos (by decide), zj_155_261]
                rw [zb_f (fun w => q (by have := w.2; omega))] at k'; exact k'
            · have k' : zRet true K (some (.inl (zb (sib (R.1 0) a b ∧ rnk (R.1 0) a < rnk (R.1 0) b)))) σ := k
              rw [if_neg (by decide), if_pos (by decide), zj_155_223, if_neg (by decide)]
              by_cases q : (0 : Int) < ((kidc (R.1 0).2.2 p b : Nat) : Int) - ((kidc (R.1 0).2.2 p a : Nat) : Int)
              · rw [if_pos q]
                rw [zb_t ⟨hs, by omega⟩] at k'; exact k'
              · rw [if_neg q, zj_155_234, if_pos (by decide), zj_155_246, if_pos (by decide), zj_155_261]
                rw [zb_f (fun w => q (by have := w.2; omega))] at k'; exact k'
            · have k' : zRet true K (some (.inl (zb (sib (R.1 0) b a ∧ rnk (R.1 0) a = rnk (R.1 0) b + 1)))) σ := k
              rw [if_neg (by decide), if_pos (by decide), zj_155_223, if_pos (by decide), zj_155_234, if_neg (by decide)]
              by_cases q : ((kidc (R.1 0).2.2 p b : Nat) : Int) - ((kidc (R.1 0).2.2 p a : Nat) : Int) = -1
              · rw [if_pos q]
                rw [zb_t ⟨hs2, by omega⟩] at k'; exact k'
              · rw [if_neg q, zj_155_246, if_pos (by decide), zj_155_261]
                rw [zb_f (fun w => q (by have := w.2; omega))] at k'; exact k'
            · have k' : zRet true K (some (.inl (zb (sib (R.1 0) b a ∧ rnk (R.1 0) b < rnk (R.1 0) a)))) σ := k
              rw [if_neg (by decide), if_pos (by decide), zj_155_223, if_pos (by decide), zj_155_234, if_pos (by decide), zj_155_246, if_neg (by decide)]
              by_cases q : (0 : Int) ≤ ((kidc (R.1 0).2.2 p b : Nat) : Int) - ((kidc (R.1 0).2.2 p a : Nat) : Int)
              · rw [if_pos q, zj_155_261]
                rw [zb_f (fun w => by have := w.2; omega)] at k'; exact k'
              · rw [if_neg q]
                rw [zb_t ⟨hs2, by omega⟩] at k'; exact k'
          · rw [if_pos cp]
            exact no (fun w => cp w.2.2) _ _
