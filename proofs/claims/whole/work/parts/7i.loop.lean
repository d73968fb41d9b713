/-! the law: the loop -/
theorem law_4 {L n u m : Nat} {h : Nat → Int} {S : STA} {σ : zW} {o5 o6 : Option zV} (hI : LI L h n S u m σ) (hn : 4 * n + 4 ≤ L) (hL : L ≤ 2048) (next : LN L h n) : zEv true (zent 108 [.inr (.inr 1), .inl (if h (4 * n + 1) = 0 then 0 else 1 : Int)] :: [lF 398 ((4 * n : Nat) : Int) o5 o6 []]) σ := by
  have hn1 : n < 10000 := by omega
  obtain ⟨hg, hC, hM, hu, hm, hc, hs, h98, h99⟩ := hI
  rw [ze_108, zr_270_398 (by decide), lw1 hn1, h98, yAnd (show 0 ≤ ((4 * n + 1 : Nat) : Int) ∧ ((4 * n + 1 : Nat) : Int) < (L : Int) by omega), Int.toNat_natCast, h99, ze_176, zr_270_416, lw4 hn1]
  have e : (if (if h (4 * n + 1) = 0 then 0 else 1 : Int) = 0 then gI σ 1 13 else gI σ 1 14 : Int) = (if (if h (4 * n + 1) = 0 then 0 else 1 : Int) = 0 then gI σ 122 6 else gI σ 122 7 : Int) := by rw [hC.2.2.2.2.1.1, hC.2.2.2.2.1.2, hM.2.2.2.2.1.1, hM.2.2.2.2.1.2]
  rw [if_pos e]
  obtain ⟨a1, a2, a3, a4⟩ := n_go (x := 0) hM
  have hcc : gC (sI σ 122 88 0) = gC σ := rfl
  have hss : gS (sI σ 122 88 0) = gS σ := rfl
  exact next S u m _ _ _ ⟨hg, CS_fr hC a4 (fun k j x => Or.inl (by omega)), a2, by omega, by omega, by omega, by omega, (a4.i (by omega)).trans h98, fun j => (a4.i (by omega)).trans (h99 j)⟩
theorem law_20 {L n u m : Nat} {h : Nat → Int} {S : STA} {σ : zW} {o5 o6 : Option zV} (hI : LI L h n S u m σ) (hn : 4 * n + 4 ≤ L) (hL : L ≤ 2048) (hh : ∀ j, -2147483648 ≤ h j ∧ h j < 2147483648) (next : LN L h n) : zEv true (zent 124 [.inr (.inr 1), .inl (h (4 * n + 1))] :: [lF 1407 ((4 * n : Nat) : Int) o5 o6 []]) σ := by
  have hn1 : n < 10000 := by omega
  obtain ⟨hg, hC, hM, hu, hm, hc, hs, h98, h99⟩ := hI
  have hb := hh (4 * n + 1)
  have hcO := hC.2.2.2.2.2.1
  have hmO := hM.2.2.2.2.2.1
  rw [ze_124 (K := [lF 1407 ((4 * n : Nat) : Int) o5 o6 []]) (show 1 < 60 by decide), c_word hcO, zr_124_8, zr_270_1407 (by decide), lw1 hn1, h98, yAnd (show 0 ≤ ((4 * n + 1 : Nat) : Int) ∧ ((4 * n + 1 : Nat) : Int) < (L : Int) by omega), Int.toNat_natCast, h99, m_word hmO hg.2.2.2.2 hb.1 (by omega), zr_270_1417, if_pos (zlc_eq.mpr rfl), lw4 hn1]
  obtain ⟨a1, a2, a3, a4⟩ := n_go (x := 0) hM
  have hcc : gC (sI σ 122 88 0) = gC σ := rfl
  have hss : gS (sI σ 122 88 0) = gS σ := rfl
  exact next S u m _ _ _ ⟨hg, CS_fr hC a4 (fun k j x => Or.inl (by omega)), a2, by omega, by omega, by omega, by omega, (a4.i (by omega)).trans h98, fun j => (a4.i (by omega)).trans (h99 j)⟩
theorem law_no {L n u m : Nat} {h : Nat → Int} {S : STA} {σ : zW} {o5 o6 : Option zV} (hI : LI L h n S u m σ) (next : LN L h n) : zEv true [lF 23 ((4 * (n + 1) : Nat) : Int) o5 o6 []] σ := by
  obtain ⟨hg, hC, hM, hu, hm, hc, hs, h98, h99⟩ := hI
  exact next S u m _ _ _ ⟨hg, hC, hM, by omega, by omega, by omega, by omega, h98, h99⟩
theorem law_step {L n u m : Nat} {h : Nat → Int} {S : STA} {σ : zW} {o5 o6 : Option zV} (hI : LI L h n S u m σ) (hn : 4 * n + 4 ≤ L) (hL : L ≤ 2048) (hh : ∀ j, -2147483648 ≤ h j ∧ h j < 2147483648) (next : LN L h n) : zEv true [lF 23 ((4 * n : Nat) : Int) o5 o6 []] σ := by
  have hn1 : n < 10000 := by omega
  have h98 := hI.2.2.2.2.2.2.2.1
  have h99 := hI.2.2.2.2.2.2.2.2
  have hw : ∀ _ : Unit, w32 ((L : Int) - 4) = (L : Int) - 4 := fun _ => zw_id (by omega) (by omega)
  have b0 : 0 ≤ ((4 * n : Nat) : Int) ∧ ((4 * n : Nat) : Int) < (L : Int) := by omega
  have b1 : 0 ≤ ((4 * n + 1 : Nat) : Int) ∧ ((4 * n + 1 : Nat) : Int) < (L : Int) := by omega
  have b2 : 0 ≤ ((4 * n + 2 : Nat) : Int) ∧ ((4 * n + 2 : Nat) : Int) < (L : Int) := by omega
  have b3 : 0 ≤ ((4 * n + 3 : Nat) : Int) ∧ ((4 * n + 3 : Nat) : Int) < (L : Int) := by omega
  have hno : ¬ (L : Int) - 4 < ((4 * n : Nat) : Int) := by omega
  rw [zj_270_23 (by decide), h98, hw (), if_neg hno, yAnd b0, lw1 hn1, lw2 hn1, lw3 hn1, lw4 hn1, Int.toNat_natCast, Int.toNat_natCast, Int.toNat_natCast, Int.toNat_natCast, h99 (4 * n), h99 (4 * n + 1), h99 (4 * n + 2), h99 (4 * n + 3)]
  generalize zand (h (4 * n)) 31 = q
  by_cases c0 : q = 0
  · rw [if_pos c0, yAnd b1, yAnd b2, yAnd b3]
    exact law_0 hI hn hL next
  rw [if_neg c0]
  by_cases c1 : q = 1
  · rw [if_pos c1, yAnd b1]
    exact law_1 hI hn hL next
  rw [if_neg c1]
  by_cases c2 : q = 2
  · rw [if_pos c2]
    exact law_2 hI hn hL next
  rw [if_neg c2]
  by_cases c3 : q = 3
  · rw [if_pos c3]
    exact law_3 hI hn hL next
  rw [if_neg c3]
  by_cases c4 : q = 4
  · rw [if_pos c4, yAnd b1]
    exact law_4 hI hn hL next
  rw [if_neg c4]
  by_cases c5 : q = 5
  · rw [if_pos c5, yAnd b1]
    exact law_5 hI hn hL next
  rw [if_neg c5]
  by_cases c6 : q = 6
  · rw [if_pos c6, yAnd b1, yAnd b2]
    exact law_6 hI hn hL next
  rw [if_neg c6]
  by_cases c7 : q = 7
  · rw [if_pos c7, yAnd b1, yAnd b2]
    exact law_7 hI hn hL next
  rw [if_neg c7]
  by_cases c8 : q = 8
  · rw [if_pos c8, yAnd b1, yAnd b2, yAnd b3]
    exact law_8 hI hn hL next
  rw [if_neg c8]
  by_cases c9 : q = 9
  · rw [if_pos c9, yAnd b1]
    exact law_9 hI hn hL next
  rw [if_neg c9]
  by_cases c10 : q = 10
  · rw [if_pos c10, yAnd b1]
    exact law_10 hI hn hL next
  rw [if_neg c10]
  by_cases c11 : q = 11
  · rw [if_pos c11, yAnd b1]
    exact law_11 hI hn hL next
  rw [if_neg c11]
  by_cases c12 : q = 12
  · rw [if_pos c12, yAnd b1]
    exact law_12 hI hn hL next
  rw [if_neg c12]
  by_cases c13 : q = 13
  · rw [if_pos c13, yAnd b1, yAnd b2, yAnd b3]
    exact law_13 hI hn hL next
  rw [if_neg c13]
  by_cases c14 : q = 14
  · rw [if_pos c14, yAnd b1, yAnd b2, yAnd b3]
    exact law_14 hI hn hL next
  rw [if_neg c14]
  by_cases c15 : q = 15
  · rw [if_pos c15, yAnd b1, yAnd b2]
    exact law_15 hI hn hL next
  rw [if_neg c15]
  by_cases c16 : q = 16
  · rw [if_pos c16, yAnd b1]
    exact law_16 hI hn hL next
  rw [if_neg c16]
  by_cases c17 : q = 17
  · rw [if_pos c17, yAnd b1]
    exact law_17 hI hn hL next
  rw [if_neg c17]
  by_cases c18 : q = 18
  · rw [if_pos c18, yAnd b1]
    exact law_18 hI hn hL next
  rw [if_neg c18]
  by_cases c19 : q = 19
  · rw [if_pos c19, yAnd b1, yAnd b2]
    exact law_19 hI hn hL next
  rw [if_neg c19]
  by_cases c20 : q = 20
  · rw [if_pos c20, yAnd b1]
    exact law_20 hI hn hL hh next
  rw [if_neg c20]
  exact law_no hI next
theorem law_all {L : Nat} {h : Nat → Int} (hL : L ≤ 2048) (hh : ∀ j, -2147483648 ≤ h j ∧ h j < 2147483648) : ∀ (d n u m : Nat) (S : STA) (σ : zW) (o5 o6 : Option zV), L - 4 * n ≤ d → 4 * n ≤ L → LI L h n S u m σ → zEv true [lF 23 ((4 * n : Nat) : Int) o5 o6 []] σ := by
  intro d
  induction d with
  | zero =>
    intro n u m S σ o5 o6 hd hn hI
    have h98 := hI.2.2.2.2.2.2.2.1
    have hw : ∀ _ : Unit, w32 ((L : Int) - 4) = (L : Int) - 4 := fun _ => zw_id (by omega) (by omega)
    have hyes : (L : Int) - 4 < ((4 * n : Nat) : Int) := by omega
    have hc := hI.2.2.2.2.2.1
    have hs := hI.2.2.2.2.2.2.1
    rw [zj_270_23 (by decide), h98, hw (), if_pos hyes]
    exact ⟨0, (.inl (some (.inl 1)), σ), rfl, rfl, by show gC σ ≤ 601024; omega, by show gS σ ≤ 7293034; omega⟩
  | succ d ih =>
    intro n u m S σ o5 o6 hd hn hI
    by_cases c : 4 * n + 4 ≤ L
    · exact law_step hI c hL hh (fun S' u' m' σ' o5' o6' hI' => ih (n + 1) u' m' S' σ' o5' o6' (by omega) (by omega) hI')
    · have h98 := hI.2.2.2.2.2.2.2.1
      have hw : ∀ _ : Unit, w32 ((L : Int) - 4) = (L : Int) - 4 := fun _ => zw_id (by omega) (by omega)
      have hyes : (L : Int) - 4 < ((4 * n : Nat) : Int) := by omega
      have hc := hI.2.2.2.2.2.1
      have hs := hI.2.2.2.2.2.2.1
      rw [zj_270_23 (by decide), h98, hw (), if_pos hyes]
      exact ⟨0, (.inl (some (.inl 1)), σ), rfl, rfl, by show gC σ ≤ 601024; omega, by show gS σ ≤ 7293034; omega⟩
def S00 : STA := ((fun _ => 0, 0), (fun _ => (0, fun _ => 0, fun _ => 0)), none, (0, fun _ => (0, 0, 0, 0, 0)), (0, 0), (0, fun _ => 0), fun _ => [])
theorem S00_g : SG S00 := by
  refine ⟨fun p _ => ⟨⟨Nat.zero_le _, fun h => absurd h (Nat.lt_irrefl _), fun i hi => absurd hi (Nat.not_lt_zero _)⟩, fun i hi => absurd hi (Nat.not_lt_zero i)⟩, fun st pd x => (by cases x), Nat.zero_le _, fun i hi => absurd hi (Nat.not_lt_zero i), Nat.zero_le _⟩
theorem S00_t {t : Nat} {σ : zW} (h1 : gI σ t 12 = 0) (h2 : gI σ t 11 = 0) : cTr t (0, fun _ => 0, fun _ => 0) σ := by
  refine ⟨⟨h1, fun i hi => absurd hi (Nat.not_lt_zero i)⟩, fun i hi => absurd hi (Nat.not_lt_zero i), fun i a hi => absurd hi (Nat.not_lt_zero i), 0, Nat.le_refl 0, h2, fun a b _ hb => absurd hb (Nat.not_lt_zero b), fun a ha => absurd ha (Nat.not_lt_zero a), fun i hi => absurd hi (Nat.not_lt_zero i)⟩
theorem zsc_lo {τ : zW} {h : Nat → Nat → Int} {k j : Nat} (hk : k < 99990) : gI (zsc h (zal τ 1)) k j = gI τ k j := if_neg (by omega)
theorem y_start {τ : zW} {h : Nat → Nat → Int} (hk : ychk τ = true) (hz : ∀ i, gI τ 3 i = 0 ∧ gI τ 123 i = 0) : CS S00 0 (zsc h (zal τ 1)) ∧ MS S00 0 (zsc h (zal τ 1)) := by
  have I : ∀ {k j : Nat} {x : Int}, (k, j, x) ∈ yini → gI (zsc h (zal τ 1)) k j = x := fun {k j x} hm => by
    have h1 := ychk_I hk hm
    have hk9 : k < 99990 := by
      have h2 : (yini.all fun e => decide (e.1 < 99990)) = true := by decide +kernel
      exact of_decide_eq_true (List.all_eq_true.mp h2 _ hm)
    rw [← h1]
    exact if_neg (by omega)
  have R : ∀ {k j x : Nat}, (k, j, x) ∈ yrfs → gR (zsc h (zal τ 1)) k j = x := fun {k j x} hm => ychk_R hk hm
  have z3 : ∀ i, gI (zsc h (zal τ 1)) 3 i = 0 := fun i => (zsc_lo (by decide)).trans (hz i).1
  have z123 : ∀ i, gI (zsc h (zal τ 1)) 123 i = 0 := fun i => (zsc_lo (by decide)).trans (hz i).2
  have r8 : gR (zsc h (zal τ 1)) 1 8 = 68 := R (by decide +kernel)
  have r9 : gR (zsc h (zal τ 1)) 1 9 = 80 := R (by decide +kernel)
  have r10 : gR (zsc h (zal τ 1)) 1 10 = 95 := R (by decide +kernel)
  have r11 : gR (zsc h (zal τ 1)) 1 11 = 110 := R (by decide +kernel)
  have r12 : gR (zsc h (zal τ 1)) 1 12 = 116 := R (by decide +kernel)
  have q0 : gR (zsc h (zal τ 1)) 4 0 = 5 := R (by decide +kernel)
  have q1 : gR (zsc h (zal τ 1)) 4 1 = 17 := R (by decide +kernel)
  have q2 : gR (zsc h (zal τ 1)) 4 2 = 29 := R (by decide +kernel)
  have a1 : gI (zsc h (zal τ 1)) 2 1 = 0 := I (by decide +kernel)
  have a2 : gI (zsc h (zal τ 1)) 5 12 = 0 := I (by decide +kernel)
  have a3 : gI (zsc h (zal τ 1)) 5 11 = 0 := I (by decide +kernel)
  have a4 : gI (zsc h (zal τ 1)) 17 12 = 0 := I (by decide +kernel)
  have a5 : gI (zsc h (zal τ 1)) 17 11 = 0 := I (by decide +kernel)
  have a6 : gI (zsc h (zal τ 1)) 29 12 = 0 := I (by decide +kernel)
  have a7 : gI (zsc h (zal τ 1)) 29 11 = 0 := I (by decide +kernel)
  have a8 : gI (zsc h (zal τ 1)) 80 15 = 0 := I (by decide +kernel)
  have a9 : gI (zsc h (zal τ 1)) 80 16 = 0 := I (by decide +kernel)
  have a10 : gI (zsc h (zal τ 1)) 110 5 = 0 := I (by decide +kernel)
  have a11 : gI (zsc h (zal τ 1)) 1 13 = 0 := I (by decide +kernel)
  have a12 : gI (zsc h (zal τ 1)) 1 14 = 0 := I (by decide +kernel)
  have a13 : gI (zsc h (zal τ 1)) 66 1 = 0 := I (by decide +kernel)
  have a14 : gI (zsc h (zal τ 1)) 61 4 = 0 := I (by decide +kernel)
  have a15 : gI (zsc h (zal τ 1)) 65 0 = -1 := I (by decide +kernel)
  have a16 : gI (zsc h (zal τ 1)) 65 1 = -1 := I (by decide +kernel)
  have a17 : gI (zsc h (zal τ 1)) 65 2 = -1 := I (by decide +kernel)
  have a18 : gI (zsc h (zal τ 1)) 1 15 = -1 := I (by decide +kernel)
  have a19 : gI (zsc h (zal τ 1)) 50 1 = -1 := I (by decide +kernel)
  have a20 : gI (zsc h (zal τ 1)) 52 1 = -1 := I (by decide +kernel)
  have b1 : gI (zsc h (zal τ 1)) 122 1 = 0 := I (by decide +kernel)
  have b2 : gI (zsc h (zal τ 1)) 122 6 = 0 := I (by decide +kernel)
  have b3 : gI (zsc h (zal τ 1)) 122 7 = 0 := I (by decide +kernel)
  have b4 : gI (zsc h (zal τ 1)) 122 14 = 0 := I (by decide +kernel)
  have b5 : gI (zsc h (zal τ 1)) 122 18 = 0 := I (by decide +kernel)
  have b6 : gI (zsc h (zal τ 1)) 122 34 = 0 := I (by decide +kernel)
  have b7 : gI (zsc h (zal τ 1)) 122 52 = 0 := I (by decide +kernel)
  have b8 : gI (zsc h (zal τ 1)) 122 64 = -1 := I (by decide +kernel)
  have b9 : gI (zsc h (zal τ 1)) 122 75 = 0 := I (by decide +kernel)
  have b10 : gI (zsc h (zal τ 1)) 122 87 = 0 := I (by decide +kernel)
  have b11 : gI (zsc h (zal τ 1)) 124 0 = 0 := I (by decide +kernel)
  have b12 : gI (zsc h (zal τ 1)) 124 1 = 0 := I (by decide +kernel)
  have b13 : gI (zsc h (zal τ 1)) 124 2 = 0 := I (by decide +kernel)
  generalize zsc h (zal τ 1) = σ at *
  constructor
  · refine ⟨⟨z3, a1, Nat.zero_le _, fun i hi => absurd hi (Nat.not_lt_zero i)⟩, ⟨fun p hp => ?_, ?_, fun p q hp hq hpq => ?_⟩, ⟨?_, ?_, ?_, fun _ => ?_, fun st pd x => (by cases x)⟩, ⟨?_, ?_, ?_, ?_, fun i hi => absurd hi (Nat.not_lt_zero i)⟩, ⟨a11, a12⟩, ⟨a13, fun j hj => absurd hj (Nat.not_lt_zero j)⟩, ⟨a14, fun p hp => ?_⟩, Or.inl a18, Or.inl a19, Or.inl a20⟩
    · have hp' : p = 0 ∨ p = 1 ∨ p = 2 := by omega
      rcases hp' with e | e | e
      · rw [e, q0, r8]; exact ⟨Or.inl rfl, S00_t a2 a3, by decide⟩
      · rw [e, q1, r8]; exact ⟨Or.inr (Or.inl rfl), S00_t a4 a5, by decide⟩
      · rw [e, q2, r8]; exact ⟨Or.inr (Or.inr (Or.inl rfl)), S00_t a6 a7, by decide⟩
    · rw [r8]; exact Or.inr (Or.inr (Or.inr rfl))
    · have hp' : p = 0 ∨ p = 1 ∨ p = 2 := by omega
      have hq' : q = 0 ∨ q = 1 ∨ q = 2 := by omega
      rcases hp' with e | e | e <;> rcases hq' with e' | e' | e' <;> rw [e, e'] <;> first | (exfalso; omega) | (simp only [q0, q1, q2]; decide)
    · rw [r9]; exact Or.inl rfl
    · rw [r10]; exact Or.inr rfl
    · rw [r9, r10]; decide
    · rw [r9]; exact ⟨a8, a9⟩
    · rw [r11]; exact Or.inl rfl
    · rw [r12]; exact Or.inr rfl
    · rw [r11, r12]; decide
    · rw [r11]; exact a10
    · have hp' : p = 0 ∨ p = 1 ∨ p = 2 := by omega
      rcases hp' with e | e | e
      · rw [e]; exact a15
      · rw [e]; exact a16
      · rw [e]; exact a17
  · refine ⟨⟨z123, b1, Nat.zero_le _, fun i hi => absurd hi (Nat.not_lt_zero i)⟩, fun p hp => ⟨?_, fun i hi => absurd hi (Nat.not_lt_zero i)⟩, ⟨fun _ => ⟨b5, b6⟩, fun st pd x => (by cases x)⟩, ⟨b7, fun i hi => absurd hi (Nat.not_lt_zero i)⟩, ⟨b2, b3⟩, ⟨b10, fun j hj => absurd hj (Nat.not_lt_zero j)⟩, ⟨fun _ => 0, fun _ => (0, fun _ => 0, fun _ => 0), ⟨b4, fun k hk => absurd hk (Nat.not_lt_zero k)⟩, fun q _ => rfl⟩, ⟨Or.inl b8, Or.inl b9⟩⟩
    have hp' : p = 0 ∨ p = 1 ∨ p = 2 := by omega
    rcases hp' with e | e | e
    · rw [e]; exact b11
    · rw [e]; exact b12
    · rw [e]; exact b13
theorem y_goal2 : yGoal2 := fun L h hL h98 hh τ hk hz => by
  obtain ⟨hC, hM⟩ := y_start (h := h) hk hz
  have hk2 := hk
  unfold ychk at hk2
  simp only [Bool.and_eq_true] at hk2
  have hgC : gC τ = 185 := Nat.eq_of_beq_eq_true hk2.2.2.2.1
  have hgS : gS τ ≤ 40000 := Nat.le_of_ble_eq_true hk2.2.2.2.2.1
  have h := law_all (h := h 99999) hL (fun j => hh j) L 0 0 0 S00 (zsc h (zal τ 1)) none none (Nat.sub_le _ _) (by omega) ⟨S00_g, hC, hM, Nat.le_refl _, Nat.le_refl _, by show gC τ + 1 ≤ 186 + 0; omega, by show gS τ + 1 ≤ 40100 + 6 * 0; omega, h98, fun j => rfl⟩
  exact h
