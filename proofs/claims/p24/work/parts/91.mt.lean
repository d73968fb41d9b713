/-! the matches of the told patterns -/
theorem giv2 (w q : Nat) (x : Nat) : (st2 w q).2.2.2.1 13 x = if (121 : Int) = (x : Int) + 97 then 1 else if (120 : Int) = (x : Int) + 97 then 0 else -1 := by
  rw [st2_e, st1_e]
  rfl
theorem giv3 (w x q q2 : Nat) (y : Nat) : (st3 w x q q2).2.2.2.1 13 y = if (121 : Int) = (y : Int) + 97 then 1 else if (120 : Int) = (y : Int) + 97 then 0 else -1 := by
  have h : (st3 w x q q2).2.2.2.1 13 y = (st2 w q).2.2.2.1 13 y := by
    rw [st3_e]
    show (if (0 : Int) = (y : Int) + 97 then ((2 : Nat) : Int) else (st2 w q).2.2.2.1 13 y) = _
    rw [if_neg (by omega)]
  rw [h, giv2]
theorem pw2 (w q : Nat) : pw (st2 w q) ∧ pup (st2 w q) ∧ 1 ≤ (st2 w q).1 := by
  obtain ⟨p0, p1⟩ := pl2 w q
  have h1 : (st2 w q).1 = 2 := by rw [st2_e]
  have h2 : (st2 w q).2.2.1 = 2 := by rw [st2_e]
  refine ⟨⟨by omega, by omega, fun x hx => ?_, fun i hi => ?_⟩, fun i i0 hi => ?_, by omega⟩
  · rw [giv2, h1]
    by_cases c : (121 : Int) = (x : Int) + 97
    · rw [if_pos c]; omega
    · rw [if_neg c]
      by_cases c2 : (120 : Int) = (x : Int) + 97
      · rw [if_pos c2]; omega
      · rw [if_neg c2]; omega
  · have hi' : i = 0 ∨ i = 1 := by omega
    rcases hi' with rfl | rfl
    · obtain ⟨a1, a2, a3, a4, a5, a6, -⟩ := p0
      omega
    · obtain ⟨a1, a2, a3, a4, a5, a6, -⟩ := p1
      omega
  · have : i = 1 := by omega
    subst this
    obtain ⟨a1, a2, a3, a4, a5, a6, -⟩ := p1
    omega
theorem pw3 (w x q q2 : Nat) : pw (st3 w x q q2) ∧ pup (st3 w x q q2) ∧ 1 ≤ (st3 w x q q2).1 := by
  obtain ⟨p0, p1, p2⟩ := pl3 w x q q2
  have h1 : (st3 w x q q2).1 = 3 := by rw [st3_e]
  have h2 : (st3 w x q q2).2.2.1 = 3 := by rw [st3_e]
  have hh : (if x % 2 = 0 then 1 else 0 : Int) = 1 ∨ (if x % 2 = 0 then 1 else 0 : Int) = 0 := by split; exact Or.inl rfl; exact Or.inr rfl
  refine ⟨⟨by omega, by omega, fun y hy => ?_, fun i hi => ?_⟩, fun i i0 hi => ?_, by omega⟩
  · rw [giv3, h1]
    by_cases c : (121 : Int) = (y : Int) + 97
    · rw [if_pos c]; omega
    · rw [if_neg c]
      by_cases c2 : (120 : Int) = (y : Int) + 97
      · rw [if_pos c2]; omega
      · rw [if_neg c2]; omega
  · have hi' : i = 0 ∨ i = 1 ∨ i = 2 := by omega
    rcases hi' with rfl | rfl | rfl
    · obtain ⟨a1, a2, a3, a4, a5, a6, -⟩ := p0
      omega
    · obtain ⟨a1, a2, a3, a4, a5, a6, -⟩ := p1
      omega
    · obtain ⟨a1, a2, a3, a4, a5, a6, -⟩ := p2
      omega
  · have hi' : i = 1 ∨ i = 2 := by omega
    rcases hi' with rfl | rfl
    · obtain ⟨a1, a2, a3, a4, a5, a6, -⟩ := p1
      omega
    · obtain ⟨a1, a2, a3, a4, a5, a6, -⟩ := p2
      omega
def labT (T : TRE) (lb : Nat → Int) : Prop := ∀ x, x < T.1 → T.2.1 x = zi2l (lb x) ∧ lb1 (lb x)
def vec (a b d : Nat) : Nat → Int := fun k => if k = 0 then (a : Int) else if k = 1 then (b : Int) else if k = 2 then (d : Int) else 0
def vec2 (a b : Nat) : Nat → Int := fun k => if k = 0 then (a : Int) else if k = 1 then (b : Int) else 0
theorem MT_2 {T : TRE} {lb : Nat → Int} {w q : Nat} {pd : Nat → Nat} (hg : pgd (st2 w q) pd) (hl : labT T lb) {c : Nat} : MT T (st2 w q) c ↔ ∃ a b : Nat, a < T.1 ∧ b < T.1 ∧ c = (a + 1) * (T.1 + 1) + (b + 1) ∧ fitP lb w a ∧ fitP lb (w / 52) b ∧ relP T (opm (w / 4 % 13)) 0 a b := by
  obtain ⟨w1, w2, w3⟩ := pw2 w q
  obtain ⟨p0, p1⟩ := pl2 w q
  have h1 : (st2 w q).1 = 2 := by rw [st2_e]
  have h2 : (st2 w q).2.2.1 = 2 := by rw [st2_e]
  have f1 : fr3 (st2 w q) 1 = 0 := by unfold fr3; rw [p1.2.2.2.2.2.1]; rfl
  rw [← FL_MT hg w1 w2, h2]
  constructor
  · rintro ⟨v, ⟨t, hz, hD⟩, hc⟩
    obtain ⟨a, a1, a2, a3, a4, -⟩ := (Dq_pl p0 hl (fun x => absurd rfl x)).mp (hD 0 (by omega))
    obtain ⟨b, b1, b2, b3, b4, b5⟩ := (Dq_pl p1 hl (fun _ => by rw [f1, a2]; omega)).mp (hD 1 (by omega))
    have b6 := b5 (by decide)
    rw [f1, a2, Int.toNat_natCast] at b6
    refine ⟨a, b, a1, b1, ?_, a4, b4, b6⟩
    rw [hc]
    show (0 * (T.1 + 1) + (v 0 + 1).toNat) * (T.1 + 1) + (v 1 + 1).toNat = _
    rw [a3, b3, Nat.zero_mul, Nat.zero_add, show ((a : Int) + 1).toNat = a + 1 by omega, show ((b : Int) + 1).toNat = b + 1 by omega]
  · rintro ⟨a, b, a1, b1, hc, a4, b4, b6⟩
    refine ⟨vec2 a b, ⟨vec2 a b, fun k hk => ?_, fun q' hq => ?_⟩, ?_⟩
    · unfold vec2
      rw [if_neg (by omega), if_neg (by omega)]
    · have hq' : q' = 0 ∨ q' = 1 := by omega
      rcases hq' with rfl | rfl
      · exact (Dq_pl p0 hl (fun x => absurd rfl x)).mpr ⟨a, a1, rfl, rfl, a4, fun x => absurd rfl x⟩
      · refine (Dq_pl p1 hl (fun _ => ?_)).mpr ⟨b, b1, rfl, rfl, b4, fun _ => ?_⟩
        · rw [f1]; show (a : Int) ≠ -1; omega
        · rw [f1]; show relP T _ 0 ((a : Int)).toNat b; rw [Int.toNat_natCast]; exact b6
    · rw [hc]
      show _ = (0 * (T.1 + 1) + ((a : Int) + 1).toNat) * (T.1 + 1) + ((b : Int) + 1).toNat
      rw [Nat.zero_mul, Nat.zero_add, show ((a : Int) + 1).toNat = a + 1 by omega, show ((b : Int) + 1).toNat = b + 1 by omega]
theorem MT_3 {T : TRE} {lb : Nat → Int} {w x q q2 : Nat} {pd : Nat → Nat} (hg : pgd (st3 w x q q2) pd) (hl : labT T lb) {c : Nat} : MT T (st3 w x q q2) c ↔ ∃ a b d : Nat, a < T.1 ∧ b < T.1 ∧ d < T.1 ∧ c = ((a + 1) * (T.1 + 1) + (b + 1)) * (T.1 + 1) + (d + 1) ∧ fitP lb w a ∧ fitP lb (w / 52) b ∧ fitP lb (x / 26) d ∧ relP T (opm (w / 4 % 13)) 0 a b ∧ relP T (opm (x / 2 % 13)) 0 (if x % 2 = 0 then b else a) d := by
  obtain ⟨w1, w2, w3⟩ := pw3 w x q q2
  obtain ⟨p0, p1, p2⟩ := pl3 w x q q2
  have h1 : (st3 w x q q2).1 = 3 := by rw [st3_e]
  have h2 : (st3 w x q q2).2.2.1 = 3 := by rw [st3_e]
  have f1 : fr3 (st3 w x q q2) 1 = 0 := by unfold fr3; rw [p1.2.2.2.2.2.1]; rfl
  have f2 : fr3 (st3 w x q q2) 2 = if x % 2 = 0 then 1 else 0 := by
    unfold fr3
    rw [p2.2.2.2.2.2.1]
    split <;> rfl
  rw [← FL_MT hg w1 w2, h2]
  constructor
  · rintro ⟨v, ⟨t, hz, hD⟩, hc⟩
    obtain ⟨a, a1, a2, a3, a4, -⟩ := (Dq_pl p0 hl (fun x => absurd rfl x)).mp (hD 0 (by omega))
    obtain ⟨b, b1, b2, b3, b4, b5⟩ := (Dq_pl p1 hl (fun _ => by rw [f1, a2]; omega)).mp (hD 1 (by omega))
    have b6 := b5 (by decide)
    rw [f1, a2, Int.toNat_natCast] at b6
    have tf : t (fr3 (st3 w x q q2) 2) = ((if x % 2 = 0 then b else a : Nat) : Int) := by
      rw [f2]
      split
      · exact b2
      · exact a2
    obtain ⟨d, d1, d2, d3, d4, d5⟩ := (Dq_pl p2 hl (fun _ => by rw [tf]; omega)).mp (hD 2 (by omega))
    have d6 := d5 (by decide)
    rw [tf, Int.toNat_natCast] at d6
    refine ⟨a, b, d, a1, b1, d1, ?_, a4, b4, d4, b6, d6⟩
    rw [hc]
    show ((0 * (T.1 + 1) + (v 0 + 1).toNat) * (T.1 + 1) + (v 1 + 1).toNat) * (T.1 + 1) + (v 2 + 1).toNat = _
    rw [a3, b3, d3, Nat.zero_mul, Nat.zero_add, show ((a : Int) + 1).toNat = a + 1 by omega, show ((b : Int) + 1).toNat = b + 1 by omega, show ((d : Int) + 1).toNat = d + 1 by omega]
  · rintro ⟨a, b, d, a1, b1, d1, hc, a4, b4, d4, b6, d6⟩
    have tf : vec a b d (fr3 (st3 w x q q2) 2) = ((if x % 2 = 0 then b else a : Nat) : Int) := by
      rw [f2]
      split <;> rfl
    refine ⟨vec a b d, ⟨vec a b d, fun k hk => ?_, fun q' hq => ?_⟩, ?_⟩
    · unfold vec
      rw [if_neg (by omega), if_neg (by omega), if_neg (by omega)]
    · have hq' : q' = 0 ∨ q' = 1 ∨ q' = 2 := by omega
      rcases hq' with rfl | rfl | rfl
      · exact (Dq_pl p0 hl (fun x => absurd rfl x)).mpr ⟨a, a1, rfl, rfl, a4, fun x => absurd rfl x⟩
      · refine (Dq_pl p1 hl (fun _ => ?_)).mpr ⟨b, b1, rfl, rfl, b4, fun _ => ?_⟩
        · rw [f1]; show (a : Int) ≠ -1; omega
        · rw [f1]; show relP T _ 0 ((a : Int)).toNat b; rw [Int.toNat_natCast]; exact b6
      · refine (Dq_pl p2 hl (fun _ => ?_)).mpr ⟨d, d1, rfl, rfl, d4, fun _ => ?_⟩
        · rw [tf]; omega
        · rw [tf, Int.toNat_natCast]; exact d6
    · rw [hc]
      show _ = ((0 * (T.1 + 1) + ((a : Int) + 1).toNat) * (T.1 + 1) + ((b : Int) + 1).toNat) * (T.1 + 1) + ((d : Int) + 1).toNat
      rw [Nat.zero_mul, Nat.zero_add, show ((a : Int) + 1).toNat = a + 1 by omega, show ((b : Int) + 1).toNat = b + 1 by omega, show ((d : Int) + 1).toNat = d + 1 by omega]
/-! counting the elements of a list of numbers -/
theorem lst_lt {P : Nat → Prop} {c : Nat} (h : P c) : ∀ m, c < m → (lst P c).length < (lst P m).length ∧ (lst P m).getD (lst P c).length 0 = c := by
  intro m hm
  have h1 : lst P (c + 1) = lst P c ++ [c] := lst_y h
  have h2 : (lst P c).length < (lst P (c + 1)).length := by rw [h1]; simp
  have h3 := lst_pre (P := P) (m := c + 1) m hm (lst P c).length h2
  have h4 : (lst P (c + 1))[(lst P c).length]? = some c := by rw [h1]; simp
  rw [h4] at h3
  constructor
  · exact (List.getElem?_eq_some_iff.mp h3).1
  · rw [List.getD_eq_getElem?_getD, h3]; rfl
